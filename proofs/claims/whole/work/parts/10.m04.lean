def rmX3_removeAtHand : Room := { frames := 0, cells := 0, slots := 0, locals := 0 }
theorem kn_X3_removeAtHand : yX3_removeAtHand.cls ≠ "java/lang/invoke/MethodHandle" ∧ yX3_removeAtHand.cls ≠ "java/lang/invoke/VarHandle" ∧ (parseMethodDescriptor yX3_removeAtHand.desc).map (fun d => d.parameters.length) = some 0 := by decide +kernel
noncomputable def bX3_removeAtHand_0 (a0 : Nat) (M : Mm) : Option (Sst ⊕ Rst) := if (M a0 2) < 0 then (some (.inr ((0 : Int32), M))) else (if (M a0 2) < (M a0 1) then (some (.inl (1, [a0], [(M a0 2)], M))) else (some (.inr ((0 : Int32), M))))
noncomputable def bX3_removeAtHand_1 (a0 : Nat) (x1 : Int32) (M : Mm) : Option (Sst ⊕ Rst) := if (M a0 1) ≤ (x1 + (1 : Int32)) then (if ((up2 M a0 1 ((M a0 1) - (1 : Int32))) a0 2) < ((up2 M a0 1 ((M a0 1) - (1 : Int32))) a0 1) then (some (.inr ((0 : Int32), (up2 M a0 1 ((M a0 1) - (1 : Int32)))))) else (some (.inr ((0 : Int32), (up2 (up2 M a0 1 ((M a0 1) - (1 : Int32))) a0 2 (0 : Int32)))))) else (gd (okI (x1 + (1 : Int32)) 8) (gd (okI x1 8) (some (.inl (1, [a0], [(x1 + (1 : Int32))], (up2 M (a0 + 1) (ix x1) (M (a0 + 1) (ix (x1 + (1 : Int32))))))))))
noncomputable def stX3_removeAtHand : Sst → Option (Sst ⊕ Rst) := fun q => match q.1 with
  | 0 => bX3_removeAtHand_0 (q.2.1.getD 0 0) q.2.2.2
  | 1 => bX3_removeAtHand_1 (q.2.1.getD 0 0) (q.2.2.1.getD 0 0) q.2.2.2
  | _ => none
noncomputable def fX3_removeAtHand (a0 : Nat) (M : Mm) : Option Rst := run stX3_removeAtHand (0, [a0], [], M)
def PX3_removeAtHand (p : Program) (l : Launch) (e : Env) (s : State) (m : MethodId) (args : Array Value) (below : List Frame) (meth : Method) (c : Code) (G : va_G) (L : List Nat) (ad : Nat → Nat) (cs : Nat → ClassId) (zk : Nat → Nat) (r : Int32) (M' : Mm) (n : Nat) : Prop := (∀ (a0 : Nat) (M : Mm), itr stX3_removeAtHand n (0, [a0], [], M) = some (r, M') → isG L a0 → AW p l e rmX3_removeAtHand s m args below meth c (MQ below (AQv G L ad cs M') args s 0 0 (inA L ad)) G L ad cs 2 0 [some (.ref (ad a0)), none] [] M) ∧ (∀ (a0 : Nat) (x1 : Int32) (M : Mm), itr stX3_removeAtHand n (1, [a0], [x1], M) = some (r, M') → isG L a0 → AW p l e rmX3_removeAtHand s m args below meth c (MQ below (AQv G L ad cs M') args s 0 0 (inA L ad)) G L ad cs 2 24 [some (.ref (ad a0)), some (.int x1)] [] M)
set_option maxRecDepth 100000 in
set_option maxHeartbeats 4000000 in
theorem wX3_removeAtHand_0 {p : Program} {l : Launch} {e : Env} {s : State} {m : MethodId} {args : Array Value} {below : List Frame} {meth : Method} {c : Code} {G : va_G} {L : List Nat} {ad : Nat → Nat} {cs : Nat → ClassId} {z : Bool} {zk zv : Nat → Nat} {r : Int32} {M' : Mm} {n : Nat} (F : Fx G L ad cs z zk zv p m meth c cX3_removeAtHand 2 none s args RX3)  (IH : PX3_removeAtHand p l e s m args below meth c G L ad cs zk r M' n) (a0 : Nat) (M : Mm) (h : (bX3_removeAtHand_0 a0 M).bind (fun q => match q with | .inl s' => itr stX3_removeAtHand n s' | .inr r => some r) = some (r, M')) (h0 : isG L a0) : AW p l e rmX3_removeAtHand s m args below meth c (MQ below (AQv G L ad cs M') args s 0 0 (inA L ad)) G L ad cs 2 0 [some (.ref (ad a0)), none] [] M := by
  unfold bX3_removeAtHand_0 at h
  refine ax_aload_n F dX3_removeAtHand_0 rfl ?_
  refine ax_get (v := .int (M a0 2)) F (ob_G h0) rfl inGX3 2 (by decide) rfl kf_X3_23 rfl dX3_removeAtHand_1 ?_
  refine ax_if_lt (t := 18) F dX3_removeAtHand_4 (by decide) (fun hc => ?_) (fun hc => ?_)
  · have h := it_pos h hc
    obtain ⟨h1, h2⟩ := rt_some h
    subst h2
    exact ax_vret F dX3_removeAtHand_18
  · have h := it_neg h hc
    refine ax_aload_n F dX3_removeAtHand_7 rfl ?_
    refine ax_get (v := .int (M a0 2)) F (ob_G h0) rfl inGX3 2 (by decide) rfl kf_X3_23 rfl dX3_removeAtHand_8 ?_
    refine ax_aload_n F dX3_removeAtHand_11 rfl ?_
    refine ax_get (v := .int (M a0 1)) F (ob_G h0) rfl inGX3 1 (by decide) rfl kf_X3_19 rfl dX3_removeAtHand_12 ?_
    refine ax_icmp_lt (t := 19) F dX3_removeAtHand_15 (by decide) (fun hc => ?_) (fun hc => ?_)
    · have h := it_pos h hc
      refine ax_aload_n F dX3_removeAtHand_19 rfl ?_
      refine ax_get (v := .int (M a0 2)) F (ob_G h0) rfl inGX3 2 (by decide) rfl kf_X3_23 rfl dX3_removeAtHand_20 ?_
      refine ax_istore_n F dX3_removeAtHand_23 (by decide) rfl ?_
      exact IH.2 _ _ _ h h0
    · have h := it_neg h hc
      obtain ⟨h1, h2⟩ := rt_some h
      subst h2
      exact ax_vret F dX3_removeAtHand_18
set_option maxRecDepth 100000 in
set_option maxHeartbeats 4000000 in
theorem wX3_removeAtHand_1 {p : Program} {l : Launch} {e : Env} {s : State} {m : MethodId} {args : Array Value} {below : List Frame} {meth : Method} {c : Code} {G : va_G} {L : List Nat} {ad : Nat → Nat} {cs : Nat → ClassId} {z : Bool} {zk zv : Nat → Nat} {r : Int32} {M' : Mm} {n : Nat} (F : Fx G L ad cs z zk zv p m meth c cX3_removeAtHand 2 none s args RX3)  (IH : PX3_removeAtHand p l e s m args below meth c G L ad cs zk r M' n) (a0 : Nat) (x1 : Int32) (M : Mm) (h : (bX3_removeAtHand_1 a0 x1 M).bind (fun q => match q with | .inl s' => itr stX3_removeAtHand n s' | .inr r => some r) = some (r, M')) (h0 : isG L a0) : AW p l e rmX3_removeAtHand s m args below meth c (MQ below (AQv G L ad cs M') args s 0 0 (inA L ad)) G L ad cs 2 24 [some (.ref (ad a0)), some (.int x1)] [] M := by
  unfold bX3_removeAtHand_1 at h
  refine ax_iload_n F dX3_removeAtHand_24 rfl ?_
  refine ax_iconst (v := (1 : Int32)) F dX3_removeAtHand_25 (by decide) ?_
  refine ax_iadd F dX3_removeAtHand_26 ?_
  refine ax_aload_n F dX3_removeAtHand_27 rfl ?_
  refine ax_get (v := .int (M a0 1)) F (ob_G h0) rfl inGX3 1 (by decide) rfl kf_X3_19 rfl dX3_removeAtHand_28 ?_
  refine ax_icmp_ge (t := 54) F dX3_removeAtHand_31 (by decide) (fun hc => ?_) (fun hc => ?_)
  · have h := it_pos h hc
    refine ax_aload_n F dX3_removeAtHand_54 rfl ?_
    refine ax_dup F dX3_removeAtHand_55 rfl ?_
    refine ax_get (v := .int (M a0 1)) F (ob_G h0) rfl inGX3 1 (by decide) rfl kf_X3_19 rfl dX3_removeAtHand_56 ?_
    refine ax_iconst (v := (1 : Int32)) F dX3_removeAtHand_59 (by decide) ?_
    refine ax_isub F dX3_removeAtHand_60 ?_
    refine ax_put (ty := .int) F (ob_G h0) rfl inGX3 tyX3 tyX3_ok nmX3 1 (by decide) rfl kf_X3_19 (by decide) rfl rfl (Nat.le_of_ble_eq_true rfl) rfl dX3_removeAtHand_61 ?_
    refine ax_aload_n F dX3_removeAtHand_64 rfl ?_
    refine ax_get (v := .int ((up2 M a0 1 ((M a0 1) - (1 : Int32))) a0 2)) F (ob_G h0) rfl inGX3 2 (by decide) rfl kf_X3_23 rfl dX3_removeAtHand_65 ?_
    refine ax_aload_n F dX3_removeAtHand_68 rfl ?_
    refine ax_get (v := .int ((up2 M a0 1 ((M a0 1) - (1 : Int32))) a0 1)) F (ob_G h0) rfl inGX3 1 (by decide) rfl kf_X3_19 rfl dX3_removeAtHand_69 ?_
    refine ax_icmp_lt (t := 80) F dX3_removeAtHand_72 (by decide) (fun hc => ?_) (fun hc => ?_)
    · have h := it_pos h hc
      obtain ⟨h1, h2⟩ := rt_some h
      subst h2
      exact ax_vret F dX3_removeAtHand_80
    · have h := it_neg h hc
      refine ax_aload_n F dX3_removeAtHand_75 rfl ?_
      refine ax_iconst (v := (0 : Int32)) F dX3_removeAtHand_76 (by decide) ?_
      refine ax_put (ty := .int) F (ob_G h0) rfl inGX3 tyX3 tyX3_ok nmX3 2 (by decide) rfl kf_X3_23 (by decide) rfl rfl (Nat.le_of_ble_eq_true rfl) rfl dX3_removeAtHand_77 ?_
      obtain ⟨h1, h2⟩ := rt_some h
      subst h2
      exact ax_vret F dX3_removeAtHand_80
  · have h := it_neg h hc
    refine ax_aload_n F dX3_removeAtHand_34 rfl ?_
    refine ax_get (v := .ref (ad (a0 + 1))) F (ob_G h0) rfl inGX3 0 (by decide) rfl kf_X3_9 rfl dX3_removeAtHand_35 ?_
    refine ax_iload_n F dX3_removeAtHand_38 rfl ?_
    refine ax_aload_n F dX3_removeAtHand_39 rfl ?_
    refine ax_get (v := .ref (ad (a0 + 1))) F (ob_G h0) rfl inGX3 0 (by decide) rfl kf_X3_9 rfl dX3_removeAtHand_40 ?_
    refine ax_iload_n F dX3_removeAtHand_43 rfl ?_
    refine ax_iconst (v := (1 : Int32)) F dX3_removeAtHand_44 (by decide) ?_
    refine ax_iadd F dX3_removeAtHand_45 ?_
    obtain ⟨hg, h⟩ := gd_some h
    refine ax_iald F (ar_G1 h0) hg dX3_removeAtHand_46 ?_
    obtain ⟨hg, h⟩ := gd_some h
    refine ax_iast F (ar_G1 h0) hg dX3_removeAtHand_47 ?_
    refine ax_iinc (v := (1 : Int32)) F dX3_removeAtHand_48 rfl (by decide) (by decide) rfl ?_
    refine ax_goto (t := 24) F dX3_removeAtHand_51 (by decide) ?_
    exact IH.2 _ _ _ h h0
set_option maxRecDepth 100000 in
set_option maxHeartbeats 4000000 in
theorem wX3_removeAtHand {p : Program} {l : Launch} {e : Env} {s : State} {m : MethodId} {args : Array Value} {below : List Frame} {meth : Method} {c : Code} {G : va_G} {L : List Nat} {ad : Nat → Nat} {cs : Nat → ClassId} {z : Bool} {zk zv : Nat → Nat} {r : Int32} {M' : Mm} (F : Fx G L ad cs z zk zv p m meth c cX3_removeAtHand 2 none s args RX3)  (n : Nat) : PX3_removeAtHand p l e s m args below meth c G L ad cs zk r M' n := by
  induction n with
  | zero => exact ⟨(fun a0 M h => by cases h), (fun a0 x1 M h => by cases h)⟩
  | succ n ih =>
    exact ⟨fun a0 M h h0 => wX3_removeAtHand_0 F ih a0 M h h0,
      fun a0 x1 M h h0 => wX3_removeAtHand_1 F ih a0 x1 M h h0⟩
set_option maxRecDepth 100000 in
set_option maxHeartbeats 4000000 in
theorem tX3_removeAtHand {l : Launch} {G : va_G} {L : List Nat} {ad : Nat → Nat} {cs : Nat → ClassId} {z : Bool} {zk zv : Nat → Nat} (hinj : inj L ad)  (a0 : Nat) (h0 : isG L a0) (M : Mm) (r : Int32) (M' : Mm) (h : fX3_removeAtHand a0 M = some (r, M')) : Met l yX3_removeAtHand (tgW yX3_removeAtHand cX3_removeAtHand 2 none) rmX3_removeAtHand (APre G L ad cs z zk zv [.ref (ad a0)] M) (AQv G L ad cs M') 0 0 (inA L ad) := by
  refine met_of (Eq.refl true) (Nat.le_of_ble_eq_true rfl) hinj [some (.ref (ad a0)), none] rfl ?_
  intro p e s m below meth c F
  replace F : Fx G L ad cs z zk zv p m meth c cX3_removeAtHand 2 none s _ RX3 := F
  obtain ⟨n, hn⟩ := run_ex h
  exact (wX3_removeAtHand F n).1 a0 M hn h0
def rmX3_countOut : Room := { frames := 1, cells := 0, slots := 0, locals := 21 }
theorem kn_X3_countOut : yX3_countOut.cls ≠ "java/lang/invoke/MethodHandle" ∧ yX3_countOut.cls ≠ "java/lang/invoke/VarHandle" ∧ (parseMethodDescriptor yX3_countOut.desc).map (fun d => d.parameters.length) = some 1 := by decide +kernel
noncomputable def bX3_countOut_0 (a0 : Nat) (x1 : Int32) (M : Mm) : Option (Sst ⊕ Rst) := some (.inl (1, [a0], [x1, (M a0 1)], M))
noncomputable def bX3_countOut_1 (a0 : Nat) (x1 : Int32) (x2 : Int32) (M : Mm) : Option (Sst ⊕ Rst) := if x2 ≤ (1 : Int32) then (some (.inr ((0 : Int32), M))) else (cl (fX3_moveHand a0 x1 M) (fun r1 M1 => cl (fX3_removeAtHand a0 M1) (fun r2 M2 => some (.inl (1, [a0], [x1, (x2 + (-1 : Int32))], M2)))))
noncomputable def stX3_countOut : Sst → Option (Sst ⊕ Rst) := fun q => match q.1 with
  | 0 => bX3_countOut_0 (q.2.1.getD 0 0) (q.2.2.1.getD 0 0) q.2.2.2
  | 1 => bX3_countOut_1 (q.2.1.getD 0 0) (q.2.2.1.getD 0 0) (q.2.2.1.getD 1 0) q.2.2.2
  | _ => none
noncomputable def fX3_countOut (a0 : Nat) (x1 : Int32) (M : Mm) : Option Rst := run stX3_countOut (0, [a0], [x1], M)
def PX3_countOut (p : Program) (l : Launch) (e : Env) (s : State) (m : MethodId) (args : Array Value) (below : List Frame) (meth : Method) (c : Code) (G : va_G) (L : List Nat) (ad : Nat → Nat) (cs : Nat → ClassId) (zk : Nat → Nat) (r : Int32) (M' : Mm) (n : Nat) : Prop := (∀ (a0 : Nat) (x1 : Int32) (M : Mm), itr stX3_countOut n (0, [a0], [x1], M) = some (r, M') → isG L a0 → AW p l e rmX3_countOut s m args below meth c (MQ below (AQv G L ad cs M') args s 0 0 (inA L ad)) G L ad cs 3 0 [some (.ref (ad a0)), some (.int x1), none] [] M) ∧ (∀ (a0 : Nat) (x1 : Int32) (x2 : Int32) (M : Mm), itr stX3_countOut n (1, [a0], [x1, x2], M) = some (r, M') → isG L a0 → AW p l e rmX3_countOut s m args below meth c (MQ below (AQv G L ad cs M') args s 0 0 (inA L ad)) G L ad cs 3 5 [some (.ref (ad a0)), some (.int x1), some (.int x2)] [] M)
set_option maxRecDepth 100000 in
set_option maxHeartbeats 4000000 in
theorem wX3_countOut_0 {p : Program} {l : Launch} {e : Env} {s : State} {m : MethodId} {args : Array Value} {below : List Frame} {meth : Method} {c : Code} {G : va_G} {L : List Nat} {ad : Nat → Nat} {cs : Nat → ClassId} {z : Bool} {zk zv : Nat → Nat} {r : Int32} {M' : Mm} {n : Nat} (F : Fx G L ad cs z zk zv p m meth c cX3_countOut 3 none s args RX3)  (IH : PX3_countOut p l e s m args below meth c G L ad cs zk r M' n) (a0 : Nat) (x1 : Int32) (M : Mm) (h : (bX3_countOut_0 a0 x1 M).bind (fun q => match q with | .inl s' => itr stX3_countOut n s' | .inr r => some r) = some (r, M')) (h0 : isG L a0) : AW p l e rmX3_countOut s m args below meth c (MQ below (AQv G L ad cs M') args s 0 0 (inA L ad)) G L ad cs 3 0 [some (.ref (ad a0)), some (.int x1), none] [] M := by
  unfold bX3_countOut_0 at h
  refine ax_aload_n F dX3_countOut_0 rfl ?_
  refine ax_get (v := .int (M a0 1)) F (ob_G h0) rfl inGX3 1 (by decide) rfl kf_X3_19 rfl dX3_countOut_1 ?_
  refine ax_istore_n F dX3_countOut_4 (by decide) rfl ?_
  exact IH.2 _ _ _ _ h h0
set_option maxRecDepth 100000 in
set_option maxHeartbeats 4000000 in
theorem wX3_countOut_1 {p : Program} {l : Launch} {e : Env} {s : State} {m : MethodId} {args : Array Value} {below : List Frame} {meth : Method} {c : Code} {G : va_G} {L : List Nat} {ad : Nat → Nat} {cs : Nat → ClassId} {z : Bool} {zk zv : Nat → Nat} {r : Int32} {M' : Mm} {n : Nat} (F : Fx G L ad cs z zk zv p m meth c cX3_countOut 3 none s args RX3)  (IH : PX3_countOut p l e s m args below meth c G L ad cs zk r M' n) (a0 : Nat) (x1 : Int32) (x2 : Int32) (M : Mm) (h : (bX3_countOut_1 a0 x1 x2 M).bind (fun q => match q with | .inl s' => itr stX3_countOut n s' | .inr r => some r) = some (r, M')) (h0 : isG L a0) : AW p l e rmX3_countOut s m args below meth c (MQ below (AQv G L ad cs M') args s 0 0 (inA L ad)) G L ad cs 3 5 [some (.ref (ad a0)), some (.int x1), some (.int x2)] [] M := by
  unfold bX3_countOut_1 at h
  refine ax_iload_n F dX3_countOut_5 rfl ?_
  refine ax_iconst (v := (1 : Int32)) F dX3_countOut_6 (by decide) ?_
  refine ax_icmp_le (t := 25) F dX3_countOut_7 (by decide) (fun hc => ?_) (fun hc => ?_)
  · have h := it_pos h hc
    obtain ⟨h1, h2⟩ := rt_some h
    subst h2
    exact ax_vret F dX3_countOut_25
  · have h := it_neg h hc
    refine ax_aload_n F dX3_countOut_10 rfl ?_
    refine ax_iload_n F dX3_countOut_11 rfl ?_
    obtain ⟨r1, M1, hq1, h⟩ := cq_some h
    refine ax_callVv (As := [.int x1]) (st := []) F (tX3_moveHand F.2.2.2.2.2.2.1 _ _ h0 _ _ _ hq1) (ob_G h0) rfl kc_X3_moveHand kz_X3 ki_X3_moveHand ks_X3_moveHand km_X3_26 ⟨kn_X3_moveHand, rfl, rfl, Nat.le_of_ble_eq_true rfl, Nat.le_of_ble_eq_true rfl⟩ rfl (Nat.le_of_ble_eq_true rfl) dX3_countOut_12 ?_
    refine ax_aload_n F dX3_countOut_15 rfl ?_
    obtain ⟨r2, M2, hq2, h⟩ := cq_some h
    refine ax_callVv (As := []) (st := []) F (tX3_removeAtHand F.2.2.2.2.2.2.1 _ h0 _ _ _ hq2) (ob_G h0) rfl kc_X3_removeAtHand kz_X3 ki_X3_removeAtHand ks_X3_removeAtHand km_X3_30 ⟨kn_X3_removeAtHand, rfl, rfl, Nat.le_of_ble_eq_true rfl, Nat.le_of_ble_eq_true rfl⟩ rfl (Nat.le_of_ble_eq_true rfl) dX3_countOut_16 ?_
    refine ax_iinc (v := (-1 : Int32)) F dX3_countOut_19 rfl (by decide) (by decide) rfl ?_
    refine ax_goto (t := 5) F dX3_countOut_22 (by decide) ?_
    exact IH.2 _ _ _ _ h h0
set_option maxRecDepth 100000 in
set_option maxHeartbeats 4000000 in
theorem wX3_countOut {p : Program} {l : Launch} {e : Env} {s : State} {m : MethodId} {args : Array Value} {below : List Frame} {meth : Method} {c : Code} {G : va_G} {L : List Nat} {ad : Nat → Nat} {cs : Nat → ClassId} {z : Bool} {zk zv : Nat → Nat} {r : Int32} {M' : Mm} (F : Fx G L ad cs z zk zv p m meth c cX3_countOut 3 none s args RX3)  (n : Nat) : PX3_countOut p l e s m args below meth c G L ad cs zk r M' n := by
  induction n with
  | zero => exact ⟨(fun a0 x1 M h => by cases h), (fun a0 x1 x2 M h => by cases h)⟩
  | succ n ih =>
    exact ⟨fun a0 x1 M h h0 => wX3_countOut_0 F ih a0 x1 M h h0,
      fun a0 x1 x2 M h h0 => wX3_countOut_1 F ih a0 x1 x2 M h h0⟩
set_option maxRecDepth 100000 in
set_option maxHeartbeats 4000000 in
theorem tX3_countOut {l : Launch} {G : va_G} {L : List Nat} {ad : Nat → Nat} {cs : Nat → ClassId} {z : Bool} {zk zv : Nat → Nat} (hinj : inj L ad)  (a0 : Nat) (x1 : Int32) (h0 : isG L a0) (M : Mm) (r : Int32) (M' : Mm) (h : fX3_countOut a0 x1 M = some (r, M')) : Met l yX3_countOut (tgW yX3_countOut cX3_countOut 3 none) rmX3_countOut (APre G L ad cs z zk zv [.ref (ad a0), .int x1] M) (AQv G L ad cs M') 0 0 (inA L ad) := by
  refine met_of (Eq.refl true) (Nat.le_of_ble_eq_true rfl) hinj [some (.ref (ad a0)), some (.int x1), none] rfl ?_
  intro p e s m below meth c F
  replace F : Fx G L ad cs z zk zv p m meth c cX3_countOut 3 none s _ RX3 := F
  obtain ⟨n, hn⟩ := run_ex h
  exact (wX3_countOut F n).1 a0 x1 M hn h0
def rmX3_total : Room := { frames := 0, cells := 0, slots := 0, locals := 0 }
theorem kn_X3_total : yX3_total.cls ≠ "java/lang/invoke/MethodHandle" ∧ yX3_total.cls ≠ "java/lang/invoke/VarHandle" ∧ (parseMethodDescriptor yX3_total.desc).map (fun d => d.parameters.length) = some 0 := by decide +kernel
noncomputable def bX3_total_0 (a0 : Nat) (M : Mm) : Option (Sst ⊕ Rst) := some (.inl (1, [a0], [(0 : Int32), (0 : Int32)], M))
noncomputable def bX3_total_1 (a0 : Nat) (x1 : Int32) (x2 : Int32) (M : Mm) : Option (Sst ⊕ Rst) := if (M a0 1) ≤ x2 then (some (.inr (x1, M))) else (gd (okI x2 8) (some (.inl (1, [a0], [(x1 + (M (a0 + 1) (ix x2))), (x2 + (1 : Int32))], M))))
noncomputable def stX3_total : Sst → Option (Sst ⊕ Rst) := fun q => match q.1 with
  | 0 => bX3_total_0 (q.2.1.getD 0 0) q.2.2.2
  | 1 => bX3_total_1 (q.2.1.getD 0 0) (q.2.2.1.getD 0 0) (q.2.2.1.getD 1 0) q.2.2.2
  | _ => none
noncomputable def fX3_total (a0 : Nat) (M : Mm) : Option Rst := run stX3_total (0, [a0], [], M)
def PX3_total (p : Program) (l : Launch) (e : Env) (s : State) (m : MethodId) (args : Array Value) (below : List Frame) (meth : Method) (c : Code) (G : va_G) (L : List Nat) (ad : Nat → Nat) (cs : Nat → ClassId) (zk : Nat → Nat) (r : Int32) (M' : Mm) (n : Nat) : Prop := (∀ (a0 : Nat) (M : Mm), itr stX3_total n (0, [a0], [], M) = some (r, M') → isG L a0 → AW p l e rmX3_total s m args below meth c (MQ below (AQi G L ad cs r M') args s 0 0 (inA L ad)) G L ad cs 3 0 [some (.ref (ad a0)), none, none] [] M) ∧ (∀ (a0 : Nat) (x1 : Int32) (x2 : Int32) (M : Mm), itr stX3_total n (1, [a0], [x1, x2], M) = some (r, M') → isG L a0 → AW p l e rmX3_total s m args below meth c (MQ below (AQi G L ad cs r M') args s 0 0 (inA L ad)) G L ad cs 3 4 [some (.ref (ad a0)), some (.int x1), some (.int x2)] [] M)
set_option maxRecDepth 100000 in
set_option maxHeartbeats 4000000 in
theorem wX3_total_0 {p : Program} {l : Launch} {e : Env} {s : State} {m : MethodId} {args : Array Value} {below : List Frame} {meth : Method} {c : Code} {G : va_G} {L : List Nat} {ad : Nat → Nat} {cs : Nat → ClassId} {z : Bool} {zk zv : Nat → Nat} {r : Int32} {M' : Mm} {n : Nat} (F : Fx G L ad cs z zk zv p m meth c cX3_total 3 (some .int) s args RX3)  (IH : PX3_total p l e s m args below meth c G L ad cs zk r M' n) (a0 : Nat) (M : Mm) (h : (bX3_total_0 a0 M).bind (fun q => match q with | .inl s' => itr stX3_total n s' | .inr r => some r) = some (r, M')) (h0 : isG L a0) : AW p l e rmX3_total s m args below meth c (MQ below (AQi G L ad cs r M') args s 0 0 (inA L ad)) G L ad cs 3 0 [some (.ref (ad a0)), none, none] [] M := by
  unfold bX3_total_0 at h
  refine ax_iconst (v := (0 : Int32)) F dX3_total_0 (by decide) ?_
  refine ax_istore_n F dX3_total_1 (by decide) rfl ?_
  refine ax_iconst (v := (0 : Int32)) F dX3_total_2 (by decide) ?_
  refine ax_istore_n F dX3_total_3 (by decide) rfl ?_
  exact IH.2 _ _ _ _ h h0
set_option maxRecDepth 100000 in
set_option maxHeartbeats 4000000 in
theorem wX3_total_1 {p : Program} {l : Launch} {e : Env} {s : State} {m : MethodId} {args : Array Value} {below : List Frame} {meth : Method} {c : Code} {G : va_G} {L : List Nat} {ad : Nat → Nat} {cs : Nat → ClassId} {z : Bool} {zk zv : Nat → Nat} {r : Int32} {M' : Mm} {n : Nat} (F : Fx G L ad cs z zk zv p m meth c cX3_total 3 (some .int) s args RX3)  (IH : PX3_total p l e s m args below meth c G L ad cs zk r M' n) (a0 : Nat) (x1 : Int32) (x2 : Int32) (M : Mm) (h : (bX3_total_1 a0 x1 x2 M).bind (fun q => match q with | .inl s' => itr stX3_total n s' | .inr r => some r) = some (r, M')) (h0 : isG L a0) : AW p l e rmX3_total s m args below meth c (MQ below (AQi G L ad cs r M') args s 0 0 (inA L ad)) G L ad cs 3 4 [some (.ref (ad a0)), some (.int x1), some (.int x2)] [] M := by
  unfold bX3_total_1 at h
  refine ax_iload_n F dX3_total_4 rfl ?_
  refine ax_aload_n F dX3_total_5 rfl ?_
  refine ax_get (v := .int (M a0 1)) F (ob_G h0) rfl inGX3 1 (by decide) rfl kf_X3_19 rfl dX3_total_6 ?_
  refine ax_icmp_ge (t := 27) F dX3_total_9 (by decide) (fun hc => ?_) (fun hc => ?_)
  · have h := it_pos h hc
    refine ax_iload_n F dX3_total_27 rfl ?_
    obtain ⟨h1, h2⟩ := rt_some h
    subst h1; subst h2
    exact ax_iret F dX3_total_28
  · have h := it_neg h hc
    refine ax_iload_n F dX3_total_12 rfl ?_
    refine ax_aload_n F dX3_total_13 rfl ?_
    refine ax_get (v := .ref (ad (a0 + 1))) F (ob_G h0) rfl inGX3 0 (by decide) rfl kf_X3_9 rfl dX3_total_14 ?_
    refine ax_iload_n F dX3_total_17 rfl ?_
    obtain ⟨hg, h⟩ := gd_some h
    refine ax_iald F (ar_G1 h0) hg dX3_total_18 ?_
    refine ax_iadd F dX3_total_19 ?_
    refine ax_istore_n F dX3_total_20 (by decide) rfl ?_
    refine ax_iinc (v := (1 : Int32)) F dX3_total_21 rfl (by decide) (by decide) rfl ?_
    refine ax_goto (t := 4) F dX3_total_24 (by decide) ?_
    exact IH.2 _ _ _ _ h h0
set_option maxRecDepth 100000 in
set_option maxHeartbeats 4000000 in
theorem wX3_total {p : Program} {l : Launch} {e : Env} {s : State} {m : MethodId} {args : Array Value} {below : List Frame} {meth : Method} {c : Code} {G : va_G} {L : List Nat} {ad : Nat → Nat} {cs : Nat → ClassId} {z : Bool} {zk zv : Nat → Nat} {r : Int32} {M' : Mm} (F : Fx G L ad cs z zk zv p m meth c cX3_total 3 (some .int) s args RX3)  (n : Nat) : PX3_total p l e s m args below meth c G L ad cs zk r M' n := by
  induction n with
  | zero => exact ⟨(fun a0 M h => by cases h), (fun a0 x1 x2 M h => by cases h)⟩
  | succ n ih =>
    exact ⟨fun a0 M h h0 => wX3_total_0 F ih a0 M h h0,
      fun a0 x1 x2 M h h0 => wX3_total_1 F ih a0 x1 x2 M h h0⟩
set_option maxRecDepth 100000 in
set_option maxHeartbeats 4000000 in
theorem tX3_total {l : Launch} {G : va_G} {L : List Nat} {ad : Nat → Nat} {cs : Nat → ClassId} {z : Bool} {zk zv : Nat → Nat} (hinj : inj L ad)  (a0 : Nat) (h0 : isG L a0) (M : Mm) (r : Int32) (M' : Mm) (h : fX3_total a0 M = some (r, M')) : Met l yX3_total (tgW yX3_total cX3_total 3 (some .int)) rmX3_total (APre G L ad cs z zk zv [.ref (ad a0)] M) (AQi G L ad cs r M') 0 0 (inA L ad) := by
  refine met_of (Eq.refl true) (Nat.le_of_ble_eq_true rfl) hinj [some (.ref (ad a0)), none, none] rfl ?_
  intro p e s m below meth c F
  replace F : Fx G L ad cs z zk zv p m meth c cX3_total 3 (some .int) s _ RX3 := F
  obtain ⟨n, hn⟩ := run_ex h
  exact (wX3_total F n).1 a0 M hn h0
noncomputable def fX4_clear (a0 : Nat) (M : Mm) : Option Rst := some ((0 : Int32), (up2 M a0 3 (0 : Int32)))
def rmX4_clear : Room := { frames := 0, cells := 0, slots := 0, locals := 0 }
theorem kn_X4_clear : yX4_clear.cls ≠ "java/lang/invoke/MethodHandle" ∧ yX4_clear.cls ≠ "java/lang/invoke/VarHandle" ∧ (parseMethodDescriptor yX4_clear.desc).map (fun d => d.parameters.length) = some 0 := by decide +kernel
set_option maxRecDepth 100000 in
set_option maxHeartbeats 4000000 in
theorem tX4_clear {l : Launch} {G : va_G} {L : List Nat} {ad : Nat → Nat} {cs : Nat → ClassId} {z : Bool} {zk zv : Nat → Nat} (hinj : inj L ad)  (a0 : Nat) (h0 : isS L a0) (M : Mm) (r : Int32) (M' : Mm) (h : fX4_clear a0 M = some (r, M')) : Met l yX4_clear (tgW yX4_clear cX4_clear 1 none) rmX4_clear (APre G L ad cs z zk zv [.ref (ad a0)] M) (AQv G L ad cs M') 0 0 (inA L ad) := by
  refine met_of (Eq.refl true) (Nat.le_of_ble_eq_true rfl) hinj [some (.ref (ad a0))] rfl ?_
  intro p e s m below meth c F
  replace F : Fx G L ad cs z zk zv p m meth c cX4_clear 1 none s _ RX4 := F
  unfold fX4_clear at h
  refine ax_aload_n F dX4_clear_0 rfl ?_
  refine ax_iconst (v := (0 : Int32)) F dX4_clear_1 (by decide) ?_
  refine ax_put (ty := .int) F (ob_S h0) rfl inGX4 tyX4 tyX4_ok nmX4 3 (by decide) rfl kf_X4_21 (by decide) rfl rfl (Nat.le_of_ble_eq_true rfl) rfl dX4_clear_2 ?_
  obtain ⟨h1, h2⟩ := rt_some0 h
  subst h2
  exact ax_vret F dX4_clear_5
noncomputable def fX4_put (a0 : Nat) (x1 : Int32) (x2 : Int32) (x3 : Int32) (M : Mm) : Option Rst := if (M a0 3) < 0 then (some ((0 : Int32), M)) else (if (5 : Int32) ≤ (M a0 3) then (some ((0 : Int32), M)) else (gd (okI (M a0 3) 5) (gd (okI ((up2 M (a0 + 1) (ix (M a0 3)) x1) a0 3) 5) (gd (okI ((up2 (up2 M (a0 + 1) (ix (M a0 3)) x1) (a0 + 2) (ix ((up2 M (a0 + 1) (ix (M a0 3)) x1) a0 3)) x2) a0 3) 5) (some ((0 : Int32), (up2 (up2 (up2 (up2 M (a0 + 1) (ix (M a0 3)) x1) (a0 + 2) (ix ((up2 M (a0 + 1) (ix (M a0 3)) x1) a0 3)) x2) (a0 + 3) (ix ((up2 (up2 M (a0 + 1) (ix (M a0 3)) x1) (a0 + 2) (ix ((up2 M (a0 + 1) (ix (M a0 3)) x1) a0 3)) x2) a0 3)) x3) a0 3 (((up2 (up2 (up2 M (a0 + 1) (ix (M a0 3)) x1) (a0 + 2) (ix ((up2 M (a0 + 1) (ix (M a0 3)) x1) a0 3)) x2) (a0 + 3) (ix ((up2 (up2 M (a0 + 1) (ix (M a0 3)) x1) (a0 + 2) (ix ((up2 M (a0 + 1) (ix (M a0 3)) x1) a0 3)) x2) a0 3)) x3) a0 3) + (1 : Int32)))))))))
def rmX4_put : Room := { frames := 0, cells := 0, slots := 0, locals := 0 }
theorem kn_X4_put : yX4_put.cls ≠ "java/lang/invoke/MethodHandle" ∧ yX4_put.cls ≠ "java/lang/invoke/VarHandle" ∧ (parseMethodDescriptor yX4_put.desc).map (fun d => d.parameters.length) = some 3 := by decide +kernel
set_option maxRecDepth 100000 in
set_option maxHeartbeats 4000000 in
theorem tX4_put {l : Launch} {G : va_G} {L : List Nat} {ad : Nat → Nat} {cs : Nat → ClassId} {z : Bool} {zk zv : Nat → Nat} (hinj : inj L ad)  (a0 : Nat) (x1 : Int32) (x2 : Int32) (x3 : Int32) (h0 : isS L a0) (M : Mm) (r : Int32) (M' : Mm) (h : fX4_put a0 x1 x2 x3 M = some (r, M')) : Met l yX4_put (tgW yX4_put cX4_put 4 none) rmX4_put (APre G L ad cs z zk zv [.ref (ad a0), .int x1, .int x2, .int x3] M) (AQv G L ad cs M') 0 0 (inA L ad) := by
  refine met_of (Eq.refl true) (Nat.le_of_ble_eq_true rfl) hinj [some (.ref (ad a0)), some (.int x1), some (.int x2), some (.int x3)] rfl ?_
  intro p e s m below meth c F
  replace F : Fx G L ad cs z zk zv p m meth c cX4_put 4 none s _ RX4 := F
  unfold fX4_put at h
  refine ax_aload_n F dX4_put_0 rfl ?_
  refine ax_get (v := .int (M a0 3)) F (ob_S h0) rfl inGX4 3 (by decide) rfl kf_X4_21 rfl dX4_put_1 ?_
  refine ax_if_lt (t := 55) F dX4_put_4 (by decide) (fun hc => ?_) (fun hc => ?_)
  · have h := it_pos0 h hc
    obtain ⟨h1, h2⟩ := rt_some0 h
    subst h2
    exact ax_vret F dX4_put_55
  · have h := it_neg0 h hc
    refine ax_aload_n F dX4_put_7 rfl ?_
    refine ax_get (v := .int (M a0 3)) F (ob_S h0) rfl inGX4 3 (by decide) rfl kf_X4_21 rfl dX4_put_8 ?_
    refine ax_iconst (v := (5 : Int32)) F dX4_put_11 (by decide) ?_
    refine ax_icmp_ge (t := 55) F dX4_put_12 (by decide) (fun hc => ?_) (fun hc => ?_)
    · have h := it_pos0 h hc
      obtain ⟨h1, h2⟩ := rt_some0 h
      subst h2
      exact ax_vret F dX4_put_55
    · have h := it_neg0 h hc
      refine ax_aload_n F dX4_put_15 rfl ?_
      refine ax_get (v := .ref (ad (a0 + 1))) F (ob_S h0) rfl inGX4 0 (by decide) rfl kf_X4_9 rfl dX4_put_16 ?_
      refine ax_aload_n F dX4_put_19 rfl ?_
      refine ax_get (v := .int (M a0 3)) F (ob_S h0) rfl inGX4 3 (by decide) rfl kf_X4_21 rfl dX4_put_20 ?_
      refine ax_iload_n F dX4_put_23 rfl ?_
      obtain ⟨hg, h⟩ := gd_some0 h
      refine ax_iast F (ar_S1 h0) hg dX4_put_24 ?_
      refine ax_aload_n F dX4_put_25 rfl ?_
      refine ax_get (v := .ref (ad (a0 + 2))) F (ob_S h0) rfl inGX4 1 (by decide) rfl kf_X4_15 rfl dX4_put_26 ?_
      refine ax_aload_n F dX4_put_29 rfl ?_
      refine ax_get (v := .int ((up2 M (a0 + 1) (ix (M a0 3)) x1) a0 3)) F (ob_S h0) rfl inGX4 3 (by decide) rfl kf_X4_21 rfl dX4_put_30 ?_
      refine ax_iload_n F dX4_put_33 rfl ?_
      obtain ⟨hg, h⟩ := gd_some0 h
      refine ax_iast F (ar_S2 h0) hg dX4_put_34 ?_
      refine ax_aload_n F dX4_put_35 rfl ?_
      refine ax_get (v := .ref (ad (a0 + 3))) F (ob_S h0) rfl inGX4 2 (by decide) rfl kf_X4_18 rfl dX4_put_36 ?_
      refine ax_aload_n F dX4_put_39 rfl ?_
      refine ax_get (v := .int ((up2 (up2 M (a0 + 1) (ix (M a0 3)) x1) (a0 + 2) (ix ((up2 M (a0 + 1) (ix (M a0 3)) x1) a0 3)) x2) a0 3)) F (ob_S h0) rfl inGX4 3 (by decide) rfl kf_X4_21 rfl dX4_put_40 ?_
      refine ax_iload_n F dX4_put_43 rfl ?_
      obtain ⟨hg, h⟩ := gd_some0 h
      refine ax_iast F (ar_S3 h0) hg dX4_put_44 ?_
      refine ax_aload_n F dX4_put_45 rfl ?_
      refine ax_dup F dX4_put_46 rfl ?_
      refine ax_get (v := .int ((up2 (up2 (up2 M (a0 + 1) (ix (M a0 3)) x1) (a0 + 2) (ix ((up2 M (a0 + 1) (ix (M a0 3)) x1) a0 3)) x2) (a0 + 3) (ix ((up2 (up2 M (a0 + 1) (ix (M a0 3)) x1) (a0 + 2) (ix ((up2 M (a0 + 1) (ix (M a0 3)) x1) a0 3)) x2) a0 3)) x3) a0 3)) F (ob_S h0) rfl inGX4 3 (by decide) rfl kf_X4_21 rfl dX4_put_47 ?_
      refine ax_iconst (v := (1 : Int32)) F dX4_put_50 (by decide) ?_
      refine ax_iadd F dX4_put_51 ?_
      refine ax_put (ty := .int) F (ob_S h0) rfl inGX4 tyX4 tyX4_ok nmX4 3 (by decide) rfl kf_X4_21 (by decide) rfl rfl (Nat.le_of_ble_eq_true rfl) rfl dX4_put_52 ?_
      obtain ⟨h1, h2⟩ := rt_some0 h
      subst h2
      exact ax_vret F dX4_put_55
noncomputable def fX4_putItself (a0 : Nat) (x1 : Int32) (M : Mm) : Option Rst := cl (fX4_put a0 x1 (0 : Int32) (-1 : Int32) M) (fun r1 M1 => some ((0 : Int32), M1))
def rmX4_putItself : Room := { frames := 1, cells := 0, slots := 0, locals := 23 }
theorem kn_X4_putItself : yX4_putItself.cls ≠ "java/lang/invoke/MethodHandle" ∧ yX4_putItself.cls ≠ "java/lang/invoke/VarHandle" ∧ (parseMethodDescriptor yX4_putItself.desc).map (fun d => d.parameters.length) = some 1 := by decide +kernel
set_option maxRecDepth 100000 in
set_option maxHeartbeats 4000000 in
theorem tX4_putItself {l : Launch} {G : va_G} {L : List Nat} {ad : Nat → Nat} {cs : Nat → ClassId} {z : Bool} {zk zv : Nat → Nat} (hinj : inj L ad)  (a0 : Nat) (x1 : Int32) (h0 : isS L a0) (M : Mm) (r : Int32) (M' : Mm) (h : fX4_putItself a0 x1 M = some (r, M')) : Met l yX4_putItself (tgW yX4_putItself cX4_putItself 2 none) rmX4_putItself (APre G L ad cs z zk zv [.ref (ad a0), .int x1] M) (AQv G L ad cs M') 0 0 (inA L ad) := by
  refine met_of (Eq.refl true) (Nat.le_of_ble_eq_true rfl) hinj [some (.ref (ad a0)), some (.int x1)] rfl ?_
  intro p e s m below meth c F
  replace F : Fx G L ad cs z zk zv p m meth c cX4_putItself 2 none s _ RX4 := F
  unfold fX4_putItself at h
  refine ax_aload_n F dX4_putItself_0 rfl ?_
  refine ax_iload_n F dX4_putItself_1 rfl ?_
  refine ax_iconst (v := (0 : Int32)) F dX4_putItself_2 (by decide) ?_
  refine ax_iconst (v := (-1 : Int32)) F dX4_putItself_3 (by decide) ?_
  obtain ⟨r1, M1, hq1, h⟩ := cq_some0 h
  refine ax_callVv (As := [.int x1, .int (0 : Int32), .int (-1 : Int32)]) (st := []) F (tX4_put F.2.2.2.2.2.2.1 _ _ _ _ h0 _ _ _ hq1) (ob_S h0) rfl kc_X4_put kz_X4 ki_X4_put ks_X4_put km_X4_25 ⟨kn_X4_put, rfl, rfl, Nat.le_of_ble_eq_true rfl, Nat.le_of_ble_eq_true rfl⟩ rfl (Nat.le_of_ble_eq_true rfl) dX4_putItself_4 ?_
  obtain ⟨h1, h2⟩ := rt_some0 h
  subst h2
  exact ax_vret F dX4_putItself_7
def rmX4_unsentPlace : Room := { frames := 0, cells := 0, slots := 0, locals := 0 }
theorem kn_X4_unsentPlace : yX4_unsentPlace.cls ≠ "java/lang/invoke/MethodHandle" ∧ yX4_unsentPlace.cls ≠ "java/lang/invoke/VarHandle" ∧ (parseMethodDescriptor yX4_unsentPlace.desc).map (fun d => d.parameters.length) = some 3 := by decide +kernel
noncomputable def bX4_unsentPlace_0 (a0 : Nat) (x1 : Int32) (x2 : Int32) (M : Mm) : Option (Sst ⊕ Rst) := some (.inl (1, [a0], [x1, x2, (0 : Int32), (0 : Int32)], M))
noncomputable def bX4_unsentPlace_1 (a0 : Nat) (x1 : Int32) (x2 : Int32) (x3 : Int32) (x4 : Int32) (M : Mm) : Option (Sst ⊕ Rst) := if (M a0 2) ≤ x4 then (some (.inr ((-1 : Int32), M))) else (if ((isr x1 x4) &&& (1 : Int32)) = 0 then (if x3 = x2 then (some (.inr (x4, M))) else (some (.inl (1, [a0], [x1, x2, (x3 + (1 : Int32)), (x4 + (1 : Int32))], M)))) else (some (.inl (1, [a0], [x1, x2, x3, (x4 + (1 : Int32))], M))))
noncomputable def stX4_unsentPlace : Sst → Option (Sst ⊕ Rst) := fun q => match q.1 with
  | 0 => bX4_unsentPlace_0 (q.2.1.getD 0 0) (q.2.2.1.getD 0 0) (q.2.2.1.getD 1 0) q.2.2.2
  | 1 => bX4_unsentPlace_1 (q.2.1.getD 0 0) (q.2.2.1.getD 0 0) (q.2.2.1.getD 1 0) (q.2.2.1.getD 2 0) (q.2.2.1.getD 3 0) q.2.2.2
  | _ => none
noncomputable def fX4_unsentPlace (a0 : Nat) (x1 : Int32) (x2 : Int32) (M : Mm) : Option Rst := run stX4_unsentPlace (0, [a0], [x1, x2], M)
def PX4_unsentPlace (p : Program) (l : Launch) (e : Env) (s : State) (m : MethodId) (args : Array Value) (below : List Frame) (meth : Method) (c : Code) (G : va_G) (L : List Nat) (ad : Nat → Nat) (cs : Nat → ClassId) (zk : Nat → Nat) (r : Int32) (M' : Mm) (n : Nat) : Prop := (∀ (a0 : Nat) (x1 : Int32) (x2 : Int32) (M : Mm), itr stX4_unsentPlace n (0, [a0], [x1, x2], M) = some (r, M') → isV L a0 → AW p l e rmX4_unsentPlace s m args below meth c (MQ below (AQi G L ad cs r M') args s 0 0 (inA L ad)) G L ad cs 5 0 [some (.ref (ad a0)), some (.int x1), some (.int x2), none, none] [] M) ∧ (∀ (a0 : Nat) (x1 : Int32) (x2 : Int32) (x3 : Int32) (x4 : Int32) (M : Mm), itr stX4_unsentPlace n (1, [a0], [x1, x2, x3, x4], M) = some (r, M') → isV L a0 → AW p l e rmX4_unsentPlace s m args below meth c (MQ below (AQi G L ad cs r M') args s 0 0 (inA L ad)) G L ad cs 5 5 [some (.ref (ad a0)), some (.int x1), some (.int x2), some (.int x3), some (.int x4)] [] M)
set_option maxRecDepth 100000 in
set_option maxHeartbeats 4000000 in
theorem wX4_unsentPlace_0 {p : Program} {l : Launch} {e : Env} {s : State} {m : MethodId} {args : Array Value} {below : List Frame} {meth : Method} {c : Code} {G : va_G} {L : List Nat} {ad : Nat → Nat} {cs : Nat → ClassId} {z : Bool} {zk zv : Nat → Nat} {r : Int32} {M' : Mm} {n : Nat} (F : Fx G L ad cs z zk zv p m meth c cX4_unsentPlace 5 (some .int) s args RX4)  (IH : PX4_unsentPlace p l e s m args below meth c G L ad cs zk r M' n) (a0 : Nat) (x1 : Int32) (x2 : Int32) (M : Mm) (h : (bX4_unsentPlace_0 a0 x1 x2 M).bind (fun q => match q with | .inl s' => itr stX4_unsentPlace n s' | .inr r => some r) = some (r, M')) (h0 : isV L a0) : AW p l e rmX4_unsentPlace s m args below meth c (MQ below (AQi G L ad cs r M') args s 0 0 (inA L ad)) G L ad cs 5 0 [some (.ref (ad a0)), some (.int x1), some (.int x2), none, none] [] M := by
  unfold bX4_unsentPlace_0 at h
  refine ax_iconst (v := (0 : Int32)) F dX4_unsentPlace_0 (by decide) ?_
  refine ax_istore_n F dX4_unsentPlace_1 (by decide) rfl ?_
  refine ax_iconst (v := (0 : Int32)) F dX4_unsentPlace_2 (by decide) ?_
  refine ax_istore F dX4_unsentPlace_3 (by decide) rfl ?_
  exact IH.2 _ _ _ _ _ _ h h0
set_option maxRecDepth 100000 in
set_option maxHeartbeats 4000000 in
theorem wX4_unsentPlace_1 {p : Program} {l : Launch} {e : Env} {s : State} {m : MethodId} {args : Array Value} {below : List Frame} {meth : Method} {c : Code} {G : va_G} {L : List Nat} {ad : Nat → Nat} {cs : Nat → ClassId} {z : Bool} {zk zv : Nat → Nat} {r : Int32} {M' : Mm} {n : Nat} (F : Fx G L ad cs z zk zv p m meth c cX4_unsentPlace 5 (some .int) s args RX4)  (IH : PX4_unsentPlace p l e s m args below meth c G L ad cs zk r M' n) (a0 : Nat) (x1 : Int32) (x2 : Int32) (x3 : Int32) (x4 : Int32) (M : Mm) (h : (bX4_unsentPlace_1 a0 x1 x2 x3 x4 M).bind (fun q => match q with | .inl s' => itr stX4_unsentPlace n s' | .inr r => some r) = some (r, M')) (h0 : isV L a0) : AW p l e rmX4_unsentPlace s m args below meth c (MQ below (AQi G L ad cs r M') args s 0 0 (inA L ad)) G L ad cs 5 5 [some (.ref (ad a0)), some (.int x1), some (.int x2), some (.int x3), some (.int x4)] [] M := by
  unfold bX4_unsentPlace_1 at h
  refine ax_iload F dX4_unsentPlace_5 rfl ?_
  refine ax_aload_n F dX4_unsentPlace_7 rfl ?_
  refine ax_get (v := .int (M a0 2)) F (ob_V h0) rfl inGX7 2 (by decide) rfl kf_X4_29 rfl dX4_unsentPlace_8 ?_
  refine ax_icmp_ge (t := 40) F dX4_unsentPlace_11 (by decide) (fun hc => ?_) (fun hc => ?_)
  · have h := it_pos h hc
    refine ax_iconst (v := (-1 : Int32)) F dX4_unsentPlace_40 (by decide) ?_
    obtain ⟨h1, h2⟩ := rt_some h
    subst h1; subst h2
    exact ax_iret F dX4_unsentPlace_41
  · have h := it_neg h hc
    refine ax_iload_n F dX4_unsentPlace_14 rfl ?_
    refine ax_iload F dX4_unsentPlace_15 rfl ?_
    refine ax_ishr F dX4_unsentPlace_17 ?_
    refine ax_iconst (v := (1 : Int32)) F dX4_unsentPlace_18 (by decide) ?_
    refine ax_iand F dX4_unsentPlace_19 ?_
    refine ax_if_ne (t := 34) F dX4_unsentPlace_20 (by decide) (fun hc => ?_) (fun hc => ?_)
    · have h := it_neg h hc
      refine ax_iinc (v := (1 : Int32)) F dX4_unsentPlace_34 rfl (by decide) (by decide) rfl ?_
      refine ax_goto (t := 5) F dX4_unsentPlace_37 (by decide) ?_
      exact IH.2 _ _ _ _ _ _ h h0
    · have h := it_pos h hc
      refine ax_iload_n F dX4_unsentPlace_23 rfl ?_
      refine ax_iload_n F dX4_unsentPlace_24 rfl ?_
      refine ax_icmp_ne (t := 31) F dX4_unsentPlace_25 (by decide) (fun hc => ?_) (fun hc => ?_)
      · have h := it_neg h hc
        refine ax_iinc (v := (1 : Int32)) F dX4_unsentPlace_31 rfl (by decide) (by decide) rfl ?_
        refine ax_iinc (v := (1 : Int32)) F dX4_unsentPlace_34 rfl (by decide) (by decide) rfl ?_
        refine ax_goto (t := 5) F dX4_unsentPlace_37 (by decide) ?_
        exact IH.2 _ _ _ _ _ _ h h0
      · have h := it_pos h hc
        refine ax_iload F dX4_unsentPlace_28 rfl ?_
        obtain ⟨h1, h2⟩ := rt_some h
        subst h1; subst h2
        exact ax_iret F dX4_unsentPlace_30
set_option maxRecDepth 100000 in
set_option maxHeartbeats 4000000 in
theorem wX4_unsentPlace {p : Program} {l : Launch} {e : Env} {s : State} {m : MethodId} {args : Array Value} {below : List Frame} {meth : Method} {c : Code} {G : va_G} {L : List Nat} {ad : Nat → Nat} {cs : Nat → ClassId} {z : Bool} {zk zv : Nat → Nat} {r : Int32} {M' : Mm} (F : Fx G L ad cs z zk zv p m meth c cX4_unsentPlace 5 (some .int) s args RX4)  (n : Nat) : PX4_unsentPlace p l e s m args below meth c G L ad cs zk r M' n := by
  induction n with
  | zero => exact ⟨(fun a0 x1 x2 M h => by cases h), (fun a0 x1 x2 x3 x4 M h => by cases h)⟩
  | succ n ih =>
    exact ⟨fun a0 x1 x2 M h h0 => wX4_unsentPlace_0 F ih a0 x1 x2 M h h0,
      fun a0 x1 x2 x3 x4 M h h0 => wX4_unsentPlace_1 F ih a0 x1 x2 x3 x4 M h h0⟩
set_option maxRecDepth 100000 in
set_option maxHeartbeats 4000000 in
theorem tX4_unsentPlace {l : Launch} {G : va_G} {L : List Nat} {ad : Nat → Nat} {cs : Nat → ClassId} {z : Bool} {zk zv : Nat → Nat} (hinj : inj L ad)  (a0 : Nat) (x1 : Int32) (x2 : Int32) (h0 : isV L a0) (M : Mm) (r : Int32) (M' : Mm) (h : fX4_unsentPlace a0 x1 x2 M = some (r, M')) : Met l yX4_unsentPlace (tgW yX4_unsentPlace cX4_unsentPlace 5 (some .int)) rmX4_unsentPlace (APre G L ad cs z zk zv [.ref (ad a0), .int x1, .int x2] M) (AQi G L ad cs r M') 0 0 (inA L ad) := by
  refine met_of (Eq.refl true) (Nat.le_of_ble_eq_true rfl) hinj [some (.ref (ad a0)), some (.int x1), some (.int x2), none, none] rfl ?_
  intro p e s m below meth c F
  replace F : Fx G L ad cs z zk zv p m meth c cX4_unsentPlace 5 (some .int) s _ RX4 := F
  obtain ⟨n, hn⟩ := run_ex h
  exact (wX4_unsentPlace F n).1 a0 x1 x2 M hn h0
def rmX4_putDrawn : Room := { frames := 1, cells := 0, slots := 0, locals := 24 }
theorem kn_X4_putDrawn : yX4_putDrawn.cls ≠ "java/lang/invoke/MethodHandle" ∧ yX4_putDrawn.cls ≠ "java/lang/invoke/VarHandle" ∧ (parseMethodDescriptor yX4_putDrawn.desc).map (fun d => d.parameters.length) = some 2 := by decide +kernel
noncomputable def bX4_putDrawn_0 (a0 : Nat) (a1 : Nat) (a2 : Nat) (M : Mm) : Option (Sst ⊕ Rst) := some (.inl (1, [a0, a1, a2], [(0 : Int32), (M a2 2)], M))
noncomputable def bX4_putDrawn_1 (a0 : Nat) (a1 : Nat) (a2 : Nat) (x3 : Int32) (x4 : Int32) (M : Mm) : Option (Sst ⊕ Rst) := if x4 ≤ 0 then (some (.inr ((0 : Int32), M))) else (if (M a1 3) ≤ (M a0 3) then (some (.inr ((0 : Int32), M))) else (cl (fX1_draw a1 x4 M) (fun r1 M1 => cl (fX4_unsentPlace a2 x3 r1 M1) (fun r2 M2 => if r2 < 0 then (some (.inl (1, [a0, a1, a2], [x3, (x4 + (-1 : Int32))], M2))) else (if (M2 a2 2) ≤ r2 then (some (.inl (1, [a0, a1, a2], [x3, (x4 + (-1 : Int32))], M2))) else (gd (okI r2 5) (gd (okI r2 5) (cl (fX4_put a0 (M2 (a2 + 1) (ix r2)) (M2 (a2 + 2) (ix r2)) r2 M2) (fun r3 M3 => some (.inl (1, [a0, a1, a2], [(x3 ||| (ish (1 : Int32) r2)), (x4 + (-1 : Int32))], M3)))))))))))
noncomputable def stX4_putDrawn : Sst → Option (Sst ⊕ Rst) := fun q => match q.1 with
  | 0 => bX4_putDrawn_0 (q.2.1.getD 0 0) (q.2.1.getD 1 0) (q.2.1.getD 2 0) q.2.2.2
  | 1 => bX4_putDrawn_1 (q.2.1.getD 0 0) (q.2.1.getD 1 0) (q.2.1.getD 2 0) (q.2.2.1.getD 0 0) (q.2.2.1.getD 1 0) q.2.2.2
  | _ => none
noncomputable def fX4_putDrawn (a0 : Nat) (a1 : Nat) (a2 : Nat) (M : Mm) : Option Rst := run stX4_putDrawn (0, [a0, a1, a2], [], M)
def PX4_putDrawn (p : Program) (l : Launch) (e : Env) (s : State) (m : MethodId) (args : Array Value) (below : List Frame) (meth : Method) (c : Code) (G : va_G) (L : List Nat) (ad : Nat → Nat) (cs : Nat → ClassId) (zk : Nat → Nat) (r : Int32) (M' : Mm) (n : Nat) : Prop := (∀ (a0 : Nat) (a1 : Nat) (a2 : Nat) (M : Mm), itr stX4_putDrawn n (0, [a0, a1, a2], [], M) = some (r, M') → isS L a0 → isN L a1 → isV L a2 → AW p l e rmX4_putDrawn s m args below meth c (MQ below (AQv G L ad cs M') args s 0 0 (inA L ad)) G L ad cs 6 0 [some (.ref (ad a0)), some (.ref (ad a1)), some (.ref (ad a2)), none, none, none] [] M) ∧ (∀ (a0 : Nat) (a1 : Nat) (a2 : Nat) (x3 : Int32) (x4 : Int32) (M : Mm), itr stX4_putDrawn n (1, [a0, a1, a2], [x3, x4], M) = some (r, M') → isS L a0 → isN L a1 → isV L a2 → AW p l e rmX4_putDrawn s m args below meth c (MQ below (AQv G L ad cs M') args s 0 0 (inA L ad)) G L ad cs 6 8 [some (.ref (ad a0)), some (.ref (ad a1)), some (.ref (ad a2)), some (.int x3), some (.int x4), none] [] M)
set_option maxRecDepth 100000 in
set_option maxHeartbeats 4000000 in
theorem wX4_putDrawn_0 {p : Program} {l : Launch} {e : Env} {s : State} {m : MethodId} {args : Array Value} {below : List Frame} {meth : Method} {c : Code} {G : va_G} {L : List Nat} {ad : Nat → Nat} {cs : Nat → ClassId} {z : Bool} {zk zv : Nat → Nat} {r : Int32} {M' : Mm} {n : Nat} (F : Fx G L ad cs z zk zv p m meth c cX4_putDrawn 6 none s args RX4)  (IH : PX4_putDrawn p l e s m args below meth c G L ad cs zk r M' n) (a0 : Nat) (a1 : Nat) (a2 : Nat) (M : Mm) (h : (bX4_putDrawn_0 a0 a1 a2 M).bind (fun q => match q with | .inl s' => itr stX4_putDrawn n s' | .inr r => some r) = some (r, M')) (h0 : isS L a0) (h1 : isN L a1) (h2 : isV L a2) : AW p l e rmX4_putDrawn s m args below meth c (MQ below (AQv G L ad cs M') args s 0 0 (inA L ad)) G L ad cs 6 0 [some (.ref (ad a0)), some (.ref (ad a1)), some (.ref (ad a2)), none, none, none] [] M := by
  unfold bX4_putDrawn_0 at h
  refine ax_iconst (v := (0 : Int32)) F dX4_putDrawn_0 (by decide) ?_
  refine ax_istore_n F dX4_putDrawn_1 (by decide) rfl ?_
  refine ax_aload_n F dX4_putDrawn_2 rfl ?_
  refine ax_get (v := .int (M a2 2)) F (ob_V h2) rfl inGX7 2 (by decide) rfl kf_X4_29 rfl dX4_putDrawn_3 ?_
  refine ax_istore F dX4_putDrawn_6 (by decide) rfl ?_
  exact IH.2 _ _ _ _ _ _ h h0 h1 h2
set_option maxRecDepth 100000 in
set_option maxHeartbeats 4000000 in
theorem wX4_putDrawn_1 {p : Program} {l : Launch} {e : Env} {s : State} {m : MethodId} {args : Array Value} {below : List Frame} {meth : Method} {c : Code} {G : va_G} {L : List Nat} {ad : Nat → Nat} {cs : Nat → ClassId} {z : Bool} {zk zv : Nat → Nat} {r : Int32} {M' : Mm} {n : Nat} (F : Fx G L ad cs z zk zv p m meth c cX4_putDrawn 6 none s args RX4)  (IH : PX4_putDrawn p l e s m args below meth c G L ad cs zk r M' n) (a0 : Nat) (a1 : Nat) (a2 : Nat) (x3 : Int32) (x4 : Int32) (M : Mm) (h : (bX4_putDrawn_1 a0 a1 a2 x3 x4 M).bind (fun q => match q with | .inl s' => itr stX4_putDrawn n s' | .inr r => some r) = some (r, M')) (h0 : isS L a0) (h1 : isN L a1) (h2 : isV L a2) : AW p l e rmX4_putDrawn s m args below meth c (MQ below (AQv G L ad cs M') args s 0 0 (inA L ad)) G L ad cs 6 8 [some (.ref (ad a0)), some (.ref (ad a1)), some (.ref (ad a2)), some (.int x3), some (.int x4), none] [] M := by
  unfold bX4_putDrawn_1 at h
  refine ax_iload F dX4_putDrawn_8 rfl ?_
  refine ax_if_le (t := 84) F dX4_putDrawn_10 (by decide) (fun hc => ?_) (fun hc => ?_)
  · have h := it_pos h hc
    obtain ⟨h1, h2⟩ := rt_some h
    subst h2
    exact ax_vret F dX4_putDrawn_84
  · have h := it_neg h hc
    refine ax_aload_n F dX4_putDrawn_13 rfl ?_
    refine ax_get (v := .int (M a0 3)) F (ob_S h0) rfl inGX4 3 (by decide) rfl kf_X4_21 rfl dX4_putDrawn_14 ?_
    refine ax_aload_n F dX4_putDrawn_17 rfl ?_
    refine ax_get (v := .int (M a1 3)) F (ob_N h1) rfl inGX1 3 (by decide) rfl kf_X4_32 rfl dX4_putDrawn_18 ?_
    refine ax_icmp_ge (t := 84) F dX4_putDrawn_21 (by decide) (fun hc => ?_) (fun hc => ?_)
    · have h := it_pos h hc
      obtain ⟨h1, h2⟩ := rt_some h
      subst h2
      exact ax_vret F dX4_putDrawn_84
    · have h := it_neg h hc
      refine ax_aload_n F dX4_putDrawn_24 rfl ?_
      refine ax_iload_n F dX4_putDrawn_25 rfl ?_
      refine ax_aload_n F dX4_putDrawn_26 rfl ?_
      refine ax_iload F dX4_putDrawn_27 rfl ?_
      obtain ⟨r1, M1, hq1, h⟩ := cq_some h
      refine ax_callVi (As := [.int x4]) (st := [.int x3, .ref (ad a2)]) F (tX1_draw F.2.2.2.2.2.2.1 _ _ h1 _ _ _ hq1) (ob_N h1) rfl kc_X1_draw kz_X1 ki_X1_draw ks_X1_draw km_X4_37 ⟨kn_X1_draw, rfl, rfl, Nat.le_of_ble_eq_true rfl, Nat.le_of_ble_eq_true rfl⟩ rfl (Nat.le_of_ble_eq_true rfl) dX4_putDrawn_29 ?_
      obtain ⟨r2, M2, hq2, h⟩ := cq_some h
      refine ax_callSi (As := [.ref (ad a2), .int x3, .int r1]) (st := []) F (tX4_unsentPlace F.2.2.2.2.2.2.1 _ _ _ h2 _ _ _ hq2) kc_X4_unsentPlace kz_X4 kt_X4_unsentPlace km_X4_41 ⟨kn_X4_unsentPlace, rfl, rfl, Nat.le_of_ble_eq_true rfl, Nat.le_of_ble_eq_true rfl⟩ rfl (Nat.le_of_ble_eq_true rfl) dX4_putDrawn_32 ?_
      refine ax_istore F dX4_putDrawn_35 (by decide) rfl ?_
      refine ax_iload F dX4_putDrawn_37 rfl ?_
      refine ax_if_lt (t := 78) F dX4_putDrawn_39 (by decide) (fun hc => ?_) (fun hc => ?_)
      · have h := it_pos h hc
        refine ax_iinc (v := (-1 : Int32)) F dX4_putDrawn_78 rfl (by decide) (by decide) rfl ?_
        refine ax_goto (t := 8) F dX4_putDrawn_81 (by decide) ?_
        refine ax_mask [true, true, true, true, true, false] ?_
        exact IH.2 _ _ _ _ _ _ h h0 h1 h2
      · have h := it_neg h hc
        refine ax_iload F dX4_putDrawn_42 rfl ?_
        refine ax_aload_n F dX4_putDrawn_44 rfl ?_
        refine ax_get (v := .int (M2 a2 2)) F (ob_V h2) rfl inGX7 2 (by decide) rfl kf_X4_29 rfl dX4_putDrawn_45 ?_
        refine ax_icmp_ge (t := 78) F dX4_putDrawn_48 (by decide) (fun hc => ?_) (fun hc => ?_)
        · have h := it_pos h hc
          refine ax_iinc (v := (-1 : Int32)) F dX4_putDrawn_78 rfl (by decide) (by decide) rfl ?_
          refine ax_goto (t := 8) F dX4_putDrawn_81 (by decide) ?_
          refine ax_mask [true, true, true, true, true, false] ?_
          exact IH.2 _ _ _ _ _ _ h h0 h1 h2
        · have h := it_neg h hc
          refine ax_iload_n F dX4_putDrawn_51 rfl ?_
          refine ax_iconst (v := (1 : Int32)) F dX4_putDrawn_52 (by decide) ?_
          refine ax_iload F dX4_putDrawn_53 rfl ?_
          refine ax_ishl F dX4_putDrawn_55 ?_
          refine ax_ior F dX4_putDrawn_56 ?_
          refine ax_istore_n F dX4_putDrawn_57 (by decide) rfl ?_
          refine ax_aload_n F dX4_putDrawn_58 rfl ?_
          refine ax_aload_n F dX4_putDrawn_59 rfl ?_
          refine ax_get (v := .ref (ad (a2 + 1))) F (ob_V h2) rfl inGX7 0 (by decide) rfl kf_X4_45 rfl dX4_putDrawn_60 ?_
          refine ax_iload F dX4_putDrawn_63 rfl ?_
          obtain ⟨hg, h⟩ := gd_some h
          refine ax_iald F (ar_V1 h2) hg dX4_putDrawn_65 ?_
          refine ax_aload_n F dX4_putDrawn_66 rfl ?_
          refine ax_get (v := .ref (ad (a2 + 2))) F (ob_V h2) rfl inGX7 1 (by decide) rfl kf_X4_46 rfl dX4_putDrawn_67 ?_
          refine ax_iload F dX4_putDrawn_70 rfl ?_
          obtain ⟨hg, h⟩ := gd_some h
          refine ax_iald F (ar_V2 h2) hg dX4_putDrawn_72 ?_
          refine ax_iload F dX4_putDrawn_73 rfl ?_
          obtain ⟨r3, M3, hq3, h⟩ := cq_some h
          refine ax_callVv (As := [.int (M2 (a2 + 1) (ix r2)), .int (M2 (a2 + 2) (ix r2)), .int r2]) (st := []) F (tX4_put F.2.2.2.2.2.2.1 _ _ _ _ h0 _ _ _ hq3) (ob_S h0) rfl kc_X4_put kz_X4 ki_X4_put ks_X4_put km_X4_25 ⟨kn_X4_put, rfl, rfl, Nat.le_of_ble_eq_true rfl, Nat.le_of_ble_eq_true rfl⟩ rfl (Nat.le_of_ble_eq_true rfl) dX4_putDrawn_75 ?_
          refine ax_iinc (v := (-1 : Int32)) F dX4_putDrawn_78 rfl (by decide) (by decide) rfl ?_
          refine ax_goto (t := 8) F dX4_putDrawn_81 (by decide) ?_
          refine ax_mask [true, true, true, true, true, false] ?_
          exact IH.2 _ _ _ _ _ _ h h0 h1 h2
set_option maxRecDepth 100000 in
set_option maxHeartbeats 4000000 in
theorem wX4_putDrawn {p : Program} {l : Launch} {e : Env} {s : State} {m : MethodId} {args : Array Value} {below : List Frame} {meth : Method} {c : Code} {G : va_G} {L : List Nat} {ad : Nat → Nat} {cs : Nat → ClassId} {z : Bool} {zk zv : Nat → Nat} {r : Int32} {M' : Mm} (F : Fx G L ad cs z zk zv p m meth c cX4_putDrawn 6 none s args RX4)  (n : Nat) : PX4_putDrawn p l e s m args below meth c G L ad cs zk r M' n := by
  induction n with
  | zero => exact ⟨(fun a0 a1 a2 M h => by cases h), (fun a0 a1 a2 x3 x4 M h => by cases h)⟩
  | succ n ih =>
    exact ⟨fun a0 a1 a2 M h h0 h1 h2 => wX4_putDrawn_0 F ih a0 a1 a2 M h h0 h1 h2,
      fun a0 a1 a2 x3 x4 M h h0 h1 h2 => wX4_putDrawn_1 F ih a0 a1 a2 x3 x4 M h h0 h1 h2⟩
set_option maxRecDepth 100000 in
set_option maxHeartbeats 4000000 in
theorem tX4_putDrawn {l : Launch} {G : va_G} {L : List Nat} {ad : Nat → Nat} {cs : Nat → ClassId} {z : Bool} {zk zv : Nat → Nat} (hinj : inj L ad)  (a0 : Nat) (a1 : Nat) (a2 : Nat) (h0 : isS L a0) (h1 : isN L a1) (h2 : isV L a2) (M : Mm) (r : Int32) (M' : Mm) (h : fX4_putDrawn a0 a1 a2 M = some (r, M')) : Met l yX4_putDrawn (tgW yX4_putDrawn cX4_putDrawn 6 none) rmX4_putDrawn (APre G L ad cs z zk zv [.ref (ad a0), .ref (ad a1), .ref (ad a2)] M) (AQv G L ad cs M') 0 0 (inA L ad) := by
  refine met_of (Eq.refl true) (Nat.le_of_ble_eq_true rfl) hinj [some (.ref (ad a0)), some (.ref (ad a1)), some (.ref (ad a2)), none, none, none] rfl ?_
  intro p e s m below meth c F
  replace F : Fx G L ad cs z zk zv p m meth c cX4_putDrawn 6 none s _ RX4 := F
  obtain ⟨n, hn⟩ := run_ex h
  exact (wX4_putDrawn F n).1 a0 a1 a2 M hn h0 h1 h2
def rmX4_giveUpPlace : Room := { frames := 0, cells := 0, slots := 0, locals := 0 }
theorem kn_X4_giveUpPlace : yX4_giveUpPlace.cls ≠ "java/lang/invoke/MethodHandle" ∧ yX4_giveUpPlace.cls ≠ "java/lang/invoke/VarHandle" ∧ (parseMethodDescriptor yX4_giveUpPlace.desc).map (fun d => d.parameters.length) = some 0 := by decide +kernel
noncomputable def bX4_giveUpPlace_0 (a0 : Nat) (M : Mm) : Option (Sst ⊕ Rst) := some (.inl (1, [a0], [(0 : Int32)], M))
noncomputable def bX4_giveUpPlace_1 (a0 : Nat) (x1 : Int32) (M : Mm) : Option (Sst ⊕ Rst) := if (M a0 3) ≤ x1 then (some (.inr ((-1 : Int32), M))) else (gd (okI x1 5) (if (M (a0 + 3) (ix x1)) = (-1 : Int32) then (some (.inl (1, [a0], [(x1 + (1 : Int32))], M))) else (gd (okI x1 5) (some (.inr ((M (a0 + 3) (ix x1)), (up2 M (a0 + 3) (ix x1) (-1 : Int32))))))))
noncomputable def stX4_giveUpPlace : Sst → Option (Sst ⊕ Rst) := fun q => match q.1 with
  | 0 => bX4_giveUpPlace_0 (q.2.1.getD 0 0) q.2.2.2
  | 1 => bX4_giveUpPlace_1 (q.2.1.getD 0 0) (q.2.2.1.getD 0 0) q.2.2.2
  | _ => none
noncomputable def fX4_giveUpPlace (a0 : Nat) (M : Mm) : Option Rst := run stX4_giveUpPlace (0, [a0], [], M)
def PX4_giveUpPlace (p : Program) (l : Launch) (e : Env) (s : State) (m : MethodId) (args : Array Value) (below : List Frame) (meth : Method) (c : Code) (G : va_G) (L : List Nat) (ad : Nat → Nat) (cs : Nat → ClassId) (zk : Nat → Nat) (r : Int32) (M' : Mm) (n : Nat) : Prop := (∀ (a0 : Nat) (M : Mm), itr stX4_giveUpPlace n (0, [a0], [], M) = some (r, M') → isS L a0 → AW p l e rmX4_giveUpPlace s m args below meth c (MQ below (AQi G L ad cs r M') args s 0 0 (inA L ad)) G L ad cs 3 0 [some (.ref (ad a0)), none, none] [] M) ∧ (∀ (a0 : Nat) (x1 : Int32) (M : Mm), itr stX4_giveUpPlace n (1, [a0], [x1], M) = some (r, M') → isS L a0 → AW p l e rmX4_giveUpPlace s m args below meth c (MQ below (AQi G L ad cs r M') args s 0 0 (inA L ad)) G L ad cs 3 2 [some (.ref (ad a0)), some (.int x1), none] [] M)
set_option maxRecDepth 100000 in
set_option maxHeartbeats 4000000 in
theorem wX4_giveUpPlace_0 {p : Program} {l : Launch} {e : Env} {s : State} {m : MethodId} {args : Array Value} {below : List Frame} {meth : Method} {c : Code} {G : va_G} {L : List Nat} {ad : Nat → Nat} {cs : Nat → ClassId} {z : Bool} {zk zv : Nat → Nat} {r : Int32} {M' : Mm} {n : Nat} (F : Fx G L ad cs z zk zv p m meth c cX4_giveUpPlace 3 (some .int) s args RX4)  (IH : PX4_giveUpPlace p l e s m args below meth c G L ad cs zk r M' n) (a0 : Nat) (M : Mm) (h : (bX4_giveUpPlace_0 a0 M).bind (fun q => match q with | .inl s' => itr stX4_giveUpPlace n s' | .inr r => some r) = some (r, M')) (h0 : isS L a0) : AW p l e rmX4_giveUpPlace s m args below meth c (MQ below (AQi G L ad cs r M') args s 0 0 (inA L ad)) G L ad cs 3 0 [some (.ref (ad a0)), none, none] [] M := by
  unfold bX4_giveUpPlace_0 at h
  refine ax_iconst (v := (0 : Int32)) F dX4_giveUpPlace_0 (by decide) ?_
  refine ax_istore_n F dX4_giveUpPlace_1 (by decide) rfl ?_
  exact IH.2 _ _ _ h h0
set_option maxRecDepth 100000 in
set_option maxHeartbeats 4000000 in
theorem wX4_giveUpPlace_1 {p : Program} {l : Launch} {e : Env} {s : State} {m : MethodId} {args : Array Value} {below : List Frame} {meth : Method} {c : Code} {G : va_G} {L : List Nat} {ad : Nat → Nat} {cs : Nat → ClassId} {z : Bool} {zk zv : Nat → Nat} {r : Int32} {M' : Mm} {n : Nat} (F : Fx G L ad cs z zk zv p m meth c cX4_giveUpPlace 3 (some .int) s args RX4)  (IH : PX4_giveUpPlace p l e s m args below meth c G L ad cs zk r M' n) (a0 : Nat) (x1 : Int32) (M : Mm) (h : (bX4_giveUpPlace_1 a0 x1 M).bind (fun q => match q with | .inl s' => itr stX4_giveUpPlace n s' | .inr r => some r) = some (r, M')) (h0 : isS L a0) : AW p l e rmX4_giveUpPlace s m args below meth c (MQ below (AQi G L ad cs r M') args s 0 0 (inA L ad)) G L ad cs 3 2 [some (.ref (ad a0)), some (.int x1), none] [] M := by
  unfold bX4_giveUpPlace_1 at h
  refine ax_iload_n F dX4_giveUpPlace_2 rfl ?_
  refine ax_aload_n F dX4_giveUpPlace_3 rfl ?_
  refine ax_get (v := .int (M a0 3)) F (ob_S h0) rfl inGX4 3 (by decide) rfl kf_X4_21 rfl dX4_giveUpPlace_4 ?_
  refine ax_icmp_ge (t := 37) F dX4_giveUpPlace_7 (by decide) (fun hc => ?_) (fun hc => ?_)
  · have h := it_pos h hc
    refine ax_iconst (v := (-1 : Int32)) F dX4_giveUpPlace_37 (by decide) ?_
    obtain ⟨h1, h2⟩ := rt_some h
    subst h1; subst h2
    exact ax_iret F dX4_giveUpPlace_38
  · have h := it_neg h hc
    refine ax_aload_n F dX4_giveUpPlace_10 rfl ?_
    refine ax_get (v := .ref (ad (a0 + 3))) F (ob_S h0) rfl inGX4 2 (by decide) rfl kf_X4_18 rfl dX4_giveUpPlace_11 ?_
    refine ax_iload_n F dX4_giveUpPlace_14 rfl ?_
    obtain ⟨hg, h⟩ := gd_some h
    refine ax_iald F (ar_S3 h0) hg dX4_giveUpPlace_15 ?_
    refine ax_istore_n F dX4_giveUpPlace_16 (by decide) rfl ?_
    refine ax_iload_n F dX4_giveUpPlace_17 rfl ?_
    refine ax_iconst (v := (-1 : Int32)) F dX4_giveUpPlace_18 (by decide) ?_
    refine ax_icmp_eq (t := 31) F dX4_giveUpPlace_19 (by decide) (fun hc => ?_) (fun hc => ?_)
    · have h := it_pos h hc
      refine ax_iinc (v := (1 : Int32)) F dX4_giveUpPlace_31 rfl (by decide) (by decide) rfl ?_
      refine ax_goto (t := 2) F dX4_giveUpPlace_34 (by decide) ?_
      refine ax_mask [true, true, false] ?_
      exact IH.2 _ _ _ h h0
    · have h := it_neg h hc
      refine ax_aload_n F dX4_giveUpPlace_22 rfl ?_
      refine ax_get (v := .ref (ad (a0 + 3))) F (ob_S h0) rfl inGX4 2 (by decide) rfl kf_X4_18 rfl dX4_giveUpPlace_23 ?_
      refine ax_iload_n F dX4_giveUpPlace_26 rfl ?_
      refine ax_iconst (v := (-1 : Int32)) F dX4_giveUpPlace_27 (by decide) ?_
      obtain ⟨hg, h⟩ := gd_some h
      refine ax_iast F (ar_S3 h0) hg dX4_giveUpPlace_28 ?_
      refine ax_iload_n F dX4_giveUpPlace_29 rfl ?_
      obtain ⟨h1, h2⟩ := rt_some h
      subst h1; subst h2
      exact ax_iret F dX4_giveUpPlace_30
set_option maxRecDepth 100000 in
set_option maxHeartbeats 4000000 in
theorem wX4_giveUpPlace {p : Program} {l : Launch} {e : Env} {s : State} {m : MethodId} {args : Array Value} {below : List Frame} {meth : Method} {c : Code} {G : va_G} {L : List Nat} {ad : Nat → Nat} {cs : Nat → ClassId} {z : Bool} {zk zv : Nat → Nat} {r : Int32} {M' : Mm} (F : Fx G L ad cs z zk zv p m meth c cX4_giveUpPlace 3 (some .int) s args RX4)  (n : Nat) : PX4_giveUpPlace p l e s m args below meth c G L ad cs zk r M' n := by
  induction n with
  | zero => exact ⟨(fun a0 M h => by cases h), (fun a0 x1 M h => by cases h)⟩
  | succ n ih =>
    exact ⟨fun a0 M h h0 => wX4_giveUpPlace_0 F ih a0 M h h0,
      fun a0 x1 M h h0 => wX4_giveUpPlace_1 F ih a0 x1 M h h0⟩
set_option maxRecDepth 100000 in
set_option maxHeartbeats 4000000 in
theorem tX4_giveUpPlace {l : Launch} {G : va_G} {L : List Nat} {ad : Nat → Nat} {cs : Nat → ClassId} {z : Bool} {zk zv : Nat → Nat} (hinj : inj L ad)  (a0 : Nat) (h0 : isS L a0) (M : Mm) (r : Int32) (M' : Mm) (h : fX4_giveUpPlace a0 M = some (r, M')) : Met l yX4_giveUpPlace (tgW yX4_giveUpPlace cX4_giveUpPlace 3 (some .int)) rmX4_giveUpPlace (APre G L ad cs z zk zv [.ref (ad a0)] M) (AQi G L ad cs r M') 0 0 (inA L ad) := by
  refine met_of (Eq.refl true) (Nat.le_of_ble_eq_true rfl) hinj [some (.ref (ad a0)), none, none] rfl ?_
  intro p e s m below meth c F
  replace F : Fx G L ad cs z zk zv p m meth c cX4_giveUpPlace 3 (some .int) s _ RX4 := F
  obtain ⟨n, hn⟩ := run_ex h
  exact (wX4_giveUpPlace F n).1 a0 M hn h0
def rmX7_growOlder : Room := { frames := 1, cells := 0, slots := 0, locals := 15 }
theorem kn_X7_growOlder : yX7_growOlder.cls ≠ "java/lang/invoke/MethodHandle" ∧ yX7_growOlder.cls ≠ "java/lang/invoke/VarHandle" ∧ (parseMethodDescriptor yX7_growOlder.desc).map (fun d => d.parameters.length) = some 0 := by decide +kernel
noncomputable def bX7_growOlder_0 (a0 : Nat) (M : Mm) : Option (Sst ⊕ Rst) := some (.inl (1, [a0], [(0 : Int32)], M))
noncomputable def bX7_growOlder_1 (a0 : Nat) (x1 : Int32) (M : Mm) : Option (Sst ⊕ Rst) := if (M a0 2) ≤ x1 then (some (.inr ((0 : Int32), M))) else (gd (okI x1 5) (gd (okI x1 5) (some (.inl (1, [a0], [(x1 + (1 : Int32))], (up2 M (a0 + 2) (ix x1) (imin ((M (a0 + 2) (ix x1)) + (1 : Int32)) (99 : Int32))))))))
noncomputable def stX7_growOlder : Sst → Option (Sst ⊕ Rst) := fun q => match q.1 with
  | 0 => bX7_growOlder_0 (q.2.1.getD 0 0) q.2.2.2
  | 1 => bX7_growOlder_1 (q.2.1.getD 0 0) (q.2.2.1.getD 0 0) q.2.2.2
  | _ => none
noncomputable def fX7_growOlder (a0 : Nat) (M : Mm) : Option Rst := run stX7_growOlder (0, [a0], [], M)
def PX7_growOlder (p : Program) (l : Launch) (e : Env) (s : State) (m : MethodId) (args : Array Value) (below : List Frame) (meth : Method) (c : Code) (G : va_G) (L : List Nat) (ad : Nat → Nat) (cs : Nat → ClassId) (zk : Nat → Nat) (r : Int32) (M' : Mm) (n : Nat) : Prop := (∀ (a0 : Nat) (M : Mm), itr stX7_growOlder n (0, [a0], [], M) = some (r, M') → isV L a0 → AW p l e rmX7_growOlder s m args below meth c (MQ below (AQv G L ad cs M') args s 0 0 (inA L ad)) G L ad cs 2 0 [some (.ref (ad a0)), none] [] M) ∧ (∀ (a0 : Nat) (x1 : Int32) (M : Mm), itr stX7_growOlder n (1, [a0], [x1], M) = some (r, M') → isV L a0 → AW p l e rmX7_growOlder s m args below meth c (MQ below (AQv G L ad cs M') args s 0 0 (inA L ad)) G L ad cs 2 2 [some (.ref (ad a0)), some (.int x1)] [] M)
set_option maxRecDepth 100000 in
set_option maxHeartbeats 4000000 in
theorem wX7_growOlder_0 {p : Program} {l : Launch} {e : Env} {s : State} {m : MethodId} {args : Array Value} {below : List Frame} {meth : Method} {c : Code} {G : va_G} {L : List Nat} {ad : Nat → Nat} {cs : Nat → ClassId} {z : Bool} {zk zv : Nat → Nat} {r : Int32} {M' : Mm} {n : Nat} (F : Fx G L ad cs z zk zv p m meth c cX7_growOlder 2 none s args RX7)  (IH : PX7_growOlder p l e s m args below meth c G L ad cs zk r M' n) (a0 : Nat) (M : Mm) (h : (bX7_growOlder_0 a0 M).bind (fun q => match q with | .inl s' => itr stX7_growOlder n s' | .inr r => some r) = some (r, M')) (h0 : isV L a0) : AW p l e rmX7_growOlder s m args below meth c (MQ below (AQv G L ad cs M') args s 0 0 (inA L ad)) G L ad cs 2 0 [some (.ref (ad a0)), none] [] M := by
  unfold bX7_growOlder_0 at h
  refine ax_iconst (v := (0 : Int32)) F dX7_growOlder_0 (by decide) ?_
  refine ax_istore_n F dX7_growOlder_1 (by decide) rfl ?_
  exact IH.2 _ _ _ h h0
set_option maxRecDepth 100000 in
set_option maxHeartbeats 4000000 in
theorem wX7_growOlder_1 {p : Program} {l : Launch} {e : Env} {s : State} {m : MethodId} {args : Array Value} {below : List Frame} {meth : Method} {c : Code} {G : va_G} {L : List Nat} {ad : Nat → Nat} {cs : Nat → ClassId} {z : Bool} {zk zv : Nat → Nat} {r : Int32} {M' : Mm} {n : Nat} (F : Fx G L ad cs z zk zv p m meth c cX7_growOlder 2 none s args RX7)  (IH : PX7_growOlder p l e s m args below meth c G L ad cs zk r M' n) (a0 : Nat) (x1 : Int32) (M : Mm) (h : (bX7_growOlder_1 a0 x1 M).bind (fun q => match q with | .inl s' => itr stX7_growOlder n s' | .inr r => some r) = some (r, M')) (h0 : isV L a0) : AW p l e rmX7_growOlder s m args below meth c (MQ below (AQv G L ad cs M') args s 0 0 (inA L ad)) G L ad cs 2 2 [some (.ref (ad a0)), some (.int x1)] [] M := by
  unfold bX7_growOlder_1 at h
  refine ax_iload_n F dX7_growOlder_2 rfl ?_
  refine ax_aload_n F dX7_growOlder_3 rfl ?_
  refine ax_get (v := .int (M a0 2)) F (ob_V h0) rfl inGX7 2 (by decide) rfl kf_X7_18 rfl dX7_growOlder_4 ?_
  refine ax_icmp_ge (t := 35) F dX7_growOlder_7 (by decide) (fun hc => ?_) (fun hc => ?_)
  · have h := it_pos h hc
    obtain ⟨h1, h2⟩ := rt_some h
    subst h2
    exact ax_vret F dX7_growOlder_35
  · have h := it_neg h hc
    refine ax_aload_n F dX7_growOlder_10 rfl ?_
    refine ax_get (v := .ref (ad (a0 + 2))) F (ob_V h0) rfl inGX7 1 (by decide) rfl kf_X7_15 rfl dX7_growOlder_11 ?_
    refine ax_iload_n F dX7_growOlder_14 rfl ?_
    refine ax_aload_n F dX7_growOlder_15 rfl ?_
    refine ax_get (v := .ref (ad (a0 + 2))) F (ob_V h0) rfl inGX7 1 (by decide) rfl kf_X7_15 rfl dX7_growOlder_16 ?_
    refine ax_iload_n F dX7_growOlder_19 rfl ?_
    obtain ⟨hg, h⟩ := gd_some h
    refine ax_iald F (ar_V2 h0) hg dX7_growOlder_20 ?_
    refine ax_iconst (v := (1 : Int32)) F dX7_growOlder_21 (by decide) ?_
    refine ax_iadd F dX7_growOlder_22 ?_
    refine ax_bipush (v := (99 : Int32)) F dX7_growOlder_23 (by decide) ?_
    refine ax_min F km_X7_26 (kt_J9_min_7cf53) kz_J9 (kc_J9_min_7cf53) (Nat.le_of_ble_eq_true rfl) (Nat.le_of_ble_eq_true rfl) dX7_growOlder_25 ?_
    obtain ⟨hg, h⟩ := gd_some h
    refine ax_iast F (ar_V2 h0) hg dX7_growOlder_28 ?_
    refine ax_iinc (v := (1 : Int32)) F dX7_growOlder_29 rfl (by decide) (by decide) rfl ?_
    refine ax_goto (t := 2) F dX7_growOlder_32 (by decide) ?_
    exact IH.2 _ _ _ h h0
set_option maxRecDepth 100000 in
set_option maxHeartbeats 4000000 in
theorem wX7_growOlder {p : Program} {l : Launch} {e : Env} {s : State} {m : MethodId} {args : Array Value} {below : List Frame} {meth : Method} {c : Code} {G : va_G} {L : List Nat} {ad : Nat → Nat} {cs : Nat → ClassId} {z : Bool} {zk zv : Nat → Nat} {r : Int32} {M' : Mm} (F : Fx G L ad cs z zk zv p m meth c cX7_growOlder 2 none s args RX7)  (n : Nat) : PX7_growOlder p l e s m args below meth c G L ad cs zk r M' n := by
  induction n with
  | zero => exact ⟨(fun a0 M h => by cases h), (fun a0 x1 M h => by cases h)⟩
  | succ n ih =>
    exact ⟨fun a0 M h h0 => wX7_growOlder_0 F ih a0 M h h0,
      fun a0 x1 M h h0 => wX7_growOlder_1 F ih a0 x1 M h h0⟩
set_option maxRecDepth 100000 in
set_option maxHeartbeats 4000000 in
theorem tX7_growOlder {l : Launch} {G : va_G} {L : List Nat} {ad : Nat → Nat} {cs : Nat → ClassId} {z : Bool} {zk zv : Nat → Nat} (hinj : inj L ad)  (a0 : Nat) (h0 : isV L a0) (M : Mm) (r : Int32) (M' : Mm) (h : fX7_growOlder a0 M = some (r, M')) : Met l yX7_growOlder (tgW yX7_growOlder cX7_growOlder 2 none) rmX7_growOlder (APre G L ad cs z zk zv [.ref (ad a0)] M) (AQv G L ad cs M') 0 0 (inA L ad) := by
  refine met_of (Eq.refl true) (Nat.le_of_ble_eq_true rfl) hinj [some (.ref (ad a0)), none] rfl ?_
  intro p e s m below meth c F
  replace F : Fx G L ad cs z zk zv p m meth c cX7_growOlder 2 none s _ RX7 := F
  obtain ⟨n, hn⟩ := run_ex h
  exact (wX7_growOlder F n).1 a0 M hn h0
noncomputable def fX7_isAskedBefore (a0 : Nat) (x1 : Int32) (x2 : Int32) (M : Mm) : Option Rst := if x1 < 0 then (some ((0 : Int32), M)) else (if (M a0 2) ≤ x1 then (some ((0 : Int32), M)) else (if x2 < 0 then (some ((0 : Int32), M)) else (if x2 < (M a0 2) then (gd (okI x1 5) (gd (okI x2 5) (if (M (a0 + 2) (ix x2)) < (M (a0 + 2) (ix x1)) then (some ((1 : Int32), M)) else (gd (okI x1 5) (gd (okI x2 5) (if (M (a0 + 2) (ix x1)) = (M (a0 + 2) (ix x2)) then (gd (okI x1 5) (gd (okI x2 5) (if (M (a0 + 1) (ix x2)) ≤ (M (a0 + 1) (ix x1)) then (some ((0 : Int32), M)) else (some ((1 : Int32), M))))) else (some ((0 : Int32), M)))))))) else (some ((0 : Int32), M)))))
def rmX7_isAskedBefore : Room := { frames := 0, cells := 0, slots := 0, locals := 0 }
theorem kn_X7_isAskedBefore : yX7_isAskedBefore.cls ≠ "java/lang/invoke/MethodHandle" ∧ yX7_isAskedBefore.cls ≠ "java/lang/invoke/VarHandle" ∧ (parseMethodDescriptor yX7_isAskedBefore.desc).map (fun d => d.parameters.length) = some 2 := by decide +kernel
set_option maxRecDepth 100000 in
set_option maxHeartbeats 4000000 in
theorem tX7_isAskedBefore {l : Launch} {G : va_G} {L : List Nat} {ad : Nat → Nat} {cs : Nat → ClassId} {z : Bool} {zk zv : Nat → Nat} (hinj : inj L ad)  (a0 : Nat) (x1 : Int32) (x2 : Int32) (h0 : isV L a0) (M : Mm) (r : Int32) (M' : Mm) (h : fX7_isAskedBefore a0 x1 x2 M = some (r, M')) : Met l yX7_isAskedBefore (tgW yX7_isAskedBefore cX7_isAskedBefore 3 (some .boolean)) rmX7_isAskedBefore (APre G L ad cs z zk zv [.ref (ad a0), .int x1, .int x2] M) (AQi G L ad cs r M') 0 0 (inA L ad) := by
  refine met_of (Eq.refl true) (Nat.le_of_ble_eq_true rfl) hinj [some (.ref (ad a0)), some (.int x1), some (.int x2)] rfl ?_
  intro p e s m below meth c F
  replace F : Fx G L ad cs z zk zv p m meth c cX7_isAskedBefore 3 (some .boolean) s _ RX7 := F
  unfold fX7_isAskedBefore at h
  refine ax_iload_n F dX7_isAskedBefore_0 rfl ?_
  refine ax_if_lt (t := 24) F dX7_isAskedBefore_1 (by decide) (fun hc => ?_) (fun hc => ?_)
  · have h := it_pos0 h hc
    refine ax_iconst (v := (0 : Int32)) F dX7_isAskedBefore_24 (by decide) ?_
    obtain ⟨h1, h2⟩ := rt_some0 h
    subst h1; subst h2
    exact ax_zret F (by decide) dX7_isAskedBefore_25
  · have h := it_neg0 h hc
    refine ax_iload_n F dX7_isAskedBefore_4 rfl ?_
    refine ax_aload_n F dX7_isAskedBefore_5 rfl ?_
    refine ax_get (v := .int (M a0 2)) F (ob_V h0) rfl inGX7 2 (by decide) rfl kf_X7_18 rfl dX7_isAskedBefore_6 ?_
    refine ax_icmp_ge (t := 24) F dX7_isAskedBefore_9 (by decide) (fun hc => ?_) (fun hc => ?_)
    · have h := it_pos0 h hc
      refine ax_iconst (v := (0 : Int32)) F dX7_isAskedBefore_24 (by decide) ?_
      obtain ⟨h1, h2⟩ := rt_some0 h
      subst h1; subst h2
      exact ax_zret F (by decide) dX7_isAskedBefore_25
    · have h := it_neg0 h hc
      refine ax_iload_n F dX7_isAskedBefore_12 rfl ?_
      refine ax_if_lt (t := 24) F dX7_isAskedBefore_13 (by decide) (fun hc => ?_) (fun hc => ?_)
      · have h := it_pos0 h hc
        refine ax_iconst (v := (0 : Int32)) F dX7_isAskedBefore_24 (by decide) ?_
        obtain ⟨h1, h2⟩ := rt_some0 h
        subst h1; subst h2
        exact ax_zret F (by decide) dX7_isAskedBefore_25
      · have h := it_neg0 h hc
        refine ax_iload_n F dX7_isAskedBefore_16 rfl ?_
        refine ax_aload_n F dX7_isAskedBefore_17 rfl ?_
        refine ax_get (v := .int (M a0 2)) F (ob_V h0) rfl inGX7 2 (by decide) rfl kf_X7_18 rfl dX7_isAskedBefore_18 ?_
        refine ax_icmp_lt (t := 26) F dX7_isAskedBefore_21 (by decide) (fun hc => ?_) (fun hc => ?_)
        · have h := it_pos0 h hc
          refine ax_aload_n F dX7_isAskedBefore_26 rfl ?_
          refine ax_get (v := .ref (ad (a0 + 2))) F (ob_V h0) rfl inGX7 1 (by decide) rfl kf_X7_15 rfl dX7_isAskedBefore_27 ?_
          refine ax_iload_n F dX7_isAskedBefore_30 rfl ?_
          obtain ⟨hg, h⟩ := gd_some0 h
          refine ax_iald F (ar_V2 h0) hg dX7_isAskedBefore_31 ?_
          refine ax_aload_n F dX7_isAskedBefore_32 rfl ?_
          refine ax_get (v := .ref (ad (a0 + 2))) F (ob_V h0) rfl inGX7 1 (by decide) rfl kf_X7_15 rfl dX7_isAskedBefore_33 ?_
          refine ax_iload_n F dX7_isAskedBefore_36 rfl ?_
          obtain ⟨hg, h⟩ := gd_some0 h
          refine ax_iald F (ar_V2 h0) hg dX7_isAskedBefore_37 ?_
          refine ax_icmp_gt (t := 71) F dX7_isAskedBefore_38 (by decide) (fun hc => ?_) (fun hc => ?_)
          · have h := it_pos0 h hc
            refine ax_iconst (v := (1 : Int32)) F dX7_isAskedBefore_71 (by decide) ?_
            refine ax_goto (t := 76) F dX7_isAskedBefore_72 (by decide) ?_
            obtain ⟨h1, h2⟩ := rt_some0 h
            subst h1; subst h2
            exact ax_zret F (by decide) dX7_isAskedBefore_76
          · have h := it_neg0 h hc
            refine ax_aload_n F dX7_isAskedBefore_41 rfl ?_
            refine ax_get (v := .ref (ad (a0 + 2))) F (ob_V h0) rfl inGX7 1 (by decide) rfl kf_X7_15 rfl dX7_isAskedBefore_42 ?_
            refine ax_iload_n F dX7_isAskedBefore_45 rfl ?_
            obtain ⟨hg, h⟩ := gd_some0 h
            refine ax_iald F (ar_V2 h0) hg dX7_isAskedBefore_46 ?_
            refine ax_aload_n F dX7_isAskedBefore_47 rfl ?_
            refine ax_get (v := .ref (ad (a0 + 2))) F (ob_V h0) rfl inGX7 1 (by decide) rfl kf_X7_15 rfl dX7_isAskedBefore_48 ?_
            refine ax_iload_n F dX7_isAskedBefore_51 rfl ?_
            obtain ⟨hg, h⟩ := gd_some0 h
            refine ax_iald F (ar_V2 h0) hg dX7_isAskedBefore_52 ?_
            refine ax_icmp_ne (t := 75) F dX7_isAskedBefore_53 (by decide) (fun hc => ?_) (fun hc => ?_)
            · have h := it_neg0 h hc
              refine ax_iconst (v := (0 : Int32)) F dX7_isAskedBefore_75 (by decide) ?_
              obtain ⟨h1, h2⟩ := rt_some0 h
              subst h1; subst h2
              exact ax_zret F (by decide) dX7_isAskedBefore_76
            · have h := it_pos0 h hc
              refine ax_aload_n F dX7_isAskedBefore_56 rfl ?_
              refine ax_get (v := .ref (ad (a0 + 1))) F (ob_V h0) rfl inGX7 0 (by decide) rfl kf_X7_9 rfl dX7_isAskedBefore_57 ?_
              refine ax_iload_n F dX7_isAskedBefore_60 rfl ?_
              obtain ⟨hg, h⟩ := gd_some0 h
              refine ax_iald F (ar_V1 h0) hg dX7_isAskedBefore_61 ?_
              refine ax_aload_n F dX7_isAskedBefore_62 rfl ?_
              refine ax_get (v := .ref (ad (a0 + 1))) F (ob_V h0) rfl inGX7 0 (by decide) rfl kf_X7_9 rfl dX7_isAskedBefore_63 ?_
              refine ax_iload_n F dX7_isAskedBefore_66 rfl ?_
              obtain ⟨hg, h⟩ := gd_some0 h
              refine ax_iald F (ar_V1 h0) hg dX7_isAskedBefore_67 ?_
              refine ax_icmp_ge (t := 75) F dX7_isAskedBefore_68 (by decide) (fun hc => ?_) (fun hc => ?_)
              · have h := it_pos0 h hc
                refine ax_iconst (v := (0 : Int32)) F dX7_isAskedBefore_75 (by decide) ?_
                obtain ⟨h1, h2⟩ := rt_some0 h
                subst h1; subst h2
                exact ax_zret F (by decide) dX7_isAskedBefore_76
              · have h := it_neg0 h hc
                refine ax_iconst (v := (1 : Int32)) F dX7_isAskedBefore_71 (by decide) ?_
                refine ax_goto (t := 76) F dX7_isAskedBefore_72 (by decide) ?_
                obtain ⟨h1, h2⟩ := rt_some0 h
                subst h1; subst h2
                exact ax_zret F (by decide) dX7_isAskedBefore_76
        · have h := it_neg0 h hc
          refine ax_iconst (v := (0 : Int32)) F dX7_isAskedBefore_24 (by decide) ?_
          obtain ⟨h1, h2⟩ := rt_some0 h
          subst h1; subst h2
          exact ax_zret F (by decide) dX7_isAskedBefore_25
def rmX7_placeOfOldest : Room := { frames := 1, cells := 0, slots := 0, locals := 22 }
theorem kn_X7_placeOfOldest : yX7_placeOfOldest.cls ≠ "java/lang/invoke/MethodHandle" ∧ yX7_placeOfOldest.cls ≠ "java/lang/invoke/VarHandle" ∧ (parseMethodDescriptor yX7_placeOfOldest.desc).map (fun d => d.parameters.length) = some 0 := by decide +kernel
noncomputable def bX7_placeOfOldest_0 (a0 : Nat) (M : Mm) : Option (Sst ⊕ Rst) := some (.inl (1, [a0], [(-1 : Int32), (0 : Int32)], M))
noncomputable def bX7_placeOfOldest_1 (a0 : Nat) (x1 : Int32) (x2 : Int32) (M : Mm) : Option (Sst ⊕ Rst) := if (M a0 2) ≤ x2 then (some (.inr (x1, M))) else (if x1 = (-1 : Int32) then (some (.inl (1, [a0], [x2, (x2 + (1 : Int32))], M))) else (cl (fX7_isAskedBefore a0 x2 x1 M) (fun r1 M1 => if r1 = 0 then (some (.inl (1, [a0], [x1, (x2 + (1 : Int32))], M1))) else (some (.inl (1, [a0], [x2, (x2 + (1 : Int32))], M1))))))
noncomputable def stX7_placeOfOldest : Sst → Option (Sst ⊕ Rst) := fun q => match q.1 with
  | 0 => bX7_placeOfOldest_0 (q.2.1.getD 0 0) q.2.2.2
  | 1 => bX7_placeOfOldest_1 (q.2.1.getD 0 0) (q.2.2.1.getD 0 0) (q.2.2.1.getD 1 0) q.2.2.2
  | _ => none
noncomputable def fX7_placeOfOldest (a0 : Nat) (M : Mm) : Option Rst := run stX7_placeOfOldest (0, [a0], [], M)
def PX7_placeOfOldest (p : Program) (l : Launch) (e : Env) (s : State) (m : MethodId) (args : Array Value) (below : List Frame) (meth : Method) (c : Code) (G : va_G) (L : List Nat) (ad : Nat → Nat) (cs : Nat → ClassId) (zk : Nat → Nat) (r : Int32) (M' : Mm) (n : Nat) : Prop := (∀ (a0 : Nat) (M : Mm), itr stX7_placeOfOldest n (0, [a0], [], M) = some (r, M') → isV L a0 → AW p l e rmX7_placeOfOldest s m args below meth c (MQ below (AQi G L ad cs r M') args s 0 0 (inA L ad)) G L ad cs 3 0 [some (.ref (ad a0)), none, none] [] M) ∧ (∀ (a0 : Nat) (x1 : Int32) (x2 : Int32) (M : Mm), itr stX7_placeOfOldest n (1, [a0], [x1, x2], M) = some (r, M') → isV L a0 → AW p l e rmX7_placeOfOldest s m args below meth c (MQ below (AQi G L ad cs r M') args s 0 0 (inA L ad)) G L ad cs 3 4 [some (.ref (ad a0)), some (.int x1), some (.int x2)] [] M)
set_option maxRecDepth 100000 in
set_option maxHeartbeats 4000000 in
theorem wX7_placeOfOldest_0 {p : Program} {l : Launch} {e : Env} {s : State} {m : MethodId} {args : Array Value} {below : List Frame} {meth : Method} {c : Code} {G : va_G} {L : List Nat} {ad : Nat → Nat} {cs : Nat → ClassId} {z : Bool} {zk zv : Nat → Nat} {r : Int32} {M' : Mm} {n : Nat} (F : Fx G L ad cs z zk zv p m meth c cX7_placeOfOldest 3 (some .int) s args RX7)  (IH : PX7_placeOfOldest p l e s m args below meth c G L ad cs zk r M' n) (a0 : Nat) (M : Mm) (h : (bX7_placeOfOldest_0 a0 M).bind (fun q => match q with | .inl s' => itr stX7_placeOfOldest n s' | .inr r => some r) = some (r, M')) (h0 : isV L a0) : AW p l e rmX7_placeOfOldest s m args below meth c (MQ below (AQi G L ad cs r M') args s 0 0 (inA L ad)) G L ad cs 3 0 [some (.ref (ad a0)), none, none] [] M := by
  unfold bX7_placeOfOldest_0 at h
  refine ax_iconst (v := (-1 : Int32)) F dX7_placeOfOldest_0 (by decide) ?_
  refine ax_istore_n F dX7_placeOfOldest_1 (by decide) rfl ?_
  refine ax_iconst (v := (0 : Int32)) F dX7_placeOfOldest_2 (by decide) ?_
  refine ax_istore_n F dX7_placeOfOldest_3 (by decide) rfl ?_
  exact IH.2 _ _ _ _ h h0
set_option maxRecDepth 100000 in
set_option maxHeartbeats 4000000 in
theorem wX7_placeOfOldest_1 {p : Program} {l : Launch} {e : Env} {s : State} {m : MethodId} {args : Array Value} {below : List Frame} {meth : Method} {c : Code} {G : va_G} {L : List Nat} {ad : Nat → Nat} {cs : Nat → ClassId} {z : Bool} {zk zv : Nat → Nat} {r : Int32} {M' : Mm} {n : Nat} (F : Fx G L ad cs z zk zv p m meth c cX7_placeOfOldest 3 (some .int) s args RX7)  (IH : PX7_placeOfOldest p l e s m args below meth c G L ad cs zk r M' n) (a0 : Nat) (x1 : Int32) (x2 : Int32) (M : Mm) (h : (bX7_placeOfOldest_1 a0 x1 x2 M).bind (fun q => match q with | .inl s' => itr stX7_placeOfOldest n s' | .inr r => some r) = some (r, M')) (h0 : isV L a0) : AW p l e rmX7_placeOfOldest s m args below meth c (MQ below (AQi G L ad cs r M') args s 0 0 (inA L ad)) G L ad cs 3 4 [some (.ref (ad a0)), some (.int x1), some (.int x2)] [] M := by
  unfold bX7_placeOfOldest_1 at h
  refine ax_iload_n F dX7_placeOfOldest_4 rfl ?_
  refine ax_aload_n F dX7_placeOfOldest_5 rfl ?_
  refine ax_get (v := .int (M a0 2)) F (ob_V h0) rfl inGX7 2 (by decide) rfl kf_X7_18 rfl dX7_placeOfOldest_6 ?_
  refine ax_icmp_ge (t := 34) F dX7_placeOfOldest_9 (by decide) (fun hc => ?_) (fun hc => ?_)
  · have h := it_pos h hc
    refine ax_iload_n F dX7_placeOfOldest_34 rfl ?_
    obtain ⟨h1, h2⟩ := rt_some h
    subst h1; subst h2
    exact ax_iret F dX7_placeOfOldest_35
  · have h := it_neg h hc
    refine ax_iload_n F dX7_placeOfOldest_12 rfl ?_
    refine ax_iconst (v := (-1 : Int32)) F dX7_placeOfOldest_13 (by decide) ?_
    refine ax_icmp_eq (t := 26) F dX7_placeOfOldest_14 (by decide) (fun hc => ?_) (fun hc => ?_)
    · have h := it_pos h hc
      refine ax_iload_n F dX7_placeOfOldest_26 rfl ?_
      refine ax_istore_n F dX7_placeOfOldest_27 (by decide) rfl ?_
      refine ax_iinc (v := (1 : Int32)) F dX7_placeOfOldest_28 rfl (by decide) (by decide) rfl ?_
      refine ax_goto (t := 4) F dX7_placeOfOldest_31 (by decide) ?_
      exact IH.2 _ _ _ _ h h0
    · have h := it_neg h hc
      refine ax_aload_n F dX7_placeOfOldest_17 rfl ?_
      refine ax_iload_n F dX7_placeOfOldest_18 rfl ?_
      refine ax_iload_n F dX7_placeOfOldest_19 rfl ?_
      obtain ⟨r1, M1, hq1, h⟩ := cq_some h
      refine ax_callVi (As := [.int x2, .int x1]) (st := []) F (tX7_isAskedBefore F.2.2.2.2.2.2.1 _ _ _ h0 _ _ _ hq1) (ob_V h0) rfl kc_X7_isAskedBefore kz_X7 ki_X7_isAskedBefore ks_X7_isAskedBefore km_X7_32 ⟨kn_X7_isAskedBefore, rfl, rfl, Nat.le_of_ble_eq_true rfl, Nat.le_of_ble_eq_true rfl⟩ rfl (Nat.le_of_ble_eq_true rfl) dX7_placeOfOldest_20 ?_
      refine ax_if_eq (t := 28) F dX7_placeOfOldest_23 (by decide) (fun hc => ?_) (fun hc => ?_)
      · have h := it_pos h hc
        refine ax_iinc (v := (1 : Int32)) F dX7_placeOfOldest_28 rfl (by decide) (by decide) rfl ?_
        refine ax_goto (t := 4) F dX7_placeOfOldest_31 (by decide) ?_
        exact IH.2 _ _ _ _ h h0
      · have h := it_neg h hc
        refine ax_iload_n F dX7_placeOfOldest_26 rfl ?_
        refine ax_istore_n F dX7_placeOfOldest_27 (by decide) rfl ?_
        refine ax_iinc (v := (1 : Int32)) F dX7_placeOfOldest_28 rfl (by decide) (by decide) rfl ?_
        refine ax_goto (t := 4) F dX7_placeOfOldest_31 (by decide) ?_
        exact IH.2 _ _ _ _ h h0
set_option maxRecDepth 100000 in
set_option maxHeartbeats 4000000 in
theorem wX7_placeOfOldest {p : Program} {l : Launch} {e : Env} {s : State} {m : MethodId} {args : Array Value} {below : List Frame} {meth : Method} {c : Code} {G : va_G} {L : List Nat} {ad : Nat → Nat} {cs : Nat → ClassId} {z : Bool} {zk zv : Nat → Nat} {r : Int32} {M' : Mm} (F : Fx G L ad cs z zk zv p m meth c cX7_placeOfOldest 3 (some .int) s args RX7)  (n : Nat) : PX7_placeOfOldest p l e s m args below meth c G L ad cs zk r M' n := by
  induction n with
  | zero => exact ⟨(fun a0 M h => by cases h), (fun a0 x1 x2 M h => by cases h)⟩
  | succ n ih =>
    exact ⟨fun a0 M h h0 => wX7_placeOfOldest_0 F ih a0 M h h0,
      fun a0 x1 x2 M h h0 => wX7_placeOfOldest_1 F ih a0 x1 x2 M h h0⟩
set_option maxRecDepth 100000 in
set_option maxHeartbeats 4000000 in
theorem tX7_placeOfOldest {l : Launch} {G : va_G} {L : List Nat} {ad : Nat → Nat} {cs : Nat → ClassId} {z : Bool} {zk zv : Nat → Nat} (hinj : inj L ad)  (a0 : Nat) (h0 : isV L a0) (M : Mm) (r : Int32) (M' : Mm) (h : fX7_placeOfOldest a0 M = some (r, M')) : Met l yX7_placeOfOldest (tgW yX7_placeOfOldest cX7_placeOfOldest 3 (some .int)) rmX7_placeOfOldest (APre G L ad cs z zk zv [.ref (ad a0)] M) (AQi G L ad cs r M') 0 0 (inA L ad) := by
  refine met_of (Eq.refl true) (Nat.le_of_ble_eq_true rfl) hinj [some (.ref (ad a0)), none, none] rfl ?_
  intro p e s m below meth c F
  replace F : Fx G L ad cs z zk zv p m meth c cX7_placeOfOldest 3 (some .int) s _ RX7 := F
  obtain ⟨n, hn⟩ := run_ex h
  exact (wX7_placeOfOldest F n).1 a0 M hn h0
def rmX5_takeAll : Room := { frames := 2, cells := 0, slots := 0, locals := 43 }
theorem kn_X5_takeAll : yX5_takeAll.cls ≠ "java/lang/invoke/MethodHandle" ∧ yX5_takeAll.cls ≠ "java/lang/invoke/VarHandle" ∧ (parseMethodDescriptor yX5_takeAll.desc).map (fun d => d.parameters.length) = some 4 := by decide +kernel
noncomputable def bX5_takeAll_0 (a0 : Nat) (x1 : Int32) (a2 : Nat) (a3 : Nat) (M : Mm) : Option (Sst ⊕ Rst) := cl (fX1_has a0 x1 M) (fun r1 M1 => if r1 = 0 then (some (.inr ((0 : Int32), M1))) else (gd (okI x1 8) (some (.inl (1, [a0, a2, a3, (a0 + 2 + 3 * ix (x1))], [x1, (0 : Int32)], M1)))))
noncomputable def bX5_takeAll_1 (a0 : Nat) (x1 : Int32) (a2 : Nat) (a3 : Nat) (a4 : Nat) (x5 : Int32) (M : Mm) : Option (Sst ⊕ Rst) := if (M a2 3) ≤ x5 then (some (.inr ((0 : Int32), M))) else (gd (okI x5 5) (if (M (a2 + 1) (ix x5)) = x1 then (some (.inl (1, [a0, a2, a3, a4], [x1, (x5 + (1 : Int32))], M))) else (cl (fX7_holds a4 (M (a2 + 1) (ix x5)) M) (fun r1 M1 => if r1 = 0 then (if (M1 a0 2) ≤ (M1 a4 2) then (cl (fX4_giveUpPlace a3 M1) (fun r2 M2 => gd (okI x5 5) (cl (fX7_replace a4 r2 (M (a2 + 1) (ix x5)) (M2 (a2 + 2) (ix x5)) M2) (fun r3 M3 => some (.inl (1, [a0, a2, a3, a4], [x1, (x5 + (1 : Int32))], M3)))))) else (gd (okI x5 5) (cl (fX7_append a4 (M (a2 + 1) (ix x5)) (M1 (a2 + 2) (ix x5)) M1) (fun r4 M4 => some (.inl (1, [a0, a2, a3, a4], [x1, (x5 + (1 : Int32))], M4)))))) else (some (.inl (1, [a0, a2, a3, a4], [x1, (x5 + (1 : Int32))], M1)))))))
noncomputable def stX5_takeAll : Sst → Option (Sst ⊕ Rst) := fun q => match q.1 with
  | 0 => bX5_takeAll_0 (q.2.1.getD 0 0) (q.2.2.1.getD 0 0) (q.2.1.getD 1 0) (q.2.1.getD 2 0) q.2.2.2
  | 1 => bX5_takeAll_1 (q.2.1.getD 0 0) (q.2.2.1.getD 0 0) (q.2.1.getD 1 0) (q.2.1.getD 2 0) (q.2.1.getD 3 0) (q.2.2.1.getD 1 0) q.2.2.2
  | _ => none
noncomputable def fX5_takeAll (a0 : Nat) (x1 : Int32) (a2 : Nat) (a3 : Nat) (M : Mm) : Option Rst := run stX5_takeAll (0, [a0, a2, a3], [x1], M)
def PX5_takeAll (p : Program) (l : Launch) (e : Env) (s : State) (m : MethodId) (args : Array Value) (below : List Frame) (meth : Method) (c : Code) (G : va_G) (L : List Nat) (ad : Nat → Nat) (cs : Nat → ClassId) (zk : Nat → Nat) (r : Int32) (M' : Mm) (n : Nat) : Prop := (∀ (a0 : Nat) (x1 : Int32) (a2 : Nat) (a3 : Nat) (M : Mm), itr stX5_takeAll n (0, [a0, a2, a3], [x1], M) = some (r, M') → isN L a0 → isS L a2 → isS L a3 → AW p l e rmX5_takeAll s m args below meth c (MQ below (AQv G L ad cs M') args s 0 0 (inA L ad)) G L ad cs 7 0 [some (.ref (ad a0)), some (.int x1), some (.ref (ad a2)), some (.ref (ad a3)), none, none, none] [] M) ∧ (∀ (a0 : Nat) (x1 : Int32) (a2 : Nat) (a3 : Nat) (a4 : Nat) (x5 : Int32) (M : Mm), itr stX5_takeAll n (1, [a0, a2, a3, a4], [x1, x5], M) = some (r, M') → isN L a0 → isS L a2 → isS L a3 → isV L a4 → AW p l e rmX5_takeAll s m args below meth c (MQ below (AQv G L ad cs M') args s 0 0 (inA L ad)) G L ad cs 7 20 [some (.ref (ad a0)), some (.int x1), some (.ref (ad a2)), some (.ref (ad a3)), some (.ref (ad a4)), some (.int x5), none] [] M)
set_option maxRecDepth 100000 in
set_option maxHeartbeats 4000000 in
theorem wX5_takeAll_0 {p : Program} {l : Launch} {e : Env} {s : State} {m : MethodId} {args : Array Value} {below : List Frame} {meth : Method} {c : Code} {G : va_G} {L : List Nat} {ad : Nat → Nat} {cs : Nat → ClassId} {z : Bool} {zk zv : Nat → Nat} {r : Int32} {M' : Mm} {n : Nat} (F : Fx G L ad cs z zk zv p m meth c cX5_takeAll 7 none s args RX5) (hx : isX L) (IH : PX5_takeAll p l e s m args below meth c G L ad cs zk r M' n) (a0 : Nat) (x1 : Int32) (a2 : Nat) (a3 : Nat) (M : Mm) (h : (bX5_takeAll_0 a0 x1 a2 a3 M).bind (fun q => match q with | .inl s' => itr stX5_takeAll n s' | .inr r => some r) = some (r, M')) (h0 : isN L a0) (h2 : isS L a2) (h3 : isS L a3) : AW p l e rmX5_takeAll s m args below meth c (MQ below (AQv G L ad cs M') args s 0 0 (inA L ad)) G L ad cs 7 0 [some (.ref (ad a0)), some (.int x1), some (.ref (ad a2)), some (.ref (ad a3)), none, none, none] [] M := by
  unfold bX5_takeAll_0 at h
  refine ax_aload_n F dX5_takeAll_0 rfl ?_
  refine ax_iload_n F dX5_takeAll_1 rfl ?_
  obtain ⟨r1, M1, hq1, h⟩ := cq_some h
  refine ax_callVi (As := [.int x1]) (st := []) F (tX1_has F.2.2.2.2.2.2.1 _ _ h0 _ _ _ hq1) (ob_N h0) rfl kc_X1_has kz_X1 ki_X1_has ks_X1_has km_X5_21 ⟨kn_X1_has, rfl, rfl, Nat.le_of_ble_eq_true rfl, Nat.le_of_ble_eq_true rfl⟩ rfl (Nat.le_of_ble_eq_true rfl) dX5_takeAll_2 ?_
  refine ax_if_ne (t := 9) F dX5_takeAll_5 (by decide) (fun hc => ?_) (fun hc => ?_)
  · have h := it_neg h hc
    refine ax_aload_n F dX5_takeAll_9 rfl ?_
    refine ax_get (v := .ref (ad (a0 + 1))) F (ob_N h0) rfl inGX1 0 (by decide) rfl kf_X5_27 rfl dX5_takeAll_10 ?_
    refine ax_iload_n F dX5_takeAll_13 rfl ?_
    obtain ⟨hi1, h⟩ := gd_some h
    refine ax_aald F (rf_N h0) rfl hi1 dX5_takeAll_14 ?_
    refine ax_astore F dX5_takeAll_15 (by decide) rfl ?_
    refine ax_iconst (v := (0 : Int32)) F dX5_takeAll_17 (by decide) ?_
    refine ax_istore F dX5_takeAll_18 (by decide) rfl ?_
    exact IH.2 _ _ _ _ _ _ _ h h0 h2 h3 (isV_of h0 (okI_lt hi1))
  · have h := it_pos h hc
    obtain ⟨h1, h2⟩ := rt_some h
    subst h2
    exact ax_vret F dX5_takeAll_8
set_option maxRecDepth 100000 in
set_option maxHeartbeats 4000000 in
theorem wX5_takeAll_1 {p : Program} {l : Launch} {e : Env} {s : State} {m : MethodId} {args : Array Value} {below : List Frame} {meth : Method} {c : Code} {G : va_G} {L : List Nat} {ad : Nat → Nat} {cs : Nat → ClassId} {z : Bool} {zk zv : Nat → Nat} {r : Int32} {M' : Mm} {n : Nat} (F : Fx G L ad cs z zk zv p m meth c cX5_takeAll 7 none s args RX5) (hx : isX L) (IH : PX5_takeAll p l e s m args below meth c G L ad cs zk r M' n) (a0 : Nat) (x1 : Int32) (a2 : Nat) (a3 : Nat) (a4 : Nat) (x5 : Int32) (M : Mm) (h : (bX5_takeAll_1 a0 x1 a2 a3 a4 x5 M).bind (fun q => match q with | .inl s' => itr stX5_takeAll n s' | .inr r => some r) = some (r, M')) (h0 : isN L a0) (h2 : isS L a2) (h3 : isS L a3) (h4 : isV L a4) : AW p l e rmX5_takeAll s m args below meth c (MQ below (AQv G L ad cs M') args s 0 0 (inA L ad)) G L ad cs 7 20 [some (.ref (ad a0)), some (.int x1), some (.ref (ad a2)), some (.ref (ad a3)), some (.ref (ad a4)), some (.int x5), none] [] M := by
  unfold bX5_takeAll_1 at h
  refine ax_iload F dX5_takeAll_20 rfl ?_
  refine ax_aload_n F dX5_takeAll_22 rfl ?_
  refine ax_get (v := .int (M a2 3)) F (ob_S h2) rfl inGX4 3 (by decide) rfl kf_X5_84 rfl dX5_takeAll_23 ?_
  refine ax_icmp_ge (t := 110) F dX5_takeAll_26 (by decide) (fun hc => ?_) (fun hc => ?_)
  · have h := it_pos h hc
    obtain ⟨h1, h2⟩ := rt_some h
    subst h2
    exact ax_vret F dX5_takeAll_110
  · have h := it_neg h hc
    refine ax_aload_n F dX5_takeAll_29 rfl ?_
    refine ax_get (v := .ref (ad (a2 + 1))) F (ob_S h2) rfl inGX4 0 (by decide) rfl kf_X5_85 rfl dX5_takeAll_30 ?_
    refine ax_iload F dX5_takeAll_33 rfl ?_
    obtain ⟨hg, h⟩ := gd_some h
    refine ax_iald F (ar_S1 h2) hg dX5_takeAll_35 ?_
    refine ax_istore F dX5_takeAll_36 (by decide) rfl ?_
    refine ax_iload F dX5_takeAll_38 rfl ?_
    refine ax_iload_n F dX5_takeAll_40 rfl ?_
    refine ax_icmp_eq (t := 104) F dX5_takeAll_41 (by decide) (fun hc => ?_) (fun hc => ?_)
    · have h := it_pos h hc
      refine ax_iinc (v := (1 : Int32)) F dX5_takeAll_104 rfl (by decide) (by decide) rfl ?_
      refine ax_goto (t := 20) F dX5_takeAll_107 (by decide) ?_
      refine ax_mask [true, true, true, true, true, true, false] ?_
      exact IH.2 _ _ _ _ _ _ _ h h0 h2 h3 h4
    · have h := it_neg h hc
      refine ax_aload F dX5_takeAll_44 rfl ?_
      refine ax_iload F dX5_takeAll_46 rfl ?_
      obtain ⟨r1, M1, hq1, h⟩ := cq_some h
      refine ax_callVi (As := [.int (M (a2 + 1) (ix x5))]) (st := []) F (tX7_holds F.2.2.2.2.2.2.1 _ _ h4 _ _ _ hq1) (ob_V h4) rfl kc_X7_holds kz_X7 ki_X7_holds ks_X7_holds km_X5_86 ⟨kn_X7_holds, rfl, rfl, Nat.le_of_ble_eq_true rfl, Nat.le_of_ble_eq_true rfl⟩ rfl (Nat.le_of_ble_eq_true rfl) dX5_takeAll_48 ?_
      refine ax_if_eq (t := 57) F dX5_takeAll_51 (by decide) (fun hc => ?_) (fun hc => ?_)
      · have h := it_pos h hc
        refine ax_aload F dX5_takeAll_57 rfl ?_
        refine ax_get (v := .int (M1 a4 2)) F (ob_V h4) rfl inGX7 2 (by decide) rfl kf_X5_40 rfl dX5_takeAll_59 ?_
        refine ax_aload_n F dX5_takeAll_62 rfl ?_
        refine ax_get (v := .int (M1 a0 2)) F (ob_N h0) rfl inGX1 2 (by decide) rfl kf_X5_89 rfl dX5_takeAll_63 ?_
        refine ax_icmp_ge (t := 86) F dX5_takeAll_66 (by decide) (fun hc => ?_) (fun hc => ?_)
        · have h := it_pos h hc
          refine ax_aload F dX5_takeAll_86 rfl ?_
          refine ax_aload_n F dX5_takeAll_88 rfl ?_
          obtain ⟨r2, M2, hq2, h⟩ := cq_some h
          refine ax_callVi (As := []) (st := [.ref (ad a4)]) F (tX4_giveUpPlace F.2.2.2.2.2.2.1 _ h3 _ _ _ hq2) (ob_S h3) rfl kc_X4_giveUpPlace kz_X4 ki_X4_giveUpPlace ks_X4_giveUpPlace km_X5_99 ⟨kn_X4_giveUpPlace, rfl, rfl, Nat.le_of_ble_eq_true rfl, Nat.le_of_ble_eq_true rfl⟩ rfl (Nat.le_of_ble_eq_true rfl) dX5_takeAll_89 ?_
          refine ax_iload F dX5_takeAll_92 rfl ?_
          refine ax_aload_n F dX5_takeAll_94 rfl ?_
          refine ax_get (v := .ref (ad (a2 + 2))) F (ob_S h2) rfl inGX4 1 (by decide) rfl kf_X5_92 rfl dX5_takeAll_95 ?_
          refine ax_iload F dX5_takeAll_98 rfl ?_
          obtain ⟨hg, h⟩ := gd_some h
          refine ax_iald F (ar_S2 h2) hg dX5_takeAll_100 ?_
          obtain ⟨r3, M3, hq3, h⟩ := cq_some h
          refine ax_callVv (As := [.int r2, .int (M (a2 + 1) (ix x5)), .int (M2 (a2 + 2) (ix x5))]) (st := []) F (tX7_replace F.2.2.2.2.2.2.1 _ _ _ _ h4 _ _ _ hq3) (ob_V h4) rfl kc_X7_replace kz_X7 ki_X7_replace ks_X7_replace km_X5_102 ⟨kn_X7_replace, rfl, rfl, Nat.le_of_ble_eq_true rfl, Nat.le_of_ble_eq_true rfl⟩ rfl (Nat.le_of_ble_eq_true rfl) dX5_takeAll_101 ?_
          refine ax_iinc (v := (1 : Int32)) F dX5_takeAll_104 rfl (by decide) (by decide) rfl ?_
          refine ax_goto (t := 20) F dX5_takeAll_107 (by decide) ?_
          refine ax_mask [true, true, true, true, true, true, false] ?_
          exact IH.2 _ _ _ _ _ _ _ h h0 h2 h3 h4
        · have h := it_neg h hc
          refine ax_aload F dX5_takeAll_69 rfl ?_
          refine ax_iload F dX5_takeAll_71 rfl ?_
          refine ax_aload_n F dX5_takeAll_73 rfl ?_
          refine ax_get (v := .ref (ad (a2 + 2))) F (ob_S h2) rfl inGX4 1 (by decide) rfl kf_X5_92 rfl dX5_takeAll_74 ?_
          refine ax_iload F dX5_takeAll_77 rfl ?_
          obtain ⟨hg, h⟩ := gd_some h
          refine ax_iald F (ar_S2 h2) hg dX5_takeAll_79 ?_
          obtain ⟨r4, M4, hq4, h⟩ := cq_some h
          refine ax_callVv (As := [.int (M (a2 + 1) (ix x5)), .int (M1 (a2 + 2) (ix x5))]) (st := []) F (tX7_append F.2.2.2.2.2.2.1 _ _ _ h4 _ _ _ hq4) (ob_V h4) rfl kc_X7_append kz_X7 ki_X7_append ks_X7_append km_X5_95 ⟨kn_X7_append, rfl, rfl, Nat.le_of_ble_eq_true rfl, Nat.le_of_ble_eq_true rfl⟩ rfl (Nat.le_of_ble_eq_true rfl) dX5_takeAll_80 ?_
          refine ax_goto (t := 104) F dX5_takeAll_83 (by decide) ?_
          refine ax_iinc (v := (1 : Int32)) F dX5_takeAll_104 rfl (by decide) (by decide) rfl ?_
          refine ax_goto (t := 20) F dX5_takeAll_107 (by decide) ?_
          refine ax_mask [true, true, true, true, true, true, false] ?_
          exact IH.2 _ _ _ _ _ _ _ h h0 h2 h3 h4
      · have h := it_neg h hc
        refine ax_goto (t := 104) F dX5_takeAll_54 (by decide) ?_
        refine ax_iinc (v := (1 : Int32)) F dX5_takeAll_104 rfl (by decide) (by decide) rfl ?_
        refine ax_goto (t := 20) F dX5_takeAll_107 (by decide) ?_
        refine ax_mask [true, true, true, true, true, true, false] ?_
        exact IH.2 _ _ _ _ _ _ _ h h0 h2 h3 h4
set_option maxRecDepth 100000 in
set_option maxHeartbeats 4000000 in
theorem wX5_takeAll {p : Program} {l : Launch} {e : Env} {s : State} {m : MethodId} {args : Array Value} {below : List Frame} {meth : Method} {c : Code} {G : va_G} {L : List Nat} {ad : Nat → Nat} {cs : Nat → ClassId} {z : Bool} {zk zv : Nat → Nat} {r : Int32} {M' : Mm} (F : Fx G L ad cs z zk zv p m meth c cX5_takeAll 7 none s args RX5) (hx : isX L) (n : Nat) : PX5_takeAll p l e s m args below meth c G L ad cs zk r M' n := by
  induction n with
  | zero => exact ⟨(fun a0 x1 a2 a3 M h => by cases h), (fun a0 x1 a2 a3 a4 x5 M h => by cases h)⟩
  | succ n ih =>
    exact ⟨fun a0 x1 a2 a3 M h h0 h2 h3 => wX5_takeAll_0 F hx ih a0 x1 a2 a3 M h h0 h2 h3,
      fun a0 x1 a2 a3 a4 x5 M h h0 h2 h3 h4 => wX5_takeAll_1 F hx ih a0 x1 a2 a3 a4 x5 M h h0 h2 h3 h4⟩
set_option maxRecDepth 100000 in
set_option maxHeartbeats 4000000 in
theorem tX5_takeAll {l : Launch} {G : va_G} {L : List Nat} {ad : Nat → Nat} {cs : Nat → ClassId} {z : Bool} {zk zv : Nat → Nat} (hinj : inj L ad) (hx : isX L) (a0 : Nat) (x1 : Int32) (a2 : Nat) (a3 : Nat) (h0 : isN L a0) (h2 : isS L a2) (h3 : isS L a3) (M : Mm) (r : Int32) (M' : Mm) (h : fX5_takeAll a0 x1 a2 a3 M = some (r, M')) : Met l yX5_takeAll (tgW yX5_takeAll cX5_takeAll 7 none) rmX5_takeAll (APre G L ad cs z zk zv [.ref (ad a0), .int x1, .ref (ad a2), .ref (ad a3)] M) (AQv G L ad cs M') 0 0 (inA L ad) := by
  refine met_of (Eq.refl true) (Nat.le_of_ble_eq_true rfl) hinj [some (.ref (ad a0)), some (.int x1), some (.ref (ad a2)), some (.ref (ad a3)), none, none, none] rfl ?_
  intro p e s m below meth c F
  replace F : Fx G L ad cs z zk zv p m meth c cX5_takeAll 7 none s _ RX5 := F
  obtain ⟨n, hn⟩ := run_ex h
  exact (wX5_takeAll F hx n).1 a0 x1 a2 a3 M hn h0 h2 h3
