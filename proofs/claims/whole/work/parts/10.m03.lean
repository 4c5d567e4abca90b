def rmX1_known : Room := { frames := 2, cells := 0, slots := 0, locals := 43 }
theorem kn_X1_known : yX1_known.cls ≠ "java/lang/invoke/MethodHandle" ∧ yX1_known.cls ≠ "java/lang/invoke/VarHandle" ∧ (parseMethodDescriptor yX1_known.desc).map (fun d => d.parameters.length) = some 1 := by decide +kernel
noncomputable def bX1_known_0 (a0 : Nat) (x1 : Int32) (M : Mm) : Option (Sst ⊕ Rst) := some (.inl (1, [a0], [x1, (0 : Int32), (0 : Int32)], M))
noncomputable def bX1_known_1 (a0 : Nat) (x1 : Int32) (x2 : Int32) (x3 : Int32) (M : Mm) : Option (Sst ⊕ Rst) := if (8 : Int32) ≤ x3 then (some (.inr (x2, M))) else (cl (fX1_isAlive a0 x3 M) (fun r1 M1 => if r1 = 0 then (some (.inl (1, [a0], [x1, x2, (x3 + (1 : Int32))], M1))) else (gd (okI x3 8) (cl (fX7_holds (a0 + 2 + 3 * ix (x3)) x1 M1) (fun r2 M2 => if r2 = 0 then (some (.inl (1, [a0], [x1, x2, (x3 + (1 : Int32))], M2))) else (some (.inl (1, [a0], [x1, (x2 + (1 : Int32)), (x3 + (1 : Int32))], M2))))))))
noncomputable def stX1_known : Sst → Option (Sst ⊕ Rst) := fun q => match q.1 with
  | 0 => bX1_known_0 (q.2.1.getD 0 0) (q.2.2.1.getD 0 0) q.2.2.2
  | 1 => bX1_known_1 (q.2.1.getD 0 0) (q.2.2.1.getD 0 0) (q.2.2.1.getD 1 0) (q.2.2.1.getD 2 0) q.2.2.2
  | _ => none
noncomputable def fX1_known (a0 : Nat) (x1 : Int32) (M : Mm) : Option Rst := run stX1_known (0, [a0], [x1], M)
def PX1_known (p : Program) (l : Launch) (e : Env) (s : State) (m : MethodId) (args : Array Value) (below : List Frame) (meth : Method) (c : Code) (G : va_G) (L : List Nat) (ad : Nat → Nat) (cs : Nat → ClassId) (zk : Nat → Nat) (r : Int32) (M' : Mm) (n : Nat) : Prop := (∀ (a0 : Nat) (x1 : Int32) (M : Mm), itr stX1_known n (0, [a0], [x1], M) = some (r, M') → isN L a0 → AW p l e rmX1_known s m args below meth c (MQ below (AQi G L ad cs r M') args s 0 0 (inA L ad)) G L ad cs 4 0 [some (.ref (ad a0)), some (.int x1), none, none] [] M) ∧ (∀ (a0 : Nat) (x1 : Int32) (x2 : Int32) (x3 : Int32) (M : Mm), itr stX1_known n (1, [a0], [x1, x2, x3], M) = some (r, M') → isN L a0 → AW p l e rmX1_known s m args below meth c (MQ below (AQi G L ad cs r M') args s 0 0 (inA L ad)) G L ad cs 4 4 [some (.ref (ad a0)), some (.int x1), some (.int x2), some (.int x3)] [] M)
set_option maxRecDepth 100000 in
set_option maxHeartbeats 4000000 in
theorem wX1_known_0 {p : Program} {l : Launch} {e : Env} {s : State} {m : MethodId} {args : Array Value} {below : List Frame} {meth : Method} {c : Code} {G : va_G} {L : List Nat} {ad : Nat → Nat} {cs : Nat → ClassId} {z : Bool} {zk zv : Nat → Nat} {r : Int32} {M' : Mm} {n : Nat} (F : Fx G L ad cs z zk zv p m meth c cX1_known 4 (some .int) s args RX1)  (IH : PX1_known p l e s m args below meth c G L ad cs zk r M' n) (a0 : Nat) (x1 : Int32) (M : Mm) (h : (bX1_known_0 a0 x1 M).bind (fun q => match q with | .inl s' => itr stX1_known n s' | .inr r => some r) = some (r, M')) (h0 : isN L a0) : AW p l e rmX1_known s m args below meth c (MQ below (AQi G L ad cs r M') args s 0 0 (inA L ad)) G L ad cs 4 0 [some (.ref (ad a0)), some (.int x1), none, none] [] M := by
  unfold bX1_known_0 at h
  refine ax_iconst (v := (0 : Int32)) F dX1_known_0 (by decide) ?_
  refine ax_istore_n F dX1_known_1 (by decide) rfl ?_
  refine ax_iconst (v := (0 : Int32)) F dX1_known_2 (by decide) ?_
  refine ax_istore_n F dX1_known_3 (by decide) rfl ?_
  exact IH.2 _ _ _ _ _ h h0
set_option maxRecDepth 100000 in
set_option maxHeartbeats 4000000 in
theorem wX1_known_1 {p : Program} {l : Launch} {e : Env} {s : State} {m : MethodId} {args : Array Value} {below : List Frame} {meth : Method} {c : Code} {G : va_G} {L : List Nat} {ad : Nat → Nat} {cs : Nat → ClassId} {z : Bool} {zk zv : Nat → Nat} {r : Int32} {M' : Mm} {n : Nat} (F : Fx G L ad cs z zk zv p m meth c cX1_known 4 (some .int) s args RX1)  (IH : PX1_known p l e s m args below meth c G L ad cs zk r M' n) (a0 : Nat) (x1 : Int32) (x2 : Int32) (x3 : Int32) (M : Mm) (h : (bX1_known_1 a0 x1 x2 x3 M).bind (fun q => match q with | .inl s' => itr stX1_known n s' | .inr r => some r) = some (r, M')) (h0 : isN L a0) : AW p l e rmX1_known s m args below meth c (MQ below (AQi G L ad cs r M') args s 0 0 (inA L ad)) G L ad cs 4 4 [some (.ref (ad a0)), some (.int x1), some (.int x2), some (.int x3)] [] M := by
  unfold bX1_known_1 at h
  refine ax_iload_n F dX1_known_4 rfl ?_
  refine ax_bipush (v := (8 : Int32)) F dX1_known_5 (by decide) ?_
  refine ax_icmp_ge (t := 40) F dX1_known_7 (by decide) (fun hc => ?_) (fun hc => ?_)
  · have h := it_pos h hc
    refine ax_iload_n F dX1_known_40 rfl ?_
    obtain ⟨h1, h2⟩ := rt_some h
    subst h1; subst h2
    exact ax_iret F dX1_known_41
  · have h := it_neg h hc
    refine ax_aload_n F dX1_known_10 rfl ?_
    refine ax_iload_n F dX1_known_11 rfl ?_
    obtain ⟨r1, M1, hq1, h⟩ := cq_some h
    refine ax_callVi (As := [.int x3]) (st := []) F (tX1_isAlive F.2.2.2.2.2.2.1 _ _ h0 _ _ _ hq1) (ob_N h0) rfl kc_X1_isAlive kz_X1 ki_X1_isAlive ks_X1_isAlive km_X1_88 ⟨kn_X1_isAlive, rfl, rfl, Nat.le_of_ble_eq_true rfl, Nat.le_of_ble_eq_true rfl⟩ rfl (Nat.le_of_ble_eq_true rfl) dX1_known_12 ?_
    refine ax_if_eq (t := 34) F dX1_known_15 (by decide) (fun hc => ?_) (fun hc => ?_)
    · have h := it_pos h hc
      refine ax_iinc (v := (1 : Int32)) F dX1_known_34 rfl (by decide) (by decide) rfl ?_
      refine ax_goto (t := 4) F dX1_known_37 (by decide) ?_
      exact IH.2 _ _ _ _ _ h h0
    · have h := it_neg h hc
      refine ax_aload_n F dX1_known_18 rfl ?_
      refine ax_get (v := .ref (ad (a0 + 1))) F (ob_N h0) rfl inGX1 0 (by decide) rfl kf_X1_11 rfl dX1_known_19 ?_
      refine ax_iload_n F dX1_known_22 rfl ?_
      obtain ⟨hi1, h⟩ := gd_some h
      refine ax_aald F (rf_N h0) rfl hi1 dX1_known_23 ?_
      refine ax_iload_n F dX1_known_24 rfl ?_
      obtain ⟨r2, M2, hq2, h⟩ := cq_some h
      refine ax_callVi (As := [.int x1]) (st := []) F (tX7_holds F.2.2.2.2.2.2.1 _ _ (isV_of h0 (okI_lt hi1)) _ _ _ hq2) (ob_V (isV_of h0 (okI_lt hi1))) rfl kc_X7_holds kz_X7 ki_X7_holds ks_X7_holds km_X1_69 ⟨kn_X7_holds, rfl, rfl, Nat.le_of_ble_eq_true rfl, Nat.le_of_ble_eq_true rfl⟩ rfl (Nat.le_of_ble_eq_true rfl) dX1_known_25 ?_
      refine ax_if_eq (t := 34) F dX1_known_28 (by decide) (fun hc => ?_) (fun hc => ?_)
      · have h := it_pos h hc
        refine ax_iinc (v := (1 : Int32)) F dX1_known_34 rfl (by decide) (by decide) rfl ?_
        refine ax_goto (t := 4) F dX1_known_37 (by decide) ?_
        exact IH.2 _ _ _ _ _ h h0
      · have h := it_neg h hc
        refine ax_iinc (v := (1 : Int32)) F dX1_known_31 rfl (by decide) (by decide) rfl ?_
        refine ax_iinc (v := (1 : Int32)) F dX1_known_34 rfl (by decide) (by decide) rfl ?_
        refine ax_goto (t := 4) F dX1_known_37 (by decide) ?_
        exact IH.2 _ _ _ _ _ h h0
set_option maxRecDepth 100000 in
set_option maxHeartbeats 4000000 in
theorem wX1_known {p : Program} {l : Launch} {e : Env} {s : State} {m : MethodId} {args : Array Value} {below : List Frame} {meth : Method} {c : Code} {G : va_G} {L : List Nat} {ad : Nat → Nat} {cs : Nat → ClassId} {z : Bool} {zk zv : Nat → Nat} {r : Int32} {M' : Mm} (F : Fx G L ad cs z zk zv p m meth c cX1_known 4 (some .int) s args RX1)  (n : Nat) : PX1_known p l e s m args below meth c G L ad cs zk r M' n := by
  induction n with
  | zero => exact ⟨(fun a0 x1 M h => by cases h), (fun a0 x1 x2 x3 M h => by cases h)⟩
  | succ n ih =>
    exact ⟨fun a0 x1 M h h0 => wX1_known_0 F ih a0 x1 M h h0,
      fun a0 x1 x2 x3 M h h0 => wX1_known_1 F ih a0 x1 x2 x3 M h h0⟩
set_option maxRecDepth 100000 in
set_option maxHeartbeats 4000000 in
theorem tX1_known {l : Launch} {G : va_G} {L : List Nat} {ad : Nat → Nat} {cs : Nat → ClassId} {z : Bool} {zk zv : Nat → Nat} (hinj : inj L ad)  (a0 : Nat) (x1 : Int32) (h0 : isN L a0) (M : Mm) (r : Int32) (M' : Mm) (h : fX1_known a0 x1 M = some (r, M')) : Met l yX1_known (tgW yX1_known cX1_known 4 (some .int)) rmX1_known (APre G L ad cs z zk zv [.ref (ad a0), .int x1] M) (AQi G L ad cs r M') 0 0 (inA L ad) := by
  refine met_of (Eq.refl true) (Nat.le_of_ble_eq_true rfl) hinj [some (.ref (ad a0)), some (.int x1), none, none] rfl ?_
  intro p e s m below meth c F
  replace F : Fx G L ad cs z zk zv p m meth c cX1_known 4 (some .int) s _ RX1 := F
  obtain ⟨n, hn⟩ := run_ex h
  exact (wX1_known F n).1 a0 x1 M hn h0
def rmX1_mostKnown : Room := { frames := 3, cells := 0, slots := 0, locals := 66 }
theorem kn_X1_mostKnown : yX1_mostKnown.cls ≠ "java/lang/invoke/MethodHandle" ∧ yX1_mostKnown.cls ≠ "java/lang/invoke/VarHandle" ∧ (parseMethodDescriptor yX1_mostKnown.desc).map (fun d => d.parameters.length) = some 0 := by decide +kernel
noncomputable def bX1_mostKnown_0 (a0 : Nat) (M : Mm) : Option (Sst ⊕ Rst) := some (.inl (1, [a0], [(-1 : Int32), (0 : Int32)], M))
noncomputable def bX1_mostKnown_1 (a0 : Nat) (x1 : Int32) (x2 : Int32) (M : Mm) : Option (Sst ⊕ Rst) := if (8 : Int32) ≤ x2 then (some (.inr (x1, M))) else (cl (fX1_isAlive a0 x2 M) (fun r1 M1 => if r1 = 0 then (some (.inl (1, [a0], [x1, (x2 + (1 : Int32))], M1))) else (cl (fX1_known a0 x2 M1) (fun r2 M2 => some (.inl (1, [a0], [(imax x1 r2), (x2 + (1 : Int32))], M2))))))
noncomputable def stX1_mostKnown : Sst → Option (Sst ⊕ Rst) := fun q => match q.1 with
  | 0 => bX1_mostKnown_0 (q.2.1.getD 0 0) q.2.2.2
  | 1 => bX1_mostKnown_1 (q.2.1.getD 0 0) (q.2.2.1.getD 0 0) (q.2.2.1.getD 1 0) q.2.2.2
  | _ => none
noncomputable def fX1_mostKnown (a0 : Nat) (M : Mm) : Option Rst := run stX1_mostKnown (0, [a0], [], M)
def PX1_mostKnown (p : Program) (l : Launch) (e : Env) (s : State) (m : MethodId) (args : Array Value) (below : List Frame) (meth : Method) (c : Code) (G : va_G) (L : List Nat) (ad : Nat → Nat) (cs : Nat → ClassId) (zk : Nat → Nat) (r : Int32) (M' : Mm) (n : Nat) : Prop := (∀ (a0 : Nat) (M : Mm), itr stX1_mostKnown n (0, [a0], [], M) = some (r, M') → isN L a0 → AW p l e rmX1_mostKnown s m args below meth c (MQ below (AQi G L ad cs r M') args s 0 0 (inA L ad)) G L ad cs 3 0 [some (.ref (ad a0)), none, none] [] M) ∧ (∀ (a0 : Nat) (x1 : Int32) (x2 : Int32) (M : Mm), itr stX1_mostKnown n (1, [a0], [x1, x2], M) = some (r, M') → isN L a0 → AW p l e rmX1_mostKnown s m args below meth c (MQ below (AQi G L ad cs r M') args s 0 0 (inA L ad)) G L ad cs 3 4 [some (.ref (ad a0)), some (.int x1), some (.int x2)] [] M)
set_option maxRecDepth 100000 in
set_option maxHeartbeats 4000000 in
theorem wX1_mostKnown_0 {p : Program} {l : Launch} {e : Env} {s : State} {m : MethodId} {args : Array Value} {below : List Frame} {meth : Method} {c : Code} {G : va_G} {L : List Nat} {ad : Nat → Nat} {cs : Nat → ClassId} {z : Bool} {zk zv : Nat → Nat} {r : Int32} {M' : Mm} {n : Nat} (F : Fx G L ad cs z zk zv p m meth c cX1_mostKnown 3 (some .int) s args RX1)  (IH : PX1_mostKnown p l e s m args below meth c G L ad cs zk r M' n) (a0 : Nat) (M : Mm) (h : (bX1_mostKnown_0 a0 M).bind (fun q => match q with | .inl s' => itr stX1_mostKnown n s' | .inr r => some r) = some (r, M')) (h0 : isN L a0) : AW p l e rmX1_mostKnown s m args below meth c (MQ below (AQi G L ad cs r M') args s 0 0 (inA L ad)) G L ad cs 3 0 [some (.ref (ad a0)), none, none] [] M := by
  unfold bX1_mostKnown_0 at h
  refine ax_iconst (v := (-1 : Int32)) F dX1_mostKnown_0 (by decide) ?_
  refine ax_istore_n F dX1_mostKnown_1 (by decide) rfl ?_
  refine ax_iconst (v := (0 : Int32)) F dX1_mostKnown_2 (by decide) ?_
  refine ax_istore_n F dX1_mostKnown_3 (by decide) rfl ?_
  exact IH.2 _ _ _ _ h h0
set_option maxRecDepth 100000 in
set_option maxHeartbeats 4000000 in
theorem wX1_mostKnown_1 {p : Program} {l : Launch} {e : Env} {s : State} {m : MethodId} {args : Array Value} {below : List Frame} {meth : Method} {c : Code} {G : va_G} {L : List Nat} {ad : Nat → Nat} {cs : Nat → ClassId} {z : Bool} {zk zv : Nat → Nat} {r : Int32} {M' : Mm} {n : Nat} (F : Fx G L ad cs z zk zv p m meth c cX1_mostKnown 3 (some .int) s args RX1)  (IH : PX1_mostKnown p l e s m args below meth c G L ad cs zk r M' n) (a0 : Nat) (x1 : Int32) (x2 : Int32) (M : Mm) (h : (bX1_mostKnown_1 a0 x1 x2 M).bind (fun q => match q with | .inl s' => itr stX1_mostKnown n s' | .inr r => some r) = some (r, M')) (h0 : isN L a0) : AW p l e rmX1_mostKnown s m args below meth c (MQ below (AQi G L ad cs r M') args s 0 0 (inA L ad)) G L ad cs 3 4 [some (.ref (ad a0)), some (.int x1), some (.int x2)] [] M := by
  unfold bX1_mostKnown_1 at h
  refine ax_iload_n F dX1_mostKnown_4 rfl ?_
  refine ax_bipush (v := (8 : Int32)) F dX1_mostKnown_5 (by decide) ?_
  refine ax_icmp_ge (t := 34) F dX1_mostKnown_7 (by decide) (fun hc => ?_) (fun hc => ?_)
  · have h := it_pos h hc
    refine ax_iload_n F dX1_mostKnown_34 rfl ?_
    obtain ⟨h1, h2⟩ := rt_some h
    subst h1; subst h2
    exact ax_iret F dX1_mostKnown_35
  · have h := it_neg h hc
    refine ax_aload_n F dX1_mostKnown_10 rfl ?_
    refine ax_iload_n F dX1_mostKnown_11 rfl ?_
    obtain ⟨r1, M1, hq1, h⟩ := cq_some h
    refine ax_callVi (As := [.int x2]) (st := []) F (tX1_isAlive F.2.2.2.2.2.2.1 _ _ h0 _ _ _ hq1) (ob_N h0) rfl kc_X1_isAlive kz_X1 ki_X1_isAlive ks_X1_isAlive km_X1_88 ⟨kn_X1_isAlive, rfl, rfl, Nat.le_of_ble_eq_true rfl, Nat.le_of_ble_eq_true rfl⟩ rfl (Nat.le_of_ble_eq_true rfl) dX1_mostKnown_12 ?_
    refine ax_if_eq (t := 28) F dX1_mostKnown_15 (by decide) (fun hc => ?_) (fun hc => ?_)
    · have h := it_pos h hc
      refine ax_iinc (v := (1 : Int32)) F dX1_mostKnown_28 rfl (by decide) (by decide) rfl ?_
      refine ax_goto (t := 4) F dX1_mostKnown_31 (by decide) ?_
      exact IH.2 _ _ _ _ h h0
    · have h := it_neg h hc
      refine ax_iload_n F dX1_mostKnown_18 rfl ?_
      refine ax_aload_n F dX1_mostKnown_19 rfl ?_
      refine ax_iload_n F dX1_mostKnown_20 rfl ?_
      obtain ⟨r2, M2, hq2, h⟩ := cq_some h
      refine ax_callVi (As := [.int x2]) (st := [.int x1]) F (tX1_known F.2.2.2.2.2.2.1 _ _ h0 _ _ _ hq2) (ob_N h0) rfl kc_X1_known kz_X1 ki_X1_known ks_X1_known km_X1_91 ⟨kn_X1_known, rfl, rfl, Nat.le_of_ble_eq_true rfl, Nat.le_of_ble_eq_true rfl⟩ rfl (Nat.le_of_ble_eq_true rfl) dX1_mostKnown_21 ?_
      refine ax_max F km_X1_28 (kt_J9_max_7cf53) kz_J9 (kc_J9_max_7cf53) (Nat.le_of_ble_eq_true rfl) (Nat.le_of_ble_eq_true rfl) dX1_mostKnown_24 ?_
      refine ax_istore_n F dX1_mostKnown_27 (by decide) rfl ?_
      refine ax_iinc (v := (1 : Int32)) F dX1_mostKnown_28 rfl (by decide) (by decide) rfl ?_
      refine ax_goto (t := 4) F dX1_mostKnown_31 (by decide) ?_
      exact IH.2 _ _ _ _ h h0
set_option maxRecDepth 100000 in
set_option maxHeartbeats 4000000 in
theorem wX1_mostKnown {p : Program} {l : Launch} {e : Env} {s : State} {m : MethodId} {args : Array Value} {below : List Frame} {meth : Method} {c : Code} {G : va_G} {L : List Nat} {ad : Nat → Nat} {cs : Nat → ClassId} {z : Bool} {zk zv : Nat → Nat} {r : Int32} {M' : Mm} (F : Fx G L ad cs z zk zv p m meth c cX1_mostKnown 3 (some .int) s args RX1)  (n : Nat) : PX1_mostKnown p l e s m args below meth c G L ad cs zk r M' n := by
  induction n with
  | zero => exact ⟨(fun a0 M h => by cases h), (fun a0 x1 x2 M h => by cases h)⟩
  | succ n ih =>
    exact ⟨fun a0 M h h0 => wX1_mostKnown_0 F ih a0 M h h0,
      fun a0 x1 x2 M h h0 => wX1_mostKnown_1 F ih a0 x1 x2 M h h0⟩
set_option maxRecDepth 100000 in
set_option maxHeartbeats 4000000 in
theorem tX1_mostKnown {l : Launch} {G : va_G} {L : List Nat} {ad : Nat → Nat} {cs : Nat → ClassId} {z : Bool} {zk zv : Nat → Nat} (hinj : inj L ad)  (a0 : Nat) (h0 : isN L a0) (M : Mm) (r : Int32) (M' : Mm) (h : fX1_mostKnown a0 M = some (r, M')) : Met l yX1_mostKnown (tgW yX1_mostKnown cX1_mostKnown 3 (some .int)) rmX1_mostKnown (APre G L ad cs z zk zv [.ref (ad a0)] M) (AQi G L ad cs r M') 0 0 (inA L ad) := by
  refine met_of (Eq.refl true) (Nat.le_of_ble_eq_true rfl) hinj [some (.ref (ad a0)), none, none] rfl ?_
  intro p e s m below meth c F
  replace F : Fx G L ad cs z zk zv p m meth c cX1_mostKnown 3 (some .int) s _ RX1 := F
  obtain ⟨n, hn⟩ := run_ex h
  exact (wX1_mostKnown F n).1 a0 M hn h0
def rmX1_leastKnown : Room := { frames := 3, cells := 0, slots := 0, locals := 66 }
theorem kn_X1_leastKnown : yX1_leastKnown.cls ≠ "java/lang/invoke/MethodHandle" ∧ yX1_leastKnown.cls ≠ "java/lang/invoke/VarHandle" ∧ (parseMethodDescriptor yX1_leastKnown.desc).map (fun d => d.parameters.length) = some 0 := by decide +kernel
noncomputable def bX1_leastKnown_0 (a0 : Nat) (M : Mm) : Option (Sst ⊕ Rst) := some (.inl (1, [a0], [(-1 : Int32), (0 : Int32)], M))
noncomputable def bX1_leastKnown_1 (a0 : Nat) (x1 : Int32) (x2 : Int32) (M : Mm) : Option (Sst ⊕ Rst) := if (8 : Int32) ≤ x2 then (some (.inr (x1, M))) else (cl (fX1_isAlive a0 x2 M) (fun r1 M1 => if r1 = 0 then (some (.inl (1, [a0], [x1, (x2 + (1 : Int32))], M1))) else (if x1 = (-1 : Int32) then (cl (fX1_known a0 x2 M1) (fun r3 M3 => some (.inl (1, [a0], [r3, (x2 + (1 : Int32))], M3)))) else (cl (fX1_known a0 x2 M1) (fun r2 M2 => some (.inl (1, [a0], [(imin x1 r2), (x2 + (1 : Int32))], M2)))))))
noncomputable def stX1_leastKnown : Sst → Option (Sst ⊕ Rst) := fun q => match q.1 with
  | 0 => bX1_leastKnown_0 (q.2.1.getD 0 0) q.2.2.2
  | 1 => bX1_leastKnown_1 (q.2.1.getD 0 0) (q.2.2.1.getD 0 0) (q.2.2.1.getD 1 0) q.2.2.2
  | _ => none
noncomputable def fX1_leastKnown (a0 : Nat) (M : Mm) : Option Rst := run stX1_leastKnown (0, [a0], [], M)
def PX1_leastKnown (p : Program) (l : Launch) (e : Env) (s : State) (m : MethodId) (args : Array Value) (below : List Frame) (meth : Method) (c : Code) (G : va_G) (L : List Nat) (ad : Nat → Nat) (cs : Nat → ClassId) (zk : Nat → Nat) (r : Int32) (M' : Mm) (n : Nat) : Prop := (∀ (a0 : Nat) (M : Mm), itr stX1_leastKnown n (0, [a0], [], M) = some (r, M') → isN L a0 → AW p l e rmX1_leastKnown s m args below meth c (MQ below (AQi G L ad cs r M') args s 0 0 (inA L ad)) G L ad cs 3 0 [some (.ref (ad a0)), none, none] [] M) ∧ (∀ (a0 : Nat) (x1 : Int32) (x2 : Int32) (M : Mm), itr stX1_leastKnown n (1, [a0], [x1, x2], M) = some (r, M') → isN L a0 → AW p l e rmX1_leastKnown s m args below meth c (MQ below (AQi G L ad cs r M') args s 0 0 (inA L ad)) G L ad cs 3 4 [some (.ref (ad a0)), some (.int x1), some (.int x2)] [] M)
set_option maxRecDepth 100000 in
set_option maxHeartbeats 4000000 in
theorem wX1_leastKnown_0 {p : Program} {l : Launch} {e : Env} {s : State} {m : MethodId} {args : Array Value} {below : List Frame} {meth : Method} {c : Code} {G : va_G} {L : List Nat} {ad : Nat → Nat} {cs : Nat → ClassId} {z : Bool} {zk zv : Nat → Nat} {r : Int32} {M' : Mm} {n : Nat} (F : Fx G L ad cs z zk zv p m meth c cX1_leastKnown 3 (some .int) s args RX1)  (IH : PX1_leastKnown p l e s m args below meth c G L ad cs zk r M' n) (a0 : Nat) (M : Mm) (h : (bX1_leastKnown_0 a0 M).bind (fun q => match q with | .inl s' => itr stX1_leastKnown n s' | .inr r => some r) = some (r, M')) (h0 : isN L a0) : AW p l e rmX1_leastKnown s m args below meth c (MQ below (AQi G L ad cs r M') args s 0 0 (inA L ad)) G L ad cs 3 0 [some (.ref (ad a0)), none, none] [] M := by
  unfold bX1_leastKnown_0 at h
  refine ax_iconst (v := (-1 : Int32)) F dX1_leastKnown_0 (by decide) ?_
  refine ax_istore_n F dX1_leastKnown_1 (by decide) rfl ?_
  refine ax_iconst (v := (0 : Int32)) F dX1_leastKnown_2 (by decide) ?_
  refine ax_istore_n F dX1_leastKnown_3 (by decide) rfl ?_
  exact IH.2 _ _ _ _ h h0
set_option maxRecDepth 100000 in
set_option maxHeartbeats 4000000 in
theorem wX1_leastKnown_1 {p : Program} {l : Launch} {e : Env} {s : State} {m : MethodId} {args : Array Value} {below : List Frame} {meth : Method} {c : Code} {G : va_G} {L : List Nat} {ad : Nat → Nat} {cs : Nat → ClassId} {z : Bool} {zk zv : Nat → Nat} {r : Int32} {M' : Mm} {n : Nat} (F : Fx G L ad cs z zk zv p m meth c cX1_leastKnown 3 (some .int) s args RX1)  (IH : PX1_leastKnown p l e s m args below meth c G L ad cs zk r M' n) (a0 : Nat) (x1 : Int32) (x2 : Int32) (M : Mm) (h : (bX1_leastKnown_1 a0 x1 x2 M).bind (fun q => match q with | .inl s' => itr stX1_leastKnown n s' | .inr r => some r) = some (r, M')) (h0 : isN L a0) : AW p l e rmX1_leastKnown s m args below meth c (MQ below (AQi G L ad cs r M') args s 0 0 (inA L ad)) G L ad cs 3 4 [some (.ref (ad a0)), some (.int x1), some (.int x2)] [] M := by
  unfold bX1_leastKnown_1 at h
  refine ax_iload_n F dX1_leastKnown_4 rfl ?_
  refine ax_bipush (v := (8 : Int32)) F dX1_leastKnown_5 (by decide) ?_
  refine ax_icmp_ge (t := 47) F dX1_leastKnown_7 (by decide) (fun hc => ?_) (fun hc => ?_)
  · have h := it_pos h hc
    refine ax_iload_n F dX1_leastKnown_47 rfl ?_
    obtain ⟨h1, h2⟩ := rt_some h
    subst h1; subst h2
    exact ax_iret F dX1_leastKnown_48
  · have h := it_neg h hc
    refine ax_aload_n F dX1_leastKnown_10 rfl ?_
    refine ax_iload_n F dX1_leastKnown_11 rfl ?_
    obtain ⟨r1, M1, hq1, h⟩ := cq_some h
    refine ax_callVi (As := [.int x2]) (st := []) F (tX1_isAlive F.2.2.2.2.2.2.1 _ _ h0 _ _ _ hq1) (ob_N h0) rfl kc_X1_isAlive kz_X1 ki_X1_isAlive ks_X1_isAlive km_X1_88 ⟨kn_X1_isAlive, rfl, rfl, Nat.le_of_ble_eq_true rfl, Nat.le_of_ble_eq_true rfl⟩ rfl (Nat.le_of_ble_eq_true rfl) dX1_leastKnown_12 ?_
    refine ax_if_eq (t := 41) F dX1_leastKnown_15 (by decide) (fun hc => ?_) (fun hc => ?_)
    · have h := it_pos h hc
      refine ax_iinc (v := (1 : Int32)) F dX1_leastKnown_41 rfl (by decide) (by decide) rfl ?_
      refine ax_goto (t := 4) F dX1_leastKnown_44 (by decide) ?_
      exact IH.2 _ _ _ _ h h0
    · have h := it_neg h hc
      refine ax_iload_n F dX1_leastKnown_18 rfl ?_
      refine ax_iconst (v := (-1 : Int32)) F dX1_leastKnown_19 (by decide) ?_
      refine ax_icmp_ne (t := 31) F dX1_leastKnown_20 (by decide) (fun hc => ?_) (fun hc => ?_)
      · have h := it_neg h hc
        refine ax_iload_n F dX1_leastKnown_31 rfl ?_
        refine ax_aload_n F dX1_leastKnown_32 rfl ?_
        refine ax_iload_n F dX1_leastKnown_33 rfl ?_
        obtain ⟨r2, M2, hq2, h⟩ := cq_some h
        refine ax_callVi (As := [.int x2]) (st := [.int x1]) F (tX1_known F.2.2.2.2.2.2.1 _ _ h0 _ _ _ hq2) (ob_N h0) rfl kc_X1_known kz_X1 ki_X1_known ks_X1_known km_X1_91 ⟨kn_X1_known, rfl, rfl, Nat.le_of_ble_eq_true rfl, Nat.le_of_ble_eq_true rfl⟩ rfl (Nat.le_of_ble_eq_true rfl) dX1_leastKnown_34 ?_
        refine ax_min F km_X1_22 (kt_J9_min_7cf53) kz_J9 (kc_J9_min_7cf53) (Nat.le_of_ble_eq_true rfl) (Nat.le_of_ble_eq_true rfl) dX1_leastKnown_37 ?_
        refine ax_istore_n F dX1_leastKnown_40 (by decide) rfl ?_
        refine ax_iinc (v := (1 : Int32)) F dX1_leastKnown_41 rfl (by decide) (by decide) rfl ?_
        refine ax_goto (t := 4) F dX1_leastKnown_44 (by decide) ?_
        exact IH.2 _ _ _ _ h h0
      · have h := it_pos h hc
        refine ax_aload_n F dX1_leastKnown_23 rfl ?_
        refine ax_iload_n F dX1_leastKnown_24 rfl ?_
        obtain ⟨r3, M3, hq3, h⟩ := cq_some h
        refine ax_callVi (As := [.int x2]) (st := []) F (tX1_known F.2.2.2.2.2.2.1 _ _ h0 _ _ _ hq3) (ob_N h0) rfl kc_X1_known kz_X1 ki_X1_known ks_X1_known km_X1_91 ⟨kn_X1_known, rfl, rfl, Nat.le_of_ble_eq_true rfl, Nat.le_of_ble_eq_true rfl⟩ rfl (Nat.le_of_ble_eq_true rfl) dX1_leastKnown_25 ?_
        refine ax_goto (t := 40) F dX1_leastKnown_28 (by decide) ?_
        refine ax_istore_n F dX1_leastKnown_40 (by decide) rfl ?_
        refine ax_iinc (v := (1 : Int32)) F dX1_leastKnown_41 rfl (by decide) (by decide) rfl ?_
        refine ax_goto (t := 4) F dX1_leastKnown_44 (by decide) ?_
        exact IH.2 _ _ _ _ h h0
set_option maxRecDepth 100000 in
set_option maxHeartbeats 4000000 in
theorem wX1_leastKnown {p : Program} {l : Launch} {e : Env} {s : State} {m : MethodId} {args : Array Value} {below : List Frame} {meth : Method} {c : Code} {G : va_G} {L : List Nat} {ad : Nat → Nat} {cs : Nat → ClassId} {z : Bool} {zk zv : Nat → Nat} {r : Int32} {M' : Mm} (F : Fx G L ad cs z zk zv p m meth c cX1_leastKnown 3 (some .int) s args RX1)  (n : Nat) : PX1_leastKnown p l e s m args below meth c G L ad cs zk r M' n := by
  induction n with
  | zero => exact ⟨(fun a0 M h => by cases h), (fun a0 x1 x2 M h => by cases h)⟩
  | succ n ih =>
    exact ⟨fun a0 M h h0 => wX1_leastKnown_0 F ih a0 M h h0,
      fun a0 x1 x2 M h h0 => wX1_leastKnown_1 F ih a0 x1 x2 M h h0⟩
set_option maxRecDepth 100000 in
set_option maxHeartbeats 4000000 in
theorem tX1_leastKnown {l : Launch} {G : va_G} {L : List Nat} {ad : Nat → Nat} {cs : Nat → ClassId} {z : Bool} {zk zv : Nat → Nat} (hinj : inj L ad)  (a0 : Nat) (h0 : isN L a0) (M : Mm) (r : Int32) (M' : Mm) (h : fX1_leastKnown a0 M = some (r, M')) : Met l yX1_leastKnown (tgW yX1_leastKnown cX1_leastKnown 3 (some .int)) rmX1_leastKnown (APre G L ad cs z zk zv [.ref (ad a0)] M) (AQi G L ad cs r M') 0 0 (inA L ad) := by
  refine met_of (Eq.refl true) (Nat.le_of_ble_eq_true rfl) hinj [some (.ref (ad a0)), none, none] rfl ?_
  intro p e s m below meth c F
  replace F : Fx G L ad cs z zk zv p m meth c cX1_leastKnown 3 (some .int) s _ RX1 := F
  obtain ⟨n, hn⟩ := run_ex h
  exact (wX1_leastKnown F n).1 a0 M hn h0
def rmX7_bits : Room := { frames := 0, cells := 0, slots := 0, locals := 0 }
theorem kn_X7_bits : yX7_bits.cls ≠ "java/lang/invoke/MethodHandle" ∧ yX7_bits.cls ≠ "java/lang/invoke/VarHandle" ∧ (parseMethodDescriptor yX7_bits.desc).map (fun d => d.parameters.length) = some 0 := by decide +kernel
noncomputable def bX7_bits_0 (a0 : Nat) (M : Mm) : Option (Sst ⊕ Rst) := some (.inl (1, [a0], [(0 : Int32), (0 : Int32)], M))
noncomputable def bX7_bits_1 (a0 : Nat) (x1 : Int32) (x2 : Int32) (M : Mm) : Option (Sst ⊕ Rst) := if (M a0 2) ≤ x2 then (some (.inr (x1, M))) else (gd (okI x2 5) (some (.inl (1, [a0], [(x1 ||| (ish (1 : Int32) (M (a0 + 1) (ix x2)))), (x2 + (1 : Int32))], M))))
noncomputable def stX7_bits : Sst → Option (Sst ⊕ Rst) := fun q => match q.1 with
  | 0 => bX7_bits_0 (q.2.1.getD 0 0) q.2.2.2
  | 1 => bX7_bits_1 (q.2.1.getD 0 0) (q.2.2.1.getD 0 0) (q.2.2.1.getD 1 0) q.2.2.2
  | _ => none
noncomputable def fX7_bits (a0 : Nat) (M : Mm) : Option Rst := run stX7_bits (0, [a0], [], M)
def PX7_bits (p : Program) (l : Launch) (e : Env) (s : State) (m : MethodId) (args : Array Value) (below : List Frame) (meth : Method) (c : Code) (G : va_G) (L : List Nat) (ad : Nat → Nat) (cs : Nat → ClassId) (zk : Nat → Nat) (r : Int32) (M' : Mm) (n : Nat) : Prop := (∀ (a0 : Nat) (M : Mm), itr stX7_bits n (0, [a0], [], M) = some (r, M') → isV L a0 → AW p l e rmX7_bits s m args below meth c (MQ below (AQi G L ad cs r M') args s 0 0 (inA L ad)) G L ad cs 3 0 [some (.ref (ad a0)), none, none] [] M) ∧ (∀ (a0 : Nat) (x1 : Int32) (x2 : Int32) (M : Mm), itr stX7_bits n (1, [a0], [x1, x2], M) = some (r, M') → isV L a0 → AW p l e rmX7_bits s m args below meth c (MQ below (AQi G L ad cs r M') args s 0 0 (inA L ad)) G L ad cs 3 4 [some (.ref (ad a0)), some (.int x1), some (.int x2)] [] M)
set_option maxRecDepth 100000 in
set_option maxHeartbeats 4000000 in
theorem wX7_bits_0 {p : Program} {l : Launch} {e : Env} {s : State} {m : MethodId} {args : Array Value} {below : List Frame} {meth : Method} {c : Code} {G : va_G} {L : List Nat} {ad : Nat → Nat} {cs : Nat → ClassId} {z : Bool} {zk zv : Nat → Nat} {r : Int32} {M' : Mm} {n : Nat} (F : Fx G L ad cs z zk zv p m meth c cX7_bits 3 (some .int) s args RX7)  (IH : PX7_bits p l e s m args below meth c G L ad cs zk r M' n) (a0 : Nat) (M : Mm) (h : (bX7_bits_0 a0 M).bind (fun q => match q with | .inl s' => itr stX7_bits n s' | .inr r => some r) = some (r, M')) (h0 : isV L a0) : AW p l e rmX7_bits s m args below meth c (MQ below (AQi G L ad cs r M') args s 0 0 (inA L ad)) G L ad cs 3 0 [some (.ref (ad a0)), none, none] [] M := by
  unfold bX7_bits_0 at h
  refine ax_iconst (v := (0 : Int32)) F dX7_bits_0 (by decide) ?_
  refine ax_istore_n F dX7_bits_1 (by decide) rfl ?_
  refine ax_iconst (v := (0 : Int32)) F dX7_bits_2 (by decide) ?_
  refine ax_istore_n F dX7_bits_3 (by decide) rfl ?_
  exact IH.2 _ _ _ _ h h0
set_option maxRecDepth 100000 in
set_option maxHeartbeats 4000000 in
theorem wX7_bits_1 {p : Program} {l : Launch} {e : Env} {s : State} {m : MethodId} {args : Array Value} {below : List Frame} {meth : Method} {c : Code} {G : va_G} {L : List Nat} {ad : Nat → Nat} {cs : Nat → ClassId} {z : Bool} {zk zv : Nat → Nat} {r : Int32} {M' : Mm} {n : Nat} (F : Fx G L ad cs z zk zv p m meth c cX7_bits 3 (some .int) s args RX7)  (IH : PX7_bits p l e s m args below meth c G L ad cs zk r M' n) (a0 : Nat) (x1 : Int32) (x2 : Int32) (M : Mm) (h : (bX7_bits_1 a0 x1 x2 M).bind (fun q => match q with | .inl s' => itr stX7_bits n s' | .inr r => some r) = some (r, M')) (h0 : isV L a0) : AW p l e rmX7_bits s m args below meth c (MQ below (AQi G L ad cs r M') args s 0 0 (inA L ad)) G L ad cs 3 4 [some (.ref (ad a0)), some (.int x1), some (.int x2)] [] M := by
  unfold bX7_bits_1 at h
  refine ax_iload_n F dX7_bits_4 rfl ?_
  refine ax_aload_n F dX7_bits_5 rfl ?_
  refine ax_get (v := .int (M a0 2)) F (ob_V h0) rfl inGX7 2 (by decide) rfl kf_X7_18 rfl dX7_bits_6 ?_
  refine ax_icmp_ge (t := 29) F dX7_bits_9 (by decide) (fun hc => ?_) (fun hc => ?_)
  · have h := it_pos h hc
    refine ax_iload_n F dX7_bits_29 rfl ?_
    obtain ⟨h1, h2⟩ := rt_some h
    subst h1; subst h2
    exact ax_iret F dX7_bits_30
  · have h := it_neg h hc
    refine ax_iload_n F dX7_bits_12 rfl ?_
    refine ax_iconst (v := (1 : Int32)) F dX7_bits_13 (by decide) ?_
    refine ax_aload_n F dX7_bits_14 rfl ?_
    refine ax_get (v := .ref (ad (a0 + 1))) F (ob_V h0) rfl inGX7 0 (by decide) rfl kf_X7_9 rfl dX7_bits_15 ?_
    refine ax_iload_n F dX7_bits_18 rfl ?_
    obtain ⟨hg, h⟩ := gd_some h
    refine ax_iald F (ar_V1 h0) hg dX7_bits_19 ?_
    refine ax_ishl F dX7_bits_20 ?_
    refine ax_ior F dX7_bits_21 ?_
    refine ax_istore_n F dX7_bits_22 (by decide) rfl ?_
    refine ax_iinc (v := (1 : Int32)) F dX7_bits_23 rfl (by decide) (by decide) rfl ?_
    refine ax_goto (t := 4) F dX7_bits_26 (by decide) ?_
    exact IH.2 _ _ _ _ h h0
set_option maxRecDepth 100000 in
set_option maxHeartbeats 4000000 in
theorem wX7_bits {p : Program} {l : Launch} {e : Env} {s : State} {m : MethodId} {args : Array Value} {below : List Frame} {meth : Method} {c : Code} {G : va_G} {L : List Nat} {ad : Nat → Nat} {cs : Nat → ClassId} {z : Bool} {zk zv : Nat → Nat} {r : Int32} {M' : Mm} (F : Fx G L ad cs z zk zv p m meth c cX7_bits 3 (some .int) s args RX7)  (n : Nat) : PX7_bits p l e s m args below meth c G L ad cs zk r M' n := by
  induction n with
  | zero => exact ⟨(fun a0 M h => by cases h), (fun a0 x1 x2 M h => by cases h)⟩
  | succ n ih =>
    exact ⟨fun a0 M h h0 => wX7_bits_0 F ih a0 M h h0,
      fun a0 x1 x2 M h h0 => wX7_bits_1 F ih a0 x1 x2 M h h0⟩
set_option maxRecDepth 100000 in
set_option maxHeartbeats 4000000 in
theorem tX7_bits {l : Launch} {G : va_G} {L : List Nat} {ad : Nat → Nat} {cs : Nat → ClassId} {z : Bool} {zk zv : Nat → Nat} (hinj : inj L ad)  (a0 : Nat) (h0 : isV L a0) (M : Mm) (r : Int32) (M' : Mm) (h : fX7_bits a0 M = some (r, M')) : Met l yX7_bits (tgW yX7_bits cX7_bits 3 (some .int)) rmX7_bits (APre G L ad cs z zk zv [.ref (ad a0)] M) (AQi G L ad cs r M') 0 0 (inA L ad) := by
  refine met_of (Eq.refl true) (Nat.le_of_ble_eq_true rfl) hinj [some (.ref (ad a0)), none, none] rfl ?_
  intro p e s m below meth c F
  replace F : Fx G L ad cs z zk zv p m meth c cX7_bits 3 (some .int) s _ RX7 := F
  obtain ⟨n, hn⟩ := run_ex h
  exact (wX7_bits F n).1 a0 M hn h0
def rmX1_waysOut : Room := { frames := 2, cells := 0, slots := 0, locals := 42 }
theorem kn_X1_waysOut : yX1_waysOut.cls ≠ "java/lang/invoke/MethodHandle" ∧ yX1_waysOut.cls ≠ "java/lang/invoke/VarHandle" ∧ (parseMethodDescriptor yX1_waysOut.desc).map (fun d => d.parameters.length) = some 1 := by decide +kernel
noncomputable def bX1_waysOut_0 (a0 : Nat) (x1 : Int32) (M : Mm) : Option (Sst ⊕ Rst) := some (.inl (1, [a0], [x1, (0 : Int32), (0 : Int32)], M))
noncomputable def bX1_waysOut_1 (a0 : Nat) (x1 : Int32) (x2 : Int32) (x3 : Int32) (M : Mm) : Option (Sst ⊕ Rst) := if (8 : Int32) ≤ x3 then (some (.inr (x2, M))) else (cl (fX1_isAlive a0 x3 M) (fun r1 M1 => if r1 = 0 then (some (.inl (1, [a0], [x1, x2, (x3 + (1 : Int32))], M1))) else (if ((isr x1 x3) &&& (1 : Int32)) = (1 : Int32) then (gd (okI x3 8) (cl (fX7_bits (a0 + 2 + 3 * ix (x3)) M1) (fun r2 M2 => some (.inl (1, [a0], [x1, (x2 ||| (r2 &&& (M2 a0 5))), (x3 + (1 : Int32))], M2))))) else (some (.inl (1, [a0], [x1, x2, (x3 + (1 : Int32))], M1))))))
noncomputable def stX1_waysOut : Sst → Option (Sst ⊕ Rst) := fun q => match q.1 with
  | 0 => bX1_waysOut_0 (q.2.1.getD 0 0) (q.2.2.1.getD 0 0) q.2.2.2
  | 1 => bX1_waysOut_1 (q.2.1.getD 0 0) (q.2.2.1.getD 0 0) (q.2.2.1.getD 1 0) (q.2.2.1.getD 2 0) q.2.2.2
  | _ => none
noncomputable def fX1_waysOut (a0 : Nat) (x1 : Int32) (M : Mm) : Option Rst := run stX1_waysOut (0, [a0], [x1], M)
def PX1_waysOut (p : Program) (l : Launch) (e : Env) (s : State) (m : MethodId) (args : Array Value) (below : List Frame) (meth : Method) (c : Code) (G : va_G) (L : List Nat) (ad : Nat → Nat) (cs : Nat → ClassId) (zk : Nat → Nat) (r : Int32) (M' : Mm) (n : Nat) : Prop := (∀ (a0 : Nat) (x1 : Int32) (M : Mm), itr stX1_waysOut n (0, [a0], [x1], M) = some (r, M') → isN L a0 → AW p l e rmX1_waysOut s m args below meth c (MQ below (AQi G L ad cs r M') args s 0 0 (inA L ad)) G L ad cs 4 0 [some (.ref (ad a0)), some (.int x1), none, none] [] M) ∧ (∀ (a0 : Nat) (x1 : Int32) (x2 : Int32) (x3 : Int32) (M : Mm), itr stX1_waysOut n (1, [a0], [x1, x2, x3], M) = some (r, M') → isN L a0 → AW p l e rmX1_waysOut s m args below meth c (MQ below (AQi G L ad cs r M') args s 0 0 (inA L ad)) G L ad cs 4 4 [some (.ref (ad a0)), some (.int x1), some (.int x2), some (.int x3)] [] M)
set_option maxRecDepth 100000 in
set_option maxHeartbeats 4000000 in
theorem wX1_waysOut_0 {p : Program} {l : Launch} {e : Env} {s : State} {m : MethodId} {args : Array Value} {below : List Frame} {meth : Method} {c : Code} {G : va_G} {L : List Nat} {ad : Nat → Nat} {cs : Nat → ClassId} {z : Bool} {zk zv : Nat → Nat} {r : Int32} {M' : Mm} {n : Nat} (F : Fx G L ad cs z zk zv p m meth c cX1_waysOut 4 (some .int) s args RX1)  (IH : PX1_waysOut p l e s m args below meth c G L ad cs zk r M' n) (a0 : Nat) (x1 : Int32) (M : Mm) (h : (bX1_waysOut_0 a0 x1 M).bind (fun q => match q with | .inl s' => itr stX1_waysOut n s' | .inr r => some r) = some (r, M')) (h0 : isN L a0) : AW p l e rmX1_waysOut s m args below meth c (MQ below (AQi G L ad cs r M') args s 0 0 (inA L ad)) G L ad cs 4 0 [some (.ref (ad a0)), some (.int x1), none, none] [] M := by
  unfold bX1_waysOut_0 at h
  refine ax_iconst (v := (0 : Int32)) F dX1_waysOut_0 (by decide) ?_
  refine ax_istore_n F dX1_waysOut_1 (by decide) rfl ?_
  refine ax_iconst (v := (0 : Int32)) F dX1_waysOut_2 (by decide) ?_
  refine ax_istore_n F dX1_waysOut_3 (by decide) rfl ?_
  exact IH.2 _ _ _ _ _ h h0
set_option maxRecDepth 100000 in
set_option maxHeartbeats 4000000 in
theorem wX1_waysOut_1 {p : Program} {l : Launch} {e : Env} {s : State} {m : MethodId} {args : Array Value} {below : List Frame} {meth : Method} {c : Code} {G : va_G} {L : List Nat} {ad : Nat → Nat} {cs : Nat → ClassId} {z : Bool} {zk zv : Nat → Nat} {r : Int32} {M' : Mm} {n : Nat} (F : Fx G L ad cs z zk zv p m meth c cX1_waysOut 4 (some .int) s args RX1)  (IH : PX1_waysOut p l e s m args below meth c G L ad cs zk r M' n) (a0 : Nat) (x1 : Int32) (x2 : Int32) (x3 : Int32) (M : Mm) (h : (bX1_waysOut_1 a0 x1 x2 x3 M).bind (fun q => match q with | .inl s' => itr stX1_waysOut n s' | .inr r => some r) = some (r, M')) (h0 : isN L a0) : AW p l e rmX1_waysOut s m args below meth c (MQ below (AQi G L ad cs r M') args s 0 0 (inA L ad)) G L ad cs 4 4 [some (.ref (ad a0)), some (.int x1), some (.int x2), some (.int x3)] [] M := by
  unfold bX1_waysOut_1 at h
  refine ax_iload_n F dX1_waysOut_4 rfl ?_
  refine ax_bipush (v := (8 : Int32)) F dX1_waysOut_5 (by decide) ?_
  refine ax_icmp_ge (t := 50) F dX1_waysOut_7 (by decide) (fun hc => ?_) (fun hc => ?_)
  · have h := it_pos h hc
    refine ax_iload_n F dX1_waysOut_50 rfl ?_
    obtain ⟨h1, h2⟩ := rt_some h
    subst h1; subst h2
    exact ax_iret F dX1_waysOut_51
  · have h := it_neg h hc
    refine ax_aload_n F dX1_waysOut_10 rfl ?_
    refine ax_iload_n F dX1_waysOut_11 rfl ?_
    obtain ⟨r1, M1, hq1, h⟩ := cq_some h
    refine ax_callVi (As := [.int x3]) (st := []) F (tX1_isAlive F.2.2.2.2.2.2.1 _ _ h0 _ _ _ hq1) (ob_N h0) rfl kc_X1_isAlive kz_X1 ki_X1_isAlive ks_X1_isAlive km_X1_88 ⟨kn_X1_isAlive, rfl, rfl, Nat.le_of_ble_eq_true rfl, Nat.le_of_ble_eq_true rfl⟩ rfl (Nat.le_of_ble_eq_true rfl) dX1_waysOut_12 ?_
    refine ax_if_eq (t := 44) F dX1_waysOut_15 (by decide) (fun hc => ?_) (fun hc => ?_)
    · have h := it_pos h hc
      refine ax_iinc (v := (1 : Int32)) F dX1_waysOut_44 rfl (by decide) (by decide) rfl ?_
      refine ax_goto (t := 4) F dX1_waysOut_47 (by decide) ?_
      exact IH.2 _ _ _ _ _ h h0
    · have h := it_neg h hc
      refine ax_iload_n F dX1_waysOut_18 rfl ?_
      refine ax_iload_n F dX1_waysOut_19 rfl ?_
      refine ax_ishr F dX1_waysOut_20 ?_
      refine ax_iconst (v := (1 : Int32)) F dX1_waysOut_21 (by decide) ?_
      refine ax_iand F dX1_waysOut_22 ?_
      refine ax_iconst (v := (1 : Int32)) F dX1_waysOut_23 (by decide) ?_
      refine ax_icmp_ne (t := 44) F dX1_waysOut_24 (by decide) (fun hc => ?_) (fun hc => ?_)
      · have h := it_neg h hc
        refine ax_iinc (v := (1 : Int32)) F dX1_waysOut_44 rfl (by decide) (by decide) rfl ?_
        refine ax_goto (t := 4) F dX1_waysOut_47 (by decide) ?_
        exact IH.2 _ _ _ _ _ h h0
      · have h := it_pos h hc
        refine ax_iload_n F dX1_waysOut_27 rfl ?_
        refine ax_aload_n F dX1_waysOut_28 rfl ?_
        refine ax_get (v := .ref (ad (a0 + 1))) F (ob_N h0) rfl inGX1 0 (by decide) rfl kf_X1_11 rfl dX1_waysOut_29 ?_
        refine ax_iload_n F dX1_waysOut_32 rfl ?_
        obtain ⟨hi1, h⟩ := gd_some h
        refine ax_aald F (rf_N h0) rfl hi1 dX1_waysOut_33 ?_
        obtain ⟨r2, M2, hq2, h⟩ := cq_some h
        refine ax_callVi (As := []) (st := [.int x2]) F (tX7_bits F.2.2.2.2.2.2.1 _ (isV_of h0 (okI_lt hi1)) _ _ _ hq2) (ob_V (isV_of h0 (okI_lt hi1))) rfl kc_X7_bits kz_X7 ki_X7_bits ks_X7_bits km_X1_103 ⟨kn_X7_bits, rfl, rfl, Nat.le_of_ble_eq_true rfl, Nat.le_of_ble_eq_true rfl⟩ rfl (Nat.le_of_ble_eq_true rfl) dX1_waysOut_34 ?_
        refine ax_aload_n F dX1_waysOut_37 rfl ?_
        refine ax_get (v := .int (M2 a0 5)) F (ob_N h0) rfl inGX1 5 (by decide) rfl kf_X1_44 rfl dX1_waysOut_38 ?_
        refine ax_iand F dX1_waysOut_41 ?_
        refine ax_ior F dX1_waysOut_42 ?_
        refine ax_istore_n F dX1_waysOut_43 (by decide) rfl ?_
        refine ax_iinc (v := (1 : Int32)) F dX1_waysOut_44 rfl (by decide) (by decide) rfl ?_
        refine ax_goto (t := 4) F dX1_waysOut_47 (by decide) ?_
        exact IH.2 _ _ _ _ _ h h0
set_option maxRecDepth 100000 in
set_option maxHeartbeats 4000000 in
theorem wX1_waysOut {p : Program} {l : Launch} {e : Env} {s : State} {m : MethodId} {args : Array Value} {below : List Frame} {meth : Method} {c : Code} {G : va_G} {L : List Nat} {ad : Nat → Nat} {cs : Nat → ClassId} {z : Bool} {zk zv : Nat → Nat} {r : Int32} {M' : Mm} (F : Fx G L ad cs z zk zv p m meth c cX1_waysOut 4 (some .int) s args RX1)  (n : Nat) : PX1_waysOut p l e s m args below meth c G L ad cs zk r M' n := by
  induction n with
  | zero => exact ⟨(fun a0 x1 M h => by cases h), (fun a0 x1 x2 x3 M h => by cases h)⟩
  | succ n ih =>
    exact ⟨fun a0 x1 M h h0 => wX1_waysOut_0 F ih a0 x1 M h h0,
      fun a0 x1 x2 x3 M h h0 => wX1_waysOut_1 F ih a0 x1 x2 x3 M h h0⟩
set_option maxRecDepth 100000 in
set_option maxHeartbeats 4000000 in
theorem tX1_waysOut {l : Launch} {G : va_G} {L : List Nat} {ad : Nat → Nat} {cs : Nat → ClassId} {z : Bool} {zk zv : Nat → Nat} (hinj : inj L ad)  (a0 : Nat) (x1 : Int32) (h0 : isN L a0) (M : Mm) (r : Int32) (M' : Mm) (h : fX1_waysOut a0 x1 M = some (r, M')) : Met l yX1_waysOut (tgW yX1_waysOut cX1_waysOut 4 (some .int)) rmX1_waysOut (APre G L ad cs z zk zv [.ref (ad a0), .int x1] M) (AQi G L ad cs r M') 0 0 (inA L ad) := by
  refine met_of (Eq.refl true) (Nat.le_of_ble_eq_true rfl) hinj [some (.ref (ad a0)), some (.int x1), none, none] rfl ?_
  intro p e s m below meth c F
  replace F : Fx G L ad cs z zk zv p m meth c cX1_waysOut 4 (some .int) s _ RX1 := F
  obtain ⟨n, hn⟩ := run_ex h
  exact (wX1_waysOut F n).1 a0 x1 M hn h0
def rmX1_fewestWays : Room := { frames := 3, cells := 0, slots := 0, locals := 65 }
theorem kn_X1_fewestWays : yX1_fewestWays.cls ≠ "java/lang/invoke/MethodHandle" ∧ yX1_fewestWays.cls ≠ "java/lang/invoke/VarHandle" ∧ (parseMethodDescriptor yX1_fewestWays.desc).map (fun d => d.parameters.length) = some 2 := by decide +kernel
noncomputable def bX1_fewestWays_0 (a0 : Nat) (x1 : Int32) (x2 : Int32) (M : Mm) : Option (Sst ⊕ Rst) := some (.inl (1, [a0], [x2, (ish (1 : Int32) x1), (1 : Int32)], M))
noncomputable def bX1_fewestWays_1 (a0 : Nat) (x2 : Int32) (x3 : Int32) (x4 : Int32) (M : Mm) : Option (Sst ⊕ Rst) := if (8 : Int32) ≤ x4 then (some (.inr ((-1 : Int32), M))) else (cl (fX1_waysOut a0 x3 M) (fun r1 M1 => if ((isr (x3 ||| r1) x2) &&& (1 : Int32)) = (1 : Int32) then (some (.inr (x4, M1))) else (some (.inl (1, [a0], [x2, (x3 ||| r1), (x4 + (1 : Int32))], M1)))))
noncomputable def stX1_fewestWays : Sst → Option (Sst ⊕ Rst) := fun q => match q.1 with
  | 0 => bX1_fewestWays_0 (q.2.1.getD 0 0) (q.2.2.1.getD 0 0) (q.2.2.1.getD 1 0) q.2.2.2
  | 1 => bX1_fewestWays_1 (q.2.1.getD 0 0) (q.2.2.1.getD 0 0) (q.2.2.1.getD 1 0) (q.2.2.1.getD 2 0) q.2.2.2
  | _ => none
noncomputable def fX1_fewestWays (a0 : Nat) (x1 : Int32) (x2 : Int32) (M : Mm) : Option Rst := run stX1_fewestWays (0, [a0], [x1, x2], M)
def PX1_fewestWays (p : Program) (l : Launch) (e : Env) (s : State) (m : MethodId) (args : Array Value) (below : List Frame) (meth : Method) (c : Code) (G : va_G) (L : List Nat) (ad : Nat → Nat) (cs : Nat → ClassId) (zk : Nat → Nat) (r : Int32) (M' : Mm) (n : Nat) : Prop := (∀ (a0 : Nat) (x1 : Int32) (x2 : Int32) (M : Mm), itr stX1_fewestWays n (0, [a0], [x1, x2], M) = some (r, M') → isN L a0 → AW p l e rmX1_fewestWays s m args below meth c (MQ below (AQi G L ad cs r M') args s 0 0 (inA L ad)) G L ad cs 5 0 [some (.ref (ad a0)), some (.int x1), some (.int x2), none, none] [] M) ∧ (∀ (a0 : Nat) (x2 : Int32) (x3 : Int32) (x4 : Int32) (M : Mm), itr stX1_fewestWays n (1, [a0], [x2, x3, x4], M) = some (r, M') → isN L a0 → AW p l e rmX1_fewestWays s m args below meth c (MQ below (AQi G L ad cs r M') args s 0 0 (inA L ad)) G L ad cs 5 7 [some (.ref (ad a0)), none, some (.int x2), some (.int x3), some (.int x4)] [] M)
set_option maxRecDepth 100000 in
set_option maxHeartbeats 4000000 in
theorem wX1_fewestWays_0 {p : Program} {l : Launch} {e : Env} {s : State} {m : MethodId} {args : Array Value} {below : List Frame} {meth : Method} {c : Code} {G : va_G} {L : List Nat} {ad : Nat → Nat} {cs : Nat → ClassId} {z : Bool} {zk zv : Nat → Nat} {r : Int32} {M' : Mm} {n : Nat} (F : Fx G L ad cs z zk zv p m meth c cX1_fewestWays 5 (some .int) s args RX1)  (IH : PX1_fewestWays p l e s m args below meth c G L ad cs zk r M' n) (a0 : Nat) (x1 : Int32) (x2 : Int32) (M : Mm) (h : (bX1_fewestWays_0 a0 x1 x2 M).bind (fun q => match q with | .inl s' => itr stX1_fewestWays n s' | .inr r => some r) = some (r, M')) (h0 : isN L a0) : AW p l e rmX1_fewestWays s m args below meth c (MQ below (AQi G L ad cs r M') args s 0 0 (inA L ad)) G L ad cs 5 0 [some (.ref (ad a0)), some (.int x1), some (.int x2), none, none] [] M := by
  unfold bX1_fewestWays_0 at h
  refine ax_iconst (v := (1 : Int32)) F dX1_fewestWays_0 (by decide) ?_
  refine ax_iload_n F dX1_fewestWays_1 rfl ?_
  refine ax_ishl F dX1_fewestWays_2 ?_
  refine ax_istore_n F dX1_fewestWays_3 (by decide) rfl ?_
  refine ax_iconst (v := (1 : Int32)) F dX1_fewestWays_4 (by decide) ?_
  refine ax_istore F dX1_fewestWays_5 (by decide) rfl ?_
  refine ax_mask [true, false, true, true, true] ?_
  exact IH.2 _ _ _ _ _ h h0
set_option maxRecDepth 100000 in
set_option maxHeartbeats 4000000 in
theorem wX1_fewestWays_1 {p : Program} {l : Launch} {e : Env} {s : State} {m : MethodId} {args : Array Value} {below : List Frame} {meth : Method} {c : Code} {G : va_G} {L : List Nat} {ad : Nat → Nat} {cs : Nat → ClassId} {z : Bool} {zk zv : Nat → Nat} {r : Int32} {M' : Mm} {n : Nat} (F : Fx G L ad cs z zk zv p m meth c cX1_fewestWays 5 (some .int) s args RX1)  (IH : PX1_fewestWays p l e s m args below meth c G L ad cs zk r M' n) (a0 : Nat) (x2 : Int32) (x3 : Int32) (x4 : Int32) (M : Mm) (h : (bX1_fewestWays_1 a0 x2 x3 x4 M).bind (fun q => match q with | .inl s' => itr stX1_fewestWays n s' | .inr r => some r) = some (r, M')) (h0 : isN L a0) : AW p l e rmX1_fewestWays s m args below meth c (MQ below (AQi G L ad cs r M') args s 0 0 (inA L ad)) G L ad cs 5 7 [some (.ref (ad a0)), none, some (.int x2), some (.int x3), some (.int x4)] [] M := by
  unfold bX1_fewestWays_1 at h
  refine ax_iload F dX1_fewestWays_7 rfl ?_
  refine ax_bipush (v := (8 : Int32)) F dX1_fewestWays_9 (by decide) ?_
  refine ax_icmp_ge (t := 40) F dX1_fewestWays_11 (by decide) (fun hc => ?_) (fun hc => ?_)
  · have h := it_pos h hc
    refine ax_iconst (v := (-1 : Int32)) F dX1_fewestWays_40 (by decide) ?_
    obtain ⟨h1, h2⟩ := rt_some h
    subst h1; subst h2
    exact ax_iret F dX1_fewestWays_41
  · have h := it_neg h hc
    refine ax_iload_n F dX1_fewestWays_14 rfl ?_
    refine ax_aload_n F dX1_fewestWays_15 rfl ?_
    refine ax_iload_n F dX1_fewestWays_16 rfl ?_
    obtain ⟨r1, M1, hq1, h⟩ := cq_some h
    refine ax_callVi (As := [.int x3]) (st := [.int x3]) F (tX1_waysOut F.2.2.2.2.2.2.1 _ _ h0 _ _ _ hq1) (ob_N h0) rfl kc_X1_waysOut kz_X1 ki_X1_waysOut ks_X1_waysOut km_X1_94 ⟨kn_X1_waysOut, rfl, rfl, Nat.le_of_ble_eq_true rfl, Nat.le_of_ble_eq_true rfl⟩ rfl (Nat.le_of_ble_eq_true rfl) dX1_fewestWays_17 ?_
    refine ax_ior F dX1_fewestWays_20 ?_
    refine ax_istore_n F dX1_fewestWays_21 (by decide) rfl ?_
    refine ax_iload_n F dX1_fewestWays_22 rfl ?_
    refine ax_iload_n F dX1_fewestWays_23 rfl ?_
    refine ax_ishr F dX1_fewestWays_24 ?_
    refine ax_iconst (v := (1 : Int32)) F dX1_fewestWays_25 (by decide) ?_
    refine ax_iand F dX1_fewestWays_26 ?_
    refine ax_iconst (v := (1 : Int32)) F dX1_fewestWays_27 (by decide) ?_
    refine ax_icmp_ne (t := 34) F dX1_fewestWays_28 (by decide) (fun hc => ?_) (fun hc => ?_)
    · have h := it_neg h hc
      refine ax_iinc (v := (1 : Int32)) F dX1_fewestWays_34 rfl (by decide) (by decide) rfl ?_
      refine ax_goto (t := 7) F dX1_fewestWays_37 (by decide) ?_
      exact IH.2 _ _ _ _ _ h h0
    · have h := it_pos h hc
      refine ax_iload F dX1_fewestWays_31 rfl ?_
      obtain ⟨h1, h2⟩ := rt_some h
      subst h1; subst h2
      exact ax_iret F dX1_fewestWays_33
set_option maxRecDepth 100000 in
set_option maxHeartbeats 4000000 in
theorem wX1_fewestWays {p : Program} {l : Launch} {e : Env} {s : State} {m : MethodId} {args : Array Value} {below : List Frame} {meth : Method} {c : Code} {G : va_G} {L : List Nat} {ad : Nat → Nat} {cs : Nat → ClassId} {z : Bool} {zk zv : Nat → Nat} {r : Int32} {M' : Mm} (F : Fx G L ad cs z zk zv p m meth c cX1_fewestWays 5 (some .int) s args RX1)  (n : Nat) : PX1_fewestWays p l e s m args below meth c G L ad cs zk r M' n := by
  induction n with
  | zero => exact ⟨(fun a0 x1 x2 M h => by cases h), (fun a0 x2 x3 x4 M h => by cases h)⟩
  | succ n ih =>
    exact ⟨fun a0 x1 x2 M h h0 => wX1_fewestWays_0 F ih a0 x1 x2 M h h0,
      fun a0 x2 x3 x4 M h h0 => wX1_fewestWays_1 F ih a0 x2 x3 x4 M h h0⟩
set_option maxRecDepth 100000 in
set_option maxHeartbeats 4000000 in
theorem tX1_fewestWays {l : Launch} {G : va_G} {L : List Nat} {ad : Nat → Nat} {cs : Nat → ClassId} {z : Bool} {zk zv : Nat → Nat} (hinj : inj L ad)  (a0 : Nat) (x1 : Int32) (x2 : Int32) (h0 : isN L a0) (M : Mm) (r : Int32) (M' : Mm) (h : fX1_fewestWays a0 x1 x2 M = some (r, M')) : Met l yX1_fewestWays (tgW yX1_fewestWays cX1_fewestWays 5 (some .int)) rmX1_fewestWays (APre G L ad cs z zk zv [.ref (ad a0), .int x1, .int x2] M) (AQi G L ad cs r M') 0 0 (inA L ad) := by
  refine met_of (Eq.refl true) (Nat.le_of_ble_eq_true rfl) hinj [some (.ref (ad a0)), some (.int x1), some (.int x2), none, none] rfl ?_
  intro p e s m below meth c F
  replace F : Fx G L ad cs z zk zv p m meth c cX1_fewestWays 5 (some .int) s _ RX1 := F
  obtain ⟨n, hn⟩ := run_ex h
  exact (wX1_fewestWays F n).1 a0 x1 x2 M hn h0
def rmX1_waysInto : Room := { frames := 2, cells := 0, slots := 0, locals := 42 }
theorem kn_X1_waysInto : yX1_waysInto.cls ≠ "java/lang/invoke/MethodHandle" ∧ yX1_waysInto.cls ≠ "java/lang/invoke/VarHandle" ∧ (parseMethodDescriptor yX1_waysInto.desc).map (fun d => d.parameters.length) = some 1 := by decide +kernel
noncomputable def bX1_waysInto_0 (a0 : Nat) (x1 : Int32) (M : Mm) : Option (Sst ⊕ Rst) := some (.inl (1, [a0], [x1, (0 : Int32), (0 : Int32)], M))
noncomputable def bX1_waysInto_1 (a0 : Nat) (x1 : Int32) (x2 : Int32) (x3 : Int32) (M : Mm) : Option (Sst ⊕ Rst) := if (8 : Int32) ≤ x3 then (some (.inr (x2, M))) else (cl (fX1_isAlive a0 x3 M) (fun r1 M1 => if r1 = 0 then (some (.inl (1, [a0], [x1, x2, (x3 + (1 : Int32))], M1))) else (gd (okI x3 8) (cl (fX7_bits (a0 + 2 + 3 * ix (x3)) M1) (fun r2 M2 => if ((r2 &&& (M2 a0 5)) &&& x1) = 0 then (some (.inl (1, [a0], [x1, x2, (x3 + (1 : Int32))], M2))) else (some (.inl (1, [a0], [x1, (x2 ||| (ish (1 : Int32) x3)), (x3 + (1 : Int32))], M2))))))))
noncomputable def stX1_waysInto : Sst → Option (Sst ⊕ Rst) := fun q => match q.1 with
  | 0 => bX1_waysInto_0 (q.2.1.getD 0 0) (q.2.2.1.getD 0 0) q.2.2.2
  | 1 => bX1_waysInto_1 (q.2.1.getD 0 0) (q.2.2.1.getD 0 0) (q.2.2.1.getD 1 0) (q.2.2.1.getD 2 0) q.2.2.2
  | _ => none
noncomputable def fX1_waysInto (a0 : Nat) (x1 : Int32) (M : Mm) : Option Rst := run stX1_waysInto (0, [a0], [x1], M)
def PX1_waysInto (p : Program) (l : Launch) (e : Env) (s : State) (m : MethodId) (args : Array Value) (below : List Frame) (meth : Method) (c : Code) (G : va_G) (L : List Nat) (ad : Nat → Nat) (cs : Nat → ClassId) (zk : Nat → Nat) (r : Int32) (M' : Mm) (n : Nat) : Prop := (∀ (a0 : Nat) (x1 : Int32) (M : Mm), itr stX1_waysInto n (0, [a0], [x1], M) = some (r, M') → isN L a0 → AW p l e rmX1_waysInto s m args below meth c (MQ below (AQi G L ad cs r M') args s 0 0 (inA L ad)) G L ad cs 4 0 [some (.ref (ad a0)), some (.int x1), none, none] [] M) ∧ (∀ (a0 : Nat) (x1 : Int32) (x2 : Int32) (x3 : Int32) (M : Mm), itr stX1_waysInto n (1, [a0], [x1, x2, x3], M) = some (r, M') → isN L a0 → AW p l e rmX1_waysInto s m args below meth c (MQ below (AQi G L ad cs r M') args s 0 0 (inA L ad)) G L ad cs 4 4 [some (.ref (ad a0)), some (.int x1), some (.int x2), some (.int x3)] [] M)
set_option maxRecDepth 100000 in
set_option maxHeartbeats 4000000 in
theorem wX1_waysInto_0 {p : Program} {l : Launch} {e : Env} {s : State} {m : MethodId} {args : Array Value} {below : List Frame} {meth : Method} {c : Code} {G : va_G} {L : List Nat} {ad : Nat → Nat} {cs : Nat → ClassId} {z : Bool} {zk zv : Nat → Nat} {r : Int32} {M' : Mm} {n : Nat} (F : Fx G L ad cs z zk zv p m meth c cX1_waysInto 4 (some .int) s args RX1)  (IH : PX1_waysInto p l e s m args below meth c G L ad cs zk r M' n) (a0 : Nat) (x1 : Int32) (M : Mm) (h : (bX1_waysInto_0 a0 x1 M).bind (fun q => match q with | .inl s' => itr stX1_waysInto n s' | .inr r => some r) = some (r, M')) (h0 : isN L a0) : AW p l e rmX1_waysInto s m args below meth c (MQ below (AQi G L ad cs r M') args s 0 0 (inA L ad)) G L ad cs 4 0 [some (.ref (ad a0)), some (.int x1), none, none] [] M := by
  unfold bX1_waysInto_0 at h
  refine ax_iconst (v := (0 : Int32)) F dX1_waysInto_0 (by decide) ?_
  refine ax_istore_n F dX1_waysInto_1 (by decide) rfl ?_
  refine ax_iconst (v := (0 : Int32)) F dX1_waysInto_2 (by decide) ?_
  refine ax_istore_n F dX1_waysInto_3 (by decide) rfl ?_
  exact IH.2 _ _ _ _ _ h h0
set_option maxRecDepth 100000 in
set_option maxHeartbeats 4000000 in
theorem wX1_waysInto_1 {p : Program} {l : Launch} {e : Env} {s : State} {m : MethodId} {args : Array Value} {below : List Frame} {meth : Method} {c : Code} {G : va_G} {L : List Nat} {ad : Nat → Nat} {cs : Nat → ClassId} {z : Bool} {zk zv : Nat → Nat} {r : Int32} {M' : Mm} {n : Nat} (F : Fx G L ad cs z zk zv p m meth c cX1_waysInto 4 (some .int) s args RX1)  (IH : PX1_waysInto p l e s m args below meth c G L ad cs zk r M' n) (a0 : Nat) (x1 : Int32) (x2 : Int32) (x3 : Int32) (M : Mm) (h : (bX1_waysInto_1 a0 x1 x2 x3 M).bind (fun q => match q with | .inl s' => itr stX1_waysInto n s' | .inr r => some r) = some (r, M')) (h0 : isN L a0) : AW p l e rmX1_waysInto s m args below meth c (MQ below (AQi G L ad cs r M') args s 0 0 (inA L ad)) G L ad cs 4 4 [some (.ref (ad a0)), some (.int x1), some (.int x2), some (.int x3)] [] M := by
  unfold bX1_waysInto_1 at h
  refine ax_iload_n F dX1_waysInto_4 rfl ?_
  refine ax_bipush (v := (8 : Int32)) F dX1_waysInto_5 (by decide) ?_
  refine ax_icmp_ge (t := 49) F dX1_waysInto_7 (by decide) (fun hc => ?_) (fun hc => ?_)
  · have h := it_pos h hc
    refine ax_iload_n F dX1_waysInto_49 rfl ?_
    obtain ⟨h1, h2⟩ := rt_some h
    subst h1; subst h2
    exact ax_iret F dX1_waysInto_50
  · have h := it_neg h hc
    refine ax_aload_n F dX1_waysInto_10 rfl ?_
    refine ax_iload_n F dX1_waysInto_11 rfl ?_
    obtain ⟨r1, M1, hq1, h⟩ := cq_some h
    refine ax_callVi (As := [.int x3]) (st := []) F (tX1_isAlive F.2.2.2.2.2.2.1 _ _ h0 _ _ _ hq1) (ob_N h0) rfl kc_X1_isAlive kz_X1 ki_X1_isAlive ks_X1_isAlive km_X1_88 ⟨kn_X1_isAlive, rfl, rfl, Nat.le_of_ble_eq_true rfl, Nat.le_of_ble_eq_true rfl⟩ rfl (Nat.le_of_ble_eq_true rfl) dX1_waysInto_12 ?_
    refine ax_if_eq (t := 43) F dX1_waysInto_15 (by decide) (fun hc => ?_) (fun hc => ?_)
    · have h := it_pos h hc
      refine ax_iinc (v := (1 : Int32)) F dX1_waysInto_43 rfl (by decide) (by decide) rfl ?_
      refine ax_goto (t := 4) F dX1_waysInto_46 (by decide) ?_
      exact IH.2 _ _ _ _ _ h h0
    · have h := it_neg h hc
      refine ax_aload_n F dX1_waysInto_18 rfl ?_
      refine ax_get (v := .ref (ad (a0 + 1))) F (ob_N h0) rfl inGX1 0 (by decide) rfl kf_X1_11 rfl dX1_waysInto_19 ?_
      refine ax_iload_n F dX1_waysInto_22 rfl ?_
      obtain ⟨hi1, h⟩ := gd_some h
      refine ax_aald F (rf_N h0) rfl hi1 dX1_waysInto_23 ?_
      obtain ⟨r2, M2, hq2, h⟩ := cq_some h
      refine ax_callVi (As := []) (st := []) F (tX7_bits F.2.2.2.2.2.2.1 _ (isV_of h0 (okI_lt hi1)) _ _ _ hq2) (ob_V (isV_of h0 (okI_lt hi1))) rfl kc_X7_bits kz_X7 ki_X7_bits ks_X7_bits km_X1_103 ⟨kn_X7_bits, rfl, rfl, Nat.le_of_ble_eq_true rfl, Nat.le_of_ble_eq_true rfl⟩ rfl (Nat.le_of_ble_eq_true rfl) dX1_waysInto_24 ?_
      refine ax_aload_n F dX1_waysInto_27 rfl ?_
      refine ax_get (v := .int (M2 a0 5)) F (ob_N h0) rfl inGX1 5 (by decide) rfl kf_X1_44 rfl dX1_waysInto_28 ?_
      refine ax_iand F dX1_waysInto_31 ?_
      refine ax_iload_n F dX1_waysInto_32 rfl ?_
      refine ax_iand F dX1_waysInto_33 ?_
      refine ax_if_eq (t := 43) F dX1_waysInto_34 (by decide) (fun hc => ?_) (fun hc => ?_)
      · have h := it_pos h hc
        refine ax_iinc (v := (1 : Int32)) F dX1_waysInto_43 rfl (by decide) (by decide) rfl ?_
        refine ax_goto (t := 4) F dX1_waysInto_46 (by decide) ?_
        exact IH.2 _ _ _ _ _ h h0
      · have h := it_neg h hc
        refine ax_iload_n F dX1_waysInto_37 rfl ?_
        refine ax_iconst (v := (1 : Int32)) F dX1_waysInto_38 (by decide) ?_
        refine ax_iload_n F dX1_waysInto_39 rfl ?_
        refine ax_ishl F dX1_waysInto_40 ?_
        refine ax_ior F dX1_waysInto_41 ?_
        refine ax_istore_n F dX1_waysInto_42 (by decide) rfl ?_
        refine ax_iinc (v := (1 : Int32)) F dX1_waysInto_43 rfl (by decide) (by decide) rfl ?_
        refine ax_goto (t := 4) F dX1_waysInto_46 (by decide) ?_
        exact IH.2 _ _ _ _ _ h h0
set_option maxRecDepth 100000 in
set_option maxHeartbeats 4000000 in
theorem wX1_waysInto {p : Program} {l : Launch} {e : Env} {s : State} {m : MethodId} {args : Array Value} {below : List Frame} {meth : Method} {c : Code} {G : va_G} {L : List Nat} {ad : Nat → Nat} {cs : Nat → ClassId} {z : Bool} {zk zv : Nat → Nat} {r : Int32} {M' : Mm} (F : Fx G L ad cs z zk zv p m meth c cX1_waysInto 4 (some .int) s args RX1)  (n : Nat) : PX1_waysInto p l e s m args below meth c G L ad cs zk r M' n := by
  induction n with
  | zero => exact ⟨(fun a0 x1 M h => by cases h), (fun a0 x1 x2 x3 M h => by cases h)⟩
  | succ n ih =>
    exact ⟨fun a0 x1 M h h0 => wX1_waysInto_0 F ih a0 x1 M h h0,
      fun a0 x1 x2 x3 M h h0 => wX1_waysInto_1 F ih a0 x1 x2 x3 M h h0⟩
set_option maxRecDepth 100000 in
set_option maxHeartbeats 4000000 in
theorem tX1_waysInto {l : Launch} {G : va_G} {L : List Nat} {ad : Nat → Nat} {cs : Nat → ClassId} {z : Bool} {zk zv : Nat → Nat} (hinj : inj L ad)  (a0 : Nat) (x1 : Int32) (h0 : isN L a0) (M : Mm) (r : Int32) (M' : Mm) (h : fX1_waysInto a0 x1 M = some (r, M')) : Met l yX1_waysInto (tgW yX1_waysInto cX1_waysInto 4 (some .int)) rmX1_waysInto (APre G L ad cs z zk zv [.ref (ad a0), .int x1] M) (AQi G L ad cs r M') 0 0 (inA L ad) := by
  refine met_of (Eq.refl true) (Nat.le_of_ble_eq_true rfl) hinj [some (.ref (ad a0)), some (.int x1), none, none] rfl ?_
  intro p e s m below meth c F
  replace F : Fx G L ad cs z zk zv p m meth c cX1_waysInto 4 (some .int) s _ RX1 := F
  obtain ⟨n, hn⟩ := run_ex h
  exact (wX1_waysInto F n).1 a0 x1 M hn h0
def rmX1_partOf : Room := { frames := 3, cells := 0, slots := 0, locals := 65 }
theorem kn_X1_partOf : yX1_partOf.cls ≠ "java/lang/invoke/MethodHandle" ∧ yX1_partOf.cls ≠ "java/lang/invoke/VarHandle" ∧ (parseMethodDescriptor yX1_partOf.desc).map (fun d => d.parameters.length) = some 1 := by decide +kernel
noncomputable def bX1_partOf_0 (a0 : Nat) (x1 : Int32) (M : Mm) : Option (Sst ⊕ Rst) := some (.inl (1, [a0], [(ish (1 : Int32) x1), (0 : Int32)], M))
noncomputable def bX1_partOf_1 (a0 : Nat) (x2 : Int32) (x3 : Int32) (M : Mm) : Option (Sst ⊕ Rst) := if (8 : Int32) ≤ x3 then (some (.inr (x2, M))) else (cl (fX1_waysOut a0 x2 M) (fun r1 M1 => cl (fX1_waysInto a0 x2 M1) (fun r2 M2 => some (.inl (1, [a0], [(x2 ||| (r1 ||| r2)), (x3 + (1 : Int32))], M2)))))
noncomputable def stX1_partOf : Sst → Option (Sst ⊕ Rst) := fun q => match q.1 with
  | 0 => bX1_partOf_0 (q.2.1.getD 0 0) (q.2.2.1.getD 0 0) q.2.2.2
  | 1 => bX1_partOf_1 (q.2.1.getD 0 0) (q.2.2.1.getD 0 0) (q.2.2.1.getD 1 0) q.2.2.2
  | _ => none
noncomputable def fX1_partOf (a0 : Nat) (x1 : Int32) (M : Mm) : Option Rst := run stX1_partOf (0, [a0], [x1], M)
def PX1_partOf (p : Program) (l : Launch) (e : Env) (s : State) (m : MethodId) (args : Array Value) (below : List Frame) (meth : Method) (c : Code) (G : va_G) (L : List Nat) (ad : Nat → Nat) (cs : Nat → ClassId) (zk : Nat → Nat) (r : Int32) (M' : Mm) (n : Nat) : Prop := (∀ (a0 : Nat) (x1 : Int32) (M : Mm), itr stX1_partOf n (0, [a0], [x1], M) = some (r, M') → isN L a0 → AW p l e rmX1_partOf s m args below meth c (MQ below (AQi G L ad cs r M') args s 0 0 (inA L ad)) G L ad cs 4 0 [some (.ref (ad a0)), some (.int x1), none, none] [] M) ∧ (∀ (a0 : Nat) (x2 : Int32) (x3 : Int32) (M : Mm), itr stX1_partOf n (1, [a0], [x2, x3], M) = some (r, M') → isN L a0 → AW p l e rmX1_partOf s m args below meth c (MQ below (AQi G L ad cs r M') args s 0 0 (inA L ad)) G L ad cs 4 6 [some (.ref (ad a0)), none, some (.int x2), some (.int x3)] [] M)
set_option maxRecDepth 100000 in
set_option maxHeartbeats 4000000 in
theorem wX1_partOf_0 {p : Program} {l : Launch} {e : Env} {s : State} {m : MethodId} {args : Array Value} {below : List Frame} {meth : Method} {c : Code} {G : va_G} {L : List Nat} {ad : Nat → Nat} {cs : Nat → ClassId} {z : Bool} {zk zv : Nat → Nat} {r : Int32} {M' : Mm} {n : Nat} (F : Fx G L ad cs z zk zv p m meth c cX1_partOf 4 (some .int) s args RX1)  (IH : PX1_partOf p l e s m args below meth c G L ad cs zk r M' n) (a0 : Nat) (x1 : Int32) (M : Mm) (h : (bX1_partOf_0 a0 x1 M).bind (fun q => match q with | .inl s' => itr stX1_partOf n s' | .inr r => some r) = some (r, M')) (h0 : isN L a0) : AW p l e rmX1_partOf s m args below meth c (MQ below (AQi G L ad cs r M') args s 0 0 (inA L ad)) G L ad cs 4 0 [some (.ref (ad a0)), some (.int x1), none, none] [] M := by
  unfold bX1_partOf_0 at h
  refine ax_iconst (v := (1 : Int32)) F dX1_partOf_0 (by decide) ?_
  refine ax_iload_n F dX1_partOf_1 rfl ?_
  refine ax_ishl F dX1_partOf_2 ?_
  refine ax_istore_n F dX1_partOf_3 (by decide) rfl ?_
  refine ax_iconst (v := (0 : Int32)) F dX1_partOf_4 (by decide) ?_
  refine ax_istore_n F dX1_partOf_5 (by decide) rfl ?_
  refine ax_mask [true, false, true, true] ?_
  exact IH.2 _ _ _ _ h h0
set_option maxRecDepth 100000 in
set_option maxHeartbeats 4000000 in
theorem wX1_partOf_1 {p : Program} {l : Launch} {e : Env} {s : State} {m : MethodId} {args : Array Value} {below : List Frame} {meth : Method} {c : Code} {G : va_G} {L : List Nat} {ad : Nat → Nat} {cs : Nat → ClassId} {z : Bool} {zk zv : Nat → Nat} {r : Int32} {M' : Mm} {n : Nat} (F : Fx G L ad cs z zk zv p m meth c cX1_partOf 4 (some .int) s args RX1)  (IH : PX1_partOf p l e s m args below meth c G L ad cs zk r M' n) (a0 : Nat) (x2 : Int32) (x3 : Int32) (M : Mm) (h : (bX1_partOf_1 a0 x2 x3 M).bind (fun q => match q with | .inl s' => itr stX1_partOf n s' | .inr r => some r) = some (r, M')) (h0 : isN L a0) : AW p l e rmX1_partOf s m args below meth c (MQ below (AQi G L ad cs r M') args s 0 0 (inA L ad)) G L ad cs 4 6 [some (.ref (ad a0)), none, some (.int x2), some (.int x3)] [] M := by
  unfold bX1_partOf_1 at h
  refine ax_iload_n F dX1_partOf_6 rfl ?_
  refine ax_bipush (v := (8 : Int32)) F dX1_partOf_7 (by decide) ?_
  refine ax_icmp_ge (t := 32) F dX1_partOf_9 (by decide) (fun hc => ?_) (fun hc => ?_)
  · have h := it_pos h hc
    refine ax_iload_n F dX1_partOf_32 rfl ?_
    obtain ⟨h1, h2⟩ := rt_some h
    subst h1; subst h2
    exact ax_iret F dX1_partOf_33
  · have h := it_neg h hc
    refine ax_iload_n F dX1_partOf_12 rfl ?_
    refine ax_aload_n F dX1_partOf_13 rfl ?_
    refine ax_iload_n F dX1_partOf_14 rfl ?_
    obtain ⟨r1, M1, hq1, h⟩ := cq_some h
    refine ax_callVi (As := [.int x2]) (st := [.int x2]) F (tX1_waysOut F.2.2.2.2.2.2.1 _ _ h0 _ _ _ hq1) (ob_N h0) rfl kc_X1_waysOut kz_X1 ki_X1_waysOut ks_X1_waysOut km_X1_94 ⟨kn_X1_waysOut, rfl, rfl, Nat.le_of_ble_eq_true rfl, Nat.le_of_ble_eq_true rfl⟩ rfl (Nat.le_of_ble_eq_true rfl) dX1_partOf_15 ?_
    refine ax_aload_n F dX1_partOf_18 rfl ?_
    refine ax_iload_n F dX1_partOf_19 rfl ?_
    obtain ⟨r2, M2, hq2, h⟩ := cq_some h
    refine ax_callVi (As := [.int x2]) (st := [.int r1, .int x2]) F (tX1_waysInto F.2.2.2.2.2.2.1 _ _ h0 _ _ _ hq2) (ob_N h0) rfl kc_X1_waysInto kz_X1 ki_X1_waysInto ks_X1_waysInto km_X1_100 ⟨kn_X1_waysInto, rfl, rfl, Nat.le_of_ble_eq_true rfl, Nat.le_of_ble_eq_true rfl⟩ rfl (Nat.le_of_ble_eq_true rfl) dX1_partOf_20 ?_
    refine ax_ior F dX1_partOf_23 ?_
    refine ax_ior F dX1_partOf_24 ?_
    refine ax_istore_n F dX1_partOf_25 (by decide) rfl ?_
    refine ax_iinc (v := (1 : Int32)) F dX1_partOf_26 rfl (by decide) (by decide) rfl ?_
    refine ax_goto (t := 6) F dX1_partOf_29 (by decide) ?_
    exact IH.2 _ _ _ _ h h0
set_option maxRecDepth 100000 in
set_option maxHeartbeats 4000000 in
theorem wX1_partOf {p : Program} {l : Launch} {e : Env} {s : State} {m : MethodId} {args : Array Value} {below : List Frame} {meth : Method} {c : Code} {G : va_G} {L : List Nat} {ad : Nat → Nat} {cs : Nat → ClassId} {z : Bool} {zk zv : Nat → Nat} {r : Int32} {M' : Mm} (F : Fx G L ad cs z zk zv p m meth c cX1_partOf 4 (some .int) s args RX1)  (n : Nat) : PX1_partOf p l e s m args below meth c G L ad cs zk r M' n := by
  induction n with
  | zero => exact ⟨(fun a0 x1 M h => by cases h), (fun a0 x2 x3 M h => by cases h)⟩
  | succ n ih =>
    exact ⟨fun a0 x1 M h h0 => wX1_partOf_0 F ih a0 x1 M h h0,
      fun a0 x2 x3 M h h0 => wX1_partOf_1 F ih a0 x2 x3 M h h0⟩
set_option maxRecDepth 100000 in
set_option maxHeartbeats 4000000 in
theorem tX1_partOf {l : Launch} {G : va_G} {L : List Nat} {ad : Nat → Nat} {cs : Nat → ClassId} {z : Bool} {zk zv : Nat → Nat} (hinj : inj L ad)  (a0 : Nat) (x1 : Int32) (h0 : isN L a0) (M : Mm) (r : Int32) (M' : Mm) (h : fX1_partOf a0 x1 M = some (r, M')) : Met l yX1_partOf (tgW yX1_partOf cX1_partOf 4 (some .int)) rmX1_partOf (APre G L ad cs z zk zv [.ref (ad a0), .int x1] M) (AQi G L ad cs r M') 0 0 (inA L ad) := by
  refine met_of (Eq.refl true) (Nat.le_of_ble_eq_true rfl) hinj [some (.ref (ad a0)), some (.int x1), none, none] rfl ?_
  intro p e s m below meth c F
  replace F : Fx G L ad cs z zk zv p m meth c cX1_partOf 4 (some .int) s _ RX1 := F
  obtain ⟨n, hn⟩ := run_ex h
  exact (wX1_partOf F n).1 a0 x1 M hn h0
def rmX1_parts : Room := { frames := 4, cells := 0, slots := 0, locals := 88 }
theorem kn_X1_parts : yX1_parts.cls ≠ "java/lang/invoke/MethodHandle" ∧ yX1_parts.cls ≠ "java/lang/invoke/VarHandle" ∧ (parseMethodDescriptor yX1_parts.desc).map (fun d => d.parameters.length) = some 0 := by decide +kernel
noncomputable def bX1_parts_0 (a0 : Nat) (M : Mm) : Option (Sst ⊕ Rst) := some (.inl (1, [a0], [(0 : Int32), (0 : Int32), (0 : Int32)], M))
noncomputable def bX1_parts_1 (a0 : Nat) (x1 : Int32) (x2 : Int32) (x3 : Int32) (M : Mm) : Option (Sst ⊕ Rst) := if (8 : Int32) ≤ x3 then (some (.inr (x1, M))) else (cl (fX1_isAlive a0 x3 M) (fun r1 M1 => if r1 = 0 then (some (.inl (1, [a0], [x1, x2, (x3 + (1 : Int32))], M1))) else (if ((isr x2 x3) &&& (1 : Int32)) = 0 then (cl (fX1_partOf a0 x3 M1) (fun r2 M2 => some (.inl (1, [a0], [(x1 + (1 : Int32)), (x2 ||| r2), (x3 + (1 : Int32))], M2)))) else (some (.inl (1, [a0], [x1, x2, (x3 + (1 : Int32))], M1))))))
noncomputable def stX1_parts : Sst → Option (Sst ⊕ Rst) := fun q => match q.1 with
  | 0 => bX1_parts_0 (q.2.1.getD 0 0) q.2.2.2
  | 1 => bX1_parts_1 (q.2.1.getD 0 0) (q.2.2.1.getD 0 0) (q.2.2.1.getD 1 0) (q.2.2.1.getD 2 0) q.2.2.2
  | _ => none
noncomputable def fX1_parts (a0 : Nat) (M : Mm) : Option Rst := run stX1_parts (0, [a0], [], M)
def PX1_parts (p : Program) (l : Launch) (e : Env) (s : State) (m : MethodId) (args : Array Value) (below : List Frame) (meth : Method) (c : Code) (G : va_G) (L : List Nat) (ad : Nat → Nat) (cs : Nat → ClassId) (zk : Nat → Nat) (r : Int32) (M' : Mm) (n : Nat) : Prop := (∀ (a0 : Nat) (M : Mm), itr stX1_parts n (0, [a0], [], M) = some (r, M') → isN L a0 → AW p l e rmX1_parts s m args below meth c (MQ below (AQi G L ad cs r M') args s 0 0 (inA L ad)) G L ad cs 4 0 [some (.ref (ad a0)), none, none, none] [] M) ∧ (∀ (a0 : Nat) (x1 : Int32) (x2 : Int32) (x3 : Int32) (M : Mm), itr stX1_parts n (1, [a0], [x1, x2, x3], M) = some (r, M') → isN L a0 → AW p l e rmX1_parts s m args below meth c (MQ below (AQi G L ad cs r M') args s 0 0 (inA L ad)) G L ad cs 4 6 [some (.ref (ad a0)), some (.int x1), some (.int x2), some (.int x3)] [] M)
set_option maxRecDepth 100000 in
set_option maxHeartbeats 4000000 in
theorem wX1_parts_0 {p : Program} {l : Launch} {e : Env} {s : State} {m : MethodId} {args : Array Value} {below : List Frame} {meth : Method} {c : Code} {G : va_G} {L : List Nat} {ad : Nat → Nat} {cs : Nat → ClassId} {z : Bool} {zk zv : Nat → Nat} {r : Int32} {M' : Mm} {n : Nat} (F : Fx G L ad cs z zk zv p m meth c cX1_parts 4 (some .int) s args RX1)  (IH : PX1_parts p l e s m args below meth c G L ad cs zk r M' n) (a0 : Nat) (M : Mm) (h : (bX1_parts_0 a0 M).bind (fun q => match q with | .inl s' => itr stX1_parts n s' | .inr r => some r) = some (r, M')) (h0 : isN L a0) : AW p l e rmX1_parts s m args below meth c (MQ below (AQi G L ad cs r M') args s 0 0 (inA L ad)) G L ad cs 4 0 [some (.ref (ad a0)), none, none, none] [] M := by
  unfold bX1_parts_0 at h
  refine ax_iconst (v := (0 : Int32)) F dX1_parts_0 (by decide) ?_
  refine ax_istore_n F dX1_parts_1 (by decide) rfl ?_
  refine ax_iconst (v := (0 : Int32)) F dX1_parts_2 (by decide) ?_
  refine ax_istore_n F dX1_parts_3 (by decide) rfl ?_
  refine ax_iconst (v := (0 : Int32)) F dX1_parts_4 (by decide) ?_
  refine ax_istore_n F dX1_parts_5 (by decide) rfl ?_
  exact IH.2 _ _ _ _ _ h h0
set_option maxRecDepth 100000 in
set_option maxHeartbeats 4000000 in
theorem wX1_parts_1 {p : Program} {l : Launch} {e : Env} {s : State} {m : MethodId} {args : Array Value} {below : List Frame} {meth : Method} {c : Code} {G : va_G} {L : List Nat} {ad : Nat → Nat} {cs : Nat → ClassId} {z : Bool} {zk zv : Nat → Nat} {r : Int32} {M' : Mm} {n : Nat} (F : Fx G L ad cs z zk zv p m meth c cX1_parts 4 (some .int) s args RX1)  (IH : PX1_parts p l e s m args below meth c G L ad cs zk r M' n) (a0 : Nat) (x1 : Int32) (x2 : Int32) (x3 : Int32) (M : Mm) (h : (bX1_parts_1 a0 x1 x2 x3 M).bind (fun q => match q with | .inl s' => itr stX1_parts n s' | .inr r => some r) = some (r, M')) (h0 : isN L a0) : AW p l e rmX1_parts s m args below meth c (MQ below (AQi G L ad cs r M') args s 0 0 (inA L ad)) G L ad cs 4 6 [some (.ref (ad a0)), some (.int x1), some (.int x2), some (.int x3)] [] M := by
  unfold bX1_parts_1 at h
  refine ax_iload_n F dX1_parts_6 rfl ?_
  refine ax_bipush (v := (8 : Int32)) F dX1_parts_7 (by decide) ?_
  refine ax_icmp_ge (t := 45) F dX1_parts_9 (by decide) (fun hc => ?_) (fun hc => ?_)
  · have h := it_pos h hc
    refine ax_iload_n F dX1_parts_45 rfl ?_
    obtain ⟨h1, h2⟩ := rt_some h
    subst h1; subst h2
    exact ax_iret F dX1_parts_46
  · have h := it_neg h hc
    refine ax_aload_n F dX1_parts_12 rfl ?_
    refine ax_iload_n F dX1_parts_13 rfl ?_
    obtain ⟨r1, M1, hq1, h⟩ := cq_some h
    refine ax_callVi (As := [.int x3]) (st := []) F (tX1_isAlive F.2.2.2.2.2.2.1 _ _ h0 _ _ _ hq1) (ob_N h0) rfl kc_X1_isAlive kz_X1 ki_X1_isAlive ks_X1_isAlive km_X1_88 ⟨kn_X1_isAlive, rfl, rfl, Nat.le_of_ble_eq_true rfl, Nat.le_of_ble_eq_true rfl⟩ rfl (Nat.le_of_ble_eq_true rfl) dX1_parts_14 ?_
    refine ax_if_eq (t := 39) F dX1_parts_17 (by decide) (fun hc => ?_) (fun hc => ?_)
    · have h := it_pos h hc
      refine ax_iinc (v := (1 : Int32)) F dX1_parts_39 rfl (by decide) (by decide) rfl ?_
      refine ax_goto (t := 6) F dX1_parts_42 (by decide) ?_
      exact IH.2 _ _ _ _ _ h h0
    · have h := it_neg h hc
      refine ax_iload_n F dX1_parts_20 rfl ?_
      refine ax_iload_n F dX1_parts_21 rfl ?_
      refine ax_ishr F dX1_parts_22 ?_
      refine ax_iconst (v := (1 : Int32)) F dX1_parts_23 (by decide) ?_
      refine ax_iand F dX1_parts_24 ?_
      refine ax_if_ne (t := 39) F dX1_parts_25 (by decide) (fun hc => ?_) (fun hc => ?_)
      · have h := it_neg h hc
        refine ax_iinc (v := (1 : Int32)) F dX1_parts_39 rfl (by decide) (by decide) rfl ?_
        refine ax_goto (t := 6) F dX1_parts_42 (by decide) ?_
        exact IH.2 _ _ _ _ _ h h0
      · have h := it_pos h hc
        refine ax_iinc (v := (1 : Int32)) F dX1_parts_28 rfl (by decide) (by decide) rfl ?_
        refine ax_iload_n F dX1_parts_31 rfl ?_
        refine ax_aload_n F dX1_parts_32 rfl ?_
        refine ax_iload_n F dX1_parts_33 rfl ?_
        obtain ⟨r2, M2, hq2, h⟩ := cq_some h
        refine ax_callVi (As := [.int x3]) (st := [.int x2]) F (tX1_partOf F.2.2.2.2.2.2.1 _ _ h0 _ _ _ hq2) (ob_N h0) rfl kc_X1_partOf kz_X1 ki_X1_partOf ks_X1_partOf km_X1_97 ⟨kn_X1_partOf, rfl, rfl, Nat.le_of_ble_eq_true rfl, Nat.le_of_ble_eq_true rfl⟩ rfl (Nat.le_of_ble_eq_true rfl) dX1_parts_34 ?_
        refine ax_ior F dX1_parts_37 ?_
        refine ax_istore_n F dX1_parts_38 (by decide) rfl ?_
        refine ax_iinc (v := (1 : Int32)) F dX1_parts_39 rfl (by decide) (by decide) rfl ?_
        refine ax_goto (t := 6) F dX1_parts_42 (by decide) ?_
        exact IH.2 _ _ _ _ _ h h0
set_option maxRecDepth 100000 in
set_option maxHeartbeats 4000000 in
theorem wX1_parts {p : Program} {l : Launch} {e : Env} {s : State} {m : MethodId} {args : Array Value} {below : List Frame} {meth : Method} {c : Code} {G : va_G} {L : List Nat} {ad : Nat → Nat} {cs : Nat → ClassId} {z : Bool} {zk zv : Nat → Nat} {r : Int32} {M' : Mm} (F : Fx G L ad cs z zk zv p m meth c cX1_parts 4 (some .int) s args RX1)  (n : Nat) : PX1_parts p l e s m args below meth c G L ad cs zk r M' n := by
  induction n with
  | zero => exact ⟨(fun a0 M h => by cases h), (fun a0 x1 x2 x3 M h => by cases h)⟩
  | succ n ih =>
    exact ⟨fun a0 M h h0 => wX1_parts_0 F ih a0 M h h0,
      fun a0 x1 x2 x3 M h h0 => wX1_parts_1 F ih a0 x1 x2 x3 M h h0⟩
set_option maxRecDepth 100000 in
set_option maxHeartbeats 4000000 in
theorem tX1_parts {l : Launch} {G : va_G} {L : List Nat} {ad : Nat → Nat} {cs : Nat → ClassId} {z : Bool} {zk zv : Nat → Nat} (hinj : inj L ad)  (a0 : Nat) (h0 : isN L a0) (M : Mm) (r : Int32) (M' : Mm) (h : fX1_parts a0 M = some (r, M')) : Met l yX1_parts (tgW yX1_parts cX1_parts 4 (some .int)) rmX1_parts (APre G L ad cs z zk zv [.ref (ad a0)] M) (AQi G L ad cs r M') 0 0 (inA L ad) := by
  refine met_of (Eq.refl true) (Nat.le_of_ble_eq_true rfl) hinj [some (.ref (ad a0)), none, none, none] rfl ?_
  intro p e s m below meth c F
  replace F : Fx G L ad cs z zk zv p m meth c cX1_parts 4 (some .int) s _ RX1 := F
  obtain ⟨n, hn⟩ := run_ex h
  exact (wX1_parts F n).1 a0 M hn h0
noncomputable def fX2_clear  (M : Mm) : Option Rst := some ((0 : Int32), (up2 M 15 2 (0 : Int32)))
def rmX2_clear : Room := { frames := 0, cells := 0, slots := 0, locals := 0 }
theorem kn_X2_clear : yX2_clear.cls ≠ "java/lang/invoke/MethodHandle" ∧ yX2_clear.cls ≠ "java/lang/invoke/VarHandle" ∧ (parseMethodDescriptor yX2_clear.desc).map (fun d => d.parameters.length) = some 0 := by decide +kernel
set_option maxRecDepth 100000 in
set_option maxHeartbeats 4000000 in
theorem tX2_clear {l : Launch} {G : va_G} {L : List Nat} {ad : Nat → Nat} {cs : Nat → ClassId} {z : Bool} {zk zv : Nat → Nat} (hinj : inj L ad) (hx : isX L)   (M : Mm) (r : Int32) (M' : Mm) (h : fX2_clear  M = some (r, M')) : Met l yX2_clear (tgW yX2_clear cX2_clear 1 none) rmX2_clear (APre G L ad cs z zk zv [.ref (ad 15)] M) (AQv G L ad cs M') 0 0 (inA L ad) := by
  refine met_of (Eq.refl true) (Nat.le_of_ble_eq_true rfl) hinj [some (.ref (ad 15))] rfl ?_
  intro p e s m below meth c F
  replace F : Fx G L ad cs z zk zv p m meth c cX2_clear 1 none s _ RX2 := F
  unfold fX2_clear at h
  refine ax_aload_n F dX2_clear_0 rfl ?_
  refine ax_iconst (v := (0 : Int32)) F dX2_clear_1 (by decide) ?_
  refine ax_put (ty := .int) F (ob_15 hx) rfl inGX2 tyX2 tyX2_ok nmX2 2 (by decide) rfl kf_X2_18 (by decide) rfl rfl (Nat.le_of_ble_eq_true rfl) rfl dX2_clear_2 ?_
  obtain ⟨h1, h2⟩ := rt_some0 h
  subst h2
  exact ax_vret F dX2_clear_5
noncomputable def fX2_push (a1 : Nat) (M : Mm) : Option Rst := if (M 15 1) < 0 then (some ((0 : Int32), M)) else (if (M 15 1) < (8 : Int32) then (gd (okI (M 15 1) 8) (cl (fX1_copyFrom (78 + 26 * ix ((M 15 1))) a1 M) (fun r1 M1 => some ((0 : Int32), (up2 (up2 M1 15 1 (irem ((M1 15 1) + (1 : Int32)) (8 : Int32))) 15 2 (imin (((up2 M1 15 1 (irem ((M1 15 1) + (1 : Int32)) (8 : Int32))) 15 2) + (1 : Int32)) (8 : Int32))))))) else (some ((0 : Int32), M)))
def rmX2_push : Room := { frames := 2, cells := 0, slots := 0, locals := 44 }
theorem kn_X2_push : yX2_push.cls ≠ "java/lang/invoke/MethodHandle" ∧ yX2_push.cls ≠ "java/lang/invoke/VarHandle" ∧ (parseMethodDescriptor yX2_push.desc).map (fun d => d.parameters.length) = some 1 := by decide +kernel
set_option maxRecDepth 100000 in
set_option maxHeartbeats 4000000 in
theorem tX2_push {l : Launch} {G : va_G} {L : List Nat} {ad : Nat → Nat} {cs : Nat → ClassId} {z : Bool} {zk zv : Nat → Nat} (hinj : inj L ad) (hx : isX L) (a1 : Nat) (h1 : isN L a1) (M : Mm) (r : Int32) (M' : Mm) (h : fX2_push a1 M = some (r, M')) : Met l yX2_push (tgW yX2_push cX2_push 2 none) rmX2_push (APre G L ad cs z zk zv [.ref (ad 15), .ref (ad a1)] M) (AQv G L ad cs M') 0 0 (inA L ad) := by
  refine met_of (Eq.refl true) (Nat.le_of_ble_eq_true rfl) hinj [some (.ref (ad 15)), some (.ref (ad a1))] rfl ?_
  intro p e s m below meth c F
  replace F : Fx G L ad cs z zk zv p m meth c cX2_push 2 none s _ RX2 := F
  unfold fX2_push at h
  refine ax_aload_n F dX2_push_0 rfl ?_
  refine ax_get (v := .int (M 15 1)) F (ob_15 hx) rfl inGX2 1 (by decide) rfl kf_X2_22 rfl dX2_push_1 ?_
  refine ax_if_lt (t := 16) F dX2_push_4 (by decide) (fun hc => ?_) (fun hc => ?_)
  · have h := it_pos0 h hc
    obtain ⟨h1, h2⟩ := rt_some0 h
    subst h2
    exact ax_vret F dX2_push_16
  · have h := it_neg0 h hc
    refine ax_aload_n F dX2_push_7 rfl ?_
    refine ax_get (v := .int (M 15 1)) F (ob_15 hx) rfl inGX2 1 (by decide) rfl kf_X2_22 rfl dX2_push_8 ?_
    refine ax_bipush (v := (8 : Int32)) F dX2_push_11 (by decide) ?_
    refine ax_icmp_lt (t := 17) F dX2_push_13 (by decide) (fun hc => ?_) (fun hc => ?_)
    · have h := it_pos0 h hc
      refine ax_aload_n F dX2_push_17 rfl ?_
      refine ax_get (v := .ref (ad 16)) F (ob_15 hx) rfl inGX2 0 (by decide) rfl kf_X2_11 rfl dX2_push_18 ?_
      refine ax_aload_n F dX2_push_21 rfl ?_
      refine ax_get (v := .int (M 15 1)) F (ob_15 hx) rfl inGX2 1 (by decide) rfl kf_X2_22 rfl dX2_push_22 ?_
      obtain ⟨hi1, h⟩ := gd_some0 h
      refine ax_aald F (rf_16 hx) rfl hi1 dX2_push_25 ?_
      refine ax_aload_n F dX2_push_26 rfl ?_
      obtain ⟨r1, M1, hq1, h⟩ := cq_some0 h
      refine ax_callVv (As := [.ref (ad a1)]) (st := []) F (tX1_copyFrom F.2.2.2.2.2.2.1 _ _ (isN_past hx (okI_lt hi1)) h1 _ _ _ hq1) (ob_N (isN_past hx (okI_lt hi1))) rfl kc_X1_copyFrom kz_X1 ki_X1_copyFrom ks_X1_copyFrom km_X2_25 ⟨kn_X1_copyFrom, rfl, rfl, Nat.le_of_ble_eq_true rfl, Nat.le_of_ble_eq_true rfl⟩ rfl (Nat.le_of_ble_eq_true rfl) dX2_push_27 ?_
      refine ax_aload_n F dX2_push_30 rfl ?_
      refine ax_aload_n F dX2_push_31 rfl ?_
      refine ax_get (v := .int (M1 15 1)) F (ob_15 hx) rfl inGX2 1 (by decide) rfl kf_X2_22 rfl dX2_push_32 ?_
      refine ax_iconst (v := (1 : Int32)) F dX2_push_35 (by decide) ?_
      refine ax_iadd F dX2_push_36 ?_
      refine ax_bipush (v := (8 : Int32)) F dX2_push_37 (by decide) ?_
      refine ax_irem F dX2_push_39 (by decide) ?_
      refine ax_put (ty := .int) F (ob_15 hx) rfl inGX2 tyX2 tyX2_ok nmX2 1 (by decide) rfl kf_X2_22 (by decide) rfl rfl (Nat.le_of_ble_eq_true rfl) rfl dX2_push_40 ?_
      refine ax_aload_n F dX2_push_43 rfl ?_
      refine ax_aload_n F dX2_push_44 rfl ?_
      refine ax_get (v := .int ((up2 M1 15 1 (irem ((M1 15 1) + (1 : Int32)) (8 : Int32))) 15 2)) F (ob_15 hx) rfl inGX2 2 (by decide) rfl kf_X2_18 rfl dX2_push_45 ?_
      refine ax_iconst (v := (1 : Int32)) F dX2_push_48 (by decide) ?_
      refine ax_iadd F dX2_push_49 ?_
      refine ax_bipush (v := (8 : Int32)) F dX2_push_50 (by decide) ?_
      refine ax_min F km_X2_29 (kt_J9_min_7cf53) kz_J9 (kc_J9_min_7cf53) (Nat.le_of_ble_eq_true rfl) (Nat.le_of_ble_eq_true rfl) dX2_push_52 ?_
      refine ax_put (ty := .int) F (ob_15 hx) rfl inGX2 tyX2 tyX2_ok nmX2 2 (by decide) rfl kf_X2_18 (by decide) rfl rfl (Nat.le_of_ble_eq_true rfl) rfl dX2_push_55 ?_
      obtain ⟨h1, h2⟩ := rt_some0 h
      subst h2
      exact ax_vret F dX2_push_58
    · have h := it_neg0 h hc
      obtain ⟨h1, h2⟩ := rt_some0 h
      subst h2
      exact ax_vret F dX2_push_16
noncomputable def fJ9_floorMod_7cf53 (x0 : Int32) (x1 : Int32) (M : Mm) : Option Rst := gd (decide (¬ x1 = 0)) (if 0 ≤ (x0 ^^^ x1) then (some ((irem x0 x1), M)) else (if (irem x0 x1) = 0 then (some ((irem x0 x1), M)) else (some (((irem x0 x1) + x1), M))))
def rmJ9_floorMod_7cf53 : Room := { frames := 0, cells := 0, slots := 0, locals := 0 }
theorem kn_J9_floorMod_7cf53 : yJ9_floorMod_7cf53.cls ≠ "java/lang/invoke/MethodHandle" ∧ yJ9_floorMod_7cf53.cls ≠ "java/lang/invoke/VarHandle" ∧ (parseMethodDescriptor yJ9_floorMod_7cf53.desc).map (fun d => d.parameters.length) = some 2 := by decide +kernel
set_option maxRecDepth 100000 in
set_option maxHeartbeats 4000000 in
theorem tJ9_floorMod_7cf53 {l : Launch} {G : va_G} {L : List Nat} {ad : Nat → Nat} {cs : Nat → ClassId} {z : Bool} {zk zv : Nat → Nat} (hinj : inj L ad)  (x0 : Int32) (x1 : Int32)  (M : Mm) (r : Int32) (M' : Mm) (h : fJ9_floorMod_7cf53 x0 x1 M = some (r, M')) : Met l yJ9_floorMod_7cf53 (tgW yJ9_floorMod_7cf53 cJ9_floorMod_7cf53 3 (some .int)) rmJ9_floorMod_7cf53 (APre G L ad cs z zk zv [.int x0, .int x1] M) (AQi G L ad cs r M') 0 0 (inA L ad) := by
  refine met_ofF (by decide +kernel) (Nat.le_of_ble_eq_true rfl) hinj [some (.int x0), some (.int x1), none] rfl ?_
  intro p e s m below meth c F
  replace F : Fx G L ad cs z zk zv p m meth c cJ9_floorMod_7cf53 3 (some .int) s _ RJ9 := F
  unfold fJ9_floorMod_7cf53 at h
  refine ax_iload_n F dJ9_floorMod_7cf53_0 rfl ?_
  refine ax_iload_n F dJ9_floorMod_7cf53_1 rfl ?_
  obtain ⟨hg, h⟩ := gd_some0 h
  refine ax_irem F dJ9_floorMod_7cf53_2 (of_decide_eq_true hg) ?_
  refine ax_istore_n F dJ9_floorMod_7cf53_3 (by decide) rfl ?_
  refine ax_iload_n F dJ9_floorMod_7cf53_4 rfl ?_
  refine ax_iload_n F dJ9_floorMod_7cf53_5 rfl ?_
  refine ax_ixor F dJ9_floorMod_7cf53_6 ?_
  refine ax_if_ge (t := 18) F dJ9_floorMod_7cf53_7 (by decide) (fun hc => ?_) (fun hc => ?_)
  · have h := it_pos0 h hc
    refine ax_iload_n F dJ9_floorMod_7cf53_18 rfl ?_
    obtain ⟨h1, h2⟩ := rt_some0 h
    subst h1; subst h2
    exact ax_iret F dJ9_floorMod_7cf53_19
  · have h := it_neg0 h hc
    refine ax_iload_n F dJ9_floorMod_7cf53_10 rfl ?_
    refine ax_if_eq (t := 18) F dJ9_floorMod_7cf53_11 (by decide) (fun hc => ?_) (fun hc => ?_)
    · have h := it_pos0 h hc
      refine ax_iload_n F dJ9_floorMod_7cf53_18 rfl ?_
      obtain ⟨h1, h2⟩ := rt_some0 h
      subst h1; subst h2
      exact ax_iret F dJ9_floorMod_7cf53_19
    · have h := it_neg0 h hc
      refine ax_iload_n F dJ9_floorMod_7cf53_14 rfl ?_
      refine ax_iload_n F dJ9_floorMod_7cf53_15 rfl ?_
      refine ax_iadd F dJ9_floorMod_7cf53_16 ?_
      obtain ⟨h1, h2⟩ := rt_some0 h
      subst h1; subst h2
      exact ax_iret F dJ9_floorMod_7cf53_17
noncomputable def fX2_pop (a1 : Nat) (M : Mm) : Option Rst := if (1 : Int32) ≤ (M 15 2) then (cl (fJ9_floorMod_7cf53 ((M 15 1) - (1 : Int32)) (8 : Int32) M) (fun r1 M1 => gd (okI ((up2 (up2 M1 15 1 r1) 15 2 (((up2 M1 15 1 r1) 15 2) - (1 : Int32))) 15 1) 8) (cl (fX1_copyFrom a1 (78 + 26 * ix (((up2 (up2 M1 15 1 r1) 15 2 (((up2 M1 15 1 r1) 15 2) - (1 : Int32))) 15 1))) (up2 (up2 M1 15 1 r1) 15 2 (((up2 M1 15 1 r1) 15 2) - (1 : Int32)))) (fun r2 M2 => some ((0 : Int32), M2))))) else (some ((0 : Int32), M))
def rmX2_pop : Room := { frames := 2, cells := 0, slots := 0, locals := 44 }
theorem kn_X2_pop : yX2_pop.cls ≠ "java/lang/invoke/MethodHandle" ∧ yX2_pop.cls ≠ "java/lang/invoke/VarHandle" ∧ (parseMethodDescriptor yX2_pop.desc).map (fun d => d.parameters.length) = some 1 := by decide +kernel
set_option maxRecDepth 100000 in
set_option maxHeartbeats 4000000 in
theorem tX2_pop {l : Launch} {G : va_G} {L : List Nat} {ad : Nat → Nat} {cs : Nat → ClassId} {z : Bool} {zk zv : Nat → Nat} (hinj : inj L ad) (hx : isX L) (a1 : Nat) (h1 : isN L a1) (M : Mm) (r : Int32) (M' : Mm) (h : fX2_pop a1 M = some (r, M')) : Met l yX2_pop (tgW yX2_pop cX2_pop 2 none) rmX2_pop (APre G L ad cs z zk zv [.ref (ad 15), .ref (ad a1)] M) (AQv G L ad cs M') 0 0 (inA L ad) := by
  refine met_of (Eq.refl true) (Nat.le_of_ble_eq_true rfl) hinj [some (.ref (ad 15)), some (.ref (ad a1))] rfl ?_
  intro p e s m below meth c F
  replace F : Fx G L ad cs z zk zv p m meth c cX2_pop 2 none s _ RX2 := F
  unfold fX2_pop at h
  refine ax_aload_n F dX2_pop_0 rfl ?_
  refine ax_get (v := .int (M 15 2)) F (ob_15 hx) rfl inGX2 2 (by decide) rfl kf_X2_18 rfl dX2_pop_1 ?_
  refine ax_iconst (v := (1 : Int32)) F dX2_pop_4 (by decide) ?_
  refine ax_icmp_ge (t := 9) F dX2_pop_5 (by decide) (fun hc => ?_) (fun hc => ?_)
  · have h := it_pos0 h hc
    refine ax_aload_n F dX2_pop_9 rfl ?_
    refine ax_aload_n F dX2_pop_10 rfl ?_
    refine ax_get (v := .int (M 15 1)) F (ob_15 hx) rfl inGX2 1 (by decide) rfl kf_X2_22 rfl dX2_pop_11 ?_
    refine ax_iconst (v := (1 : Int32)) F dX2_pop_14 (by decide) ?_
    refine ax_isub F dX2_pop_15 ?_
    refine ax_bipush (v := (8 : Int32)) F dX2_pop_16 (by decide) ?_
    obtain ⟨r1, M1, hq1, h⟩ := cq_some0 h
    refine ax_callSi (As := [.int ((M 15 1) - (1 : Int32)), .int (8 : Int32)]) (st := [.ref (ad 15)]) F (tJ9_floorMod_7cf53 F.2.2.2.2.2.2.1 _ _  _ _ _ hq1) kc_J9_floorMod_7cf53 kz_J9 kt_J9_floorMod_7cf53 km_X2_35 ⟨kn_J9_floorMod_7cf53, rfl, rfl, Nat.le_of_ble_eq_true rfl, Nat.le_of_ble_eq_true rfl⟩ rfl (Nat.le_of_ble_eq_true rfl) dX2_pop_18 ?_
    refine ax_put (ty := .int) F (ob_15 hx) rfl inGX2 tyX2 tyX2_ok nmX2 1 (by decide) rfl kf_X2_22 (by decide) rfl rfl (Nat.le_of_ble_eq_true rfl) rfl dX2_pop_21 ?_
    refine ax_aload_n F dX2_pop_24 rfl ?_
    refine ax_dup F dX2_pop_25 rfl ?_
    refine ax_get (v := .int ((up2 M1 15 1 r1) 15 2)) F (ob_15 hx) rfl inGX2 2 (by decide) rfl kf_X2_18 rfl dX2_pop_26 ?_
    refine ax_iconst (v := (1 : Int32)) F dX2_pop_29 (by decide) ?_
    refine ax_isub F dX2_pop_30 ?_
    refine ax_put (ty := .int) F (ob_15 hx) rfl inGX2 tyX2 tyX2_ok nmX2 2 (by decide) rfl kf_X2_18 (by decide) rfl rfl (Nat.le_of_ble_eq_true rfl) rfl dX2_pop_31 ?_
    refine ax_aload_n F dX2_pop_34 rfl ?_
    refine ax_aload_n F dX2_pop_35 rfl ?_
    refine ax_get (v := .ref (ad 16)) F (ob_15 hx) rfl inGX2 0 (by decide) rfl kf_X2_11 rfl dX2_pop_36 ?_
    refine ax_aload_n F dX2_pop_39 rfl ?_
    refine ax_get (v := .int ((up2 (up2 M1 15 1 r1) 15 2 (((up2 M1 15 1 r1) 15 2) - (1 : Int32))) 15 1)) F (ob_15 hx) rfl inGX2 1 (by decide) rfl kf_X2_22 rfl dX2_pop_40 ?_
    obtain ⟨hi1, h⟩ := gd_some0 h
    refine ax_aald F (rf_16 hx) rfl hi1 dX2_pop_43 ?_
    obtain ⟨r2, M2, hq2, h⟩ := cq_some0 h
    refine ax_callVv (As := [.ref (ad (78 + 26 * ix (((up2 (up2 M1 15 1 r1) 15 2 (((up2 M1 15 1 r1) 15 2) - (1 : Int32))) 15 1))))]) (st := []) F (tX1_copyFrom F.2.2.2.2.2.2.1 _ _ h1 (isN_past hx (okI_lt hi1)) _ _ _ hq2) (ob_N h1) rfl kc_X1_copyFrom kz_X1 ki_X1_copyFrom ks_X1_copyFrom km_X2_25 ⟨kn_X1_copyFrom, rfl, rfl, Nat.le_of_ble_eq_true rfl, Nat.le_of_ble_eq_true rfl⟩ rfl (Nat.le_of_ble_eq_true rfl) dX2_pop_44 ?_
    obtain ⟨h1, h2⟩ := rt_some0 h
    subst h2
    exact ax_vret F dX2_pop_47
  · have h := it_neg0 h hc
    obtain ⟨h1, h2⟩ := rt_some0 h
    subst h2
    exact ax_vret F dX2_pop_8
noncomputable def fX3_renew (a0 : Nat) (M : Mm) : Option Rst := some ((0 : Int32), (up2 (up2 (up2 M a0 1 (0 : Int32)) a0 2 (0 : Int32)) a0 3 (0 : Int32)))
def rmX3_renew : Room := { frames := 0, cells := 0, slots := 0, locals := 0 }
theorem kn_X3_renew : yX3_renew.cls ≠ "java/lang/invoke/MethodHandle" ∧ yX3_renew.cls ≠ "java/lang/invoke/VarHandle" ∧ (parseMethodDescriptor yX3_renew.desc).map (fun d => d.parameters.length) = some 0 := by decide +kernel
set_option maxRecDepth 100000 in
set_option maxHeartbeats 4000000 in
theorem tX3_renew {l : Launch} {G : va_G} {L : List Nat} {ad : Nat → Nat} {cs : Nat → ClassId} {z : Bool} {zk zv : Nat → Nat} (hinj : inj L ad)  (a0 : Nat) (h0 : isG L a0) (M : Mm) (r : Int32) (M' : Mm) (h : fX3_renew a0 M = some (r, M')) : Met l yX3_renew (tgW yX3_renew cX3_renew 1 none) rmX3_renew (APre G L ad cs z zk zv [.ref (ad a0)] M) (AQv G L ad cs M') 0 0 (inA L ad) := by
  refine met_of (Eq.refl true) (Nat.le_of_ble_eq_true rfl) hinj [some (.ref (ad a0))] rfl ?_
  intro p e s m below meth c F
  replace F : Fx G L ad cs z zk zv p m meth c cX3_renew 1 none s _ RX3 := F
  unfold fX3_renew at h
  refine ax_aload_n F dX3_renew_0 rfl ?_
  refine ax_iconst (v := (0 : Int32)) F dX3_renew_1 (by decide) ?_
  refine ax_put (ty := .int) F (ob_G h0) rfl inGX3 tyX3 tyX3_ok nmX3 1 (by decide) rfl kf_X3_19 (by decide) rfl rfl (Nat.le_of_ble_eq_true rfl) rfl dX3_renew_2 ?_
  refine ax_aload_n F dX3_renew_5 rfl ?_
  refine ax_iconst (v := (0 : Int32)) F dX3_renew_6 (by decide) ?_
  refine ax_put (ty := .int) F (ob_G h0) rfl inGX3 tyX3 tyX3_ok nmX3 2 (by decide) rfl kf_X3_23 (by decide) rfl rfl (Nat.le_of_ble_eq_true rfl) rfl dX3_renew_7 ?_
  refine ax_aload_n F dX3_renew_10 rfl ?_
  refine ax_iconst (v := (0 : Int32)) F dX3_renew_11 (by decide) ?_
  refine ax_put (ty := .boolean) F (ob_G h0) rfl inGX3 tyX3 tyX3_ok nmX3 3 (by decide) rfl kf_X3_15 (by decide) (nar_z (by decide)) (fit_z (by decide)) (Nat.le_of_ble_eq_true rfl) rfl dX3_renew_12 ?_
  obtain ⟨h1, h2⟩ := rt_some0 h
  subst h2
  exact ax_vret F dX3_renew_15
noncomputable def fX3_lose (a0 : Nat) (M : Mm) : Option Rst := some ((0 : Int32), (up2 (up2 (up2 M a0 1 (0 : Int32)) a0 2 (0 : Int32)) a0 3 (1 : Int32)))
def rmX3_lose : Room := { frames := 0, cells := 0, slots := 0, locals := 0 }
theorem kn_X3_lose : yX3_lose.cls ≠ "java/lang/invoke/MethodHandle" ∧ yX3_lose.cls ≠ "java/lang/invoke/VarHandle" ∧ (parseMethodDescriptor yX3_lose.desc).map (fun d => d.parameters.length) = some 0 := by decide +kernel
set_option maxRecDepth 100000 in
set_option maxHeartbeats 4000000 in
theorem tX3_lose {l : Launch} {G : va_G} {L : List Nat} {ad : Nat → Nat} {cs : Nat → ClassId} {z : Bool} {zk zv : Nat → Nat} (hinj : inj L ad)  (a0 : Nat) (h0 : isG L a0) (M : Mm) (r : Int32) (M' : Mm) (h : fX3_lose a0 M = some (r, M')) : Met l yX3_lose (tgW yX3_lose cX3_lose 1 none) rmX3_lose (APre G L ad cs z zk zv [.ref (ad a0)] M) (AQv G L ad cs M') 0 0 (inA L ad) := by
  refine met_of (Eq.refl true) (Nat.le_of_ble_eq_true rfl) hinj [some (.ref (ad a0))] rfl ?_
  intro p e s m below meth c F
  replace F : Fx G L ad cs z zk zv p m meth c cX3_lose 1 none s _ RX3 := F
  unfold fX3_lose at h
  refine ax_aload_n F dX3_lose_0 rfl ?_
  refine ax_iconst (v := (0 : Int32)) F dX3_lose_1 (by decide) ?_
  refine ax_put (ty := .int) F (ob_G h0) rfl inGX3 tyX3 tyX3_ok nmX3 1 (by decide) rfl kf_X3_19 (by decide) rfl rfl (Nat.le_of_ble_eq_true rfl) rfl dX3_lose_2 ?_
  refine ax_aload_n F dX3_lose_5 rfl ?_
  refine ax_iconst (v := (0 : Int32)) F dX3_lose_6 (by decide) ?_
  refine ax_put (ty := .int) F (ob_G h0) rfl inGX3 tyX3 tyX3_ok nmX3 2 (by decide) rfl kf_X3_23 (by decide) rfl rfl (Nat.le_of_ble_eq_true rfl) rfl dX3_lose_7 ?_
  refine ax_aload_n F dX3_lose_10 rfl ?_
  refine ax_iconst (v := (1 : Int32)) F dX3_lose_11 (by decide) ?_
  refine ax_put (ty := .boolean) F (ob_G h0) rfl inGX3 tyX3 tyX3_ok nmX3 3 (by decide) rfl kf_X3_15 (by decide) (nar_z (by decide)) (fit_z (by decide)) (Nat.le_of_ble_eq_true rfl) rfl dX3_lose_12 ?_
  obtain ⟨h1, h2⟩ := rt_some0 h
  subst h2
  exact ax_vret F dX3_lose_15
noncomputable def fX3_lack (a0 : Nat) (M : Mm) : Option Rst := if (M a0 3) = 0 then (some ((-12 : Int32), M)) else (some ((-11 : Int32), M))
def rmX3_lack : Room := { frames := 0, cells := 0, slots := 0, locals := 0 }
theorem kn_X3_lack : yX3_lack.cls ≠ "java/lang/invoke/MethodHandle" ∧ yX3_lack.cls ≠ "java/lang/invoke/VarHandle" ∧ (parseMethodDescriptor yX3_lack.desc).map (fun d => d.parameters.length) = some 0 := by decide +kernel
set_option maxRecDepth 100000 in
set_option maxHeartbeats 4000000 in
theorem tX3_lack {l : Launch} {G : va_G} {L : List Nat} {ad : Nat → Nat} {cs : Nat → ClassId} {z : Bool} {zk zv : Nat → Nat} (hinj : inj L ad)  (a0 : Nat) (h0 : isG L a0) (M : Mm) (r : Int32) (M' : Mm) (h : fX3_lack a0 M = some (r, M')) : Met l yX3_lack (tgW yX3_lack cX3_lack 1 (some .int)) rmX3_lack (APre G L ad cs z zk zv [.ref (ad a0)] M) (AQi G L ad cs r M') 0 0 (inA L ad) := by
  refine met_of (Eq.refl true) (Nat.le_of_ble_eq_true rfl) hinj [some (.ref (ad a0))] rfl ?_
  intro p e s m below meth c F
  replace F : Fx G L ad cs z zk zv p m meth c cX3_lack 1 (some .int) s _ RX3 := F
  unfold fX3_lack at h
  refine ax_aload_n F dX3_lack_0 rfl ?_
  refine ax_get (v := .int (M a0 3)) F (ob_G h0) rfl inGX3 3 (by decide) rfl kf_X3_15 rfl dX3_lack_1 ?_
  refine ax_if_eq (t := 12) F dX3_lack_4 (by decide) (fun hc => ?_) (fun hc => ?_)
  · have h := it_pos0 h hc
    refine ax_bipush (v := (-12 : Int32)) F dX3_lack_12 (by decide) ?_
    obtain ⟨h1, h2⟩ := rt_some0 h
    subst h1; subst h2
    exact ax_iret F dX3_lack_14
  · have h := it_neg0 h hc
    refine ax_bipush (v := (-11 : Int32)) F dX3_lack_7 (by decide) ?_
    refine ax_goto (t := 14) F dX3_lack_9 (by decide) ?_
    obtain ⟨h1, h2⟩ := rt_some0 h
    subst h1; subst h2
    exact ax_iret F dX3_lack_14
def rmX3_insert : Room := { frames := 0, cells := 0, slots := 0, locals := 0 }
theorem kn_X3_insert : yX3_insert.cls ≠ "java/lang/invoke/MethodHandle" ∧ yX3_insert.cls ≠ "java/lang/invoke/VarHandle" ∧ (parseMethodDescriptor yX3_insert.desc).map (fun d => d.parameters.length) = some 1 := by decide +kernel
noncomputable def bX3_insert_0 (a0 : Nat) (x1 : Int32) (M : Mm) : Option (Sst ⊕ Rst) := if (M a0 1) < 0 then (some (.inr ((0 : Int32), M))) else (if (M a0 1) < (8 : Int32) then (if (M a0 1) = 0 then (some (.inl (1, [a0], [x1, (0 : Int32), (M a0 1)], M))) else (some (.inl (1, [a0], [x1, ((M a0 2) + (1 : Int32)), (M a0 1)], M)))) else (some (.inr ((0 : Int32), M))))
noncomputable def bX3_insert_1 (a0 : Nat) (x1 : Int32) (x2 : Int32) (x3 : Int32) (M : Mm) : Option (Sst ⊕ Rst) := if x3 ≤ x2 then (some (.inl (2, [a0], [x1, x2], M))) else (if x3 ≤ 0 then (some (.inl (2, [a0], [x1, x2], M))) else (gd (okI (x3 - (1 : Int32)) 8) (gd (okI x3 8) (some (.inl (1, [a0], [x1, x2, (x3 + (-1 : Int32))], (up2 M (a0 + 1) (ix x3) (M (a0 + 1) (ix (x3 - (1 : Int32)))))))))))
noncomputable def bX3_insert_2 (a0 : Nat) (x1 : Int32) (x2 : Int32) (M : Mm) : Option (Sst ⊕ Rst) := if x2 < 0 then (some (.inr ((0 : Int32), M))) else (if (8 : Int32) ≤ x2 then (some (.inr ((0 : Int32), M))) else (gd (okI x2 8) (some (.inr ((0 : Int32), (up2 (up2 M (a0 + 1) (ix x2) x1) a0 1 (((up2 M (a0 + 1) (ix x2) x1) a0 1) + (1 : Int32))))))))
noncomputable def stX3_insert : Sst → Option (Sst ⊕ Rst) := fun q => match q.1 with
  | 0 => bX3_insert_0 (q.2.1.getD 0 0) (q.2.2.1.getD 0 0) q.2.2.2
  | 1 => bX3_insert_1 (q.2.1.getD 0 0) (q.2.2.1.getD 0 0) (q.2.2.1.getD 1 0) (q.2.2.1.getD 2 0) q.2.2.2
  | 2 => bX3_insert_2 (q.2.1.getD 0 0) (q.2.2.1.getD 0 0) (q.2.2.1.getD 1 0) q.2.2.2
  | _ => none
noncomputable def fX3_insert (a0 : Nat) (x1 : Int32) (M : Mm) : Option Rst := run stX3_insert (0, [a0], [x1], M)
def PX3_insert (p : Program) (l : Launch) (e : Env) (s : State) (m : MethodId) (args : Array Value) (below : List Frame) (meth : Method) (c : Code) (G : va_G) (L : List Nat) (ad : Nat → Nat) (cs : Nat → ClassId) (zk : Nat → Nat) (r : Int32) (M' : Mm) (n : Nat) : Prop := (∀ (a0 : Nat) (x1 : Int32) (M : Mm), itr stX3_insert n (0, [a0], [x1], M) = some (r, M') → isG L a0 → AW p l e rmX3_insert s m args below meth c (MQ below (AQv G L ad cs M') args s 0 0 (inA L ad)) G L ad cs 4 0 [some (.ref (ad a0)), some (.int x1), none, none] [] M) ∧ (∀ (a0 : Nat) (x1 : Int32) (x2 : Int32) (x3 : Int32) (M : Mm), itr stX3_insert n (1, [a0], [x1, x2, x3], M) = some (r, M') → isG L a0 → AW p l e rmX3_insert s m args below meth c (MQ below (AQv G L ad cs M') args s 0 0 (inA L ad)) G L ad cs 4 40 [some (.ref (ad a0)), some (.int x1), some (.int x2), some (.int x3)] [] M) ∧ (∀ (a0 : Nat) (x1 : Int32) (x2 : Int32) (M : Mm), itr stX3_insert n (2, [a0], [x1, x2], M) = some (r, M') → isG L a0 → AW p l e rmX3_insert s m args below meth c (MQ below (AQv G L ad cs M') args s 0 0 (inA L ad)) G L ad cs 4 69 [some (.ref (ad a0)), some (.int x1), some (.int x2), none] [] M)
set_option maxRecDepth 100000 in
set_option maxHeartbeats 4000000 in
theorem wX3_insert_0 {p : Program} {l : Launch} {e : Env} {s : State} {m : MethodId} {args : Array Value} {below : List Frame} {meth : Method} {c : Code} {G : va_G} {L : List Nat} {ad : Nat → Nat} {cs : Nat → ClassId} {z : Bool} {zk zv : Nat → Nat} {r : Int32} {M' : Mm} {n : Nat} (F : Fx G L ad cs z zk zv p m meth c cX3_insert 4 none s args RX3)  (IH : PX3_insert p l e s m args below meth c G L ad cs zk r M' n) (a0 : Nat) (x1 : Int32) (M : Mm) (h : (bX3_insert_0 a0 x1 M).bind (fun q => match q with | .inl s' => itr stX3_insert n s' | .inr r => some r) = some (r, M')) (h0 : isG L a0) : AW p l e rmX3_insert s m args below meth c (MQ below (AQv G L ad cs M') args s 0 0 (inA L ad)) G L ad cs 4 0 [some (.ref (ad a0)), some (.int x1), none, none] [] M := by
  unfold bX3_insert_0 at h
  refine ax_aload_n F dX3_insert_0 rfl ?_
  refine ax_get (v := .int (M a0 1)) F (ob_G h0) rfl inGX3 1 (by decide) rfl kf_X3_19 rfl dX3_insert_1 ?_
  refine ax_if_lt (t := 16) F dX3_insert_4 (by decide) (fun hc => ?_) (fun hc => ?_)
  · have h := it_pos h hc
    obtain ⟨h1, h2⟩ := rt_some h
    subst h2
    exact ax_vret F dX3_insert_16
  · have h := it_neg h hc
    refine ax_aload_n F dX3_insert_7 rfl ?_
    refine ax_get (v := .int (M a0 1)) F (ob_G h0) rfl inGX3 1 (by decide) rfl kf_X3_19 rfl dX3_insert_8 ?_
    refine ax_bipush (v := (8 : Int32)) F dX3_insert_11 (by decide) ?_
    refine ax_icmp_lt (t := 17) F dX3_insert_13 (by decide) (fun hc => ?_) (fun hc => ?_)
    · have h := it_pos h hc
      refine ax_aload_n F dX3_insert_17 rfl ?_
      refine ax_get (v := .int (M a0 1)) F (ob_G h0) rfl inGX3 1 (by decide) rfl kf_X3_19 rfl dX3_insert_18 ?_
      refine ax_if_ne (t := 28) F dX3_insert_21 (by decide) (fun hc => ?_) (fun hc => ?_)
      · have h := it_neg h hc
        refine ax_aload_n F dX3_insert_28 rfl ?_
        refine ax_get (v := .int (M a0 2)) F (ob_G h0) rfl inGX3 2 (by decide) rfl kf_X3_23 rfl dX3_insert_29 ?_
        refine ax_iconst (v := (1 : Int32)) F dX3_insert_32 (by decide) ?_
        refine ax_iadd F dX3_insert_33 ?_
        refine ax_istore_n F dX3_insert_34 (by decide) rfl ?_
        refine ax_aload_n F dX3_insert_35 rfl ?_
        refine ax_get (v := .int (M a0 1)) F (ob_G h0) rfl inGX3 1 (by decide) rfl kf_X3_19 rfl dX3_insert_36 ?_
        refine ax_istore_n F dX3_insert_39 (by decide) rfl ?_
        exact IH.2.1 _ _ _ _ _ h h0
      · have h := it_pos h hc
        refine ax_iconst (v := (0 : Int32)) F dX3_insert_24 (by decide) ?_
        refine ax_goto (t := 34) F dX3_insert_25 (by decide) ?_
        refine ax_istore_n F dX3_insert_34 (by decide) rfl ?_
        refine ax_aload_n F dX3_insert_35 rfl ?_
        refine ax_get (v := .int (M a0 1)) F (ob_G h0) rfl inGX3 1 (by decide) rfl kf_X3_19 rfl dX3_insert_36 ?_
        refine ax_istore_n F dX3_insert_39 (by decide) rfl ?_
        exact IH.2.1 _ _ _ _ _ h h0
    · have h := it_neg h hc
      obtain ⟨h1, h2⟩ := rt_some h
      subst h2
      exact ax_vret F dX3_insert_16
set_option maxRecDepth 100000 in
set_option maxHeartbeats 4000000 in
theorem wX3_insert_1 {p : Program} {l : Launch} {e : Env} {s : State} {m : MethodId} {args : Array Value} {below : List Frame} {meth : Method} {c : Code} {G : va_G} {L : List Nat} {ad : Nat → Nat} {cs : Nat → ClassId} {z : Bool} {zk zv : Nat → Nat} {r : Int32} {M' : Mm} {n : Nat} (F : Fx G L ad cs z zk zv p m meth c cX3_insert 4 none s args RX3)  (IH : PX3_insert p l e s m args below meth c G L ad cs zk r M' n) (a0 : Nat) (x1 : Int32) (x2 : Int32) (x3 : Int32) (M : Mm) (h : (bX3_insert_1 a0 x1 x2 x3 M).bind (fun q => match q with | .inl s' => itr stX3_insert n s' | .inr r => some r) = some (r, M')) (h0 : isG L a0) : AW p l e rmX3_insert s m args below meth c (MQ below (AQv G L ad cs M') args s 0 0 (inA L ad)) G L ad cs 4 40 [some (.ref (ad a0)), some (.int x1), some (.int x2), some (.int x3)] [] M := by
  unfold bX3_insert_1 at h
  refine ax_iload_n F dX3_insert_40 rfl ?_
  refine ax_iload_n F dX3_insert_41 rfl ?_
  refine ax_icmp_le (t := 69) F dX3_insert_42 (by decide) (fun hc => ?_) (fun hc => ?_)
  · have h := it_pos h hc
    refine ax_mask [true, true, true, false] ?_
    exact IH.2.2 _ _ _ _ h h0
  · have h := it_neg h hc
    refine ax_iload_n F dX3_insert_45 rfl ?_
    refine ax_if_le (t := 69) F dX3_insert_46 (by decide) (fun hc => ?_) (fun hc => ?_)
    · have h := it_pos h hc
      refine ax_mask [true, true, true, false] ?_
      exact IH.2.2 _ _ _ _ h h0
    · have h := it_neg h hc
      refine ax_aload_n F dX3_insert_49 rfl ?_
      refine ax_get (v := .ref (ad (a0 + 1))) F (ob_G h0) rfl inGX3 0 (by decide) rfl kf_X3_9 rfl dX3_insert_50 ?_
      refine ax_iload_n F dX3_insert_53 rfl ?_
      refine ax_aload_n F dX3_insert_54 rfl ?_
      refine ax_get (v := .ref (ad (a0 + 1))) F (ob_G h0) rfl inGX3 0 (by decide) rfl kf_X3_9 rfl dX3_insert_55 ?_
      refine ax_iload_n F dX3_insert_58 rfl ?_
      refine ax_iconst (v := (1 : Int32)) F dX3_insert_59 (by decide) ?_
      refine ax_isub F dX3_insert_60 ?_
      obtain ⟨hg, h⟩ := gd_some h
      refine ax_iald F (ar_G1 h0) hg dX3_insert_61 ?_
      obtain ⟨hg, h⟩ := gd_some h
      refine ax_iast F (ar_G1 h0) hg dX3_insert_62 ?_
      refine ax_iinc (v := (-1 : Int32)) F dX3_insert_63 rfl (by decide) (by decide) rfl ?_
      refine ax_goto (t := 40) F dX3_insert_66 (by decide) ?_
      exact IH.2.1 _ _ _ _ _ h h0
set_option maxRecDepth 100000 in
set_option maxHeartbeats 4000000 in
theorem wX3_insert_2 {p : Program} {l : Launch} {e : Env} {s : State} {m : MethodId} {args : Array Value} {below : List Frame} {meth : Method} {c : Code} {G : va_G} {L : List Nat} {ad : Nat → Nat} {cs : Nat → ClassId} {z : Bool} {zk zv : Nat → Nat} {r : Int32} {M' : Mm} {n : Nat} (F : Fx G L ad cs z zk zv p m meth c cX3_insert 4 none s args RX3)  (IH : PX3_insert p l e s m args below meth c G L ad cs zk r M' n) (a0 : Nat) (x1 : Int32) (x2 : Int32) (M : Mm) (h : (bX3_insert_2 a0 x1 x2 M).bind (fun q => match q with | .inl s' => itr stX3_insert n s' | .inr r => some r) = some (r, M')) (h0 : isG L a0) : AW p l e rmX3_insert s m args below meth c (MQ below (AQv G L ad cs M') args s 0 0 (inA L ad)) G L ad cs 4 69 [some (.ref (ad a0)), some (.int x1), some (.int x2), none] [] M := by
  unfold bX3_insert_2 at h
  refine ax_iload_n F dX3_insert_69 rfl ?_
  refine ax_if_lt (t := 96) F dX3_insert_70 (by decide) (fun hc => ?_) (fun hc => ?_)
  · have h := it_pos h hc
    obtain ⟨h1, h2⟩ := rt_some h
    subst h2
    exact ax_vret F dX3_insert_96
  · have h := it_neg h hc
    refine ax_iload_n F dX3_insert_73 rfl ?_
    refine ax_bipush (v := (8 : Int32)) F dX3_insert_74 (by decide) ?_
    refine ax_icmp_ge (t := 96) F dX3_insert_76 (by decide) (fun hc => ?_) (fun hc => ?_)
    · have h := it_pos h hc
      obtain ⟨h1, h2⟩ := rt_some h
      subst h2
      exact ax_vret F dX3_insert_96
    · have h := it_neg h hc
      refine ax_aload_n F dX3_insert_79 rfl ?_
      refine ax_get (v := .ref (ad (a0 + 1))) F (ob_G h0) rfl inGX3 0 (by decide) rfl kf_X3_9 rfl dX3_insert_80 ?_
      refine ax_iload_n F dX3_insert_83 rfl ?_
      refine ax_iload_n F dX3_insert_84 rfl ?_
      obtain ⟨hg, h⟩ := gd_some h
      refine ax_iast F (ar_G1 h0) hg dX3_insert_85 ?_
      refine ax_aload_n F dX3_insert_86 rfl ?_
      refine ax_dup F dX3_insert_87 rfl ?_
      refine ax_get (v := .int ((up2 M (a0 + 1) (ix x2) x1) a0 1)) F (ob_G h0) rfl inGX3 1 (by decide) rfl kf_X3_19 rfl dX3_insert_88 ?_
      refine ax_iconst (v := (1 : Int32)) F dX3_insert_91 (by decide) ?_
      refine ax_iadd F dX3_insert_92 ?_
      refine ax_put (ty := .int) F (ob_G h0) rfl inGX3 tyX3 tyX3_ok nmX3 1 (by decide) rfl kf_X3_19 (by decide) rfl rfl (Nat.le_of_ble_eq_true rfl) rfl dX3_insert_93 ?_
      obtain ⟨h1, h2⟩ := rt_some h
      subst h2
      exact ax_vret F dX3_insert_96
set_option maxRecDepth 100000 in
set_option maxHeartbeats 4000000 in
theorem wX3_insert {p : Program} {l : Launch} {e : Env} {s : State} {m : MethodId} {args : Array Value} {below : List Frame} {meth : Method} {c : Code} {G : va_G} {L : List Nat} {ad : Nat → Nat} {cs : Nat → ClassId} {z : Bool} {zk zv : Nat → Nat} {r : Int32} {M' : Mm} (F : Fx G L ad cs z zk zv p m meth c cX3_insert 4 none s args RX3)  (n : Nat) : PX3_insert p l e s m args below meth c G L ad cs zk r M' n := by
  induction n with
  | zero => exact ⟨(fun a0 x1 M h => by cases h), (fun a0 x1 x2 x3 M h => by cases h), (fun a0 x1 x2 M h => by cases h)⟩
  | succ n ih =>
    exact ⟨fun a0 x1 M h h0 => wX3_insert_0 F ih a0 x1 M h h0,
      fun a0 x1 x2 x3 M h h0 => wX3_insert_1 F ih a0 x1 x2 x3 M h h0,
      fun a0 x1 x2 M h h0 => wX3_insert_2 F ih a0 x1 x2 M h h0⟩
set_option maxRecDepth 100000 in
set_option maxHeartbeats 4000000 in
theorem tX3_insert {l : Launch} {G : va_G} {L : List Nat} {ad : Nat → Nat} {cs : Nat → ClassId} {z : Bool} {zk zv : Nat → Nat} (hinj : inj L ad)  (a0 : Nat) (x1 : Int32) (h0 : isG L a0) (M : Mm) (r : Int32) (M' : Mm) (h : fX3_insert a0 x1 M = some (r, M')) : Met l yX3_insert (tgW yX3_insert cX3_insert 4 none) rmX3_insert (APre G L ad cs z zk zv [.ref (ad a0), .int x1] M) (AQv G L ad cs M') 0 0 (inA L ad) := by
  refine met_of (Eq.refl true) (Nat.le_of_ble_eq_true rfl) hinj [some (.ref (ad a0)), some (.int x1), none, none] rfl ?_
  intro p e s m below meth c F
  replace F : Fx G L ad cs z zk zv p m meth c cX3_insert 4 none s _ RX3 := F
  obtain ⟨n, hn⟩ := run_ex h
  exact (wX3_insert F n).1 a0 x1 M hn h0
noncomputable def fX3_moveHand (a0 : Nat) (x1 : Int32) (M : Mm) : Option Rst := if (M a0 1) ≤ 0 then (some ((0 : Int32), M)) else (gd (decide (¬ (M a0 1) = 0)) (some ((0 : Int32), (up2 M a0 2 (irem ((M a0 2) + x1) (M a0 1))))))
def rmX3_moveHand : Room := { frames := 0, cells := 0, slots := 0, locals := 0 }
theorem kn_X3_moveHand : yX3_moveHand.cls ≠ "java/lang/invoke/MethodHandle" ∧ yX3_moveHand.cls ≠ "java/lang/invoke/VarHandle" ∧ (parseMethodDescriptor yX3_moveHand.desc).map (fun d => d.parameters.length) = some 1 := by decide +kernel
set_option maxRecDepth 100000 in
set_option maxHeartbeats 4000000 in
theorem tX3_moveHand {l : Launch} {G : va_G} {L : List Nat} {ad : Nat → Nat} {cs : Nat → ClassId} {z : Bool} {zk zv : Nat → Nat} (hinj : inj L ad)  (a0 : Nat) (x1 : Int32) (h0 : isG L a0) (M : Mm) (r : Int32) (M' : Mm) (h : fX3_moveHand a0 x1 M = some (r, M')) : Met l yX3_moveHand (tgW yX3_moveHand cX3_moveHand 2 none) rmX3_moveHand (APre G L ad cs z zk zv [.ref (ad a0), .int x1] M) (AQv G L ad cs M') 0 0 (inA L ad) := by
  refine met_of (Eq.refl true) (Nat.le_of_ble_eq_true rfl) hinj [some (.ref (ad a0)), some (.int x1)] rfl ?_
  intro p e s m below meth c F
  replace F : Fx G L ad cs z zk zv p m meth c cX3_moveHand 2 none s _ RX3 := F
  unfold fX3_moveHand at h
  refine ax_aload_n F dX3_moveHand_0 rfl ?_
  refine ax_get (v := .int (M a0 1)) F (ob_G h0) rfl inGX3 1 (by decide) rfl kf_X3_19 rfl dX3_moveHand_1 ?_
  refine ax_if_le (t := 22) F dX3_moveHand_4 (by decide) (fun hc => ?_) (fun hc => ?_)
  · have h := it_pos0 h hc
    obtain ⟨h1, h2⟩ := rt_some0 h
    subst h2
    exact ax_vret F dX3_moveHand_22
  · have h := it_neg0 h hc
    refine ax_aload_n F dX3_moveHand_7 rfl ?_
    refine ax_aload_n F dX3_moveHand_8 rfl ?_
    refine ax_get (v := .int (M a0 2)) F (ob_G h0) rfl inGX3 2 (by decide) rfl kf_X3_23 rfl dX3_moveHand_9 ?_
    refine ax_iload_n F dX3_moveHand_12 rfl ?_
    refine ax_iadd F dX3_moveHand_13 ?_
    refine ax_aload_n F dX3_moveHand_14 rfl ?_
    refine ax_get (v := .int (M a0 1)) F (ob_G h0) rfl inGX3 1 (by decide) rfl kf_X3_19 rfl dX3_moveHand_15 ?_
    obtain ⟨hg, h⟩ := gd_some0 h
    refine ax_irem F dX3_moveHand_18 (of_decide_eq_true hg) ?_
    refine ax_put (ty := .int) F (ob_G h0) rfl inGX3 tyX3 tyX3_ok nmX3 2 (by decide) rfl kf_X3_23 (by decide) rfl rfl (Nat.le_of_ble_eq_true rfl) rfl dX3_moveHand_19 ?_
    obtain ⟨h1, h2⟩ := rt_some0 h
    subst h2
    exact ax_vret F dX3_moveHand_22
noncomputable def fX3_atHand (a0 : Nat) (M : Mm) : Option Rst := if (M a0 2) < 0 then (some ((0 : Int32), M)) else (if (M a0 1) ≤ (M a0 2) then (some ((0 : Int32), M)) else (gd (okI (M a0 2) 8) (some ((M (a0 + 1) (ix (M a0 2))), M))))
def rmX3_atHand : Room := { frames := 0, cells := 0, slots := 0, locals := 0 }
theorem kn_X3_atHand : yX3_atHand.cls ≠ "java/lang/invoke/MethodHandle" ∧ yX3_atHand.cls ≠ "java/lang/invoke/VarHandle" ∧ (parseMethodDescriptor yX3_atHand.desc).map (fun d => d.parameters.length) = some 0 := by decide +kernel
set_option maxRecDepth 100000 in
set_option maxHeartbeats 4000000 in
theorem tX3_atHand {l : Launch} {G : va_G} {L : List Nat} {ad : Nat → Nat} {cs : Nat → ClassId} {z : Bool} {zk zv : Nat → Nat} (hinj : inj L ad)  (a0 : Nat) (h0 : isG L a0) (M : Mm) (r : Int32) (M' : Mm) (h : fX3_atHand a0 M = some (r, M')) : Met l yX3_atHand (tgW yX3_atHand cX3_atHand 1 (some .int)) rmX3_atHand (APre G L ad cs z zk zv [.ref (ad a0)] M) (AQi G L ad cs r M') 0 0 (inA L ad) := by
  refine met_of (Eq.refl true) (Nat.le_of_ble_eq_true rfl) hinj [some (.ref (ad a0))] rfl ?_
  intro p e s m below meth c F
  replace F : Fx G L ad cs z zk zv p m meth c cX3_atHand 1 (some .int) s _ RX3 := F
  unfold fX3_atHand at h
  refine ax_aload_n F dX3_atHand_0 rfl ?_
  refine ax_get (v := .int (M a0 2)) F (ob_G h0) rfl inGX3 2 (by decide) rfl kf_X3_23 rfl dX3_atHand_1 ?_
  refine ax_if_lt (t := 30) F dX3_atHand_4 (by decide) (fun hc => ?_) (fun hc => ?_)
  · have h := it_pos0 h hc
    refine ax_iconst (v := (0 : Int32)) F dX3_atHand_30 (by decide) ?_
    obtain ⟨h1, h2⟩ := rt_some0 h
    subst h1; subst h2
    exact ax_iret F dX3_atHand_31
  · have h := it_neg0 h hc
    refine ax_aload_n F dX3_atHand_7 rfl ?_
    refine ax_get (v := .int (M a0 2)) F (ob_G h0) rfl inGX3 2 (by decide) rfl kf_X3_23 rfl dX3_atHand_8 ?_
    refine ax_aload_n F dX3_atHand_11 rfl ?_
    refine ax_get (v := .int (M a0 1)) F (ob_G h0) rfl inGX3 1 (by decide) rfl kf_X3_19 rfl dX3_atHand_12 ?_
    refine ax_icmp_ge (t := 30) F dX3_atHand_15 (by decide) (fun hc => ?_) (fun hc => ?_)
    · have h := it_pos0 h hc
      refine ax_iconst (v := (0 : Int32)) F dX3_atHand_30 (by decide) ?_
      obtain ⟨h1, h2⟩ := rt_some0 h
      subst h1; subst h2
      exact ax_iret F dX3_atHand_31
    · have h := it_neg0 h hc
      refine ax_aload_n F dX3_atHand_18 rfl ?_
      refine ax_get (v := .ref (ad (a0 + 1))) F (ob_G h0) rfl inGX3 0 (by decide) rfl kf_X3_9 rfl dX3_atHand_19 ?_
      refine ax_aload_n F dX3_atHand_22 rfl ?_
      refine ax_get (v := .int (M a0 2)) F (ob_G h0) rfl inGX3 2 (by decide) rfl kf_X3_23 rfl dX3_atHand_23 ?_
      obtain ⟨hg, h⟩ := gd_some0 h
      refine ax_iald F (ar_G1 h0) hg dX3_atHand_26 ?_
      refine ax_goto (t := 31) F dX3_atHand_27 (by decide) ?_
      obtain ⟨h1, h2⟩ := rt_some0 h
      subst h1; subst h2
      exact ax_iret F dX3_atHand_31
