def rmX9_giveUp : Room := { frames := 1, cells := 0, slots := 0, locals := 24 }
theorem kn_X9_giveUp : yX9_giveUp.cls ≠ "java/lang/invoke/MethodHandle" ∧ yX9_giveUp.cls ≠ "java/lang/invoke/VarHandle" ∧ (parseMethodDescriptor yX9_giveUp.desc).map (fun d => d.parameters.length) = some 3 := by decide +kernel
noncomputable def bX9_giveUp_0 (x1 : Int32) (x2 : Int32) (x3 : Int32) (M : Mm) : Option (Sst ⊕ Rst) := some (.inl (1, [], [x1, x2, x3, ((6 : Int32) * x2)], M))
noncomputable def bX9_giveUp_1 (x1 : Int32) (x2 : Int32) (x3 : Int32) (x4 : Int32) (M : Mm) : Option (Sst ⊕ Rst) := gd (okI x2 2) (if (((6 : Int32) * x2) + (M 348 (ix x2))) ≤ x4 then (some (.inr ((-1 : Int32), M))) else (gd (okI x4 12) (cl (fX9_placeOf x1 x3 (M 346 (ix x4)) M) (fun r1 M1 => gd (okI x4 12) (if (M1 346 (ix x4)) = x3 then (some (.inl (1, [], [x1, x2, x3, (x4 + (1 : Int32))], M1))) else (gd (okI x4 12) (if (M1 349 (ix x4)) = 0 then (if r1 = (-1 : Int32) then (some (.inl (1, [], [x1, x2, x3, (x4 + (1 : Int32))], M1))) else (gd (okI x4 12) (some (.inr (r1, (up2 M1 349 (ix x4) (1 : Int32))))))) else (some (.inl (1, [], [x1, x2, x3, (x4 + (1 : Int32))], M1))))))))))
noncomputable def stX9_giveUp : Sst → Option (Sst ⊕ Rst) := fun q => match q.1 with
  | 0 => bX9_giveUp_0 (q.2.2.1.getD 0 0) (q.2.2.1.getD 1 0) (q.2.2.1.getD 2 0) q.2.2.2
  | 1 => bX9_giveUp_1 (q.2.2.1.getD 0 0) (q.2.2.1.getD 1 0) (q.2.2.1.getD 2 0) (q.2.2.1.getD 3 0) q.2.2.2
  | _ => none
noncomputable def fX9_giveUp (x1 : Int32) (x2 : Int32) (x3 : Int32) (M : Mm) : Option Rst := run stX9_giveUp (0, [], [x1, x2, x3], M)
def PX9_giveUp (p : Program) (l : Launch) (e : Env) (s : State) (m : MethodId) (args : Array Value) (below : List Frame) (meth : Method) (c : Code) (G : va_G) (L : List Nat) (ad : Nat → Nat) (cs : Nat → ClassId) (zk : Nat → Nat) (r : Int32) (M' : Mm) (n : Nat) : Prop := (∀ (x1 : Int32) (x2 : Int32) (x3 : Int32) (M : Mm), itr stX9_giveUp n (0, [], [x1, x2, x3], M) = some (r, M') → AW p l e rmX9_giveUp s m args below meth c (MQ below (AQi G L ad cs r M') args s 0 0 (inA L ad)) G L ad cs 6 0 [some (.ref (ad 338)), some (.int x1), some (.int x2), some (.int x3), none, none] [] M) ∧ (∀ (x1 : Int32) (x2 : Int32) (x3 : Int32) (x4 : Int32) (M : Mm), itr stX9_giveUp n (1, [], [x1, x2, x3, x4], M) = some (r, M') → AW p l e rmX9_giveUp s m args below meth c (MQ below (AQi G L ad cs r M') args s 0 0 (inA L ad)) G L ad cs 6 6 [some (.ref (ad 338)), some (.int x1), some (.int x2), some (.int x3), some (.int x4), none] [] M)
set_option maxRecDepth 100000 in
set_option maxHeartbeats 4000000 in
theorem wX9_giveUp_0 {p : Program} {l : Launch} {e : Env} {s : State} {m : MethodId} {args : Array Value} {below : List Frame} {meth : Method} {c : Code} {G : va_G} {L : List Nat} {ad : Nat → Nat} {cs : Nat → ClassId} {z : Bool} {zk zv : Nat → Nat} {r : Int32} {M' : Mm} {n : Nat} (F : Fx G L ad cs z zk zv p m meth c cX9_giveUp 6 (some .int) s args RX9) (hm : isM L) (IH : PX9_giveUp p l e s m args below meth c G L ad cs zk r M' n) (x1 : Int32) (x2 : Int32) (x3 : Int32) (M : Mm) (h : (bX9_giveUp_0 x1 x2 x3 M).bind (fun q => match q with | .inl s' => itr stX9_giveUp n s' | .inr r => some r) = some (r, M'))  : AW p l e rmX9_giveUp s m args below meth c (MQ below (AQi G L ad cs r M') args s 0 0 (inA L ad)) G L ad cs 6 0 [some (.ref (ad 338)), some (.int x1), some (.int x2), some (.int x3), none, none] [] M := by
  unfold bX9_giveUp_0 at h
  refine ax_bipush (v := (6 : Int32)) F dX9_giveUp_0 (by decide) ?_
  refine ax_iload_n F dX9_giveUp_2 rfl ?_
  refine ax_imul F dX9_giveUp_3 ?_
  refine ax_istore F dX9_giveUp_4 (by decide) rfl ?_
  exact IH.2 _ _ _ _ _ h 
set_option maxRecDepth 100000 in
set_option maxHeartbeats 4000000 in
theorem wX9_giveUp_1 {p : Program} {l : Launch} {e : Env} {s : State} {m : MethodId} {args : Array Value} {below : List Frame} {meth : Method} {c : Code} {G : va_G} {L : List Nat} {ad : Nat → Nat} {cs : Nat → ClassId} {z : Bool} {zk zv : Nat → Nat} {r : Int32} {M' : Mm} {n : Nat} (F : Fx G L ad cs z zk zv p m meth c cX9_giveUp 6 (some .int) s args RX9) (hm : isM L) (IH : PX9_giveUp p l e s m args below meth c G L ad cs zk r M' n) (x1 : Int32) (x2 : Int32) (x3 : Int32) (x4 : Int32) (M : Mm) (h : (bX9_giveUp_1 x1 x2 x3 x4 M).bind (fun q => match q with | .inl s' => itr stX9_giveUp n s' | .inr r => some r) = some (r, M'))  : AW p l e rmX9_giveUp s m args below meth c (MQ below (AQi G L ad cs r M') args s 0 0 (inA L ad)) G L ad cs 6 6 [some (.ref (ad 338)), some (.int x1), some (.int x2), some (.int x3), some (.int x4), none] [] M := by
  unfold bX9_giveUp_1 at h
  refine ax_iload F dX9_giveUp_6 rfl ?_
  refine ax_bipush (v := (6 : Int32)) F dX9_giveUp_8 (by decide) ?_
  refine ax_iload_n F dX9_giveUp_10 rfl ?_
  refine ax_imul F dX9_giveUp_11 ?_
  refine ax_aload_n F dX9_giveUp_12 rfl ?_
  refine ax_get (v := .ref (ad 348)) F (ob_338 hm) rfl inGX9 20 (by decide) rfl kf_X9_38 rfl dX9_giveUp_13 ?_
  refine ax_iload_n F dX9_giveUp_16 rfl ?_
  obtain ⟨hg, h⟩ := gd_some h
  refine ax_iald F (ar_348 hm) hg dX9_giveUp_17 ?_
  refine ax_iadd F dX9_giveUp_18 ?_
  refine ax_icmp_ge (t := 81) F dX9_giveUp_19 (by decide) (fun hc => ?_) (fun hc => ?_)
  · have h := it_pos h hc
    refine ax_iconst (v := (-1 : Int32)) F dX9_giveUp_81 (by decide) ?_
    obtain ⟨h1, h2⟩ := rt_some h
    subst h1; subst h2
    exact ax_iret F dX9_giveUp_82
  · have h := it_neg h hc
    refine ax_aload_n F dX9_giveUp_22 rfl ?_
    refine ax_iload_n F dX9_giveUp_23 rfl ?_
    refine ax_iload_n F dX9_giveUp_24 rfl ?_
    refine ax_aload_n F dX9_giveUp_25 rfl ?_
    refine ax_get (v := .ref (ad 346)) F (ob_338 hm) rfl inGX9 18 (by decide) rfl kf_X9_32 rfl dX9_giveUp_26 ?_
    refine ax_iload F dX9_giveUp_29 rfl ?_
    obtain ⟨hg, h⟩ := gd_some h
    refine ax_iald F (ar_346 hm) hg dX9_giveUp_31 ?_
    obtain ⟨r1, M1, hq1, h⟩ := cq_some h
    refine ax_callVi (As := [.int x1, .int x3, .int (M 346 (ix x4))]) (st := []) F (tX9_placeOf F.2.2.2.2.2.2.1 hm _ _ _  _ _ _ hq1) (ob_338 hm) rfl kc_X9_placeOf kz_X9 ki_X9_placeOf ks_X9_placeOf km_X9_108 ⟨kn_X9_placeOf, rfl, rfl, Nat.le_of_ble_eq_true rfl, Nat.le_of_ble_eq_true rfl⟩ rfl (Nat.le_of_ble_eq_true rfl) dX9_giveUp_32 ?_
    refine ax_istore F dX9_giveUp_35 (by decide) rfl ?_
    refine ax_aload_n F dX9_giveUp_37 rfl ?_
    refine ax_get (v := .ref (ad 346)) F (ob_338 hm) rfl inGX9 18 (by decide) rfl kf_X9_32 rfl dX9_giveUp_38 ?_
    refine ax_iload F dX9_giveUp_41 rfl ?_
    obtain ⟨hg, h⟩ := gd_some h
    refine ax_iald F (ar_346 hm) hg dX9_giveUp_43 ?_
    refine ax_iload_n F dX9_giveUp_44 rfl ?_
    refine ax_icmp_eq (t := 75) F dX9_giveUp_45 (by decide) (fun hc => ?_) (fun hc => ?_)
    · have h := it_pos h hc
      refine ax_iinc (v := (1 : Int32)) F dX9_giveUp_75 rfl (by decide) (by decide) rfl ?_
      refine ax_goto (t := 6) F dX9_giveUp_78 (by decide) ?_
      refine ax_mask [true, true, true, true, true, false] ?_
      exact IH.2 _ _ _ _ _ h 
    · have h := it_neg h hc
      refine ax_aload_n F dX9_giveUp_48 rfl ?_
      refine ax_get (v := .ref (ad 349)) F (ob_338 hm) rfl inGX9 21 (by decide) rfl kf_X9_41 rfl dX9_giveUp_49 ?_
      refine ax_iload F dX9_giveUp_52 rfl ?_
      obtain ⟨hg, h⟩ := gd_some h
      refine ax_zald F (ar_349 hm) hg dX9_giveUp_54 ?_
      refine ax_if_ne (t := 75) F dX9_giveUp_55 (by decide) (fun hc => ?_) (fun hc => ?_)
      · have h := it_neg h hc
        refine ax_iinc (v := (1 : Int32)) F dX9_giveUp_75 rfl (by decide) (by decide) rfl ?_
        refine ax_goto (t := 6) F dX9_giveUp_78 (by decide) ?_
        refine ax_mask [true, true, true, true, true, false] ?_
        exact IH.2 _ _ _ _ _ h 
      · have h := it_pos h hc
        refine ax_iload F dX9_giveUp_58 rfl ?_
        refine ax_iconst (v := (-1 : Int32)) F dX9_giveUp_60 (by decide) ?_
        refine ax_icmp_eq (t := 75) F dX9_giveUp_61 (by decide) (fun hc => ?_) (fun hc => ?_)
        · have h := it_pos h hc
          refine ax_iinc (v := (1 : Int32)) F dX9_giveUp_75 rfl (by decide) (by decide) rfl ?_
          refine ax_goto (t := 6) F dX9_giveUp_78 (by decide) ?_
          refine ax_mask [true, true, true, true, true, false] ?_
          exact IH.2 _ _ _ _ _ h 
        · have h := it_neg h hc
          refine ax_aload_n F dX9_giveUp_64 rfl ?_
          refine ax_get (v := .ref (ad 349)) F (ob_338 hm) rfl inGX9 21 (by decide) rfl kf_X9_41 rfl dX9_giveUp_65 ?_
          refine ax_iload F dX9_giveUp_68 rfl ?_
          refine ax_iconst (v := (1 : Int32)) F dX9_giveUp_70 (by decide) ?_
          obtain ⟨hg, h⟩ := gd_some h
          refine ax_zast F (ar_349 hm) hg (by decide) dX9_giveUp_71 ?_
          refine ax_iload F dX9_giveUp_72 rfl ?_
          obtain ⟨h1, h2⟩ := rt_some h
          subst h1; subst h2
          exact ax_iret F dX9_giveUp_74
set_option maxRecDepth 100000 in
set_option maxHeartbeats 4000000 in
theorem wX9_giveUp {p : Program} {l : Launch} {e : Env} {s : State} {m : MethodId} {args : Array Value} {below : List Frame} {meth : Method} {c : Code} {G : va_G} {L : List Nat} {ad : Nat → Nat} {cs : Nat → ClassId} {z : Bool} {zk zv : Nat → Nat} {r : Int32} {M' : Mm} (F : Fx G L ad cs z zk zv p m meth c cX9_giveUp 6 (some .int) s args RX9) (hm : isM L) (n : Nat) : PX9_giveUp p l e s m args below meth c G L ad cs zk r M' n := by
  induction n with
  | zero => exact ⟨(fun x1 x2 x3 M h => by cases h), (fun x1 x2 x3 x4 M h => by cases h)⟩
  | succ n ih =>
    exact ⟨fun x1 x2 x3 M h  => wX9_giveUp_0 F hm ih x1 x2 x3 M h ,
      fun x1 x2 x3 x4 M h  => wX9_giveUp_1 F hm ih x1 x2 x3 x4 M h ⟩
set_option maxRecDepth 100000 in
set_option maxHeartbeats 4000000 in
theorem tX9_giveUp {l : Launch} {G : va_G} {L : List Nat} {ad : Nat → Nat} {cs : Nat → ClassId} {z : Bool} {zk zv : Nat → Nat} (hinj : inj L ad) (hm : isM L) (x1 : Int32) (x2 : Int32) (x3 : Int32)  (M : Mm) (r : Int32) (M' : Mm) (h : fX9_giveUp x1 x2 x3 M = some (r, M')) : Met l yX9_giveUp (tgW yX9_giveUp cX9_giveUp 6 (some .int)) rmX9_giveUp (APre G L ad cs z zk zv [.ref (ad 338), .int x1, .int x2, .int x3] M) (AQi G L ad cs r M') 0 0 (inA L ad) := by
  refine met_of (Eq.refl true) (Nat.le_of_ble_eq_true rfl) hinj [some (.ref (ad 338)), some (.int x1), some (.int x2), some (.int x3), none, none] rfl ?_
  intro p e s m below meth c F
  replace F : Fx G L ad cs z zk zv p m meth c cX9_giveUp 6 (some .int) s _ RX9 := F
  obtain ⟨n, hn⟩ := run_ex h
  exact (wX9_giveUp F hm n).1 x1 x2 x3 M hn 
def rmX9_takes : Room := { frames := 2, cells := 0, slots := 0, locals := 49 }
theorem kn_X9_takes : yX9_takes.cls ≠ "java/lang/invoke/MethodHandle" ∧ yX9_takes.cls ≠ "java/lang/invoke/VarHandle" ∧ (parseMethodDescriptor yX9_takes.desc).map (fun d => d.parameters.length) = some 3 := by decide +kernel
noncomputable def bX9_takes_0 (x1 : Int32) (x2 : Int32) (x3 : Int32) (M : Mm) : Option (Sst ⊕ Rst) := some (.inl (1, [], [x1, x2, x3, ((6 : Int32) * ((1 : Int32) - x2)), ((6 : Int32) * ((1 : Int32) - x2))], M))
noncomputable def bX9_takes_1 (x1 : Int32) (x2 : Int32) (x3 : Int32) (x4 : Int32) (x5 : Int32) (M : Mm) : Option (Sst ⊕ Rst) := gd (okI ((1 : Int32) - x2) 2) (if (x4 + (M 348 (ix ((1 : Int32) - x2)))) ≤ x5 then (some (.inr ((0 : Int32), M))) else (gd (okI x5 12) (if (M 346 (ix x5)) = x3 then (some (.inl (1, [], [x1, x2, x3, x4, (x5 + (1 : Int32))], M))) else (cl (fX9_placeOf x1 x3 (M 346 (ix x5)) M) (fun r1 M1 => if r1 = (-1 : Int32) then (gd (okI ((x1 + (2 : Int32)) + x3) 1080) (if (M1 338 2) ≤ (M1 339 (ix ((x1 + (2 : Int32)) + x3))) then (cl (fX9_giveUp x1 x2 x3 M1) (fun r2 M2 => if r2 = (-1 : Int32) then (some (.inl (1, [], [x1, x2, x3, x4, (x5 + (1 : Int32))], M2))) else (gd (okI x5 12) (cl (fX9_replace x1 x3 r2 (M 346 (ix x5)) (M2 347 (ix x5)) M2) (fun r3 M3 => some (.inl (1, [], [x1, x2, x3, x4, (x5 + (1 : Int32))], M3))))))) else (gd (okI x5 12) (cl (fX9_put x1 x3 (M 346 (ix x5)) (M1 347 (ix x5)) M1) (fun r4 M4 => some (.inl (1, [], [x1, x2, x3, x4, (x5 + (1 : Int32))], M4))))))) else (some (.inl (1, [], [x1, x2, x3, x4, (x5 + (1 : Int32))], M1))))))))
noncomputable def stX9_takes : Sst → Option (Sst ⊕ Rst) := fun q => match q.1 with
  | 0 => bX9_takes_0 (q.2.2.1.getD 0 0) (q.2.2.1.getD 1 0) (q.2.2.1.getD 2 0) q.2.2.2
  | 1 => bX9_takes_1 (q.2.2.1.getD 0 0) (q.2.2.1.getD 1 0) (q.2.2.1.getD 2 0) (q.2.2.1.getD 3 0) (q.2.2.1.getD 4 0) q.2.2.2
  | _ => none
noncomputable def fX9_takes (x1 : Int32) (x2 : Int32) (x3 : Int32) (M : Mm) : Option Rst := run stX9_takes (0, [], [x1, x2, x3], M)
def PX9_takes (p : Program) (l : Launch) (e : Env) (s : State) (m : MethodId) (args : Array Value) (below : List Frame) (meth : Method) (c : Code) (G : va_G) (L : List Nat) (ad : Nat → Nat) (cs : Nat → ClassId) (zk : Nat → Nat) (r : Int32) (M' : Mm) (n : Nat) : Prop := (∀ (x1 : Int32) (x2 : Int32) (x3 : Int32) (M : Mm), itr stX9_takes n (0, [], [x1, x2, x3], M) = some (r, M') → AW p l e rmX9_takes s m args below meth c (MQ below (AQv G L ad cs M') args s 0 0 (inA L ad)) G L ad cs 8 0 [some (.ref (ad 338)), some (.int x1), some (.int x2), some (.int x3), none, none, none, none] [] M) ∧ (∀ (x1 : Int32) (x2 : Int32) (x3 : Int32) (x4 : Int32) (x5 : Int32) (M : Mm), itr stX9_takes n (1, [], [x1, x2, x3, x4, x5], M) = some (r, M') → AW p l e rmX9_takes s m args below meth c (MQ below (AQv G L ad cs M') args s 0 0 (inA L ad)) G L ad cs 8 12 [some (.ref (ad 338)), some (.int x1), some (.int x2), some (.int x3), some (.int x4), some (.int x5), none, none] [] M)
set_option maxRecDepth 100000 in
set_option maxHeartbeats 4000000 in
theorem wX9_takes_0 {p : Program} {l : Launch} {e : Env} {s : State} {m : MethodId} {args : Array Value} {below : List Frame} {meth : Method} {c : Code} {G : va_G} {L : List Nat} {ad : Nat → Nat} {cs : Nat → ClassId} {z : Bool} {zk zv : Nat → Nat} {r : Int32} {M' : Mm} {n : Nat} (F : Fx G L ad cs z zk zv p m meth c cX9_takes 8 none s args RX9) (hm : isM L) (IH : PX9_takes p l e s m args below meth c G L ad cs zk r M' n) (x1 : Int32) (x2 : Int32) (x3 : Int32) (M : Mm) (h : (bX9_takes_0 x1 x2 x3 M).bind (fun q => match q with | .inl s' => itr stX9_takes n s' | .inr r => some r) = some (r, M'))  : AW p l e rmX9_takes s m args below meth c (MQ below (AQv G L ad cs M') args s 0 0 (inA L ad)) G L ad cs 8 0 [some (.ref (ad 338)), some (.int x1), some (.int x2), some (.int x3), none, none, none, none] [] M := by
  unfold bX9_takes_0 at h
  refine ax_bipush (v := (6 : Int32)) F dX9_takes_0 (by decide) ?_
  refine ax_iconst (v := (1 : Int32)) F dX9_takes_2 (by decide) ?_
  refine ax_iload_n F dX9_takes_3 rfl ?_
  refine ax_isub F dX9_takes_4 ?_
  refine ax_imul F dX9_takes_5 ?_
  refine ax_istore F dX9_takes_6 (by decide) rfl ?_
  refine ax_iload F dX9_takes_8 rfl ?_
  refine ax_istore F dX9_takes_10 (by decide) rfl ?_
  exact IH.2 _ _ _ _ _ _ h 
set_option maxRecDepth 100000 in
set_option maxHeartbeats 4000000 in
theorem wX9_takes_1 {p : Program} {l : Launch} {e : Env} {s : State} {m : MethodId} {args : Array Value} {below : List Frame} {meth : Method} {c : Code} {G : va_G} {L : List Nat} {ad : Nat → Nat} {cs : Nat → ClassId} {z : Bool} {zk zv : Nat → Nat} {r : Int32} {M' : Mm} {n : Nat} (F : Fx G L ad cs z zk zv p m meth c cX9_takes 8 none s args RX9) (hm : isM L) (IH : PX9_takes p l e s m args below meth c G L ad cs zk r M' n) (x1 : Int32) (x2 : Int32) (x3 : Int32) (x4 : Int32) (x5 : Int32) (M : Mm) (h : (bX9_takes_1 x1 x2 x3 x4 x5 M).bind (fun q => match q with | .inl s' => itr stX9_takes n s' | .inr r => some r) = some (r, M'))  : AW p l e rmX9_takes s m args below meth c (MQ below (AQv G L ad cs M') args s 0 0 (inA L ad)) G L ad cs 8 12 [some (.ref (ad 338)), some (.int x1), some (.int x2), some (.int x3), some (.int x4), some (.int x5), none, none] [] M := by
  unfold bX9_takes_1 at h
  refine ax_iload F dX9_takes_12 rfl ?_
  refine ax_iload F dX9_takes_14 rfl ?_
  refine ax_aload_n F dX9_takes_16 rfl ?_
  refine ax_get (v := .ref (ad 348)) F (ob_338 hm) rfl inGX9 20 (by decide) rfl kf_X9_38 rfl dX9_takes_17 ?_
  refine ax_iconst (v := (1 : Int32)) F dX9_takes_20 (by decide) ?_
  refine ax_iload_n F dX9_takes_21 rfl ?_
  refine ax_isub F dX9_takes_22 ?_
  obtain ⟨hg, h⟩ := gd_some h
  refine ax_iald F (ar_348 hm) hg dX9_takes_23 ?_
  refine ax_iadd F dX9_takes_24 ?_
  refine ax_icmp_ge (t := 128) F dX9_takes_25 (by decide) (fun hc => ?_) (fun hc => ?_)
  · have h := it_pos h hc
    obtain ⟨h1, h2⟩ := rt_some h
    subst h2
    exact ax_vret F dX9_takes_128
  · have h := it_neg h hc
    refine ax_aload_n F dX9_takes_28 rfl ?_
    refine ax_get (v := .ref (ad 346)) F (ob_338 hm) rfl inGX9 18 (by decide) rfl kf_X9_32 rfl dX9_takes_29 ?_
    refine ax_iload F dX9_takes_32 rfl ?_
    obtain ⟨hg, h⟩ := gd_some h
    refine ax_iald F (ar_346 hm) hg dX9_takes_34 ?_
    refine ax_istore F dX9_takes_35 (by decide) rfl ?_
    refine ax_iload F dX9_takes_37 rfl ?_
    refine ax_iload_n F dX9_takes_39 rfl ?_
    refine ax_icmp_eq (t := 122) F dX9_takes_40 (by decide) (fun hc => ?_) (fun hc => ?_)
    · have h := it_pos h hc
      refine ax_iinc (v := (1 : Int32)) F dX9_takes_122 rfl (by decide) (by decide) rfl ?_
      refine ax_goto (t := 12) F dX9_takes_125 (by decide) ?_
      refine ax_mask [true, true, true, true, true, true, false, false] ?_
      exact IH.2 _ _ _ _ _ _ h 
    · have h := it_neg h hc
      refine ax_aload_n F dX9_takes_43 rfl ?_
      refine ax_iload_n F dX9_takes_44 rfl ?_
      refine ax_iload_n F dX9_takes_45 rfl ?_
      refine ax_iload F dX9_takes_46 rfl ?_
      obtain ⟨r1, M1, hq1, h⟩ := cq_some h
      refine ax_callVi (As := [.int x1, .int x3, .int (M 346 (ix x5))]) (st := []) F (tX9_placeOf F.2.2.2.2.2.2.1 hm _ _ _  _ _ _ hq1) (ob_338 hm) rfl kc_X9_placeOf kz_X9 ki_X9_placeOf ks_X9_placeOf km_X9_108 ⟨kn_X9_placeOf, rfl, rfl, Nat.le_of_ble_eq_true rfl, Nat.le_of_ble_eq_true rfl⟩ rfl (Nat.le_of_ble_eq_true rfl) dX9_takes_48 ?_
      refine ax_iconst (v := (-1 : Int32)) F dX9_takes_51 (by decide) ?_
      refine ax_icmp_ne (t := 122) F dX9_takes_52 (by decide) (fun hc => ?_) (fun hc => ?_)
      · have h := it_neg h hc
        refine ax_iinc (v := (1 : Int32)) F dX9_takes_122 rfl (by decide) (by decide) rfl ?_
        refine ax_goto (t := 12) F dX9_takes_125 (by decide) ?_
        refine ax_mask [true, true, true, true, true, true, false, false] ?_
        exact IH.2 _ _ _ _ _ _ h 
      · have h := it_pos h hc
        refine ax_aload_n F dX9_takes_55 rfl ?_
        refine ax_get (v := .ref (ad 339)) F (ob_338 hm) rfl inGX9 0 (by decide) rfl kf_X9_7 rfl dX9_takes_56 ?_
        refine ax_iload_n F dX9_takes_59 rfl ?_
        refine ax_iconst (v := (2 : Int32)) F dX9_takes_60 (by decide) ?_
        refine ax_iadd F dX9_takes_61 ?_
        refine ax_iload_n F dX9_takes_62 rfl ?_
        refine ax_iadd F dX9_takes_63 ?_
        obtain ⟨hg, h⟩ := gd_some h
        refine ax_iald F (ar_339 hm) hg dX9_takes_64 ?_
        refine ax_aload_n F dX9_takes_65 rfl ?_
        refine ax_get (v := .int (M1 338 2)) F (ob_338 hm) rfl inGX9 2 (by decide) rfl kf_X9_52 rfl dX9_takes_66 ?_
        refine ax_icmp_ge (t := 90) F dX9_takes_69 (by decide) (fun hc => ?_) (fun hc => ?_)
        · have h := it_pos h hc
          refine ax_aload_n F dX9_takes_90 rfl ?_
          refine ax_iload_n F dX9_takes_91 rfl ?_
          refine ax_iload_n F dX9_takes_92 rfl ?_
          refine ax_iload_n F dX9_takes_93 rfl ?_
          obtain ⟨r2, M2, hq2, h⟩ := cq_some h
          refine ax_callVi (As := [.int x1, .int x2, .int x3]) (st := []) F (tX9_giveUp F.2.2.2.2.2.2.1 hm _ _ _  _ _ _ hq2) (ob_338 hm) rfl kc_X9_giveUp kz_X9 ki_X9_giveUp ks_X9_giveUp km_X9_166 ⟨kn_X9_giveUp, rfl, rfl, Nat.le_of_ble_eq_true rfl, Nat.le_of_ble_eq_true rfl⟩ rfl (Nat.le_of_ble_eq_true rfl) dX9_takes_94 ?_
          refine ax_istore F dX9_takes_97 (by decide) rfl ?_
          refine ax_iload F dX9_takes_99 rfl ?_
          refine ax_iconst (v := (-1 : Int32)) F dX9_takes_101 (by decide) ?_
          refine ax_icmp_eq (t := 122) F dX9_takes_102 (by decide) (fun hc => ?_) (fun hc => ?_)
          · have h := it_pos h hc
            refine ax_iinc (v := (1 : Int32)) F dX9_takes_122 rfl (by decide) (by decide) rfl ?_
            refine ax_goto (t := 12) F dX9_takes_125 (by decide) ?_
            refine ax_mask [true, true, true, true, true, true, false, false] ?_
            exact IH.2 _ _ _ _ _ _ h 
          · have h := it_neg h hc
            refine ax_aload_n F dX9_takes_105 rfl ?_
            refine ax_iload_n F dX9_takes_106 rfl ?_
            refine ax_iload_n F dX9_takes_107 rfl ?_
            refine ax_iload F dX9_takes_108 rfl ?_
            refine ax_iload F dX9_takes_110 rfl ?_
            refine ax_aload_n F dX9_takes_112 rfl ?_
            refine ax_get (v := .ref (ad 347)) F (ob_338 hm) rfl inGX9 19 (by decide) rfl kf_X9_35 rfl dX9_takes_113 ?_
            refine ax_iload F dX9_takes_116 rfl ?_
            obtain ⟨hg, h⟩ := gd_some h
            refine ax_iald F (ar_347 hm) hg dX9_takes_118 ?_
            obtain ⟨r3, M3, hq3, h⟩ := cq_some h
            refine ax_callVv (As := [.int x1, .int x3, .int r2, .int (M 346 (ix x5)), .int (M2 347 (ix x5))]) (st := []) F (tX9_replace F.2.2.2.2.2.2.1 hm _ _ _ _ _  _ _ _ hq3) (ob_338 hm) rfl kc_X9_replace kz_X9 ki_X9_replace ks_X9_replace km_X9_112 ⟨kn_X9_replace, rfl, rfl, Nat.le_of_ble_eq_true rfl, Nat.le_of_ble_eq_true rfl⟩ rfl (Nat.le_of_ble_eq_true rfl) dX9_takes_119 ?_
            refine ax_iinc (v := (1 : Int32)) F dX9_takes_122 rfl (by decide) (by decide) rfl ?_
            refine ax_goto (t := 12) F dX9_takes_125 (by decide) ?_
            refine ax_mask [true, true, true, true, true, true, false, false] ?_
            exact IH.2 _ _ _ _ _ _ h 
        · have h := it_neg h hc
          refine ax_aload_n F dX9_takes_72 rfl ?_
          refine ax_iload_n F dX9_takes_73 rfl ?_
          refine ax_iload_n F dX9_takes_74 rfl ?_
          refine ax_iload F dX9_takes_75 rfl ?_
          refine ax_aload_n F dX9_takes_77 rfl ?_
          refine ax_get (v := .ref (ad 347)) F (ob_338 hm) rfl inGX9 19 (by decide) rfl kf_X9_35 rfl dX9_takes_78 ?_
          refine ax_iload F dX9_takes_81 rfl ?_
          obtain ⟨hg, h⟩ := gd_some h
          refine ax_iald F (ar_347 hm) hg dX9_takes_83 ?_
          obtain ⟨r4, M4, hq4, h⟩ := cq_some h
          refine ax_callVv (As := [.int x1, .int x3, .int (M 346 (ix x5)), .int (M1 347 (ix x5))]) (st := []) F (tX9_put F.2.2.2.2.2.2.1 hm _ _ _ _  _ _ _ hq4) (ob_338 hm) rfl kc_X9_put kz_X9 ki_X9_put ks_X9_put km_X9_61 ⟨kn_X9_put, rfl, rfl, Nat.le_of_ble_eq_true rfl, Nat.le_of_ble_eq_true rfl⟩ rfl (Nat.le_of_ble_eq_true rfl) dX9_takes_84 ?_
          refine ax_goto (t := 122) F dX9_takes_87 (by decide) ?_
          refine ax_iinc (v := (1 : Int32)) F dX9_takes_122 rfl (by decide) (by decide) rfl ?_
          refine ax_goto (t := 12) F dX9_takes_125 (by decide) ?_
          refine ax_mask [true, true, true, true, true, true, false, false] ?_
          exact IH.2 _ _ _ _ _ _ h 
set_option maxRecDepth 100000 in
set_option maxHeartbeats 4000000 in
theorem wX9_takes {p : Program} {l : Launch} {e : Env} {s : State} {m : MethodId} {args : Array Value} {below : List Frame} {meth : Method} {c : Code} {G : va_G} {L : List Nat} {ad : Nat → Nat} {cs : Nat → ClassId} {z : Bool} {zk zv : Nat → Nat} {r : Int32} {M' : Mm} (F : Fx G L ad cs z zk zv p m meth c cX9_takes 8 none s args RX9) (hm : isM L) (n : Nat) : PX9_takes p l e s m args below meth c G L ad cs zk r M' n := by
  induction n with
  | zero => exact ⟨(fun x1 x2 x3 M h => by cases h), (fun x1 x2 x3 x4 x5 M h => by cases h)⟩
  | succ n ih =>
    exact ⟨fun x1 x2 x3 M h  => wX9_takes_0 F hm ih x1 x2 x3 M h ,
      fun x1 x2 x3 x4 x5 M h  => wX9_takes_1 F hm ih x1 x2 x3 x4 x5 M h ⟩
set_option maxRecDepth 100000 in
set_option maxHeartbeats 4000000 in
theorem tX9_takes {l : Launch} {G : va_G} {L : List Nat} {ad : Nat → Nat} {cs : Nat → ClassId} {z : Bool} {zk zv : Nat → Nat} (hinj : inj L ad) (hm : isM L) (x1 : Int32) (x2 : Int32) (x3 : Int32)  (M : Mm) (r : Int32) (M' : Mm) (h : fX9_takes x1 x2 x3 M = some (r, M')) : Met l yX9_takes (tgW yX9_takes cX9_takes 8 none) rmX9_takes (APre G L ad cs z zk zv [.ref (ad 338), .int x1, .int x2, .int x3] M) (AQv G L ad cs M') 0 0 (inA L ad) := by
  refine met_of (Eq.refl true) (Nat.le_of_ble_eq_true rfl) hinj [some (.ref (ad 338)), some (.int x1), some (.int x2), some (.int x3), none, none, none, none] rfl ?_
  intro p e s m below meth c F
  replace F : Fx G L ad cs z zk zv p m meth c cX9_takes 8 none s _ RX9 := F
  obtain ⟨n, hn⟩ := run_ex h
  exact (wX9_takes F hm n).1 x1 x2 x3 M hn 
def rmX9_oldest : Room := { frames := 0, cells := 0, slots := 0, locals := 0 }
theorem kn_X9_oldest : yX9_oldest.cls ≠ "java/lang/invoke/MethodHandle" ∧ yX9_oldest.cls ≠ "java/lang/invoke/VarHandle" ∧ (parseMethodDescriptor yX9_oldest.desc).map (fun d => d.parameters.length) = some 2 := by decide +kernel
noncomputable def bX9_oldest_0 (x1 : Int32) (x2 : Int32) (M : Mm) : Option (Sst ⊕ Rst) := some (.inl (1, [], [x1, x2, (-1 : Int32), ((5 : Int32) * x2)], M))
noncomputable def bX9_oldest_1 (x1 : Int32) (x2 : Int32) (x3 : Int32) (x4 : Int32) (M : Mm) : Option (Sst ⊕ Rst) := gd (okI ((x1 + (2 : Int32)) + x2) 1080) (if (((5 : Int32) * x2) + (M 339 (ix ((x1 + (2 : Int32)) + x2)))) ≤ x4 then (if x3 = (-1 : Int32) then (some (.inr ((-1 : Int32), M))) else (some (.inr ((x3 - ((5 : Int32) * x2)), M)))) else (gd (okI ((x1 + (50 : Int32)) + x4) 1080) (if x3 = (-1 : Int32) then (some (.inl (2, [], [x1, x2, x3, x4, (M 339 (ix ((x1 + (50 : Int32)) + x4))), (-1 : Int32)], M))) else (gd (okI ((x1 + (50 : Int32)) + x3) 1080) (some (.inl (2, [], [x1, x2, x3, x4, (M 339 (ix ((x1 + (50 : Int32)) + x4))), (M 339 (ix ((x1 + (50 : Int32)) + x3)))], M)))))))
noncomputable def bX9_oldest_2 (x1 : Int32) (x2 : Int32) (x3 : Int32) (x4 : Int32) (x5 : Int32) (s0 : Int32) (M : Mm) : Option (Sst ⊕ Rst) := if s0 < x5 then (some (.inl (1, [], [x1, x2, x4, (x4 + (1 : Int32))], M))) else (if x5 = s0 then (gd (okI ((x1 + (10 : Int32)) + x4) 1080) (gd (okI ((x1 + (10 : Int32)) + x3) 1080) (if (M 339 (ix ((x1 + (10 : Int32)) + x3))) ≤ (M 339 (ix ((x1 + (10 : Int32)) + x4))) then (some (.inl (1, [], [x1, x2, x3, (x4 + (1 : Int32))], M))) else (some (.inl (1, [], [x1, x2, x4, (x4 + (1 : Int32))], M)))))) else (some (.inl (1, [], [x1, x2, x3, (x4 + (1 : Int32))], M))))
noncomputable def stX9_oldest : Sst → Option (Sst ⊕ Rst) := fun q => match q.1 with
  | 0 => bX9_oldest_0 (q.2.2.1.getD 0 0) (q.2.2.1.getD 1 0) q.2.2.2
  | 1 => bX9_oldest_1 (q.2.2.1.getD 0 0) (q.2.2.1.getD 1 0) (q.2.2.1.getD 2 0) (q.2.2.1.getD 3 0) q.2.2.2
  | 2 => bX9_oldest_2 (q.2.2.1.getD 0 0) (q.2.2.1.getD 1 0) (q.2.2.1.getD 2 0) (q.2.2.1.getD 3 0) (q.2.2.1.getD 4 0) (q.2.2.1.getD 5 0) q.2.2.2
  | _ => none
noncomputable def fX9_oldest (x1 : Int32) (x2 : Int32) (M : Mm) : Option Rst := run stX9_oldest (0, [], [x1, x2], M)
def PX9_oldest (p : Program) (l : Launch) (e : Env) (s : State) (m : MethodId) (args : Array Value) (below : List Frame) (meth : Method) (c : Code) (G : va_G) (L : List Nat) (ad : Nat → Nat) (cs : Nat → ClassId) (zk : Nat → Nat) (r : Int32) (M' : Mm) (n : Nat) : Prop := (∀ (x1 : Int32) (x2 : Int32) (M : Mm), itr stX9_oldest n (0, [], [x1, x2], M) = some (r, M') → AW p l e rmX9_oldest s m args below meth c (MQ below (AQi G L ad cs r M') args s 0 0 (inA L ad)) G L ad cs 7 0 [some (.ref (ad 338)), some (.int x1), some (.int x2), none, none, none, none] [] M) ∧ (∀ (x1 : Int32) (x2 : Int32) (x3 : Int32) (x4 : Int32) (M : Mm), itr stX9_oldest n (1, [], [x1, x2, x3, x4], M) = some (r, M') → AW p l e rmX9_oldest s m args below meth c (MQ below (AQi G L ad cs r M') args s 0 0 (inA L ad)) G L ad cs 7 7 [some (.ref (ad 338)), some (.int x1), some (.int x2), some (.int x3), some (.int x4), none, none] [] M) ∧ (∀ (x1 : Int32) (x2 : Int32) (x3 : Int32) (x4 : Int32) (x5 : Int32) (s0 : Int32) (M : Mm), itr stX9_oldest n (2, [], [x1, x2, x3, x4, x5, s0], M) = some (r, M') → AW p l e rmX9_oldest s m args below meth c (MQ below (AQi G L ad cs r M') args s 0 0 (inA L ad)) G L ad cs 7 60 [some (.ref (ad 338)), some (.int x1), some (.int x2), some (.int x3), some (.int x4), some (.int x5), none] [.int s0] M)
set_option maxRecDepth 100000 in
set_option maxHeartbeats 4000000 in
theorem wX9_oldest_0 {p : Program} {l : Launch} {e : Env} {s : State} {m : MethodId} {args : Array Value} {below : List Frame} {meth : Method} {c : Code} {G : va_G} {L : List Nat} {ad : Nat → Nat} {cs : Nat → ClassId} {z : Bool} {zk zv : Nat → Nat} {r : Int32} {M' : Mm} {n : Nat} (F : Fx G L ad cs z zk zv p m meth c cX9_oldest 7 (some .int) s args RX9) (hm : isM L) (IH : PX9_oldest p l e s m args below meth c G L ad cs zk r M' n) (x1 : Int32) (x2 : Int32) (M : Mm) (h : (bX9_oldest_0 x1 x2 M).bind (fun q => match q with | .inl s' => itr stX9_oldest n s' | .inr r => some r) = some (r, M'))  : AW p l e rmX9_oldest s m args below meth c (MQ below (AQi G L ad cs r M') args s 0 0 (inA L ad)) G L ad cs 7 0 [some (.ref (ad 338)), some (.int x1), some (.int x2), none, none, none, none] [] M := by
  unfold bX9_oldest_0 at h
  refine ax_iconst (v := (-1 : Int32)) F dX9_oldest_0 (by decide) ?_
  refine ax_istore_n F dX9_oldest_1 (by decide) rfl ?_
  refine ax_iconst (v := (5 : Int32)) F dX9_oldest_2 (by decide) ?_
  refine ax_iload_n F dX9_oldest_3 rfl ?_
  refine ax_imul F dX9_oldest_4 ?_
  refine ax_istore F dX9_oldest_5 (by decide) rfl ?_
  exact IH.2.1 _ _ _ _ _ h 
set_option maxRecDepth 100000 in
set_option maxHeartbeats 4000000 in
theorem wX9_oldest_1 {p : Program} {l : Launch} {e : Env} {s : State} {m : MethodId} {args : Array Value} {below : List Frame} {meth : Method} {c : Code} {G : va_G} {L : List Nat} {ad : Nat → Nat} {cs : Nat → ClassId} {z : Bool} {zk zv : Nat → Nat} {r : Int32} {M' : Mm} {n : Nat} (F : Fx G L ad cs z zk zv p m meth c cX9_oldest 7 (some .int) s args RX9) (hm : isM L) (IH : PX9_oldest p l e s m args below meth c G L ad cs zk r M' n) (x1 : Int32) (x2 : Int32) (x3 : Int32) (x4 : Int32) (M : Mm) (h : (bX9_oldest_1 x1 x2 x3 x4 M).bind (fun q => match q with | .inl s' => itr stX9_oldest n s' | .inr r => some r) = some (r, M'))  : AW p l e rmX9_oldest s m args below meth c (MQ below (AQi G L ad cs r M') args s 0 0 (inA L ad)) G L ad cs 7 7 [some (.ref (ad 338)), some (.int x1), some (.int x2), some (.int x3), some (.int x4), none, none] [] M := by
  unfold bX9_oldest_1 at h
  refine ax_iload F dX9_oldest_7 rfl ?_
  refine ax_iconst (v := (5 : Int32)) F dX9_oldest_9 (by decide) ?_
  refine ax_iload_n F dX9_oldest_10 rfl ?_
  refine ax_imul F dX9_oldest_11 ?_
  refine ax_aload_n F dX9_oldest_12 rfl ?_
  refine ax_get (v := .ref (ad 339)) F (ob_338 hm) rfl inGX9 0 (by decide) rfl kf_X9_7 rfl dX9_oldest_13 ?_
  refine ax_iload_n F dX9_oldest_16 rfl ?_
  refine ax_iconst (v := (2 : Int32)) F dX9_oldest_17 (by decide) ?_
  refine ax_iadd F dX9_oldest_18 ?_
  refine ax_iload_n F dX9_oldest_19 rfl ?_
  refine ax_iadd F dX9_oldest_20 ?_
  obtain ⟨hg, h⟩ := gd_some h
  refine ax_iald F (ar_339 hm) hg dX9_oldest_21 ?_
  refine ax_iadd F dX9_oldest_22 ?_
  refine ax_icmp_ge (t := 115) F dX9_oldest_23 (by decide) (fun hc => ?_) (fun hc => ?_)
  · have h := it_pos h hc
    refine ax_iload_n F dX9_oldest_115 rfl ?_
    refine ax_iconst (v := (-1 : Int32)) F dX9_oldest_116 (by decide) ?_
    refine ax_icmp_ne (t := 124) F dX9_oldest_117 (by decide) (fun hc => ?_) (fun hc => ?_)
    · have h := it_neg h hc
      refine ax_iload_n F dX9_oldest_124 rfl ?_
      refine ax_iconst (v := (5 : Int32)) F dX9_oldest_125 (by decide) ?_
      refine ax_iload_n F dX9_oldest_126 rfl ?_
      refine ax_imul F dX9_oldest_127 ?_
      refine ax_isub F dX9_oldest_128 ?_
      obtain ⟨h1, h2⟩ := rt_some h
      subst h1; subst h2
      exact ax_iret F dX9_oldest_129
    · have h := it_pos h hc
      refine ax_iconst (v := (-1 : Int32)) F dX9_oldest_120 (by decide) ?_
      refine ax_goto (t := 129) F dX9_oldest_121 (by decide) ?_
      obtain ⟨h1, h2⟩ := rt_some h
      subst h1; subst h2
      exact ax_iret F dX9_oldest_129
  · have h := it_neg h hc
    refine ax_aload_n F dX9_oldest_26 rfl ?_
    refine ax_get (v := .ref (ad 339)) F (ob_338 hm) rfl inGX9 0 (by decide) rfl kf_X9_7 rfl dX9_oldest_27 ?_
    refine ax_iload_n F dX9_oldest_30 rfl ?_
    refine ax_bipush (v := (50 : Int32)) F dX9_oldest_31 (by decide) ?_
    refine ax_iadd F dX9_oldest_33 ?_
    refine ax_iload F dX9_oldest_34 rfl ?_
    refine ax_iadd F dX9_oldest_36 ?_
    obtain ⟨hg, h⟩ := gd_some h
    refine ax_iald F (ar_339 hm) hg dX9_oldest_37 ?_
    refine ax_istore F dX9_oldest_38 (by decide) rfl ?_
    refine ax_iload_n F dX9_oldest_40 rfl ?_
    refine ax_iconst (v := (-1 : Int32)) F dX9_oldest_41 (by decide) ?_
    refine ax_icmp_ne (t := 49) F dX9_oldest_42 (by decide) (fun hc => ?_) (fun hc => ?_)
    · have h := it_neg h hc
      refine ax_aload_n F dX9_oldest_49 rfl ?_
      refine ax_get (v := .ref (ad 339)) F (ob_338 hm) rfl inGX9 0 (by decide) rfl kf_X9_7 rfl dX9_oldest_50 ?_
      refine ax_iload_n F dX9_oldest_53 rfl ?_
      refine ax_bipush (v := (50 : Int32)) F dX9_oldest_54 (by decide) ?_
      refine ax_iadd F dX9_oldest_56 ?_
      refine ax_iload_n F dX9_oldest_57 rfl ?_
      refine ax_iadd F dX9_oldest_58 ?_
      obtain ⟨hg, h⟩ := gd_some h
      refine ax_iald F (ar_339 hm) hg dX9_oldest_59 ?_
      exact IH.2.2 _ _ _ _ _ _ _ h 
    · have h := it_pos h hc
      refine ax_iconst (v := (-1 : Int32)) F dX9_oldest_45 (by decide) ?_
      refine ax_goto (t := 60) F dX9_oldest_46 (by decide) ?_
      exact IH.2.2 _ _ _ _ _ _ _ h 
set_option maxRecDepth 100000 in
set_option maxHeartbeats 4000000 in
theorem wX9_oldest_2 {p : Program} {l : Launch} {e : Env} {s : State} {m : MethodId} {args : Array Value} {below : List Frame} {meth : Method} {c : Code} {G : va_G} {L : List Nat} {ad : Nat → Nat} {cs : Nat → ClassId} {z : Bool} {zk zv : Nat → Nat} {r : Int32} {M' : Mm} {n : Nat} (F : Fx G L ad cs z zk zv p m meth c cX9_oldest 7 (some .int) s args RX9) (hm : isM L) (IH : PX9_oldest p l e s m args below meth c G L ad cs zk r M' n) (x1 : Int32) (x2 : Int32) (x3 : Int32) (x4 : Int32) (x5 : Int32) (s0 : Int32) (M : Mm) (h : (bX9_oldest_2 x1 x2 x3 x4 x5 s0 M).bind (fun q => match q with | .inl s' => itr stX9_oldest n s' | .inr r => some r) = some (r, M'))  : AW p l e rmX9_oldest s m args below meth c (MQ below (AQi G L ad cs r M') args s 0 0 (inA L ad)) G L ad cs 7 60 [some (.ref (ad 338)), some (.int x1), some (.int x2), some (.int x3), some (.int x4), some (.int x5), none] [.int s0] M := by
  unfold bX9_oldest_2 at h
  refine ax_istore F dX9_oldest_60 (by decide) rfl ?_
  refine ax_iload F dX9_oldest_62 rfl ?_
  refine ax_iload F dX9_oldest_64 rfl ?_
  refine ax_icmp_gt (t := 102) F dX9_oldest_66 (by decide) (fun hc => ?_) (fun hc => ?_)
  · have h := it_pos h hc
    refine ax_iload F dX9_oldest_102 rfl ?_
    refine ax_goto (t := 108) F dX9_oldest_104 (by decide) ?_
    refine ax_istore_n F dX9_oldest_108 (by decide) rfl ?_
    refine ax_iinc (v := (1 : Int32)) F dX9_oldest_109 rfl (by decide) (by decide) rfl ?_
    refine ax_goto (t := 7) F dX9_oldest_112 (by decide) ?_
    refine ax_mask [true, true, true, true, true, false, false] ?_
    exact IH.2.1 _ _ _ _ _ h 
  · have h := it_neg h hc
    refine ax_iload F dX9_oldest_69 rfl ?_
    refine ax_iload F dX9_oldest_71 rfl ?_
    refine ax_icmp_ne (t := 107) F dX9_oldest_73 (by decide) (fun hc => ?_) (fun hc => ?_)
    · have h := it_neg h hc
      refine ax_iload_n F dX9_oldest_107 rfl ?_
      refine ax_istore_n F dX9_oldest_108 (by decide) rfl ?_
      refine ax_iinc (v := (1 : Int32)) F dX9_oldest_109 rfl (by decide) (by decide) rfl ?_
      refine ax_goto (t := 7) F dX9_oldest_112 (by decide) ?_
      refine ax_mask [true, true, true, true, true, false, false] ?_
      exact IH.2.1 _ _ _ _ _ h 
    · have h := it_pos h hc
      refine ax_aload_n F dX9_oldest_76 rfl ?_
      refine ax_get (v := .ref (ad 339)) F (ob_338 hm) rfl inGX9 0 (by decide) rfl kf_X9_7 rfl dX9_oldest_77 ?_
      refine ax_iload_n F dX9_oldest_80 rfl ?_
      refine ax_bipush (v := (10 : Int32)) F dX9_oldest_81 (by decide) ?_
      refine ax_iadd F dX9_oldest_83 ?_
      refine ax_iload F dX9_oldest_84 rfl ?_
      refine ax_iadd F dX9_oldest_86 ?_
      obtain ⟨hg, h⟩ := gd_some h
      refine ax_iald F (ar_339 hm) hg dX9_oldest_87 ?_
      refine ax_aload_n F dX9_oldest_88 rfl ?_
      refine ax_get (v := .ref (ad 339)) F (ob_338 hm) rfl inGX9 0 (by decide) rfl kf_X9_7 rfl dX9_oldest_89 ?_
      refine ax_iload_n F dX9_oldest_92 rfl ?_
      refine ax_bipush (v := (10 : Int32)) F dX9_oldest_93 (by decide) ?_
      refine ax_iadd F dX9_oldest_95 ?_
      refine ax_iload_n F dX9_oldest_96 rfl ?_
      refine ax_iadd F dX9_oldest_97 ?_
      obtain ⟨hg, h⟩ := gd_some h
      refine ax_iald F (ar_339 hm) hg dX9_oldest_98 ?_
      refine ax_icmp_ge (t := 107) F dX9_oldest_99 (by decide) (fun hc => ?_) (fun hc => ?_)
      · have h := it_pos h hc
        refine ax_iload_n F dX9_oldest_107 rfl ?_
        refine ax_istore_n F dX9_oldest_108 (by decide) rfl ?_
        refine ax_iinc (v := (1 : Int32)) F dX9_oldest_109 rfl (by decide) (by decide) rfl ?_
        refine ax_goto (t := 7) F dX9_oldest_112 (by decide) ?_
        refine ax_mask [true, true, true, true, true, false, false] ?_
        exact IH.2.1 _ _ _ _ _ h 
      · have h := it_neg h hc
        refine ax_iload F dX9_oldest_102 rfl ?_
        refine ax_goto (t := 108) F dX9_oldest_104 (by decide) ?_
        refine ax_istore_n F dX9_oldest_108 (by decide) rfl ?_
        refine ax_iinc (v := (1 : Int32)) F dX9_oldest_109 rfl (by decide) (by decide) rfl ?_
        refine ax_goto (t := 7) F dX9_oldest_112 (by decide) ?_
        refine ax_mask [true, true, true, true, true, false, false] ?_
        exact IH.2.1 _ _ _ _ _ h 
set_option maxRecDepth 100000 in
set_option maxHeartbeats 4000000 in
theorem wX9_oldest {p : Program} {l : Launch} {e : Env} {s : State} {m : MethodId} {args : Array Value} {below : List Frame} {meth : Method} {c : Code} {G : va_G} {L : List Nat} {ad : Nat → Nat} {cs : Nat → ClassId} {z : Bool} {zk zv : Nat → Nat} {r : Int32} {M' : Mm} (F : Fx G L ad cs z zk zv p m meth c cX9_oldest 7 (some .int) s args RX9) (hm : isM L) (n : Nat) : PX9_oldest p l e s m args below meth c G L ad cs zk r M' n := by
  induction n with
  | zero => exact ⟨(fun x1 x2 M h => by cases h), (fun x1 x2 x3 x4 M h => by cases h), (fun x1 x2 x3 x4 x5 s0 M h => by cases h)⟩
  | succ n ih =>
    exact ⟨fun x1 x2 M h  => wX9_oldest_0 F hm ih x1 x2 M h ,
      fun x1 x2 x3 x4 M h  => wX9_oldest_1 F hm ih x1 x2 x3 x4 M h ,
      fun x1 x2 x3 x4 x5 s0 M h  => wX9_oldest_2 F hm ih x1 x2 x3 x4 x5 s0 M h ⟩
set_option maxRecDepth 100000 in
set_option maxHeartbeats 4000000 in
theorem tX9_oldest {l : Launch} {G : va_G} {L : List Nat} {ad : Nat → Nat} {cs : Nat → ClassId} {z : Bool} {zk zv : Nat → Nat} (hinj : inj L ad) (hm : isM L) (x1 : Int32) (x2 : Int32)  (M : Mm) (r : Int32) (M' : Mm) (h : fX9_oldest x1 x2 M = some (r, M')) : Met l yX9_oldest (tgW yX9_oldest cX9_oldest 7 (some .int)) rmX9_oldest (APre G L ad cs z zk zv [.ref (ad 338), .int x1, .int x2] M) (AQi G L ad cs r M') 0 0 (inA L ad) := by
  refine met_of (Eq.refl true) (Nat.le_of_ble_eq_true rfl) hinj [some (.ref (ad 338)), some (.int x1), some (.int x2), none, none, none, none] rfl ?_
  intro p e s m below meth c F
  replace F : Fx G L ad cs z zk zv p m meth c cX9_oldest 7 (some .int) s _ RX9 := F
  obtain ⟨n, hn⟩ := run_ex h
  exact (wX9_oldest F hm n).1 x1 x2 M hn 
def rmX9_ages : Room := { frames := 0, cells := 0, slots := 0, locals := 0 }
theorem kn_X9_ages : yX9_ages.cls ≠ "java/lang/invoke/MethodHandle" ∧ yX9_ages.cls ≠ "java/lang/invoke/VarHandle" ∧ (parseMethodDescriptor yX9_ages.desc).map (fun d => d.parameters.length) = some 2 := by decide +kernel
noncomputable def bX9_ages_0 (x1 : Int32) (x2 : Int32) (M : Mm) : Option (Sst ⊕ Rst) := some (.inl (1, [], [x1, x2, ((5 : Int32) * x2)], M))
noncomputable def bX9_ages_1 (x1 : Int32) (x2 : Int32) (x3 : Int32) (M : Mm) : Option (Sst ⊕ Rst) := gd (okI ((x1 + (2 : Int32)) + x2) 1080) (if (((5 : Int32) * x2) + (M 339 (ix ((x1 + (2 : Int32)) + x2)))) ≤ x3 then (some (.inr ((0 : Int32), M))) else (gd (okI ((x1 + (50 : Int32)) + x3) 1080) (gd (okI ((x1 + (50 : Int32)) + x3) 1080) (if (99 : Int32) ≤ (M 339 (ix ((x1 + (50 : Int32)) + x3))) then (gd (okI ((x1 + (50 : Int32)) + x3) 1080) (some (.inl (1, [], [x1, x2, (x3 + (1 : Int32))], (up2 M 339 (ix ((x1 + (50 : Int32)) + x3)) ((M 339 (ix ((x1 + (50 : Int32)) + x3))) + (0 : Int32))))))) else (gd (okI ((x1 + (50 : Int32)) + x3) 1080) (some (.inl (1, [], [x1, x2, (x3 + (1 : Int32))], (up2 M 339 (ix ((x1 + (50 : Int32)) + x3)) ((M 339 (ix ((x1 + (50 : Int32)) + x3))) + (1 : Int32)))))))))))
noncomputable def stX9_ages : Sst → Option (Sst ⊕ Rst) := fun q => match q.1 with
  | 0 => bX9_ages_0 (q.2.2.1.getD 0 0) (q.2.2.1.getD 1 0) q.2.2.2
  | 1 => bX9_ages_1 (q.2.2.1.getD 0 0) (q.2.2.1.getD 1 0) (q.2.2.1.getD 2 0) q.2.2.2
  | _ => none
noncomputable def fX9_ages (x1 : Int32) (x2 : Int32) (M : Mm) : Option Rst := run stX9_ages (0, [], [x1, x2], M)
def PX9_ages (p : Program) (l : Launch) (e : Env) (s : State) (m : MethodId) (args : Array Value) (below : List Frame) (meth : Method) (c : Code) (G : va_G) (L : List Nat) (ad : Nat → Nat) (cs : Nat → ClassId) (zk : Nat → Nat) (r : Int32) (M' : Mm) (n : Nat) : Prop := (∀ (x1 : Int32) (x2 : Int32) (M : Mm), itr stX9_ages n (0, [], [x1, x2], M) = some (r, M') → AW p l e rmX9_ages s m args below meth c (MQ below (AQv G L ad cs M') args s 0 0 (inA L ad)) G L ad cs 4 0 [some (.ref (ad 338)), some (.int x1), some (.int x2), none] [] M) ∧ (∀ (x1 : Int32) (x2 : Int32) (x3 : Int32) (M : Mm), itr stX9_ages n (1, [], [x1, x2, x3], M) = some (r, M') → AW p l e rmX9_ages s m args below meth c (MQ below (AQv G L ad cs M') args s 0 0 (inA L ad)) G L ad cs 4 4 [some (.ref (ad 338)), some (.int x1), some (.int x2), some (.int x3)] [] M)
set_option maxRecDepth 100000 in
set_option maxHeartbeats 4000000 in
theorem wX9_ages_0 {p : Program} {l : Launch} {e : Env} {s : State} {m : MethodId} {args : Array Value} {below : List Frame} {meth : Method} {c : Code} {G : va_G} {L : List Nat} {ad : Nat → Nat} {cs : Nat → ClassId} {z : Bool} {zk zv : Nat → Nat} {r : Int32} {M' : Mm} {n : Nat} (F : Fx G L ad cs z zk zv p m meth c cX9_ages 4 none s args RX9) (hm : isM L) (IH : PX9_ages p l e s m args below meth c G L ad cs zk r M' n) (x1 : Int32) (x2 : Int32) (M : Mm) (h : (bX9_ages_0 x1 x2 M).bind (fun q => match q with | .inl s' => itr stX9_ages n s' | .inr r => some r) = some (r, M'))  : AW p l e rmX9_ages s m args below meth c (MQ below (AQv G L ad cs M') args s 0 0 (inA L ad)) G L ad cs 4 0 [some (.ref (ad 338)), some (.int x1), some (.int x2), none] [] M := by
  unfold bX9_ages_0 at h
  refine ax_iconst (v := (5 : Int32)) F dX9_ages_0 (by decide) ?_
  refine ax_iload_n F dX9_ages_1 rfl ?_
  refine ax_imul F dX9_ages_2 ?_
  refine ax_istore_n F dX9_ages_3 (by decide) rfl ?_
  exact IH.2 _ _ _ _ h 
set_option maxRecDepth 100000 in
set_option maxHeartbeats 4000000 in
theorem wX9_ages_1 {p : Program} {l : Launch} {e : Env} {s : State} {m : MethodId} {args : Array Value} {below : List Frame} {meth : Method} {c : Code} {G : va_G} {L : List Nat} {ad : Nat → Nat} {cs : Nat → ClassId} {z : Bool} {zk zv : Nat → Nat} {r : Int32} {M' : Mm} {n : Nat} (F : Fx G L ad cs z zk zv p m meth c cX9_ages 4 none s args RX9) (hm : isM L) (IH : PX9_ages p l e s m args below meth c G L ad cs zk r M' n) (x1 : Int32) (x2 : Int32) (x3 : Int32) (M : Mm) (h : (bX9_ages_1 x1 x2 x3 M).bind (fun q => match q with | .inl s' => itr stX9_ages n s' | .inr r => some r) = some (r, M'))  : AW p l e rmX9_ages s m args below meth c (MQ below (AQv G L ad cs M') args s 0 0 (inA L ad)) G L ad cs 4 4 [some (.ref (ad 338)), some (.int x1), some (.int x2), some (.int x3)] [] M := by
  unfold bX9_ages_1 at h
  refine ax_iload_n F dX9_ages_4 rfl ?_
  refine ax_iconst (v := (5 : Int32)) F dX9_ages_5 (by decide) ?_
  refine ax_iload_n F dX9_ages_6 rfl ?_
  refine ax_imul F dX9_ages_7 ?_
  refine ax_aload_n F dX9_ages_8 rfl ?_
  refine ax_get (v := .ref (ad 339)) F (ob_338 hm) rfl inGX9 0 (by decide) rfl kf_X9_7 rfl dX9_ages_9 ?_
  refine ax_iload_n F dX9_ages_12 rfl ?_
  refine ax_iconst (v := (2 : Int32)) F dX9_ages_13 (by decide) ?_
  refine ax_iadd F dX9_ages_14 ?_
  refine ax_iload_n F dX9_ages_15 rfl ?_
  refine ax_iadd F dX9_ages_16 ?_
  obtain ⟨hg, h⟩ := gd_some h
  refine ax_iald F (ar_339 hm) hg dX9_ages_17 ?_
  refine ax_iadd F dX9_ages_18 ?_
  refine ax_icmp_ge (t := 63) F dX9_ages_19 (by decide) (fun hc => ?_) (fun hc => ?_)
  · have h := it_pos h hc
    obtain ⟨h1, h2⟩ := rt_some h
    subst h2
    exact ax_vret F dX9_ages_63
  · have h := it_neg h hc
    refine ax_aload_n F dX9_ages_22 rfl ?_
    refine ax_get (v := .ref (ad 339)) F (ob_338 hm) rfl inGX9 0 (by decide) rfl kf_X9_7 rfl dX9_ages_23 ?_
    refine ax_iload_n F dX9_ages_26 rfl ?_
    refine ax_bipush (v := (50 : Int32)) F dX9_ages_27 (by decide) ?_
    refine ax_iadd F dX9_ages_29 ?_
    refine ax_iload_n F dX9_ages_30 rfl ?_
    refine ax_iadd F dX9_ages_31 ?_
    refine ax_dup2 F dX9_ages_32 rfl rfl ?_
    obtain ⟨hg, h⟩ := gd_some h
    refine ax_iald F (ar_339 hm) hg dX9_ages_33 ?_
    refine ax_aload_n F dX9_ages_34 rfl ?_
    refine ax_get (v := .ref (ad 339)) F (ob_338 hm) rfl inGX9 0 (by decide) rfl kf_X9_7 rfl dX9_ages_35 ?_
    refine ax_iload_n F dX9_ages_38 rfl ?_
    refine ax_bipush (v := (50 : Int32)) F dX9_ages_39 (by decide) ?_
    refine ax_iadd F dX9_ages_41 ?_
    refine ax_iload_n F dX9_ages_42 rfl ?_
    refine ax_iadd F dX9_ages_43 ?_
    obtain ⟨hg, h⟩ := gd_some h
    refine ax_iald F (ar_339 hm) hg dX9_ages_44 ?_
    refine ax_bipush (v := (99 : Int32)) F dX9_ages_45 (by decide) ?_
    refine ax_icmp_ge (t := 54) F dX9_ages_47 (by decide) (fun hc => ?_) (fun hc => ?_)
    · have h := it_pos h hc
      refine ax_iconst (v := (0 : Int32)) F dX9_ages_54 (by decide) ?_
      refine ax_iadd F dX9_ages_55 ?_
      obtain ⟨hg, h⟩ := gd_some h
      refine ax_iast F (ar_339 hm) hg dX9_ages_56 ?_
      refine ax_iinc (v := (1 : Int32)) F dX9_ages_57 rfl (by decide) (by decide) rfl ?_
      refine ax_goto (t := 4) F dX9_ages_60 (by decide) ?_
      exact IH.2 _ _ _ _ h 
    · have h := it_neg h hc
      refine ax_iconst (v := (1 : Int32)) F dX9_ages_50 (by decide) ?_
      refine ax_goto (t := 55) F dX9_ages_51 (by decide) ?_
      refine ax_iadd F dX9_ages_55 ?_
      obtain ⟨hg, h⟩ := gd_some h
      refine ax_iast F (ar_339 hm) hg dX9_ages_56 ?_
      refine ax_iinc (v := (1 : Int32)) F dX9_ages_57 rfl (by decide) (by decide) rfl ?_
      refine ax_goto (t := 4) F dX9_ages_60 (by decide) ?_
      exact IH.2 _ _ _ _ h 
set_option maxRecDepth 100000 in
set_option maxHeartbeats 4000000 in
theorem wX9_ages {p : Program} {l : Launch} {e : Env} {s : State} {m : MethodId} {args : Array Value} {below : List Frame} {meth : Method} {c : Code} {G : va_G} {L : List Nat} {ad : Nat → Nat} {cs : Nat → ClassId} {z : Bool} {zk zv : Nat → Nat} {r : Int32} {M' : Mm} (F : Fx G L ad cs z zk zv p m meth c cX9_ages 4 none s args RX9) (hm : isM L) (n : Nat) : PX9_ages p l e s m args below meth c G L ad cs zk r M' n := by
  induction n with
  | zero => exact ⟨(fun x1 x2 M h => by cases h), (fun x1 x2 x3 M h => by cases h)⟩
  | succ n ih =>
    exact ⟨fun x1 x2 M h  => wX9_ages_0 F hm ih x1 x2 M h ,
      fun x1 x2 x3 M h  => wX9_ages_1 F hm ih x1 x2 x3 M h ⟩
set_option maxRecDepth 100000 in
set_option maxHeartbeats 4000000 in
theorem tX9_ages {l : Launch} {G : va_G} {L : List Nat} {ad : Nat → Nat} {cs : Nat → ClassId} {z : Bool} {zk zv : Nat → Nat} (hinj : inj L ad) (hm : isM L) (x1 : Int32) (x2 : Int32)  (M : Mm) (r : Int32) (M' : Mm) (h : fX9_ages x1 x2 M = some (r, M')) : Met l yX9_ages (tgW yX9_ages cX9_ages 4 none) rmX9_ages (APre G L ad cs z zk zv [.ref (ad 338), .int x1, .int x2] M) (AQv G L ad cs M') 0 0 (inA L ad) := by
  refine met_of (Eq.refl true) (Nat.le_of_ble_eq_true rfl) hinj [some (.ref (ad 338)), some (.int x1), some (.int x2), none] rfl ?_
  intro p e s m below meth c F
  replace F : Fx G L ad cs z zk zv p m meth c cX9_ages 4 none s _ RX9 := F
  obtain ⟨n, hn⟩ := run_ex h
  exact (wX9_ages F hm n).1 x1 x2 M hn 
noncomputable def fX9_rounds (x1 : Int32) (x2 : Int32) (M : Mm) : Option Rst := cl (fX9_ages x1 x2 M) (fun r1 M1 => cl (fX9_oldest x1 x2 M1) (fun r2 M2 => if r2 = (-1 : Int32) then (some ((-1 : Int32), M2)) else (gd (okI (((x1 + (10 : Int32)) + ((5 : Int32) * x2)) + r2) 1080) (cl (fX9_strike x1 x2 r2 M2) (fun r3 M3 => cl (fX9_isDead x1 (M2 339 (ix (((x1 + (10 : Int32)) + ((5 : Int32) * x2)) + r2))) M3) (fun r4 M4 => if r4 = 0 then (cl (fX9_send (0 : Int32) x2 (0 : Int32) (up2 (up2 M4 348 (ix (0 : Int32)) (0 : Int32)) 348 (ix (1 : Int32)) (0 : Int32))) (fun r5 M5 => cl (fX9_has (M5 338 4) x2 M5) (fun r6 M6 => if r6 = 0 then (cl (fX9_sends x1 (0 : Int32) x2 M6) (fun r14 M14 => cl (fX9_has (M14 338 4) (M2 339 (ix (((x1 + (10 : Int32)) + ((5 : Int32) * x2)) + r2))) M14) (fun r15 M15 => if r15 = 0 then (cl (fX9_sends x1 (1 : Int32) (M2 339 (ix (((x1 + (10 : Int32)) + ((5 : Int32) * x2)) + r2))) M15) (fun r16 M16 => cl (fX9_takes x1 (1 : Int32) (M2 339 (ix (((x1 + (10 : Int32)) + ((5 : Int32) * x2)) + r2))) M16) (fun r17 M17 => cl (fX9_takes x1 (0 : Int32) x2 M17) (fun r18 M18 => some ((M2 339 (ix (((x1 + (10 : Int32)) + ((5 : Int32) * x2)) + r2))), M18))))) else (cl (fX9_send (1 : Int32) (M2 339 (ix (((x1 + (10 : Int32)) + ((5 : Int32) * x2)) + r2))) (0 : Int32) M15) (fun r19 M19 => cl (fX9_takes x1 (1 : Int32) (M2 339 (ix (((x1 + (10 : Int32)) + ((5 : Int32) * x2)) + r2))) M19) (fun r20 M20 => cl (fX9_takes x1 (0 : Int32) x2 M20) (fun r21 M21 => some ((M2 339 (ix (((x1 + (10 : Int32)) + ((5 : Int32) * x2)) + r2))), M21)))))))) else (cl (fX9_has (M6 338 4) (M2 339 (ix (((x1 + (10 : Int32)) + ((5 : Int32) * x2)) + r2))) M6) (fun r7 M7 => if r7 = 0 then (cl (fX9_sends x1 (1 : Int32) (M2 339 (ix (((x1 + (10 : Int32)) + ((5 : Int32) * x2)) + r2))) M7) (fun r8 M8 => cl (fX9_takes x1 (1 : Int32) (M2 339 (ix (((x1 + (10 : Int32)) + ((5 : Int32) * x2)) + r2))) M8) (fun r9 M9 => cl (fX9_takes x1 (0 : Int32) x2 M9) (fun r10 M10 => some ((M2 339 (ix (((x1 + (10 : Int32)) + ((5 : Int32) * x2)) + r2))), M10))))) else (cl (fX9_send (1 : Int32) (M2 339 (ix (((x1 + (10 : Int32)) + ((5 : Int32) * x2)) + r2))) (0 : Int32) M7) (fun r11 M11 => cl (fX9_takes x1 (1 : Int32) (M2 339 (ix (((x1 + (10 : Int32)) + ((5 : Int32) * x2)) + r2))) M11) (fun r12 M12 => cl (fX9_takes x1 (0 : Int32) x2 M12) (fun r13 M13 => some ((M2 339 (ix (((x1 + (10 : Int32)) + ((5 : Int32) * x2)) + r2))), M13)))))))))) else (some ((M2 339 (ix (((x1 + (10 : Int32)) + ((5 : Int32) * x2)) + r2))), M4))))))))
def rmX9_rounds : Room := { frames := 3, cells := 0, slots := 0, locals := 76 }
theorem kn_X9_rounds : yX9_rounds.cls ≠ "java/lang/invoke/MethodHandle" ∧ yX9_rounds.cls ≠ "java/lang/invoke/VarHandle" ∧ (parseMethodDescriptor yX9_rounds.desc).map (fun d => d.parameters.length) = some 2 := by decide +kernel
set_option maxRecDepth 100000 in
set_option maxHeartbeats 4000000 in
theorem tX9_rounds {l : Launch} {G : va_G} {L : List Nat} {ad : Nat → Nat} {cs : Nat → ClassId} {z : Bool} {zk zv : Nat → Nat} (hinj : inj L ad) (hm : isM L) (x1 : Int32) (x2 : Int32)  (M : Mm) (r : Int32) (M' : Mm) (h : fX9_rounds x1 x2 M = some (r, M')) : Met l yX9_rounds (tgW yX9_rounds cX9_rounds 5 (some .int)) rmX9_rounds (APre G L ad cs z zk zv [.ref (ad 338), .int x1, .int x2] M) (AQi G L ad cs r M') 0 0 (inA L ad) := by
  refine met_of (Eq.refl true) (Nat.le_of_ble_eq_true rfl) hinj [some (.ref (ad 338)), some (.int x1), some (.int x2), none, none] rfl ?_
  intro p e s m below meth c F
  replace F : Fx G L ad cs z zk zv p m meth c cX9_rounds 5 (some .int) s _ RX9 := F
  unfold fX9_rounds at h
  refine ax_aload_n F dX9_rounds_0 rfl ?_
  refine ax_iload_n F dX9_rounds_1 rfl ?_
  refine ax_iload_n F dX9_rounds_2 rfl ?_
  obtain ⟨r1, M1, hq1, h⟩ := cq_some0 h
  refine ax_callVv (As := [.int x1, .int x2]) (st := []) F (tX9_ages F.2.2.2.2.2.2.1 hm _ _  _ _ _ hq1) (ob_338 hm) rfl kc_X9_ages kz_X9 ki_X9_ages ks_X9_ages km_X9_169 ⟨kn_X9_ages, rfl, rfl, Nat.le_of_ble_eq_true rfl, Nat.le_of_ble_eq_true rfl⟩ rfl (Nat.le_of_ble_eq_true rfl) dX9_rounds_3 ?_
  refine ax_aload_n F dX9_rounds_6 rfl ?_
  refine ax_iload_n F dX9_rounds_7 rfl ?_
  refine ax_iload_n F dX9_rounds_8 rfl ?_
  obtain ⟨r2, M2, hq2, h⟩ := cq_some0 h
  refine ax_callVi (As := [.int x1, .int x2]) (st := []) F (tX9_oldest F.2.2.2.2.2.2.1 hm _ _  _ _ _ hq2) (ob_338 hm) rfl kc_X9_oldest kz_X9 ki_X9_oldest ks_X9_oldest km_X9_173 ⟨kn_X9_oldest, rfl, rfl, Nat.le_of_ble_eq_true rfl, Nat.le_of_ble_eq_true rfl⟩ rfl (Nat.le_of_ble_eq_true rfl) dX9_rounds_9 ?_
  refine ax_istore_n F dX9_rounds_12 (by decide) rfl ?_
  refine ax_iload_n F dX9_rounds_13 rfl ?_
  refine ax_iconst (v := (-1 : Int32)) F dX9_rounds_14 (by decide) ?_
  refine ax_icmp_ne (t := 20) F dX9_rounds_15 (by decide) (fun hc => ?_) (fun hc => ?_)
  · have h := it_neg0 h hc
    refine ax_aload_n F dX9_rounds_20 rfl ?_
    refine ax_get (v := .ref (ad 339)) F (ob_338 hm) rfl inGX9 0 (by decide) rfl kf_X9_7 rfl dX9_rounds_21 ?_
    refine ax_iload_n F dX9_rounds_24 rfl ?_
    refine ax_bipush (v := (10 : Int32)) F dX9_rounds_25 (by decide) ?_
    refine ax_iadd F dX9_rounds_27 ?_
    refine ax_iconst (v := (5 : Int32)) F dX9_rounds_28 (by decide) ?_
    refine ax_iload_n F dX9_rounds_29 rfl ?_
    refine ax_imul F dX9_rounds_30 ?_
    refine ax_iadd F dX9_rounds_31 ?_
    refine ax_iload_n F dX9_rounds_32 rfl ?_
    refine ax_iadd F dX9_rounds_33 ?_
    obtain ⟨hg, h⟩ := gd_some0 h
    refine ax_iald F (ar_339 hm) hg dX9_rounds_34 ?_
    refine ax_istore F dX9_rounds_35 (by decide) rfl ?_
    refine ax_aload_n F dX9_rounds_37 rfl ?_
    refine ax_iload_n F dX9_rounds_38 rfl ?_
    refine ax_iload_n F dX9_rounds_39 rfl ?_
    refine ax_iload_n F dX9_rounds_40 rfl ?_
    obtain ⟨r3, M3, hq3, h⟩ := cq_some0 h
    refine ax_callVv (As := [.int x1, .int x2, .int r2]) (st := []) F (tX9_strike F.2.2.2.2.2.2.1 hm _ _ _  _ _ _ hq3) (ob_338 hm) rfl kc_X9_strike kz_X9 ki_X9_strike ks_X9_strike km_X9_120 ⟨kn_X9_strike, rfl, rfl, Nat.le_of_ble_eq_true rfl, Nat.le_of_ble_eq_true rfl⟩ rfl (Nat.le_of_ble_eq_true rfl) dX9_rounds_41 ?_
    refine ax_aload_n F dX9_rounds_44 rfl ?_
    refine ax_iload_n F dX9_rounds_45 rfl ?_
    refine ax_iload F dX9_rounds_46 rfl ?_
    obtain ⟨r4, M4, hq4, h⟩ := cq_some0 h
    refine ax_callVi (As := [.int x1, .int (M2 339 (ix (((x1 + (10 : Int32)) + ((5 : Int32) * x2)) + r2)))]) (st := []) F (tX9_isDead F.2.2.2.2.2.2.1 hm _ _  _ _ _ hq4) (ob_338 hm) rfl kc_X9_isDead kz_X9 ki_X9_isDead ks_X9_isDead km_X9_176 ⟨kn_X9_isDead, rfl, rfl, Nat.le_of_ble_eq_true rfl, Nat.le_of_ble_eq_true rfl⟩ rfl (Nat.le_of_ble_eq_true rfl) dX9_rounds_48 ?_
    refine ax_if_ne (t := 139) F dX9_rounds_51 (by decide) (fun hc => ?_) (fun hc => ?_)
    · have h := it_neg0 h hc
      refine ax_iload F dX9_rounds_139 rfl ?_
      obtain ⟨h1, h2⟩ := rt_some0 h
      subst h1; subst h2
      exact ax_iret F dX9_rounds_141
    · have h := it_pos0 h hc
      refine ax_aload_n F dX9_rounds_54 rfl ?_
      refine ax_get (v := .ref (ad 348)) F (ob_338 hm) rfl inGX9 20 (by decide) rfl kf_X9_38 rfl dX9_rounds_55 ?_
      refine ax_iconst (v := (0 : Int32)) F dX9_rounds_58 (by decide) ?_
      refine ax_iconst (v := (0 : Int32)) F dX9_rounds_59 (by decide) ?_
      refine ax_iast F (ar_348 hm) (by decide) dX9_rounds_60 ?_
      refine ax_aload_n F dX9_rounds_61 rfl ?_
      refine ax_get (v := .ref (ad 348)) F (ob_338 hm) rfl inGX9 20 (by decide) rfl kf_X9_38 rfl dX9_rounds_62 ?_
      refine ax_iconst (v := (1 : Int32)) F dX9_rounds_65 (by decide) ?_
      refine ax_iconst (v := (0 : Int32)) F dX9_rounds_66 (by decide) ?_
      refine ax_iast F (ar_348 hm) (by decide) dX9_rounds_67 ?_
      refine ax_aload_n F dX9_rounds_68 rfl ?_
      refine ax_iconst (v := (0 : Int32)) F dX9_rounds_69 (by decide) ?_
      refine ax_iload_n F dX9_rounds_70 rfl ?_
      refine ax_iconst (v := (0 : Int32)) F dX9_rounds_71 (by decide) ?_
      obtain ⟨r5, M5, hq5, h⟩ := cq_some0 h
      refine ax_callVv (As := [.int (0 : Int32), .int x2, .int (0 : Int32)]) (st := []) F (tX9_send F.2.2.2.2.2.2.1 hm _ _ _  _ _ _ hq5) (ob_338 hm) rfl kc_X9_send kz_X9 ki_X9_send ks_X9_send km_X9_163 ⟨kn_X9_send, rfl, rfl, Nat.le_of_ble_eq_true rfl, Nat.le_of_ble_eq_true rfl⟩ rfl (Nat.le_of_ble_eq_true rfl) dX9_rounds_72 ?_
      refine ax_aload_n F dX9_rounds_75 rfl ?_
      refine ax_get (v := .int (M5 338 4)) F (ob_338 hm) rfl inGX9 4 (by decide) rfl kf_X9_58 rfl dX9_rounds_76 ?_
      refine ax_iload_n F dX9_rounds_79 rfl ?_
      obtain ⟨r6, M6, hq6, h⟩ := cq_some0 h
      refine ax_callSi (As := [.int (M5 338 4), .int x2]) (st := []) F (tX9_has F.2.2.2.2.2.2.1 hm _ _  _ _ _ hq6) kc_X9_has kz_X9 kt_X9_has km_X9_152 ⟨kn_X9_has, rfl, rfl, Nat.le_of_ble_eq_true rfl, Nat.le_of_ble_eq_true rfl⟩ rfl (Nat.le_of_ble_eq_true rfl) dX9_rounds_80 ?_
      refine ax_if_ne (t := 93) F dX9_rounds_83 (by decide) (fun hc => ?_) (fun hc => ?_)
      · have h := it_neg0 h hc
        refine ax_aload_n F dX9_rounds_93 rfl ?_
        refine ax_get (v := .int (M6 338 4)) F (ob_338 hm) rfl inGX9 4 (by decide) rfl kf_X9_58 rfl dX9_rounds_94 ?_
        refine ax_iload F dX9_rounds_97 rfl ?_
        obtain ⟨r7, M7, hq7, h⟩ := cq_some0 h
        refine ax_callSi (As := [.int (M6 338 4), .int (M2 339 (ix (((x1 + (10 : Int32)) + ((5 : Int32) * x2)) + r2)))]) (st := []) F (tX9_has F.2.2.2.2.2.2.1 hm _ _  _ _ _ hq7) kc_X9_has kz_X9 kt_X9_has km_X9_152 ⟨kn_X9_has, rfl, rfl, Nat.le_of_ble_eq_true rfl, Nat.le_of_ble_eq_true rfl⟩ rfl (Nat.le_of_ble_eq_true rfl) dX9_rounds_99 ?_
        refine ax_if_eq (t := 116) F dX9_rounds_102 (by decide) (fun hc => ?_) (fun hc => ?_)
        · have h := it_pos0 h hc
          refine ax_aload_n F dX9_rounds_116 rfl ?_
          refine ax_iload_n F dX9_rounds_117 rfl ?_
          refine ax_iconst (v := (1 : Int32)) F dX9_rounds_118 (by decide) ?_
          refine ax_iload F dX9_rounds_119 rfl ?_
          obtain ⟨r8, M8, hq8, h⟩ := cq_some0 h
          refine ax_callVv (As := [.int x1, .int (1 : Int32), .int (M2 339 (ix (((x1 + (10 : Int32)) + ((5 : Int32) * x2)) + r2)))]) (st := []) F (tX9_sends F.2.2.2.2.2.2.1 hm _ _ _  _ _ _ hq8) (ob_338 hm) rfl kc_X9_sends kz_X9 ki_X9_sends ks_X9_sends km_X9_179 ⟨kn_X9_sends, rfl, rfl, Nat.le_of_ble_eq_true rfl, Nat.le_of_ble_eq_true rfl⟩ rfl (Nat.le_of_ble_eq_true rfl) dX9_rounds_121 ?_
          refine ax_aload_n F dX9_rounds_124 rfl ?_
          refine ax_iload_n F dX9_rounds_125 rfl ?_
          refine ax_iconst (v := (1 : Int32)) F dX9_rounds_126 (by decide) ?_
          refine ax_iload F dX9_rounds_127 rfl ?_
          obtain ⟨r9, M9, hq9, h⟩ := cq_some0 h
          refine ax_callVv (As := [.int x1, .int (1 : Int32), .int (M2 339 (ix (((x1 + (10 : Int32)) + ((5 : Int32) * x2)) + r2)))]) (st := []) F (tX9_takes F.2.2.2.2.2.2.1 hm _ _ _  _ _ _ hq9) (ob_338 hm) rfl kc_X9_takes kz_X9 ki_X9_takes ks_X9_takes km_X9_182 ⟨kn_X9_takes, rfl, rfl, Nat.le_of_ble_eq_true rfl, Nat.le_of_ble_eq_true rfl⟩ rfl (Nat.le_of_ble_eq_true rfl) dX9_rounds_129 ?_
          refine ax_aload_n F dX9_rounds_132 rfl ?_
          refine ax_iload_n F dX9_rounds_133 rfl ?_
          refine ax_iconst (v := (0 : Int32)) F dX9_rounds_134 (by decide) ?_
          refine ax_iload_n F dX9_rounds_135 rfl ?_
          obtain ⟨r10, M10, hq10, h⟩ := cq_some0 h
          refine ax_callVv (As := [.int x1, .int (0 : Int32), .int x2]) (st := []) F (tX9_takes F.2.2.2.2.2.2.1 hm _ _ _  _ _ _ hq10) (ob_338 hm) rfl kc_X9_takes kz_X9 ki_X9_takes ks_X9_takes km_X9_182 ⟨kn_X9_takes, rfl, rfl, Nat.le_of_ble_eq_true rfl, Nat.le_of_ble_eq_true rfl⟩ rfl (Nat.le_of_ble_eq_true rfl) dX9_rounds_136 ?_
          refine ax_iload F dX9_rounds_139 rfl ?_
          obtain ⟨h1, h2⟩ := rt_some0 h
          subst h1; subst h2
          exact ax_iret F dX9_rounds_141
        · have h := it_neg0 h hc
          refine ax_aload_n F dX9_rounds_105 rfl ?_
          refine ax_iconst (v := (1 : Int32)) F dX9_rounds_106 (by decide) ?_
          refine ax_iload F dX9_rounds_107 rfl ?_
          refine ax_iconst (v := (0 : Int32)) F dX9_rounds_109 (by decide) ?_
          obtain ⟨r11, M11, hq11, h⟩ := cq_some0 h
          refine ax_callVv (As := [.int (1 : Int32), .int (M2 339 (ix (((x1 + (10 : Int32)) + ((5 : Int32) * x2)) + r2))), .int (0 : Int32)]) (st := []) F (tX9_send F.2.2.2.2.2.2.1 hm _ _ _  _ _ _ hq11) (ob_338 hm) rfl kc_X9_send kz_X9 ki_X9_send ks_X9_send km_X9_163 ⟨kn_X9_send, rfl, rfl, Nat.le_of_ble_eq_true rfl, Nat.le_of_ble_eq_true rfl⟩ rfl (Nat.le_of_ble_eq_true rfl) dX9_rounds_110 ?_
          refine ax_goto (t := 124) F dX9_rounds_113 (by decide) ?_
          refine ax_aload_n F dX9_rounds_124 rfl ?_
          refine ax_iload_n F dX9_rounds_125 rfl ?_
          refine ax_iconst (v := (1 : Int32)) F dX9_rounds_126 (by decide) ?_
          refine ax_iload F dX9_rounds_127 rfl ?_
          obtain ⟨r12, M12, hq12, h⟩ := cq_some0 h
          refine ax_callVv (As := [.int x1, .int (1 : Int32), .int (M2 339 (ix (((x1 + (10 : Int32)) + ((5 : Int32) * x2)) + r2)))]) (st := []) F (tX9_takes F.2.2.2.2.2.2.1 hm _ _ _  _ _ _ hq12) (ob_338 hm) rfl kc_X9_takes kz_X9 ki_X9_takes ks_X9_takes km_X9_182 ⟨kn_X9_takes, rfl, rfl, Nat.le_of_ble_eq_true rfl, Nat.le_of_ble_eq_true rfl⟩ rfl (Nat.le_of_ble_eq_true rfl) dX9_rounds_129 ?_
          refine ax_aload_n F dX9_rounds_132 rfl ?_
          refine ax_iload_n F dX9_rounds_133 rfl ?_
          refine ax_iconst (v := (0 : Int32)) F dX9_rounds_134 (by decide) ?_
          refine ax_iload_n F dX9_rounds_135 rfl ?_
          obtain ⟨r13, M13, hq13, h⟩ := cq_some0 h
          refine ax_callVv (As := [.int x1, .int (0 : Int32), .int x2]) (st := []) F (tX9_takes F.2.2.2.2.2.2.1 hm _ _ _  _ _ _ hq13) (ob_338 hm) rfl kc_X9_takes kz_X9 ki_X9_takes ks_X9_takes km_X9_182 ⟨kn_X9_takes, rfl, rfl, Nat.le_of_ble_eq_true rfl, Nat.le_of_ble_eq_true rfl⟩ rfl (Nat.le_of_ble_eq_true rfl) dX9_rounds_136 ?_
          refine ax_iload F dX9_rounds_139 rfl ?_
          obtain ⟨h1, h2⟩ := rt_some0 h
          subst h1; subst h2
          exact ax_iret F dX9_rounds_141
      · have h := it_pos0 h hc
        refine ax_aload_n F dX9_rounds_86 rfl ?_
        refine ax_iload_n F dX9_rounds_87 rfl ?_
        refine ax_iconst (v := (0 : Int32)) F dX9_rounds_88 (by decide) ?_
        refine ax_iload_n F dX9_rounds_89 rfl ?_
        obtain ⟨r14, M14, hq14, h⟩ := cq_some0 h
        refine ax_callVv (As := [.int x1, .int (0 : Int32), .int x2]) (st := []) F (tX9_sends F.2.2.2.2.2.2.1 hm _ _ _  _ _ _ hq14) (ob_338 hm) rfl kc_X9_sends kz_X9 ki_X9_sends ks_X9_sends km_X9_179 ⟨kn_X9_sends, rfl, rfl, Nat.le_of_ble_eq_true rfl, Nat.le_of_ble_eq_true rfl⟩ rfl (Nat.le_of_ble_eq_true rfl) dX9_rounds_90 ?_
        refine ax_aload_n F dX9_rounds_93 rfl ?_
        refine ax_get (v := .int (M14 338 4)) F (ob_338 hm) rfl inGX9 4 (by decide) rfl kf_X9_58 rfl dX9_rounds_94 ?_
        refine ax_iload F dX9_rounds_97 rfl ?_
        obtain ⟨r15, M15, hq15, h⟩ := cq_some0 h
        refine ax_callSi (As := [.int (M14 338 4), .int (M2 339 (ix (((x1 + (10 : Int32)) + ((5 : Int32) * x2)) + r2)))]) (st := []) F (tX9_has F.2.2.2.2.2.2.1 hm _ _  _ _ _ hq15) kc_X9_has kz_X9 kt_X9_has km_X9_152 ⟨kn_X9_has, rfl, rfl, Nat.le_of_ble_eq_true rfl, Nat.le_of_ble_eq_true rfl⟩ rfl (Nat.le_of_ble_eq_true rfl) dX9_rounds_99 ?_
        refine ax_if_eq (t := 116) F dX9_rounds_102 (by decide) (fun hc => ?_) (fun hc => ?_)
        · have h := it_pos0 h hc
          refine ax_aload_n F dX9_rounds_116 rfl ?_
          refine ax_iload_n F dX9_rounds_117 rfl ?_
          refine ax_iconst (v := (1 : Int32)) F dX9_rounds_118 (by decide) ?_
          refine ax_iload F dX9_rounds_119 rfl ?_
          obtain ⟨r16, M16, hq16, h⟩ := cq_some0 h
          refine ax_callVv (As := [.int x1, .int (1 : Int32), .int (M2 339 (ix (((x1 + (10 : Int32)) + ((5 : Int32) * x2)) + r2)))]) (st := []) F (tX9_sends F.2.2.2.2.2.2.1 hm _ _ _  _ _ _ hq16) (ob_338 hm) rfl kc_X9_sends kz_X9 ki_X9_sends ks_X9_sends km_X9_179 ⟨kn_X9_sends, rfl, rfl, Nat.le_of_ble_eq_true rfl, Nat.le_of_ble_eq_true rfl⟩ rfl (Nat.le_of_ble_eq_true rfl) dX9_rounds_121 ?_
          refine ax_aload_n F dX9_rounds_124 rfl ?_
          refine ax_iload_n F dX9_rounds_125 rfl ?_
          refine ax_iconst (v := (1 : Int32)) F dX9_rounds_126 (by decide) ?_
          refine ax_iload F dX9_rounds_127 rfl ?_
          obtain ⟨r17, M17, hq17, h⟩ := cq_some0 h
          refine ax_callVv (As := [.int x1, .int (1 : Int32), .int (M2 339 (ix (((x1 + (10 : Int32)) + ((5 : Int32) * x2)) + r2)))]) (st := []) F (tX9_takes F.2.2.2.2.2.2.1 hm _ _ _  _ _ _ hq17) (ob_338 hm) rfl kc_X9_takes kz_X9 ki_X9_takes ks_X9_takes km_X9_182 ⟨kn_X9_takes, rfl, rfl, Nat.le_of_ble_eq_true rfl, Nat.le_of_ble_eq_true rfl⟩ rfl (Nat.le_of_ble_eq_true rfl) dX9_rounds_129 ?_
          refine ax_aload_n F dX9_rounds_132 rfl ?_
          refine ax_iload_n F dX9_rounds_133 rfl ?_
          refine ax_iconst (v := (0 : Int32)) F dX9_rounds_134 (by decide) ?_
          refine ax_iload_n F dX9_rounds_135 rfl ?_
          obtain ⟨r18, M18, hq18, h⟩ := cq_some0 h
          refine ax_callVv (As := [.int x1, .int (0 : Int32), .int x2]) (st := []) F (tX9_takes F.2.2.2.2.2.2.1 hm _ _ _  _ _ _ hq18) (ob_338 hm) rfl kc_X9_takes kz_X9 ki_X9_takes ks_X9_takes km_X9_182 ⟨kn_X9_takes, rfl, rfl, Nat.le_of_ble_eq_true rfl, Nat.le_of_ble_eq_true rfl⟩ rfl (Nat.le_of_ble_eq_true rfl) dX9_rounds_136 ?_
          refine ax_iload F dX9_rounds_139 rfl ?_
          obtain ⟨h1, h2⟩ := rt_some0 h
          subst h1; subst h2
          exact ax_iret F dX9_rounds_141
        · have h := it_neg0 h hc
          refine ax_aload_n F dX9_rounds_105 rfl ?_
          refine ax_iconst (v := (1 : Int32)) F dX9_rounds_106 (by decide) ?_
          refine ax_iload F dX9_rounds_107 rfl ?_
          refine ax_iconst (v := (0 : Int32)) F dX9_rounds_109 (by decide) ?_
          obtain ⟨r19, M19, hq19, h⟩ := cq_some0 h
          refine ax_callVv (As := [.int (1 : Int32), .int (M2 339 (ix (((x1 + (10 : Int32)) + ((5 : Int32) * x2)) + r2))), .int (0 : Int32)]) (st := []) F (tX9_send F.2.2.2.2.2.2.1 hm _ _ _  _ _ _ hq19) (ob_338 hm) rfl kc_X9_send kz_X9 ki_X9_send ks_X9_send km_X9_163 ⟨kn_X9_send, rfl, rfl, Nat.le_of_ble_eq_true rfl, Nat.le_of_ble_eq_true rfl⟩ rfl (Nat.le_of_ble_eq_true rfl) dX9_rounds_110 ?_
          refine ax_goto (t := 124) F dX9_rounds_113 (by decide) ?_
          refine ax_aload_n F dX9_rounds_124 rfl ?_
          refine ax_iload_n F dX9_rounds_125 rfl ?_
          refine ax_iconst (v := (1 : Int32)) F dX9_rounds_126 (by decide) ?_
          refine ax_iload F dX9_rounds_127 rfl ?_
          obtain ⟨r20, M20, hq20, h⟩ := cq_some0 h
          refine ax_callVv (As := [.int x1, .int (1 : Int32), .int (M2 339 (ix (((x1 + (10 : Int32)) + ((5 : Int32) * x2)) + r2)))]) (st := []) F (tX9_takes F.2.2.2.2.2.2.1 hm _ _ _  _ _ _ hq20) (ob_338 hm) rfl kc_X9_takes kz_X9 ki_X9_takes ks_X9_takes km_X9_182 ⟨kn_X9_takes, rfl, rfl, Nat.le_of_ble_eq_true rfl, Nat.le_of_ble_eq_true rfl⟩ rfl (Nat.le_of_ble_eq_true rfl) dX9_rounds_129 ?_
          refine ax_aload_n F dX9_rounds_132 rfl ?_
          refine ax_iload_n F dX9_rounds_133 rfl ?_
          refine ax_iconst (v := (0 : Int32)) F dX9_rounds_134 (by decide) ?_
          refine ax_iload_n F dX9_rounds_135 rfl ?_
          obtain ⟨r21, M21, hq21, h⟩ := cq_some0 h
          refine ax_callVv (As := [.int x1, .int (0 : Int32), .int x2]) (st := []) F (tX9_takes F.2.2.2.2.2.2.1 hm _ _ _  _ _ _ hq21) (ob_338 hm) rfl kc_X9_takes kz_X9 ki_X9_takes ks_X9_takes km_X9_182 ⟨kn_X9_takes, rfl, rfl, Nat.le_of_ble_eq_true rfl, Nat.le_of_ble_eq_true rfl⟩ rfl (Nat.le_of_ble_eq_true rfl) dX9_rounds_136 ?_
          refine ax_iload F dX9_rounds_139 rfl ?_
          obtain ⟨h1, h2⟩ := rt_some0 h
          subst h1; subst h2
          exact ax_iret F dX9_rounds_141
  · have h := it_pos0 h hc
    refine ax_iconst (v := (-1 : Int32)) F dX9_rounds_18 (by decide) ?_
    obtain ⟨h1, h2⟩ := rt_some0 h
    subst h1; subst h2
    exact ax_iret F dX9_rounds_19
def rmX9_cycles : Room := { frames := 4, cells := 0, slots := 0, locals := 100 }
theorem kn_X9_cycles : yX9_cycles.cls ≠ "java/lang/invoke/MethodHandle" ∧ yX9_cycles.cls ≠ "java/lang/invoke/VarHandle" ∧ (parseMethodDescriptor yX9_cycles.desc).map (fun d => d.parameters.length) = some 1 := by decide +kernel
noncomputable def bX9_cycles_0 (x1 : Int32) (M : Mm) : Option (Sst ⊕ Rst) := some (.inl (1, [], [x1, (0 : Int32)], M))
noncomputable def bX9_cycles_1 (x1 : Int32) (x2 : Int32) (M : Mm) : Option (Sst ⊕ Rst) := if (M 338 1) ≤ x2 then (some (.inr ((0 : Int32), M))) else (cl (fX9_isDead x1 x2 M) (fun r1 M1 => if r1 = 0 then (cl (fX9_rounds x1 x2 M1) (fun r2 M2 => some (.inl (1, [], [x1, (x2 + (1 : Int32))], M2)))) else (some (.inl (1, [], [x1, (x2 + (1 : Int32))], M1)))))
noncomputable def stX9_cycles : Sst → Option (Sst ⊕ Rst) := fun q => match q.1 with
  | 0 => bX9_cycles_0 (q.2.2.1.getD 0 0) q.2.2.2
  | 1 => bX9_cycles_1 (q.2.2.1.getD 0 0) (q.2.2.1.getD 1 0) q.2.2.2
  | _ => none
noncomputable def fX9_cycles (x1 : Int32) (M : Mm) : Option Rst := run stX9_cycles (0, [], [x1], M)
def PX9_cycles (p : Program) (l : Launch) (e : Env) (s : State) (m : MethodId) (args : Array Value) (below : List Frame) (meth : Method) (c : Code) (G : va_G) (L : List Nat) (ad : Nat → Nat) (cs : Nat → ClassId) (zk : Nat → Nat) (r : Int32) (M' : Mm) (n : Nat) : Prop := (∀ (x1 : Int32) (M : Mm), itr stX9_cycles n (0, [], [x1], M) = some (r, M') → AW p l e rmX9_cycles s m args below meth c (MQ below (AQv G L ad cs M') args s 0 0 (inA L ad)) G L ad cs 3 0 [some (.ref (ad 338)), some (.int x1), none] [] M) ∧ (∀ (x1 : Int32) (x2 : Int32) (M : Mm), itr stX9_cycles n (1, [], [x1, x2], M) = some (r, M') → AW p l e rmX9_cycles s m args below meth c (MQ below (AQv G L ad cs M') args s 0 0 (inA L ad)) G L ad cs 3 2 [some (.ref (ad 338)), some (.int x1), some (.int x2)] [] M)
set_option maxRecDepth 100000 in
set_option maxHeartbeats 4000000 in
theorem wX9_cycles_0 {p : Program} {l : Launch} {e : Env} {s : State} {m : MethodId} {args : Array Value} {below : List Frame} {meth : Method} {c : Code} {G : va_G} {L : List Nat} {ad : Nat → Nat} {cs : Nat → ClassId} {z : Bool} {zk zv : Nat → Nat} {r : Int32} {M' : Mm} {n : Nat} (F : Fx G L ad cs z zk zv p m meth c cX9_cycles 3 none s args RX9) (hm : isM L) (IH : PX9_cycles p l e s m args below meth c G L ad cs zk r M' n) (x1 : Int32) (M : Mm) (h : (bX9_cycles_0 x1 M).bind (fun q => match q with | .inl s' => itr stX9_cycles n s' | .inr r => some r) = some (r, M'))  : AW p l e rmX9_cycles s m args below meth c (MQ below (AQv G L ad cs M') args s 0 0 (inA L ad)) G L ad cs 3 0 [some (.ref (ad 338)), some (.int x1), none] [] M := by
  unfold bX9_cycles_0 at h
  refine ax_iconst (v := (0 : Int32)) F dX9_cycles_0 (by decide) ?_
  refine ax_istore_n F dX9_cycles_1 (by decide) rfl ?_
  exact IH.2 _ _ _ h 
set_option maxRecDepth 100000 in
set_option maxHeartbeats 4000000 in
theorem wX9_cycles_1 {p : Program} {l : Launch} {e : Env} {s : State} {m : MethodId} {args : Array Value} {below : List Frame} {meth : Method} {c : Code} {G : va_G} {L : List Nat} {ad : Nat → Nat} {cs : Nat → ClassId} {z : Bool} {zk zv : Nat → Nat} {r : Int32} {M' : Mm} {n : Nat} (F : Fx G L ad cs z zk zv p m meth c cX9_cycles 3 none s args RX9) (hm : isM L) (IH : PX9_cycles p l e s m args below meth c G L ad cs zk r M' n) (x1 : Int32) (x2 : Int32) (M : Mm) (h : (bX9_cycles_1 x1 x2 M).bind (fun q => match q with | .inl s' => itr stX9_cycles n s' | .inr r => some r) = some (r, M'))  : AW p l e rmX9_cycles s m args below meth c (MQ below (AQv G L ad cs M') args s 0 0 (inA L ad)) G L ad cs 3 2 [some (.ref (ad 338)), some (.int x1), some (.int x2)] [] M := by
  unfold bX9_cycles_1 at h
  refine ax_iload_n F dX9_cycles_2 rfl ?_
  refine ax_aload_n F dX9_cycles_3 rfl ?_
  refine ax_get (v := .int (M 338 1)) F (ob_338 hm) rfl inGX9 1 (by decide) rfl kf_X9_48 rfl dX9_cycles_4 ?_
  refine ax_icmp_ge (t := 32) F dX9_cycles_7 (by decide) (fun hc => ?_) (fun hc => ?_)
  · have h := it_pos h hc
    obtain ⟨h1, h2⟩ := rt_some h
    subst h2
    exact ax_vret F dX9_cycles_32
  · have h := it_neg h hc
    refine ax_aload_n F dX9_cycles_10 rfl ?_
    refine ax_iload_n F dX9_cycles_11 rfl ?_
    refine ax_iload_n F dX9_cycles_12 rfl ?_
    obtain ⟨r1, M1, hq1, h⟩ := cq_some h
    refine ax_callVi (As := [.int x1, .int x2]) (st := []) F (tX9_isDead F.2.2.2.2.2.2.1 hm _ _  _ _ _ hq1) (ob_338 hm) rfl kc_X9_isDead kz_X9 ki_X9_isDead ks_X9_isDead km_X9_176 ⟨kn_X9_isDead, rfl, rfl, Nat.le_of_ble_eq_true rfl, Nat.le_of_ble_eq_true rfl⟩ rfl (Nat.le_of_ble_eq_true rfl) dX9_cycles_13 ?_
    refine ax_if_ne (t := 26) F dX9_cycles_16 (by decide) (fun hc => ?_) (fun hc => ?_)
    · have h := it_neg h hc
      refine ax_iinc (v := (1 : Int32)) F dX9_cycles_26 rfl (by decide) (by decide) rfl ?_
      refine ax_goto (t := 2) F dX9_cycles_29 (by decide) ?_
      exact IH.2 _ _ _ h 
    · have h := it_pos h hc
      refine ax_aload_n F dX9_cycles_19 rfl ?_
      refine ax_iload_n F dX9_cycles_20 rfl ?_
      refine ax_iload_n F dX9_cycles_21 rfl ?_
      obtain ⟨r2, M2, hq2, h⟩ := cq_some h
      refine ax_callVi (As := [.int x1, .int x2]) (st := []) F (tX9_rounds F.2.2.2.2.2.2.1 hm _ _  _ _ _ hq2) (ob_338 hm) rfl kc_X9_rounds kz_X9 ki_X9_rounds ks_X9_rounds km_X9_185 ⟨kn_X9_rounds, rfl, rfl, Nat.le_of_ble_eq_true rfl, Nat.le_of_ble_eq_true rfl⟩ rfl (Nat.le_of_ble_eq_true rfl) dX9_cycles_22 ?_
      refine ax_pop F dX9_cycles_25 rfl ?_
      refine ax_iinc (v := (1 : Int32)) F dX9_cycles_26 rfl (by decide) (by decide) rfl ?_
      refine ax_goto (t := 2) F dX9_cycles_29 (by decide) ?_
      exact IH.2 _ _ _ h 
set_option maxRecDepth 100000 in
set_option maxHeartbeats 4000000 in
theorem wX9_cycles {p : Program} {l : Launch} {e : Env} {s : State} {m : MethodId} {args : Array Value} {below : List Frame} {meth : Method} {c : Code} {G : va_G} {L : List Nat} {ad : Nat → Nat} {cs : Nat → ClassId} {z : Bool} {zk zv : Nat → Nat} {r : Int32} {M' : Mm} (F : Fx G L ad cs z zk zv p m meth c cX9_cycles 3 none s args RX9) (hm : isM L) (n : Nat) : PX9_cycles p l e s m args below meth c G L ad cs zk r M' n := by
  induction n with
  | zero => exact ⟨(fun x1 M h => by cases h), (fun x1 x2 M h => by cases h)⟩
  | succ n ih =>
    exact ⟨fun x1 M h  => wX9_cycles_0 F hm ih x1 M h ,
      fun x1 x2 M h  => wX9_cycles_1 F hm ih x1 x2 M h ⟩
set_option maxRecDepth 100000 in
set_option maxHeartbeats 4000000 in
theorem tX9_cycles {l : Launch} {G : va_G} {L : List Nat} {ad : Nat → Nat} {cs : Nat → ClassId} {z : Bool} {zk zv : Nat → Nat} (hinj : inj L ad) (hm : isM L) (x1 : Int32)  (M : Mm) (r : Int32) (M' : Mm) (h : fX9_cycles x1 M = some (r, M')) : Met l yX9_cycles (tgW yX9_cycles cX9_cycles 3 none) rmX9_cycles (APre G L ad cs z zk zv [.ref (ad 338), .int x1] M) (AQv G L ad cs M') 0 0 (inA L ad) := by
  refine met_of (Eq.refl true) (Nat.le_of_ble_eq_true rfl) hinj [some (.ref (ad 338)), some (.int x1), none] rfl ?_
  intro p e s m below meth c F
  replace F : Fx G L ad cs z zk zv p m meth c cX9_cycles 3 none s _ RX9 := F
  obtain ⟨n, hn⟩ := run_ex h
  exact (wX9_cycles F hm n).1 x1 M hn 
def rmX9_known : Room := { frames := 2, cells := 0, slots := 0, locals := 43 }
theorem kn_X9_known : yX9_known.cls ≠ "java/lang/invoke/MethodHandle" ∧ yX9_known.cls ≠ "java/lang/invoke/VarHandle" ∧ (parseMethodDescriptor yX9_known.desc).map (fun d => d.parameters.length) = some 2 := by decide +kernel
noncomputable def bX9_known_0 (x1 : Int32) (x2 : Int32) (M : Mm) : Option (Sst ⊕ Rst) := some (.inl (1, [], [x1, x2, (0 : Int32), (0 : Int32)], M))
noncomputable def bX9_known_1 (x1 : Int32) (x2 : Int32) (x3 : Int32) (x4 : Int32) (M : Mm) : Option (Sst ⊕ Rst) := if (M 338 1) ≤ x4 then (some (.inr (x3, M))) else (if x4 = x2 then (some (.inl (1, [], [x1, x2, (x3 + (0 : Int32)), (x4 + (1 : Int32))], M))) else (cl (fX9_isDead x1 x4 M) (fun r1 M1 => if r1 = 0 then (cl (fX9_placeOf x1 x4 x2 M1) (fun r2 M2 => if r2 = (-1 : Int32) then (some (.inl (1, [], [x1, x2, (x3 + (0 : Int32)), (x4 + (1 : Int32))], M2))) else (some (.inl (1, [], [x1, x2, (x3 + (1 : Int32)), (x4 + (1 : Int32))], M2))))) else (some (.inl (1, [], [x1, x2, (x3 + (0 : Int32)), (x4 + (1 : Int32))], M1))))))
noncomputable def stX9_known : Sst → Option (Sst ⊕ Rst) := fun q => match q.1 with
  | 0 => bX9_known_0 (q.2.2.1.getD 0 0) (q.2.2.1.getD 1 0) q.2.2.2
  | 1 => bX9_known_1 (q.2.2.1.getD 0 0) (q.2.2.1.getD 1 0) (q.2.2.1.getD 2 0) (q.2.2.1.getD 3 0) q.2.2.2
  | _ => none
noncomputable def fX9_known (x1 : Int32) (x2 : Int32) (M : Mm) : Option Rst := run stX9_known (0, [], [x1, x2], M)
def PX9_known (p : Program) (l : Launch) (e : Env) (s : State) (m : MethodId) (args : Array Value) (below : List Frame) (meth : Method) (c : Code) (G : va_G) (L : List Nat) (ad : Nat → Nat) (cs : Nat → ClassId) (zk : Nat → Nat) (r : Int32) (M' : Mm) (n : Nat) : Prop := (∀ (x1 : Int32) (x2 : Int32) (M : Mm), itr stX9_known n (0, [], [x1, x2], M) = some (r, M') → AW p l e rmX9_known s m args below meth c (MQ below (AQi G L ad cs r M') args s 0 0 (inA L ad)) G L ad cs 5 0 [some (.ref (ad 338)), some (.int x1), some (.int x2), none, none] [] M) ∧ (∀ (x1 : Int32) (x2 : Int32) (x3 : Int32) (x4 : Int32) (M : Mm), itr stX9_known n (1, [], [x1, x2, x3, x4], M) = some (r, M') → AW p l e rmX9_known s m args below meth c (MQ below (AQi G L ad cs r M') args s 0 0 (inA L ad)) G L ad cs 5 5 [some (.ref (ad 338)), some (.int x1), some (.int x2), some (.int x3), some (.int x4)] [] M)
set_option maxRecDepth 100000 in
set_option maxHeartbeats 4000000 in
theorem wX9_known_0 {p : Program} {l : Launch} {e : Env} {s : State} {m : MethodId} {args : Array Value} {below : List Frame} {meth : Method} {c : Code} {G : va_G} {L : List Nat} {ad : Nat → Nat} {cs : Nat → ClassId} {z : Bool} {zk zv : Nat → Nat} {r : Int32} {M' : Mm} {n : Nat} (F : Fx G L ad cs z zk zv p m meth c cX9_known 5 (some .int) s args RX9) (hm : isM L) (IH : PX9_known p l e s m args below meth c G L ad cs zk r M' n) (x1 : Int32) (x2 : Int32) (M : Mm) (h : (bX9_known_0 x1 x2 M).bind (fun q => match q with | .inl s' => itr stX9_known n s' | .inr r => some r) = some (r, M'))  : AW p l e rmX9_known s m args below meth c (MQ below (AQi G L ad cs r M') args s 0 0 (inA L ad)) G L ad cs 5 0 [some (.ref (ad 338)), some (.int x1), some (.int x2), none, none] [] M := by
  unfold bX9_known_0 at h
  refine ax_iconst (v := (0 : Int32)) F dX9_known_0 (by decide) ?_
  refine ax_istore_n F dX9_known_1 (by decide) rfl ?_
  refine ax_iconst (v := (0 : Int32)) F dX9_known_2 (by decide) ?_
  refine ax_istore F dX9_known_3 (by decide) rfl ?_
  exact IH.2 _ _ _ _ _ h 
set_option maxRecDepth 100000 in
set_option maxHeartbeats 4000000 in
theorem wX9_known_1 {p : Program} {l : Launch} {e : Env} {s : State} {m : MethodId} {args : Array Value} {below : List Frame} {meth : Method} {c : Code} {G : va_G} {L : List Nat} {ad : Nat → Nat} {cs : Nat → ClassId} {z : Bool} {zk zv : Nat → Nat} {r : Int32} {M' : Mm} {n : Nat} (F : Fx G L ad cs z zk zv p m meth c cX9_known 5 (some .int) s args RX9) (hm : isM L) (IH : PX9_known p l e s m args below meth c G L ad cs zk r M' n) (x1 : Int32) (x2 : Int32) (x3 : Int32) (x4 : Int32) (M : Mm) (h : (bX9_known_1 x1 x2 x3 x4 M).bind (fun q => match q with | .inl s' => itr stX9_known n s' | .inr r => some r) = some (r, M'))  : AW p l e rmX9_known s m args below meth c (MQ below (AQi G L ad cs r M') args s 0 0 (inA L ad)) G L ad cs 5 5 [some (.ref (ad 338)), some (.int x1), some (.int x2), some (.int x3), some (.int x4)] [] M := by
  unfold bX9_known_1 at h
  refine ax_iload F dX9_known_5 rfl ?_
  refine ax_aload_n F dX9_known_7 rfl ?_
  refine ax_get (v := .int (M 338 1)) F (ob_338 hm) rfl inGX9 1 (by decide) rfl kf_X9_48 rfl dX9_known_8 ?_
  refine ax_icmp_ge (t := 56) F dX9_known_11 (by decide) (fun hc => ?_) (fun hc => ?_)
  · have h := it_pos h hc
    refine ax_iload_n F dX9_known_56 rfl ?_
    obtain ⟨h1, h2⟩ := rt_some h
    subst h1; subst h2
    exact ax_iret F dX9_known_57
  · have h := it_neg h hc
    refine ax_iload_n F dX9_known_14 rfl ?_
    refine ax_iload F dX9_known_15 rfl ?_
    refine ax_iload_n F dX9_known_17 rfl ?_
    refine ax_icmp_eq (t := 47) F dX9_known_18 (by decide) (fun hc => ?_) (fun hc => ?_)
    · have h := it_pos h hc
      refine ax_iconst (v := (0 : Int32)) F dX9_known_47 (by decide) ?_
      refine ax_iadd F dX9_known_48 ?_
      refine ax_istore_n F dX9_known_49 (by decide) rfl ?_
      refine ax_iinc (v := (1 : Int32)) F dX9_known_50 rfl (by decide) (by decide) rfl ?_
      refine ax_goto (t := 5) F dX9_known_53 (by decide) ?_
      exact IH.2 _ _ _ _ _ h 
    · have h := it_neg h hc
      refine ax_aload_n F dX9_known_21 rfl ?_
      refine ax_iload_n F dX9_known_22 rfl ?_
      refine ax_iload F dX9_known_23 rfl ?_
      obtain ⟨r1, M1, hq1, h⟩ := cq_some h
      refine ax_callVi (As := [.int x1, .int x4]) (st := [.int x3]) F (tX9_isDead F.2.2.2.2.2.2.1 hm _ _  _ _ _ hq1) (ob_338 hm) rfl kc_X9_isDead kz_X9 ki_X9_isDead ks_X9_isDead km_X9_176 ⟨kn_X9_isDead, rfl, rfl, Nat.le_of_ble_eq_true rfl, Nat.le_of_ble_eq_true rfl⟩ rfl (Nat.le_of_ble_eq_true rfl) dX9_known_25 ?_
      refine ax_if_ne (t := 47) F dX9_known_28 (by decide) (fun hc => ?_) (fun hc => ?_)
      · have h := it_neg h hc
        refine ax_iconst (v := (0 : Int32)) F dX9_known_47 (by decide) ?_
        refine ax_iadd F dX9_known_48 ?_
        refine ax_istore_n F dX9_known_49 (by decide) rfl ?_
        refine ax_iinc (v := (1 : Int32)) F dX9_known_50 rfl (by decide) (by decide) rfl ?_
        refine ax_goto (t := 5) F dX9_known_53 (by decide) ?_
        exact IH.2 _ _ _ _ _ h 
      · have h := it_pos h hc
        refine ax_aload_n F dX9_known_31 rfl ?_
        refine ax_iload_n F dX9_known_32 rfl ?_
        refine ax_iload F dX9_known_33 rfl ?_
        refine ax_iload_n F dX9_known_35 rfl ?_
        obtain ⟨r2, M2, hq2, h⟩ := cq_some h
        refine ax_callVi (As := [.int x1, .int x4, .int x2]) (st := [.int x3]) F (tX9_placeOf F.2.2.2.2.2.2.1 hm _ _ _  _ _ _ hq2) (ob_338 hm) rfl kc_X9_placeOf kz_X9 ki_X9_placeOf ks_X9_placeOf km_X9_108 ⟨kn_X9_placeOf, rfl, rfl, Nat.le_of_ble_eq_true rfl, Nat.le_of_ble_eq_true rfl⟩ rfl (Nat.le_of_ble_eq_true rfl) dX9_known_36 ?_
        refine ax_iconst (v := (-1 : Int32)) F dX9_known_39 (by decide) ?_
        refine ax_icmp_eq (t := 47) F dX9_known_40 (by decide) (fun hc => ?_) (fun hc => ?_)
        · have h := it_pos h hc
          refine ax_iconst (v := (0 : Int32)) F dX9_known_47 (by decide) ?_
          refine ax_iadd F dX9_known_48 ?_
          refine ax_istore_n F dX9_known_49 (by decide) rfl ?_
          refine ax_iinc (v := (1 : Int32)) F dX9_known_50 rfl (by decide) (by decide) rfl ?_
          refine ax_goto (t := 5) F dX9_known_53 (by decide) ?_
          exact IH.2 _ _ _ _ _ h 
        · have h := it_neg h hc
          refine ax_iconst (v := (1 : Int32)) F dX9_known_43 (by decide) ?_
          refine ax_goto (t := 48) F dX9_known_44 (by decide) ?_
          refine ax_iadd F dX9_known_48 ?_
          refine ax_istore_n F dX9_known_49 (by decide) rfl ?_
          refine ax_iinc (v := (1 : Int32)) F dX9_known_50 rfl (by decide) (by decide) rfl ?_
          refine ax_goto (t := 5) F dX9_known_53 (by decide) ?_
          exact IH.2 _ _ _ _ _ h 
set_option maxRecDepth 100000 in
set_option maxHeartbeats 4000000 in
theorem wX9_known {p : Program} {l : Launch} {e : Env} {s : State} {m : MethodId} {args : Array Value} {below : List Frame} {meth : Method} {c : Code} {G : va_G} {L : List Nat} {ad : Nat → Nat} {cs : Nat → ClassId} {z : Bool} {zk zv : Nat → Nat} {r : Int32} {M' : Mm} (F : Fx G L ad cs z zk zv p m meth c cX9_known 5 (some .int) s args RX9) (hm : isM L) (n : Nat) : PX9_known p l e s m args below meth c G L ad cs zk r M' n := by
  induction n with
  | zero => exact ⟨(fun x1 x2 M h => by cases h), (fun x1 x2 x3 x4 M h => by cases h)⟩
  | succ n ih =>
    exact ⟨fun x1 x2 M h  => wX9_known_0 F hm ih x1 x2 M h ,
      fun x1 x2 x3 x4 M h  => wX9_known_1 F hm ih x1 x2 x3 x4 M h ⟩
set_option maxRecDepth 100000 in
set_option maxHeartbeats 4000000 in
theorem tX9_known {l : Launch} {G : va_G} {L : List Nat} {ad : Nat → Nat} {cs : Nat → ClassId} {z : Bool} {zk zv : Nat → Nat} (hinj : inj L ad) (hm : isM L) (x1 : Int32) (x2 : Int32)  (M : Mm) (r : Int32) (M' : Mm) (h : fX9_known x1 x2 M = some (r, M')) : Met l yX9_known (tgW yX9_known cX9_known 5 (some .int)) rmX9_known (APre G L ad cs z zk zv [.ref (ad 338), .int x1, .int x2] M) (AQi G L ad cs r M') 0 0 (inA L ad) := by
  refine met_of (Eq.refl true) (Nat.le_of_ble_eq_true rfl) hinj [some (.ref (ad 338)), some (.int x1), some (.int x2), none, none] rfl ?_
  intro p e s m below meth c F
  replace F : Fx G L ad cs z zk zv p m meth c cX9_known 5 (some .int) s _ RX9 := F
  obtain ⟨n, hn⟩ := run_ex h
  exact (wX9_known F hm n).1 x1 x2 M hn 
def rmX9_viewOf : Room := { frames := 0, cells := 0, slots := 0, locals := 0 }
theorem kn_X9_viewOf : yX9_viewOf.cls ≠ "java/lang/invoke/MethodHandle" ∧ yX9_viewOf.cls ≠ "java/lang/invoke/VarHandle" ∧ (parseMethodDescriptor yX9_viewOf.desc).map (fun d => d.parameters.length) = some 1 := by decide +kernel
noncomputable def bX9_viewOf_0 (x1 : Int32) (M : Mm) : Option (Sst ⊕ Rst) := some (.inl (1, [], [x1, (0 : Int32), (0 : Int32)], M))
noncomputable def bX9_viewOf_1 (x1 : Int32) (x2 : Int32) (x3 : Int32) (M : Mm) : Option (Sst ⊕ Rst) := gd (okI ((2 : Int32) + x1) 1080) (if (M 339 (ix ((2 : Int32) + x1))) ≤ x3 then (some (.inr (x2, M))) else (gd (okI (((10 : Int32) + ((5 : Int32) * x1)) + x3) 1080) (some (.inl (1, [], [x1, (x2 ||| (ish (1 : Int32) (M 339 (ix (((10 : Int32) + ((5 : Int32) * x1)) + x3))))), (x3 + (1 : Int32))], M)))))
noncomputable def stX9_viewOf : Sst → Option (Sst ⊕ Rst) := fun q => match q.1 with
  | 0 => bX9_viewOf_0 (q.2.2.1.getD 0 0) q.2.2.2
  | 1 => bX9_viewOf_1 (q.2.2.1.getD 0 0) (q.2.2.1.getD 1 0) (q.2.2.1.getD 2 0) q.2.2.2
  | _ => none
noncomputable def fX9_viewOf (x1 : Int32) (M : Mm) : Option Rst := run stX9_viewOf (0, [], [x1], M)
def PX9_viewOf (p : Program) (l : Launch) (e : Env) (s : State) (m : MethodId) (args : Array Value) (below : List Frame) (meth : Method) (c : Code) (G : va_G) (L : List Nat) (ad : Nat → Nat) (cs : Nat → ClassId) (zk : Nat → Nat) (r : Int32) (M' : Mm) (n : Nat) : Prop := (∀ (x1 : Int32) (M : Mm), itr stX9_viewOf n (0, [], [x1], M) = some (r, M') → AW p l e rmX9_viewOf s m args below meth c (MQ below (AQi G L ad cs r M') args s 0 0 (inA L ad)) G L ad cs 4 0 [some (.ref (ad 338)), some (.int x1), none, none] [] M) ∧ (∀ (x1 : Int32) (x2 : Int32) (x3 : Int32) (M : Mm), itr stX9_viewOf n (1, [], [x1, x2, x3], M) = some (r, M') → AW p l e rmX9_viewOf s m args below meth c (MQ below (AQi G L ad cs r M') args s 0 0 (inA L ad)) G L ad cs 4 4 [some (.ref (ad 338)), some (.int x1), some (.int x2), some (.int x3)] [] M)
set_option maxRecDepth 100000 in
set_option maxHeartbeats 4000000 in
theorem wX9_viewOf_0 {p : Program} {l : Launch} {e : Env} {s : State} {m : MethodId} {args : Array Value} {below : List Frame} {meth : Method} {c : Code} {G : va_G} {L : List Nat} {ad : Nat → Nat} {cs : Nat → ClassId} {z : Bool} {zk zv : Nat → Nat} {r : Int32} {M' : Mm} {n : Nat} (F : Fx G L ad cs z zk zv p m meth c cX9_viewOf 4 (some .int) s args RX9) (hm : isM L) (IH : PX9_viewOf p l e s m args below meth c G L ad cs zk r M' n) (x1 : Int32) (M : Mm) (h : (bX9_viewOf_0 x1 M).bind (fun q => match q with | .inl s' => itr stX9_viewOf n s' | .inr r => some r) = some (r, M'))  : AW p l e rmX9_viewOf s m args below meth c (MQ below (AQi G L ad cs r M') args s 0 0 (inA L ad)) G L ad cs 4 0 [some (.ref (ad 338)), some (.int x1), none, none] [] M := by
  unfold bX9_viewOf_0 at h
  refine ax_iconst (v := (0 : Int32)) F dX9_viewOf_0 (by decide) ?_
  refine ax_istore_n F dX9_viewOf_1 (by decide) rfl ?_
  refine ax_iconst (v := (0 : Int32)) F dX9_viewOf_2 (by decide) ?_
  refine ax_istore_n F dX9_viewOf_3 (by decide) rfl ?_
  exact IH.2 _ _ _ _ h 
set_option maxRecDepth 100000 in
set_option maxHeartbeats 4000000 in
theorem wX9_viewOf_1 {p : Program} {l : Launch} {e : Env} {s : State} {m : MethodId} {args : Array Value} {below : List Frame} {meth : Method} {c : Code} {G : va_G} {L : List Nat} {ad : Nat → Nat} {cs : Nat → ClassId} {z : Bool} {zk zv : Nat → Nat} {r : Int32} {M' : Mm} {n : Nat} (F : Fx G L ad cs z zk zv p m meth c cX9_viewOf 4 (some .int) s args RX9) (hm : isM L) (IH : PX9_viewOf p l e s m args below meth c G L ad cs zk r M' n) (x1 : Int32) (x2 : Int32) (x3 : Int32) (M : Mm) (h : (bX9_viewOf_1 x1 x2 x3 M).bind (fun q => match q with | .inl s' => itr stX9_viewOf n s' | .inr r => some r) = some (r, M'))  : AW p l e rmX9_viewOf s m args below meth c (MQ below (AQi G L ad cs r M') args s 0 0 (inA L ad)) G L ad cs 4 4 [some (.ref (ad 338)), some (.int x1), some (.int x2), some (.int x3)] [] M := by
  unfold bX9_viewOf_1 at h
  refine ax_iload_n F dX9_viewOf_4 rfl ?_
  refine ax_aload_n F dX9_viewOf_5 rfl ?_
  refine ax_get (v := .ref (ad 339)) F (ob_338 hm) rfl inGX9 0 (by decide) rfl kf_X9_7 rfl dX9_viewOf_6 ?_
  refine ax_iconst (v := (2 : Int32)) F dX9_viewOf_9 (by decide) ?_
  refine ax_iload_n F dX9_viewOf_10 rfl ?_
  refine ax_iadd F dX9_viewOf_11 ?_
  obtain ⟨hg, h⟩ := gd_some h
  refine ax_iald F (ar_339 hm) hg dX9_viewOf_12 ?_
  refine ax_icmp_ge (t := 40) F dX9_viewOf_13 (by decide) (fun hc => ?_) (fun hc => ?_)
  · have h := it_pos h hc
    refine ax_iload_n F dX9_viewOf_40 rfl ?_
    obtain ⟨h1, h2⟩ := rt_some h
    subst h1; subst h2
    exact ax_iret F dX9_viewOf_41
  · have h := it_neg h hc
    refine ax_iload_n F dX9_viewOf_16 rfl ?_
    refine ax_iconst (v := (1 : Int32)) F dX9_viewOf_17 (by decide) ?_
    refine ax_aload_n F dX9_viewOf_18 rfl ?_
    refine ax_get (v := .ref (ad 339)) F (ob_338 hm) rfl inGX9 0 (by decide) rfl kf_X9_7 rfl dX9_viewOf_19 ?_
    refine ax_bipush (v := (10 : Int32)) F dX9_viewOf_22 (by decide) ?_
    refine ax_iconst (v := (5 : Int32)) F dX9_viewOf_24 (by decide) ?_
    refine ax_iload_n F dX9_viewOf_25 rfl ?_
    refine ax_imul F dX9_viewOf_26 ?_
    refine ax_iadd F dX9_viewOf_27 ?_
    refine ax_iload_n F dX9_viewOf_28 rfl ?_
    refine ax_iadd F dX9_viewOf_29 ?_
    obtain ⟨hg, h⟩ := gd_some h
    refine ax_iald F (ar_339 hm) hg dX9_viewOf_30 ?_
    refine ax_ishl F dX9_viewOf_31 ?_
    refine ax_ior F dX9_viewOf_32 ?_
    refine ax_istore_n F dX9_viewOf_33 (by decide) rfl ?_
    refine ax_iinc (v := (1 : Int32)) F dX9_viewOf_34 rfl (by decide) (by decide) rfl ?_
    refine ax_goto (t := 4) F dX9_viewOf_37 (by decide) ?_
    exact IH.2 _ _ _ _ h 
set_option maxRecDepth 100000 in
set_option maxHeartbeats 4000000 in
theorem wX9_viewOf {p : Program} {l : Launch} {e : Env} {s : State} {m : MethodId} {args : Array Value} {below : List Frame} {meth : Method} {c : Code} {G : va_G} {L : List Nat} {ad : Nat → Nat} {cs : Nat → ClassId} {z : Bool} {zk zv : Nat → Nat} {r : Int32} {M' : Mm} (F : Fx G L ad cs z zk zv p m meth c cX9_viewOf 4 (some .int) s args RX9) (hm : isM L) (n : Nat) : PX9_viewOf p l e s m args below meth c G L ad cs zk r M' n := by
  induction n with
  | zero => exact ⟨(fun x1 M h => by cases h), (fun x1 x2 x3 M h => by cases h)⟩
  | succ n ih =>
    exact ⟨fun x1 M h  => wX9_viewOf_0 F hm ih x1 M h ,
      fun x1 x2 x3 M h  => wX9_viewOf_1 F hm ih x1 x2 x3 M h ⟩
set_option maxRecDepth 100000 in
set_option maxHeartbeats 4000000 in
theorem tX9_viewOf {l : Launch} {G : va_G} {L : List Nat} {ad : Nat → Nat} {cs : Nat → ClassId} {z : Bool} {zk zv : Nat → Nat} (hinj : inj L ad) (hm : isM L) (x1 : Int32)  (M : Mm) (r : Int32) (M' : Mm) (h : fX9_viewOf x1 M = some (r, M')) : Met l yX9_viewOf (tgW yX9_viewOf cX9_viewOf 4 (some .int)) rmX9_viewOf (APre G L ad cs z zk zv [.ref (ad 338), .int x1] M) (AQi G L ad cs r M') 0 0 (inA L ad) := by
  refine met_of (Eq.refl true) (Nat.le_of_ble_eq_true rfl) hinj [some (.ref (ad 338)), some (.int x1), none, none] rfl ?_
  intro p e s m below meth c F
  replace F : Fx G L ad cs z zk zv p m meth c cX9_viewOf 4 (some .int) s _ RX9 := F
  obtain ⟨n, hn⟩ := run_ex h
  exact (wX9_viewOf F hm n).1 x1 M hn 
noncomputable def fX9_node (x1 : Int32) (x2 : Int32) (M : Mm) : Option Rst := cl (fX9_isNode x1 M) (fun r1 M1 => if r1 = 0 then (some ((-2 : Int32), M1)) else (if x2 = (0 : Int32) then (cl (fX9_isDead (0 : Int32) x1 M1) (fun r2 M2 => if r2 = 0 then (some ((1 : Int32), M2)) else (some ((0 : Int32), M2)))) else if x2 = (1 : Int32) then (some (((isr (M1 338 4) x1) &&& (1 : Int32)), M1)) else if x2 = (2 : Int32) then (gd (okI ((2 : Int32) + x1) 1080) (some ((M1 339 (ix ((2 : Int32) + x1))), M1))) else if x2 = (3 : Int32) then (cl (fX9_known (0 : Int32) x1 M1) (fun r3 M3 => some (r3, M3))) else if x2 = (4 : Int32) then (cl (fX9_viewOf x1 M1) (fun r4 M4 => some (r4, M4))) else (some ((-3 : Int32), M1))))
def rmX9_node : Room := { frames := 3, cells := 0, slots := 0, locals := 67 }
theorem kn_X9_node : yX9_node.cls ≠ "java/lang/invoke/MethodHandle" ∧ yX9_node.cls ≠ "java/lang/invoke/VarHandle" ∧ (parseMethodDescriptor yX9_node.desc).map (fun d => d.parameters.length) = some 2 := by decide +kernel
set_option maxRecDepth 100000 in
set_option maxHeartbeats 4000000 in
theorem tX9_node {l : Launch} {G : va_G} {L : List Nat} {ad : Nat → Nat} {cs : Nat → ClassId} {z : Bool} {zk zv : Nat → Nat} (hinj : inj L ad) (hm : isM L) (x1 : Int32) (x2 : Int32)  (M : Mm) (r : Int32) (M' : Mm) (h : fX9_node x1 x2 M = some (r, M')) : Met l yX9_node (tgW yX9_node cX9_node 3 (some .int)) rmX9_node (APre G L ad cs z zk zv [.ref (ad 338), .int x1, .int x2] M) (AQi G L ad cs r M') 0 0 (inA L ad) := by
  refine met_of (Eq.refl true) (Nat.le_of_ble_eq_true rfl) hinj [some (.ref (ad 338)), some (.int x1), some (.int x2)] rfl ?_
  intro p e s m below meth c F
  replace F : Fx G L ad cs z zk zv p m meth c cX9_node 3 (some .int) s _ RX9 := F
  unfold fX9_node at h
  refine ax_aload_n F dX9_node_0 rfl ?_
  refine ax_iload_n F dX9_node_1 rfl ?_
  obtain ⟨r1, M1, hq1, h⟩ := cq_some0 h
  refine ax_callVi (As := [.int x1]) (st := []) F (tX9_isNode F.2.2.2.2.2.2.1 hm _  _ _ _ hq1) (ob_338 hm) rfl kc_X9_isNode kz_X9 ki_X9_isNode ks_X9_isNode km_X9_188 ⟨kn_X9_isNode, rfl, rfl, Nat.le_of_ble_eq_true rfl, Nat.le_of_ble_eq_true rfl⟩ rfl (Nat.le_of_ble_eq_true rfl) dX9_node_2 ?_
  refine ax_if_ne (t := 11) F dX9_node_5 (by decide) (fun hc => ?_) (fun hc => ?_)
  · have h := it_neg0 h hc
    refine ax_iload_n F dX9_node_11 rfl ?_
    by_cases hc0 : x2 = (0 : Int32)
    · have h := it_pos0 h hc0
      refine ax_swK (v := (0 : Int32)) (t := 48) F dX9_node_12 hc0 (by decide) (by decide) rfl (by decide) ?_
      refine ax_aload_n F dX9_node_48 rfl ?_
      refine ax_iconst (v := (0 : Int32)) F dX9_node_49 (by decide) ?_
      refine ax_iload_n F dX9_node_50 rfl ?_
      obtain ⟨r2, M2, hq2, h⟩ := cq_some0 h
      refine ax_callVi (As := [.int (0 : Int32), .int x1]) (st := []) F (tX9_isDead F.2.2.2.2.2.2.1 hm _ _  _ _ _ hq2) (ob_338 hm) rfl kc_X9_isDead kz_X9 ki_X9_isDead ks_X9_isDead km_X9_176 ⟨kn_X9_isDead, rfl, rfl, Nat.le_of_ble_eq_true rfl, Nat.le_of_ble_eq_true rfl⟩ rfl (Nat.le_of_ble_eq_true rfl) dX9_node_51 ?_
      refine ax_if_eq (t := 61) F dX9_node_54 (by decide) (fun hc => ?_) (fun hc => ?_)
      · have h := it_pos0 h hc
        refine ax_iconst (v := (1 : Int32)) F dX9_node_61 (by decide) ?_
        obtain ⟨h1, h2⟩ := rt_some0 h
        subst h1; subst h2
        exact ax_iret F dX9_node_62
      · have h := it_neg0 h hc
        refine ax_iconst (v := (0 : Int32)) F dX9_node_57 (by decide) ?_
        refine ax_goto (t := 62) F dX9_node_58 (by decide) ?_
        obtain ⟨h1, h2⟩ := rt_some0 h
        subst h1; subst h2
        exact ax_iret F dX9_node_62
    replace h := it_neg0 h hc0
    by_cases hc1 : x2 = (1 : Int32)
    · have h := it_pos0 h hc1
      refine ax_swK (v := (1 : Int32)) (t := 63) F dX9_node_12 hc1 (by decide) (by decide) rfl (by decide) ?_
      refine ax_aload_n F dX9_node_63 rfl ?_
      refine ax_get (v := .int (M1 338 4)) F (ob_338 hm) rfl inGX9 4 (by decide) rfl kf_X9_58 rfl dX9_node_64 ?_
      refine ax_iload_n F dX9_node_67 rfl ?_
      refine ax_ishr F dX9_node_68 ?_
      refine ax_iconst (v := (1 : Int32)) F dX9_node_69 (by decide) ?_
      refine ax_iand F dX9_node_70 ?_
      obtain ⟨h1, h2⟩ := rt_some0 h
      subst h1; subst h2
      exact ax_iret F dX9_node_71
    replace h := it_neg0 h hc1
    by_cases hc2 : x2 = (2 : Int32)
    · have h := it_pos0 h hc2
      refine ax_swK (v := (2 : Int32)) (t := 72) F dX9_node_12 hc2 (by decide) (by decide) rfl (by decide) ?_
      refine ax_aload_n F dX9_node_72 rfl ?_
      refine ax_get (v := .ref (ad 339)) F (ob_338 hm) rfl inGX9 0 (by decide) rfl kf_X9_7 rfl dX9_node_73 ?_
      refine ax_iconst (v := (2 : Int32)) F dX9_node_76 (by decide) ?_
      refine ax_iload_n F dX9_node_77 rfl ?_
      refine ax_iadd F dX9_node_78 ?_
      obtain ⟨hg, h⟩ := gd_some0 h
      refine ax_iald F (ar_339 hm) hg dX9_node_79 ?_
      obtain ⟨h1, h2⟩ := rt_some0 h
      subst h1; subst h2
      exact ax_iret F dX9_node_80
    replace h := it_neg0 h hc2
    by_cases hc3 : x2 = (3 : Int32)
    · have h := it_pos0 h hc3
      refine ax_swK (v := (3 : Int32)) (t := 81) F dX9_node_12 hc3 (by decide) (by decide) rfl (by decide) ?_
      refine ax_aload_n F dX9_node_81 rfl ?_
      refine ax_iconst (v := (0 : Int32)) F dX9_node_82 (by decide) ?_
      refine ax_iload_n F dX9_node_83 rfl ?_
      obtain ⟨r3, M3, hq3, h⟩ := cq_some0 h
      refine ax_callVi (As := [.int (0 : Int32), .int x1]) (st := []) F (tX9_known F.2.2.2.2.2.2.1 hm _ _  _ _ _ hq3) (ob_338 hm) rfl kc_X9_known kz_X9 ki_X9_known ks_X9_known km_X9_191 ⟨kn_X9_known, rfl, rfl, Nat.le_of_ble_eq_true rfl, Nat.le_of_ble_eq_true rfl⟩ rfl (Nat.le_of_ble_eq_true rfl) dX9_node_84 ?_
      obtain ⟨h1, h2⟩ := rt_some0 h
      subst h1; subst h2
      exact ax_iret F dX9_node_87
    replace h := it_neg0 h hc3
    by_cases hc4 : x2 = (4 : Int32)
    · have h := it_pos0 h hc4
      refine ax_swK (v := (4 : Int32)) (t := 88) F dX9_node_12 hc4 (by decide) (by decide) rfl (by decide) ?_
      refine ax_aload_n F dX9_node_88 rfl ?_
      refine ax_iload_n F dX9_node_89 rfl ?_
      obtain ⟨r4, M4, hq4, h⟩ := cq_some0 h
      refine ax_callVi (As := [.int x1]) (st := []) F (tX9_viewOf F.2.2.2.2.2.2.1 hm _  _ _ _ hq4) (ob_338 hm) rfl kc_X9_viewOf kz_X9 ki_X9_viewOf ks_X9_viewOf km_X9_194 ⟨kn_X9_viewOf, rfl, rfl, Nat.le_of_ble_eq_true rfl, Nat.le_of_ble_eq_true rfl⟩ rfl (Nat.le_of_ble_eq_true rfl) dX9_node_90 ?_
      obtain ⟨h1, h2⟩ := rt_some0 h
      subst h1; subst h2
      exact ax_iret F dX9_node_93
    replace h := it_neg0 h hc4
    have hd0 : (x2).toInt ≠ 0 := fun e => hc0 (Int32.toInt_inj.mp (by rw [e]; rfl))
    have hd1 : (x2).toInt ≠ 1 := fun e => hc1 (Int32.toInt_inj.mp (by rw [e]; rfl))
    have hd2 : (x2).toInt ≠ 2 := fun e => hc2 (Int32.toInt_inj.mp (by rw [e]; rfl))
    have hd3 : (x2).toInt ≠ 3 := fun e => hc3 (Int32.toInt_inj.mp (by rw [e]; rfl))
    have hd4 : (x2).toInt ≠ 4 := fun e => hc4 (Int32.toInt_inj.mp (by rw [e]; rfl))
    refine ax_swOut (t := 94) F dX9_node_12 (by omega) (by decide) ?_
    refine ax_bipush (v := (-3 : Int32)) F dX9_node_94 (by decide) ?_
    obtain ⟨h1, h2⟩ := rt_some0 h
    subst h1; subst h2
    exact ax_iret F dX9_node_96
  · have h := it_pos0 h hc
    refine ax_bipush (v := (-2 : Int32)) F dX9_node_8 (by decide) ?_
    obtain ⟨h1, h2⟩ := rt_some0 h
    subst h1; subst h2
    exact ax_iret F dX9_node_10
noncomputable def fX9_entry (x1 : Int32) (x2 : Int32) (x3 : Int32) (M : Mm) : Option Rst := cl (fX9_isNode x1 M) (fun r1 M1 => if r1 = 0 then (some ((-2 : Int32), M1)) else (cl (fX9_in (x3).toInt64 (0 : Int64) (1 : Int64) M1) (fun r2 M2 => if r2 = 0 then (some ((-3 : Int32), M2)) else (if 0 ≤ x2 then (gd (okI ((2 : Int32) + x1) 1080) (if x2 < (M2 339 (ix ((2 : Int32) + x1))) then (if x3 = 0 then (gd (okI (((10 : Int32) + ((5 : Int32) * x1)) + x2) 1080) (some ((M2 339 (ix (((10 : Int32) + ((5 : Int32) * x1)) + x2))), M2))) else (gd (okI (((50 : Int32) + ((5 : Int32) * x1)) + x2) 1080) (some ((M2 339 (ix (((50 : Int32) + ((5 : Int32) * x1)) + x2))), M2)))) else (some ((-1 : Int32), M2)))) else (some ((-3 : Int32), M2))))))
def rmX9_entry : Room := { frames := 2, cells := 0, slots := 0, locals := 46 }
theorem kn_X9_entry : yX9_entry.cls ≠ "java/lang/invoke/MethodHandle" ∧ yX9_entry.cls ≠ "java/lang/invoke/VarHandle" ∧ (parseMethodDescriptor yX9_entry.desc).map (fun d => d.parameters.length) = some 3 := by decide +kernel
set_option maxRecDepth 100000 in
set_option maxHeartbeats 4000000 in
theorem tX9_entry {l : Launch} {G : va_G} {L : List Nat} {ad : Nat → Nat} {cs : Nat → ClassId} {z : Bool} {zk zv : Nat → Nat} (hinj : inj L ad) (hm : isM L) (x1 : Int32) (x2 : Int32) (x3 : Int32)  (M : Mm) (r : Int32) (M' : Mm) (h : fX9_entry x1 x2 x3 M = some (r, M')) : Met l yX9_entry (tgW yX9_entry cX9_entry 4 (some .int)) rmX9_entry (APre G L ad cs z zk zv [.ref (ad 338), .int x1, .int x2, .int x3] M) (AQi G L ad cs r M') 0 0 (inA L ad) := by
  refine met_of (Eq.refl true) (Nat.le_of_ble_eq_true rfl) hinj [some (.ref (ad 338)), some (.int x1), some (.int x2), some (.int x3)] rfl ?_
  intro p e s m below meth c F
  replace F : Fx G L ad cs z zk zv p m meth c cX9_entry 4 (some .int) s _ RX9 := F
  unfold fX9_entry at h
  refine ax_aload_n F dX9_entry_0 rfl ?_
  refine ax_iload_n F dX9_entry_1 rfl ?_
  obtain ⟨r1, M1, hq1, h⟩ := cq_some0 h
  refine ax_callVi (As := [.int x1]) (st := []) F (tX9_isNode F.2.2.2.2.2.2.1 hm _  _ _ _ hq1) (ob_338 hm) rfl kc_X9_isNode kz_X9 ki_X9_isNode ks_X9_isNode km_X9_188 ⟨kn_X9_isNode, rfl, rfl, Nat.le_of_ble_eq_true rfl, Nat.le_of_ble_eq_true rfl⟩ rfl (Nat.le_of_ble_eq_true rfl) dX9_entry_2 ?_
  refine ax_if_ne (t := 11) F dX9_entry_5 (by decide) (fun hc => ?_) (fun hc => ?_)
  · have h := it_neg0 h hc
    refine ax_iload_n F dX9_entry_11 rfl ?_
    refine ax_i2l F dX9_entry_12 ?_
    refine ax_lconst (v := (0 : Int64)) F dX9_entry_13 (by decide) ?_
    refine ax_lconst (v := (1 : Int64)) F dX9_entry_14 (by decide) ?_
    obtain ⟨r2, M2, hq2, h⟩ := cq_some0 h
    refine ax_callSi (As := [.long (x3).toInt64, .long (0 : Int64), .long (1 : Int64)]) (st := []) F (tX9_in F.2.2.2.2.2.2.1 hm _ _ _  _ _ _ hq2) kc_X9_in kz_X9 kt_X9_in km_X9_66 ⟨kn_X9_in, rfl, rfl, Nat.le_of_ble_eq_true rfl, Nat.le_of_ble_eq_true rfl⟩ rfl (Nat.le_of_ble_eq_true rfl) dX9_entry_15 ?_
    refine ax_if_eq (t := 25) F dX9_entry_18 (by decide) (fun hc => ?_) (fun hc => ?_)
    · have h := it_pos0 h hc
      refine ax_bipush (v := (-3 : Int32)) F dX9_entry_25 (by decide) ?_
      obtain ⟨h1, h2⟩ := rt_some0 h
      subst h1; subst h2
      exact ax_iret F dX9_entry_27
    · have h := it_neg0 h hc
      refine ax_iload_n F dX9_entry_21 rfl ?_
      refine ax_if_ge (t := 28) F dX9_entry_22 (by decide) (fun hc => ?_) (fun hc => ?_)
      · have h := it_pos0 h hc
        refine ax_iload_n F dX9_entry_28 rfl ?_
        refine ax_aload_n F dX9_entry_29 rfl ?_
        refine ax_get (v := .ref (ad 339)) F (ob_338 hm) rfl inGX9 0 (by decide) rfl kf_X9_7 rfl dX9_entry_30 ?_
        refine ax_iconst (v := (2 : Int32)) F dX9_entry_33 (by decide) ?_
        refine ax_iload_n F dX9_entry_34 rfl ?_
        refine ax_iadd F dX9_entry_35 ?_
        obtain ⟨hg, h⟩ := gd_some0 h
        refine ax_iald F (ar_339 hm) hg dX9_entry_36 ?_
        refine ax_icmp_lt (t := 44) F dX9_entry_37 (by decide) (fun hc => ?_) (fun hc => ?_)
        · have h := it_pos0 h hc
          refine ax_aload_n F dX9_entry_44 rfl ?_
          refine ax_get (v := .ref (ad 339)) F (ob_338 hm) rfl inGX9 0 (by decide) rfl kf_X9_7 rfl dX9_entry_45 ?_
          refine ax_iload_n F dX9_entry_48 rfl ?_
          refine ax_if_ne (t := 57) F dX9_entry_49 (by decide) (fun hc => ?_) (fun hc => ?_)
          · have h := it_neg0 h hc
            refine ax_bipush (v := (50 : Int32)) F dX9_entry_57 (by decide) ?_
            refine ax_iconst (v := (5 : Int32)) F dX9_entry_59 (by decide) ?_
            refine ax_iload_n F dX9_entry_60 rfl ?_
            refine ax_imul F dX9_entry_61 ?_
            refine ax_iadd F dX9_entry_62 ?_
            refine ax_iload_n F dX9_entry_63 rfl ?_
            refine ax_iadd F dX9_entry_64 ?_
            obtain ⟨hg, h⟩ := gd_some0 h
            refine ax_iald F (ar_339 hm) hg dX9_entry_65 ?_
            obtain ⟨h1, h2⟩ := rt_some0 h
            subst h1; subst h2
            exact ax_iret F dX9_entry_66
          · have h := it_pos0 h hc
            refine ax_bipush (v := (10 : Int32)) F dX9_entry_52 (by decide) ?_
            refine ax_goto (t := 59) F dX9_entry_54 (by decide) ?_
            refine ax_iconst (v := (5 : Int32)) F dX9_entry_59 (by decide) ?_
            refine ax_iload_n F dX9_entry_60 rfl ?_
            refine ax_imul F dX9_entry_61 ?_
            refine ax_iadd F dX9_entry_62 ?_
            refine ax_iload_n F dX9_entry_63 rfl ?_
            refine ax_iadd F dX9_entry_64 ?_
            obtain ⟨hg, h⟩ := gd_some0 h
            refine ax_iald F (ar_339 hm) hg dX9_entry_65 ?_
            obtain ⟨h1, h2⟩ := rt_some0 h
            subst h1; subst h2
            exact ax_iret F dX9_entry_66
        · have h := it_neg0 h hc
          refine ax_iconst (v := (-1 : Int32)) F dX9_entry_40 (by decide) ?_
          refine ax_goto (t := 66) F dX9_entry_41 (by decide) ?_
          obtain ⟨h1, h2⟩ := rt_some0 h
          subst h1; subst h2
          exact ax_iret F dX9_entry_66
      · have h := it_neg0 h hc
        refine ax_bipush (v := (-3 : Int32)) F dX9_entry_25 (by decide) ?_
        obtain ⟨h1, h2⟩ := rt_some0 h
        subst h1; subst h2
        exact ax_iret F dX9_entry_27
  · have h := it_pos0 h hc
    refine ax_bipush (v := (-2 : Int32)) F dX9_entry_8 (by decide) ?_
    obtain ⟨h1, h2⟩ := rt_some0 h
    subst h1; subst h2
    exact ax_iret F dX9_entry_10
