def rmX9_anew : Room := { frames := 1, cells := 0, slots := 0, locals := 25 }
theorem kn_X9_anew : yX9_anew.cls ≠ "java/lang/invoke/MethodHandle" ∧ yX9_anew.cls ≠ "java/lang/invoke/VarHandle" ∧ (parseMethodDescriptor yX9_anew.desc).map (fun d => d.parameters.length) = some 4 := by decide +kernel
noncomputable def bX9_anew_0 (x1 : Int32) (x2 : Int32) (x3 : Int32) (x4 : Int32) (M : Mm) : Option (Sst ⊕ Rst) := some (.inl (1, [], [x1, x2, (0 : Int32)], (up2 (up2 (up2 (up2 (up2 (up2 M 338 1 x1) 338 2 x2) 338 3 x3) 338 4 (0 : Int32)) 339 (ix (0 : Int32)) x4) 339 (ix (1 : Int32)) (0 : Int32))))
noncomputable def bX9_anew_1 (x1 : Int32) (x2 : Int32) (x5 : Int32) (M : Mm) : Option (Sst ⊕ Rst) := if (8 : Int32) ≤ x5 then (some (.inr ((0 : Int32), M))) else (gd (okI ((2 : Int32) + x5) 1080) (some (.inl (2, [], [x1, x2, x5, (1 : Int32)], (up2 M 339 (ix ((2 : Int32) + x5)) (0 : Int32))))))
noncomputable def bX9_anew_2 (x1 : Int32) (x2 : Int32) (x5 : Int32) (x6 : Int32) (M : Mm) : Option (Sst ⊕ Rst) := if x1 ≤ x6 then (some (.inl (1, [], [x1, x2, (x5 + (1 : Int32))], M))) else (if x1 ≤ x5 then (some (.inl (1, [], [x1, x2, (x5 + (1 : Int32))], M))) else (gd (okI ((2 : Int32) + x5) 1080) (if x2 ≤ (M 339 (ix ((2 : Int32) + x5))) then (some (.inl (2, [], [x1, x2, x5, (x6 + (1 : Int32))], M))) else (gd (decide (¬ x1 = 0)) (cl (fX9_put (0 : Int32) x5 (irem (x5 + x6) x1) (0 : Int32) M) (fun r1 M1 => some (.inl (2, [], [x1, x2, x5, (x6 + (1 : Int32))], M1))))))))
noncomputable def stX9_anew : Sst → Option (Sst ⊕ Rst) := fun q => match q.1 with
  | 0 => bX9_anew_0 (q.2.2.1.getD 0 0) (q.2.2.1.getD 1 0) (q.2.2.1.getD 2 0) (q.2.2.1.getD 3 0) q.2.2.2
  | 1 => bX9_anew_1 (q.2.2.1.getD 0 0) (q.2.2.1.getD 1 0) (q.2.2.1.getD 2 0) q.2.2.2
  | 2 => bX9_anew_2 (q.2.2.1.getD 0 0) (q.2.2.1.getD 1 0) (q.2.2.1.getD 2 0) (q.2.2.1.getD 3 0) q.2.2.2
  | _ => none
noncomputable def fX9_anew (x1 : Int32) (x2 : Int32) (x3 : Int32) (x4 : Int32) (M : Mm) : Option Rst := run stX9_anew (0, [], [x1, x2, x3, x4], M)
def PX9_anew (p : Program) (l : Launch) (e : Env) (s : State) (m : MethodId) (args : Array Value) (below : List Frame) (meth : Method) (c : Code) (G : va_G) (L : List Nat) (ad : Nat → Nat) (cs : Nat → ClassId) (zk : Nat → Nat) (r : Int32) (M' : Mm) (n : Nat) : Prop := (∀ (x1 : Int32) (x2 : Int32) (x3 : Int32) (x4 : Int32) (M : Mm), itr stX9_anew n (0, [], [x1, x2, x3, x4], M) = some (r, M') → AW p l e rmX9_anew s m args below meth c (MQ below (AQv G L ad cs M') args s 0 0 (inA L ad)) G L ad cs 7 0 [some (.ref (ad 338)), some (.int x1), some (.int x2), some (.int x3), some (.int x4), none, none] [] M) ∧ (∀ (x1 : Int32) (x2 : Int32) (x5 : Int32) (M : Mm), itr stX9_anew n (1, [], [x1, x2, x5], M) = some (r, M') → AW p l e rmX9_anew s m args below meth c (MQ below (AQv G L ad cs M') args s 0 0 (inA L ad)) G L ad cs 7 38 [some (.ref (ad 338)), some (.int x1), some (.int x2), none, none, some (.int x5), none] [] M) ∧ (∀ (x1 : Int32) (x2 : Int32) (x5 : Int32) (x6 : Int32) (M : Mm), itr stX9_anew n (2, [], [x1, x2, x5, x6], M) = some (r, M') → AW p l e rmX9_anew s m args below meth c (MQ below (AQv G L ad cs M') args s 0 0 (inA L ad)) G L ad cs 7 58 [some (.ref (ad 338)), some (.int x1), some (.int x2), none, none, some (.int x5), some (.int x6)] [] M)
set_option maxRecDepth 100000 in
set_option maxHeartbeats 4000000 in
theorem wX9_anew_0 {p : Program} {l : Launch} {e : Env} {s : State} {m : MethodId} {args : Array Value} {below : List Frame} {meth : Method} {c : Code} {G : va_G} {L : List Nat} {ad : Nat → Nat} {cs : Nat → ClassId} {z : Bool} {zk zv : Nat → Nat} {r : Int32} {M' : Mm} {n : Nat} (F : Fx G L ad cs z zk zv p m meth c cX9_anew 7 none s args RX9) (hm : isM L) (IH : PX9_anew p l e s m args below meth c G L ad cs zk r M' n) (x1 : Int32) (x2 : Int32) (x3 : Int32) (x4 : Int32) (M : Mm) (h : (bX9_anew_0 x1 x2 x3 x4 M).bind (fun q => match q with | .inl s' => itr stX9_anew n s' | .inr r => some r) = some (r, M'))  : AW p l e rmX9_anew s m args below meth c (MQ below (AQv G L ad cs M') args s 0 0 (inA L ad)) G L ad cs 7 0 [some (.ref (ad 338)), some (.int x1), some (.int x2), some (.int x3), some (.int x4), none, none] [] M := by
  unfold bX9_anew_0 at h
  refine ax_aload_n F dX9_anew_0 rfl ?_
  refine ax_iload_n F dX9_anew_1 rfl ?_
  refine ax_put (ty := .int) F (ob_338 hm) rfl inGX9 tyX9 tyX9_ok nmX9 1 (by decide) rfl kf_X9_48 (by decide) rfl rfl (Nat.le_of_ble_eq_true rfl) rfl dX9_anew_2 ?_
  refine ax_aload_n F dX9_anew_5 rfl ?_
  refine ax_iload_n F dX9_anew_6 rfl ?_
  refine ax_put (ty := .int) F (ob_338 hm) rfl inGX9 tyX9 tyX9_ok nmX9 2 (by decide) rfl kf_X9_52 (by decide) rfl rfl (Nat.le_of_ble_eq_true rfl) rfl dX9_anew_7 ?_
  refine ax_aload_n F dX9_anew_10 rfl ?_
  refine ax_iload_n F dX9_anew_11 rfl ?_
  refine ax_put (ty := .int) F (ob_338 hm) rfl inGX9 tyX9 tyX9_ok nmX9 3 (by decide) rfl kf_X9_55 (by decide) rfl rfl (Nat.le_of_ble_eq_true rfl) rfl dX9_anew_12 ?_
  refine ax_aload_n F dX9_anew_15 rfl ?_
  refine ax_iconst (v := (0 : Int32)) F dX9_anew_16 (by decide) ?_
  refine ax_put (ty := .int) F (ob_338 hm) rfl inGX9 tyX9 tyX9_ok nmX9 4 (by decide) rfl kf_X9_58 (by decide) rfl rfl (Nat.le_of_ble_eq_true rfl) rfl dX9_anew_17 ?_
  refine ax_aload_n F dX9_anew_20 rfl ?_
  refine ax_get (v := .ref (ad 339)) F (ob_338 hm) rfl inGX9 0 (by decide) rfl kf_X9_7 rfl dX9_anew_21 ?_
  refine ax_iconst (v := (0 : Int32)) F dX9_anew_24 (by decide) ?_
  refine ax_iload F dX9_anew_25 rfl ?_
  refine ax_iast F (ar_339 hm) (by decide) dX9_anew_27 ?_
  refine ax_aload_n F dX9_anew_28 rfl ?_
  refine ax_get (v := .ref (ad 339)) F (ob_338 hm) rfl inGX9 0 (by decide) rfl kf_X9_7 rfl dX9_anew_29 ?_
  refine ax_iconst (v := (1 : Int32)) F dX9_anew_32 (by decide) ?_
  refine ax_iconst (v := (0 : Int32)) F dX9_anew_33 (by decide) ?_
  refine ax_iast F (ar_339 hm) (by decide) dX9_anew_34 ?_
  refine ax_iconst (v := (0 : Int32)) F dX9_anew_35 (by decide) ?_
  refine ax_istore F dX9_anew_36 (by decide) rfl ?_
  refine ax_mask [true, true, true, false, false, true, false] ?_
  exact IH.2.1 _ _ _ _ h 
set_option maxRecDepth 100000 in
set_option maxHeartbeats 4000000 in
theorem wX9_anew_1 {p : Program} {l : Launch} {e : Env} {s : State} {m : MethodId} {args : Array Value} {below : List Frame} {meth : Method} {c : Code} {G : va_G} {L : List Nat} {ad : Nat → Nat} {cs : Nat → ClassId} {z : Bool} {zk zv : Nat → Nat} {r : Int32} {M' : Mm} {n : Nat} (F : Fx G L ad cs z zk zv p m meth c cX9_anew 7 none s args RX9) (hm : isM L) (IH : PX9_anew p l e s m args below meth c G L ad cs zk r M' n) (x1 : Int32) (x2 : Int32) (x5 : Int32) (M : Mm) (h : (bX9_anew_1 x1 x2 x5 M).bind (fun q => match q with | .inl s' => itr stX9_anew n s' | .inr r => some r) = some (r, M'))  : AW p l e rmX9_anew s m args below meth c (MQ below (AQv G L ad cs M') args s 0 0 (inA L ad)) G L ad cs 7 38 [some (.ref (ad 338)), some (.int x1), some (.int x2), none, none, some (.int x5), none] [] M := by
  unfold bX9_anew_1 at h
  refine ax_iload F dX9_anew_38 rfl ?_
  refine ax_bipush (v := (8 : Int32)) F dX9_anew_40 (by decide) ?_
  refine ax_icmp_ge (t := 110) F dX9_anew_42 (by decide) (fun hc => ?_) (fun hc => ?_)
  · have h := it_pos h hc
    obtain ⟨h1, h2⟩ := rt_some h
    subst h2
    exact ax_vret F dX9_anew_110
  · have h := it_neg h hc
    refine ax_aload_n F dX9_anew_45 rfl ?_
    refine ax_get (v := .ref (ad 339)) F (ob_338 hm) rfl inGX9 0 (by decide) rfl kf_X9_7 rfl dX9_anew_46 ?_
    refine ax_iconst (v := (2 : Int32)) F dX9_anew_49 (by decide) ?_
    refine ax_iload F dX9_anew_50 rfl ?_
    refine ax_iadd F dX9_anew_52 ?_
    refine ax_iconst (v := (0 : Int32)) F dX9_anew_53 (by decide) ?_
    obtain ⟨hg, h⟩ := gd_some h
    refine ax_iast F (ar_339 hm) hg dX9_anew_54 ?_
    refine ax_iconst (v := (1 : Int32)) F dX9_anew_55 (by decide) ?_
    refine ax_istore F dX9_anew_56 (by decide) rfl ?_
    exact IH.2.2 _ _ _ _ _ h 
set_option maxRecDepth 100000 in
set_option maxHeartbeats 4000000 in
theorem wX9_anew_2 {p : Program} {l : Launch} {e : Env} {s : State} {m : MethodId} {args : Array Value} {below : List Frame} {meth : Method} {c : Code} {G : va_G} {L : List Nat} {ad : Nat → Nat} {cs : Nat → ClassId} {z : Bool} {zk zv : Nat → Nat} {r : Int32} {M' : Mm} {n : Nat} (F : Fx G L ad cs z zk zv p m meth c cX9_anew 7 none s args RX9) (hm : isM L) (IH : PX9_anew p l e s m args below meth c G L ad cs zk r M' n) (x1 : Int32) (x2 : Int32) (x5 : Int32) (x6 : Int32) (M : Mm) (h : (bX9_anew_2 x1 x2 x5 x6 M).bind (fun q => match q with | .inl s' => itr stX9_anew n s' | .inr r => some r) = some (r, M'))  : AW p l e rmX9_anew s m args below meth c (MQ below (AQv G L ad cs M') args s 0 0 (inA L ad)) G L ad cs 7 58 [some (.ref (ad 338)), some (.int x1), some (.int x2), none, none, some (.int x5), some (.int x6)] [] M := by
  unfold bX9_anew_2 at h
  refine ax_iload F dX9_anew_58 rfl ?_
  refine ax_iload_n F dX9_anew_60 rfl ?_
  refine ax_icmp_ge (t := 104) F dX9_anew_61 (by decide) (fun hc => ?_) (fun hc => ?_)
  · have h := it_pos h hc
    refine ax_iinc (v := (1 : Int32)) F dX9_anew_104 rfl (by decide) (by decide) rfl ?_
    refine ax_goto (t := 38) F dX9_anew_107 (by decide) ?_
    refine ax_mask [true, true, true, false, false, true, false] ?_
    exact IH.2.1 _ _ _ _ h 
  · have h := it_neg h hc
    refine ax_iload F dX9_anew_64 rfl ?_
    refine ax_iload_n F dX9_anew_66 rfl ?_
    refine ax_icmp_ge (t := 104) F dX9_anew_67 (by decide) (fun hc => ?_) (fun hc => ?_)
    · have h := it_pos h hc
      refine ax_iinc (v := (1 : Int32)) F dX9_anew_104 rfl (by decide) (by decide) rfl ?_
      refine ax_goto (t := 38) F dX9_anew_107 (by decide) ?_
      refine ax_mask [true, true, true, false, false, true, false] ?_
      exact IH.2.1 _ _ _ _ h 
    · have h := it_neg h hc
      refine ax_aload_n F dX9_anew_70 rfl ?_
      refine ax_get (v := .ref (ad 339)) F (ob_338 hm) rfl inGX9 0 (by decide) rfl kf_X9_7 rfl dX9_anew_71 ?_
      refine ax_iconst (v := (2 : Int32)) F dX9_anew_74 (by decide) ?_
      refine ax_iload F dX9_anew_75 rfl ?_
      refine ax_iadd F dX9_anew_77 ?_
      obtain ⟨hg, h⟩ := gd_some h
      refine ax_iald F (ar_339 hm) hg dX9_anew_78 ?_
      refine ax_iload_n F dX9_anew_79 rfl ?_
      refine ax_icmp_ge (t := 98) F dX9_anew_80 (by decide) (fun hc => ?_) (fun hc => ?_)
      · have h := it_pos h hc
        refine ax_iinc (v := (1 : Int32)) F dX9_anew_98 rfl (by decide) (by decide) rfl ?_
        refine ax_goto (t := 58) F dX9_anew_101 (by decide) ?_
        exact IH.2.2 _ _ _ _ _ h 
      · have h := it_neg h hc
        refine ax_aload_n F dX9_anew_83 rfl ?_
        refine ax_iconst (v := (0 : Int32)) F dX9_anew_84 (by decide) ?_
        refine ax_iload F dX9_anew_85 rfl ?_
        refine ax_iload F dX9_anew_87 rfl ?_
        refine ax_iload F dX9_anew_89 rfl ?_
        refine ax_iadd F dX9_anew_91 ?_
        refine ax_iload_n F dX9_anew_92 rfl ?_
        obtain ⟨hg, h⟩ := gd_some h
        refine ax_irem F dX9_anew_93 (of_decide_eq_true hg) ?_
        refine ax_iconst (v := (0 : Int32)) F dX9_anew_94 (by decide) ?_
        obtain ⟨r1, M1, hq1, h⟩ := cq_some h
        refine ax_callVv (As := [.int (0 : Int32), .int x5, .int (irem (x5 + x6) x1), .int (0 : Int32)]) (st := []) F (tX9_put F.2.2.2.2.2.2.1 hm _ _ _ _  _ _ _ hq1) (ob_338 hm) rfl kc_X9_put kz_X9 ki_X9_put ks_X9_put km_X9_61 ⟨kn_X9_put, rfl, rfl, Nat.le_of_ble_eq_true rfl, Nat.le_of_ble_eq_true rfl⟩ rfl (Nat.le_of_ble_eq_true rfl) dX9_anew_95 ?_
        refine ax_iinc (v := (1 : Int32)) F dX9_anew_98 rfl (by decide) (by decide) rfl ?_
        refine ax_goto (t := 58) F dX9_anew_101 (by decide) ?_
        exact IH.2.2 _ _ _ _ _ h 
set_option maxRecDepth 100000 in
set_option maxHeartbeats 4000000 in
theorem wX9_anew {p : Program} {l : Launch} {e : Env} {s : State} {m : MethodId} {args : Array Value} {below : List Frame} {meth : Method} {c : Code} {G : va_G} {L : List Nat} {ad : Nat → Nat} {cs : Nat → ClassId} {z : Bool} {zk zv : Nat → Nat} {r : Int32} {M' : Mm} (F : Fx G L ad cs z zk zv p m meth c cX9_anew 7 none s args RX9) (hm : isM L) (n : Nat) : PX9_anew p l e s m args below meth c G L ad cs zk r M' n := by
  induction n with
  | zero => exact ⟨(fun x1 x2 x3 x4 M h => by cases h), (fun x1 x2 x5 M h => by cases h), (fun x1 x2 x5 x6 M h => by cases h)⟩
  | succ n ih =>
    exact ⟨fun x1 x2 x3 x4 M h  => wX9_anew_0 F hm ih x1 x2 x3 x4 M h ,
      fun x1 x2 x5 M h  => wX9_anew_1 F hm ih x1 x2 x5 M h ,
      fun x1 x2 x5 x6 M h  => wX9_anew_2 F hm ih x1 x2 x5 x6 M h ⟩
set_option maxRecDepth 100000 in
set_option maxHeartbeats 4000000 in
theorem tX9_anew {l : Launch} {G : va_G} {L : List Nat} {ad : Nat → Nat} {cs : Nat → ClassId} {z : Bool} {zk zv : Nat → Nat} (hinj : inj L ad) (hm : isM L) (x1 : Int32) (x2 : Int32) (x3 : Int32) (x4 : Int32)  (M : Mm) (r : Int32) (M' : Mm) (h : fX9_anew x1 x2 x3 x4 M = some (r, M')) : Met l yX9_anew (tgW yX9_anew cX9_anew 7 none) rmX9_anew (APre G L ad cs z zk zv [.ref (ad 338), .int x1, .int x2, .int x3, .int x4] M) (AQv G L ad cs M') 0 0 (inA L ad) := by
  refine met_of (Eq.refl true) (Nat.le_of_ble_eq_true rfl) hinj [some (.ref (ad 338)), some (.int x1), some (.int x2), some (.int x3), some (.int x4), none, none] rfl ?_
  intro p e s m below meth c F
  replace F : Fx G L ad cs z zk zv p m meth c cX9_anew 7 none s _ RX9 := F
  obtain ⟨n, hn⟩ := run_ex h
  exact (wX9_anew F hm n).1 x1 x2 x3 x4 M hn 
def rmX9_placeOf : Room := { frames := 0, cells := 0, slots := 0, locals := 0 }
theorem kn_X9_placeOf : yX9_placeOf.cls ≠ "java/lang/invoke/MethodHandle" ∧ yX9_placeOf.cls ≠ "java/lang/invoke/VarHandle" ∧ (parseMethodDescriptor yX9_placeOf.desc).map (fun d => d.parameters.length) = some 3 := by decide +kernel
noncomputable def bX9_placeOf_0 (x1 : Int32) (x2 : Int32) (x3 : Int32) (M : Mm) : Option (Sst ⊕ Rst) := some (.inl (1, [], [x1, x2, x3, (0 : Int32)], M))
noncomputable def bX9_placeOf_1 (x1 : Int32) (x2 : Int32) (x3 : Int32) (x4 : Int32) (M : Mm) : Option (Sst ⊕ Rst) := gd (okI ((x1 + (2 : Int32)) + x2) 1080) (if (M 339 (ix ((x1 + (2 : Int32)) + x2))) ≤ x4 then (some (.inr ((-1 : Int32), M))) else (gd (okI (((x1 + (10 : Int32)) + ((5 : Int32) * x2)) + x4) 1080) (if (M 339 (ix (((x1 + (10 : Int32)) + ((5 : Int32) * x2)) + x4))) = x3 then (some (.inr (x4, M))) else (some (.inl (1, [], [x1, x2, x3, (x4 + (1 : Int32))], M))))))
noncomputable def stX9_placeOf : Sst → Option (Sst ⊕ Rst) := fun q => match q.1 with
  | 0 => bX9_placeOf_0 (q.2.2.1.getD 0 0) (q.2.2.1.getD 1 0) (q.2.2.1.getD 2 0) q.2.2.2
  | 1 => bX9_placeOf_1 (q.2.2.1.getD 0 0) (q.2.2.1.getD 1 0) (q.2.2.1.getD 2 0) (q.2.2.1.getD 3 0) q.2.2.2
  | _ => none
noncomputable def fX9_placeOf (x1 : Int32) (x2 : Int32) (x3 : Int32) (M : Mm) : Option Rst := run stX9_placeOf (0, [], [x1, x2, x3], M)
def PX9_placeOf (p : Program) (l : Launch) (e : Env) (s : State) (m : MethodId) (args : Array Value) (below : List Frame) (meth : Method) (c : Code) (G : va_G) (L : List Nat) (ad : Nat → Nat) (cs : Nat → ClassId) (zk : Nat → Nat) (r : Int32) (M' : Mm) (n : Nat) : Prop := (∀ (x1 : Int32) (x2 : Int32) (x3 : Int32) (M : Mm), itr stX9_placeOf n (0, [], [x1, x2, x3], M) = some (r, M') → AW p l e rmX9_placeOf s m args below meth c (MQ below (AQi G L ad cs r M') args s 0 0 (inA L ad)) G L ad cs 5 0 [some (.ref (ad 338)), some (.int x1), some (.int x2), some (.int x3), none] [] M) ∧ (∀ (x1 : Int32) (x2 : Int32) (x3 : Int32) (x4 : Int32) (M : Mm), itr stX9_placeOf n (1, [], [x1, x2, x3, x4], M) = some (r, M') → AW p l e rmX9_placeOf s m args below meth c (MQ below (AQi G L ad cs r M') args s 0 0 (inA L ad)) G L ad cs 5 3 [some (.ref (ad 338)), some (.int x1), some (.int x2), some (.int x3), some (.int x4)] [] M)
set_option maxRecDepth 100000 in
set_option maxHeartbeats 4000000 in
theorem wX9_placeOf_0 {p : Program} {l : Launch} {e : Env} {s : State} {m : MethodId} {args : Array Value} {below : List Frame} {meth : Method} {c : Code} {G : va_G} {L : List Nat} {ad : Nat → Nat} {cs : Nat → ClassId} {z : Bool} {zk zv : Nat → Nat} {r : Int32} {M' : Mm} {n : Nat} (F : Fx G L ad cs z zk zv p m meth c cX9_placeOf 5 (some .int) s args RX9) (hm : isM L) (IH : PX9_placeOf p l e s m args below meth c G L ad cs zk r M' n) (x1 : Int32) (x2 : Int32) (x3 : Int32) (M : Mm) (h : (bX9_placeOf_0 x1 x2 x3 M).bind (fun q => match q with | .inl s' => itr stX9_placeOf n s' | .inr r => some r) = some (r, M'))  : AW p l e rmX9_placeOf s m args below meth c (MQ below (AQi G L ad cs r M') args s 0 0 (inA L ad)) G L ad cs 5 0 [some (.ref (ad 338)), some (.int x1), some (.int x2), some (.int x3), none] [] M := by
  unfold bX9_placeOf_0 at h
  refine ax_iconst (v := (0 : Int32)) F dX9_placeOf_0 (by decide) ?_
  refine ax_istore F dX9_placeOf_1 (by decide) rfl ?_
  exact IH.2 _ _ _ _ _ h 
set_option maxRecDepth 100000 in
set_option maxHeartbeats 4000000 in
theorem wX9_placeOf_1 {p : Program} {l : Launch} {e : Env} {s : State} {m : MethodId} {args : Array Value} {below : List Frame} {meth : Method} {c : Code} {G : va_G} {L : List Nat} {ad : Nat → Nat} {cs : Nat → ClassId} {z : Bool} {zk zv : Nat → Nat} {r : Int32} {M' : Mm} {n : Nat} (F : Fx G L ad cs z zk zv p m meth c cX9_placeOf 5 (some .int) s args RX9) (hm : isM L) (IH : PX9_placeOf p l e s m args below meth c G L ad cs zk r M' n) (x1 : Int32) (x2 : Int32) (x3 : Int32) (x4 : Int32) (M : Mm) (h : (bX9_placeOf_1 x1 x2 x3 x4 M).bind (fun q => match q with | .inl s' => itr stX9_placeOf n s' | .inr r => some r) = some (r, M'))  : AW p l e rmX9_placeOf s m args below meth c (MQ below (AQi G L ad cs r M') args s 0 0 (inA L ad)) G L ad cs 5 3 [some (.ref (ad 338)), some (.int x1), some (.int x2), some (.int x3), some (.int x4)] [] M := by
  unfold bX9_placeOf_1 at h
  refine ax_iload F dX9_placeOf_3 rfl ?_
  refine ax_aload_n F dX9_placeOf_5 rfl ?_
  refine ax_get (v := .ref (ad 339)) F (ob_338 hm) rfl inGX9 0 (by decide) rfl kf_X9_7 rfl dX9_placeOf_6 ?_
  refine ax_iload_n F dX9_placeOf_9 rfl ?_
  refine ax_iconst (v := (2 : Int32)) F dX9_placeOf_10 (by decide) ?_
  refine ax_iadd F dX9_placeOf_11 ?_
  refine ax_iload_n F dX9_placeOf_12 rfl ?_
  refine ax_iadd F dX9_placeOf_13 ?_
  obtain ⟨hg, h⟩ := gd_some h
  refine ax_iald F (ar_339 hm) hg dX9_placeOf_14 ?_
  refine ax_icmp_ge (t := 47) F dX9_placeOf_15 (by decide) (fun hc => ?_) (fun hc => ?_)
  · have h := it_pos h hc
    refine ax_iconst (v := (-1 : Int32)) F dX9_placeOf_47 (by decide) ?_
    obtain ⟨h1, h2⟩ := rt_some h
    subst h1; subst h2
    exact ax_iret F dX9_placeOf_48
  · have h := it_neg h hc
    refine ax_aload_n F dX9_placeOf_18 rfl ?_
    refine ax_get (v := .ref (ad 339)) F (ob_338 hm) rfl inGX9 0 (by decide) rfl kf_X9_7 rfl dX9_placeOf_19 ?_
    refine ax_iload_n F dX9_placeOf_22 rfl ?_
    refine ax_bipush (v := (10 : Int32)) F dX9_placeOf_23 (by decide) ?_
    refine ax_iadd F dX9_placeOf_25 ?_
    refine ax_iconst (v := (5 : Int32)) F dX9_placeOf_26 (by decide) ?_
    refine ax_iload_n F dX9_placeOf_27 rfl ?_
    refine ax_imul F dX9_placeOf_28 ?_
    refine ax_iadd F dX9_placeOf_29 ?_
    refine ax_iload F dX9_placeOf_30 rfl ?_
    refine ax_iadd F dX9_placeOf_32 ?_
    obtain ⟨hg, h⟩ := gd_some h
    refine ax_iald F (ar_339 hm) hg dX9_placeOf_33 ?_
    refine ax_iload_n F dX9_placeOf_34 rfl ?_
    refine ax_icmp_ne (t := 41) F dX9_placeOf_35 (by decide) (fun hc => ?_) (fun hc => ?_)
    · have h := it_neg h hc
      refine ax_iinc (v := (1 : Int32)) F dX9_placeOf_41 rfl (by decide) (by decide) rfl ?_
      refine ax_goto (t := 3) F dX9_placeOf_44 (by decide) ?_
      exact IH.2 _ _ _ _ _ h 
    · have h := it_pos h hc
      refine ax_iload F dX9_placeOf_38 rfl ?_
      obtain ⟨h1, h2⟩ := rt_some h
      subst h1; subst h2
      exact ax_iret F dX9_placeOf_40
set_option maxRecDepth 100000 in
set_option maxHeartbeats 4000000 in
theorem wX9_placeOf {p : Program} {l : Launch} {e : Env} {s : State} {m : MethodId} {args : Array Value} {below : List Frame} {meth : Method} {c : Code} {G : va_G} {L : List Nat} {ad : Nat → Nat} {cs : Nat → ClassId} {z : Bool} {zk zv : Nat → Nat} {r : Int32} {M' : Mm} (F : Fx G L ad cs z zk zv p m meth c cX9_placeOf 5 (some .int) s args RX9) (hm : isM L) (n : Nat) : PX9_placeOf p l e s m args below meth c G L ad cs zk r M' n := by
  induction n with
  | zero => exact ⟨(fun x1 x2 x3 M h => by cases h), (fun x1 x2 x3 x4 M h => by cases h)⟩
  | succ n ih =>
    exact ⟨fun x1 x2 x3 M h  => wX9_placeOf_0 F hm ih x1 x2 x3 M h ,
      fun x1 x2 x3 x4 M h  => wX9_placeOf_1 F hm ih x1 x2 x3 x4 M h ⟩
set_option maxRecDepth 100000 in
set_option maxHeartbeats 4000000 in
theorem tX9_placeOf {l : Launch} {G : va_G} {L : List Nat} {ad : Nat → Nat} {cs : Nat → ClassId} {z : Bool} {zk zv : Nat → Nat} (hinj : inj L ad) (hm : isM L) (x1 : Int32) (x2 : Int32) (x3 : Int32)  (M : Mm) (r : Int32) (M' : Mm) (h : fX9_placeOf x1 x2 x3 M = some (r, M')) : Met l yX9_placeOf (tgW yX9_placeOf cX9_placeOf 5 (some .int)) rmX9_placeOf (APre G L ad cs z zk zv [.ref (ad 338), .int x1, .int x2, .int x3] M) (AQi G L ad cs r M') 0 0 (inA L ad) := by
  refine met_of (Eq.refl true) (Nat.le_of_ble_eq_true rfl) hinj [some (.ref (ad 338)), some (.int x1), some (.int x2), some (.int x3), none] rfl ?_
  intro p e s m below meth c F
  replace F : Fx G L ad cs z zk zv p m meth c cX9_placeOf 5 (some .int) s _ RX9 := F
  obtain ⟨n, hn⟩ := run_ex h
  exact (wX9_placeOf F hm n).1 x1 x2 x3 M hn 
def rmX9_strike : Room := { frames := 0, cells := 0, slots := 0, locals := 0 }
theorem kn_X9_strike : yX9_strike.cls ≠ "java/lang/invoke/MethodHandle" ∧ yX9_strike.cls ≠ "java/lang/invoke/VarHandle" ∧ (parseMethodDescriptor yX9_strike.desc).map (fun d => d.parameters.length) = some 3 := by decide +kernel
noncomputable def bX9_strike_0 (x1 : Int32) (x2 : Int32) (x3 : Int32) (M : Mm) : Option (Sst ⊕ Rst) := gd (okI ((x1 + (2 : Int32)) + x2) 1080) (gd (okI ((x1 + (2 : Int32)) + x2) 1080) (some (.inl (1, [], [x1, x2, x3], (up2 M 339 (ix ((x1 + (2 : Int32)) + x2)) ((M 339 (ix ((x1 + (2 : Int32)) + x2))) - (1 : Int32)))))))
noncomputable def bX9_strike_1 (x1 : Int32) (x2 : Int32) (x4 : Int32) (M : Mm) : Option (Sst ⊕ Rst) := gd (okI ((x1 + (2 : Int32)) + x2) 1080) (if (M 339 (ix ((x1 + (2 : Int32)) + x2))) ≤ x4 then (some (.inr ((0 : Int32), M))) else (gd (okI ((((x1 + (10 : Int32)) + ((5 : Int32) * x2)) + x4) + (1 : Int32)) 1080) (gd (okI (((x1 + (10 : Int32)) + ((5 : Int32) * x2)) + x4) 1080) (gd (okI ((((x1 + (50 : Int32)) + ((5 : Int32) * x2)) + x4) + (1 : Int32)) 1080) (gd (okI (((x1 + (50 : Int32)) + ((5 : Int32) * x2)) + x4) 1080) (some (.inl (1, [], [x1, x2, (x4 + (1 : Int32))], (up2 (up2 M 339 (ix (((x1 + (10 : Int32)) + ((5 : Int32) * x2)) + x4)) (M 339 (ix ((((x1 + (10 : Int32)) + ((5 : Int32) * x2)) + x4) + (1 : Int32))))) 339 (ix (((x1 + (50 : Int32)) + ((5 : Int32) * x2)) + x4)) ((up2 M 339 (ix (((x1 + (10 : Int32)) + ((5 : Int32) * x2)) + x4)) (M 339 (ix ((((x1 + (10 : Int32)) + ((5 : Int32) * x2)) + x4) + (1 : Int32))))) 339 (ix ((((x1 + (50 : Int32)) + ((5 : Int32) * x2)) + x4) + (1 : Int32)))))))))))))
noncomputable def stX9_strike : Sst → Option (Sst ⊕ Rst) := fun q => match q.1 with
  | 0 => bX9_strike_0 (q.2.2.1.getD 0 0) (q.2.2.1.getD 1 0) (q.2.2.1.getD 2 0) q.2.2.2
  | 1 => bX9_strike_1 (q.2.2.1.getD 0 0) (q.2.2.1.getD 1 0) (q.2.2.1.getD 2 0) q.2.2.2
  | _ => none
noncomputable def fX9_strike (x1 : Int32) (x2 : Int32) (x3 : Int32) (M : Mm) : Option Rst := run stX9_strike (0, [], [x1, x2, x3], M)
def PX9_strike (p : Program) (l : Launch) (e : Env) (s : State) (m : MethodId) (args : Array Value) (below : List Frame) (meth : Method) (c : Code) (G : va_G) (L : List Nat) (ad : Nat → Nat) (cs : Nat → ClassId) (zk : Nat → Nat) (r : Int32) (M' : Mm) (n : Nat) : Prop := (∀ (x1 : Int32) (x2 : Int32) (x3 : Int32) (M : Mm), itr stX9_strike n (0, [], [x1, x2, x3], M) = some (r, M') → AW p l e rmX9_strike s m args below meth c (MQ below (AQv G L ad cs M') args s 0 0 (inA L ad)) G L ad cs 5 0 [some (.ref (ad 338)), some (.int x1), some (.int x2), some (.int x3), none] [] M) ∧ (∀ (x1 : Int32) (x2 : Int32) (x4 : Int32) (M : Mm), itr stX9_strike n (1, [], [x1, x2, x4], M) = some (r, M') → AW p l e rmX9_strike s m args below meth c (MQ below (AQv G L ad cs M') args s 0 0 (inA L ad)) G L ad cs 5 17 [some (.ref (ad 338)), some (.int x1), some (.int x2), none, some (.int x4)] [] M)
set_option maxRecDepth 100000 in
set_option maxHeartbeats 4000000 in
theorem wX9_strike_0 {p : Program} {l : Launch} {e : Env} {s : State} {m : MethodId} {args : Array Value} {below : List Frame} {meth : Method} {c : Code} {G : va_G} {L : List Nat} {ad : Nat → Nat} {cs : Nat → ClassId} {z : Bool} {zk zv : Nat → Nat} {r : Int32} {M' : Mm} {n : Nat} (F : Fx G L ad cs z zk zv p m meth c cX9_strike 5 none s args RX9) (hm : isM L) (IH : PX9_strike p l e s m args below meth c G L ad cs zk r M' n) (x1 : Int32) (x2 : Int32) (x3 : Int32) (M : Mm) (h : (bX9_strike_0 x1 x2 x3 M).bind (fun q => match q with | .inl s' => itr stX9_strike n s' | .inr r => some r) = some (r, M'))  : AW p l e rmX9_strike s m args below meth c (MQ below (AQv G L ad cs M') args s 0 0 (inA L ad)) G L ad cs 5 0 [some (.ref (ad 338)), some (.int x1), some (.int x2), some (.int x3), none] [] M := by
  unfold bX9_strike_0 at h
  refine ax_aload_n F dX9_strike_0 rfl ?_
  refine ax_get (v := .ref (ad 339)) F (ob_338 hm) rfl inGX9 0 (by decide) rfl kf_X9_7 rfl dX9_strike_1 ?_
  refine ax_iload_n F dX9_strike_4 rfl ?_
  refine ax_iconst (v := (2 : Int32)) F dX9_strike_5 (by decide) ?_
  refine ax_iadd F dX9_strike_6 ?_
  refine ax_iload_n F dX9_strike_7 rfl ?_
  refine ax_iadd F dX9_strike_8 ?_
  refine ax_dup2 F dX9_strike_9 rfl rfl ?_
  obtain ⟨hg, h⟩ := gd_some h
  refine ax_iald F (ar_339 hm) hg dX9_strike_10 ?_
  refine ax_iconst (v := (1 : Int32)) F dX9_strike_11 (by decide) ?_
  refine ax_isub F dX9_strike_12 ?_
  obtain ⟨hg, h⟩ := gd_some h
  refine ax_iast F (ar_339 hm) hg dX9_strike_13 ?_
  refine ax_iload_n F dX9_strike_14 rfl ?_
  refine ax_istore F dX9_strike_15 (by decide) rfl ?_
  refine ax_mask [true, true, true, false, true] ?_
  exact IH.2 _ _ _ _ h 
set_option maxRecDepth 100000 in
set_option maxHeartbeats 4000000 in
theorem wX9_strike_1 {p : Program} {l : Launch} {e : Env} {s : State} {m : MethodId} {args : Array Value} {below : List Frame} {meth : Method} {c : Code} {G : va_G} {L : List Nat} {ad : Nat → Nat} {cs : Nat → ClassId} {z : Bool} {zk zv : Nat → Nat} {r : Int32} {M' : Mm} {n : Nat} (F : Fx G L ad cs z zk zv p m meth c cX9_strike 5 none s args RX9) (hm : isM L) (IH : PX9_strike p l e s m args below meth c G L ad cs zk r M' n) (x1 : Int32) (x2 : Int32) (x4 : Int32) (M : Mm) (h : (bX9_strike_1 x1 x2 x4 M).bind (fun q => match q with | .inl s' => itr stX9_strike n s' | .inr r => some r) = some (r, M'))  : AW p l e rmX9_strike s m args below meth c (MQ below (AQv G L ad cs M') args s 0 0 (inA L ad)) G L ad cs 5 17 [some (.ref (ad 338)), some (.int x1), some (.int x2), none, some (.int x4)] [] M := by
  unfold bX9_strike_1 at h
  refine ax_iload F dX9_strike_17 rfl ?_
  refine ax_aload_n F dX9_strike_19 rfl ?_
  refine ax_get (v := .ref (ad 339)) F (ob_338 hm) rfl inGX9 0 (by decide) rfl kf_X9_7 rfl dX9_strike_20 ?_
  refine ax_iload_n F dX9_strike_23 rfl ?_
  refine ax_iconst (v := (2 : Int32)) F dX9_strike_24 (by decide) ?_
  refine ax_iadd F dX9_strike_25 ?_
  refine ax_iload_n F dX9_strike_26 rfl ?_
  refine ax_iadd F dX9_strike_27 ?_
  obtain ⟨hg, h⟩ := gd_some h
  refine ax_iald F (ar_339 hm) hg dX9_strike_28 ?_
  refine ax_icmp_ge (t := 106) F dX9_strike_29 (by decide) (fun hc => ?_) (fun hc => ?_)
  · have h := it_pos h hc
    obtain ⟨h1, h2⟩ := rt_some h
    subst h2
    exact ax_vret F dX9_strike_106
  · have h := it_neg h hc
    refine ax_aload_n F dX9_strike_32 rfl ?_
    refine ax_get (v := .ref (ad 339)) F (ob_338 hm) rfl inGX9 0 (by decide) rfl kf_X9_7 rfl dX9_strike_33 ?_
    refine ax_iload_n F dX9_strike_36 rfl ?_
    refine ax_bipush (v := (10 : Int32)) F dX9_strike_37 (by decide) ?_
    refine ax_iadd F dX9_strike_39 ?_
    refine ax_iconst (v := (5 : Int32)) F dX9_strike_40 (by decide) ?_
    refine ax_iload_n F dX9_strike_41 rfl ?_
    refine ax_imul F dX9_strike_42 ?_
    refine ax_iadd F dX9_strike_43 ?_
    refine ax_iload F dX9_strike_44 rfl ?_
    refine ax_iadd F dX9_strike_46 ?_
    refine ax_aload_n F dX9_strike_47 rfl ?_
    refine ax_get (v := .ref (ad 339)) F (ob_338 hm) rfl inGX9 0 (by decide) rfl kf_X9_7 rfl dX9_strike_48 ?_
    refine ax_iload_n F dX9_strike_51 rfl ?_
    refine ax_bipush (v := (10 : Int32)) F dX9_strike_52 (by decide) ?_
    refine ax_iadd F dX9_strike_54 ?_
    refine ax_iconst (v := (5 : Int32)) F dX9_strike_55 (by decide) ?_
    refine ax_iload_n F dX9_strike_56 rfl ?_
    refine ax_imul F dX9_strike_57 ?_
    refine ax_iadd F dX9_strike_58 ?_
    refine ax_iload F dX9_strike_59 rfl ?_
    refine ax_iadd F dX9_strike_61 ?_
    refine ax_iconst (v := (1 : Int32)) F dX9_strike_62 (by decide) ?_
    refine ax_iadd F dX9_strike_63 ?_
    obtain ⟨hg, h⟩ := gd_some h
    refine ax_iald F (ar_339 hm) hg dX9_strike_64 ?_
    obtain ⟨hg, h⟩ := gd_some h
    refine ax_iast F (ar_339 hm) hg dX9_strike_65 ?_
    refine ax_aload_n F dX9_strike_66 rfl ?_
    refine ax_get (v := .ref (ad 339)) F (ob_338 hm) rfl inGX9 0 (by decide) rfl kf_X9_7 rfl dX9_strike_67 ?_
    refine ax_iload_n F dX9_strike_70 rfl ?_
    refine ax_bipush (v := (50 : Int32)) F dX9_strike_71 (by decide) ?_
    refine ax_iadd F dX9_strike_73 ?_
    refine ax_iconst (v := (5 : Int32)) F dX9_strike_74 (by decide) ?_
    refine ax_iload_n F dX9_strike_75 rfl ?_
    refine ax_imul F dX9_strike_76 ?_
    refine ax_iadd F dX9_strike_77 ?_
    refine ax_iload F dX9_strike_78 rfl ?_
    refine ax_iadd F dX9_strike_80 ?_
    refine ax_aload_n F dX9_strike_81 rfl ?_
    refine ax_get (v := .ref (ad 339)) F (ob_338 hm) rfl inGX9 0 (by decide) rfl kf_X9_7 rfl dX9_strike_82 ?_
    refine ax_iload_n F dX9_strike_85 rfl ?_
    refine ax_bipush (v := (50 : Int32)) F dX9_strike_86 (by decide) ?_
    refine ax_iadd F dX9_strike_88 ?_
    refine ax_iconst (v := (5 : Int32)) F dX9_strike_89 (by decide) ?_
    refine ax_iload_n F dX9_strike_90 rfl ?_
    refine ax_imul F dX9_strike_91 ?_
    refine ax_iadd F dX9_strike_92 ?_
    refine ax_iload F dX9_strike_93 rfl ?_
    refine ax_iadd F dX9_strike_95 ?_
    refine ax_iconst (v := (1 : Int32)) F dX9_strike_96 (by decide) ?_
    refine ax_iadd F dX9_strike_97 ?_
    obtain ⟨hg, h⟩ := gd_some h
    refine ax_iald F (ar_339 hm) hg dX9_strike_98 ?_
    obtain ⟨hg, h⟩ := gd_some h
    refine ax_iast F (ar_339 hm) hg dX9_strike_99 ?_
    refine ax_iinc (v := (1 : Int32)) F dX9_strike_100 rfl (by decide) (by decide) rfl ?_
    refine ax_goto (t := 17) F dX9_strike_103 (by decide) ?_
    exact IH.2 _ _ _ _ h 
set_option maxRecDepth 100000 in
set_option maxHeartbeats 4000000 in
theorem wX9_strike {p : Program} {l : Launch} {e : Env} {s : State} {m : MethodId} {args : Array Value} {below : List Frame} {meth : Method} {c : Code} {G : va_G} {L : List Nat} {ad : Nat → Nat} {cs : Nat → ClassId} {z : Bool} {zk zv : Nat → Nat} {r : Int32} {M' : Mm} (F : Fx G L ad cs z zk zv p m meth c cX9_strike 5 none s args RX9) (hm : isM L) (n : Nat) : PX9_strike p l e s m args below meth c G L ad cs zk r M' n := by
  induction n with
  | zero => exact ⟨(fun x1 x2 x3 M h => by cases h), (fun x1 x2 x4 M h => by cases h)⟩
  | succ n ih =>
    exact ⟨fun x1 x2 x3 M h  => wX9_strike_0 F hm ih x1 x2 x3 M h ,
      fun x1 x2 x4 M h  => wX9_strike_1 F hm ih x1 x2 x4 M h ⟩
set_option maxRecDepth 100000 in
set_option maxHeartbeats 4000000 in
theorem tX9_strike {l : Launch} {G : va_G} {L : List Nat} {ad : Nat → Nat} {cs : Nat → ClassId} {z : Bool} {zk zv : Nat → Nat} (hinj : inj L ad) (hm : isM L) (x1 : Int32) (x2 : Int32) (x3 : Int32)  (M : Mm) (r : Int32) (M' : Mm) (h : fX9_strike x1 x2 x3 M = some (r, M')) : Met l yX9_strike (tgW yX9_strike cX9_strike 5 none) rmX9_strike (APre G L ad cs z zk zv [.ref (ad 338), .int x1, .int x2, .int x3] M) (AQv G L ad cs M') 0 0 (inA L ad) := by
  refine met_of (Eq.refl true) (Nat.le_of_ble_eq_true rfl) hinj [some (.ref (ad 338)), some (.int x1), some (.int x2), some (.int x3), none] rfl ?_
  intro p e s m below meth c F
  replace F : Fx G L ad cs z zk zv p m meth c cX9_strike 5 none s _ RX9 := F
  obtain ⟨n, hn⟩ := run_ex h
  exact (wX9_strike F hm n).1 x1 x2 x3 M hn 
noncomputable def fX9_replace (x1 : Int32) (x2 : Int32) (x3 : Int32) (x4 : Int32) (x5 : Int32) (M : Mm) : Option Rst := gd (okI (((x1 + (10 : Int32)) + ((5 : Int32) * x2)) + x3) 1080) (gd (okI (((x1 + (50 : Int32)) + ((5 : Int32) * x2)) + x3) 1080) (some ((0 : Int32), (up2 (up2 M 339 (ix (((x1 + (10 : Int32)) + ((5 : Int32) * x2)) + x3)) x4) 339 (ix (((x1 + (50 : Int32)) + ((5 : Int32) * x2)) + x3)) x5))))
def rmX9_replace : Room := { frames := 0, cells := 0, slots := 0, locals := 0 }
theorem kn_X9_replace : yX9_replace.cls ≠ "java/lang/invoke/MethodHandle" ∧ yX9_replace.cls ≠ "java/lang/invoke/VarHandle" ∧ (parseMethodDescriptor yX9_replace.desc).map (fun d => d.parameters.length) = some 5 := by decide +kernel
set_option maxRecDepth 100000 in
set_option maxHeartbeats 4000000 in
theorem tX9_replace {l : Launch} {G : va_G} {L : List Nat} {ad : Nat → Nat} {cs : Nat → ClassId} {z : Bool} {zk zv : Nat → Nat} (hinj : inj L ad) (hm : isM L) (x1 : Int32) (x2 : Int32) (x3 : Int32) (x4 : Int32) (x5 : Int32)  (M : Mm) (r : Int32) (M' : Mm) (h : fX9_replace x1 x2 x3 x4 x5 M = some (r, M')) : Met l yX9_replace (tgW yX9_replace cX9_replace 6 none) rmX9_replace (APre G L ad cs z zk zv [.ref (ad 338), .int x1, .int x2, .int x3, .int x4, .int x5] M) (AQv G L ad cs M') 0 0 (inA L ad) := by
  refine met_of (Eq.refl true) (Nat.le_of_ble_eq_true rfl) hinj [some (.ref (ad 338)), some (.int x1), some (.int x2), some (.int x3), some (.int x4), some (.int x5)] rfl ?_
  intro p e s m below meth c F
  replace F : Fx G L ad cs z zk zv p m meth c cX9_replace 6 none s _ RX9 := F
  unfold fX9_replace at h
  refine ax_aload_n F dX9_replace_0 rfl ?_
  refine ax_get (v := .ref (ad 339)) F (ob_338 hm) rfl inGX9 0 (by decide) rfl kf_X9_7 rfl dX9_replace_1 ?_
  refine ax_iload_n F dX9_replace_4 rfl ?_
  refine ax_bipush (v := (10 : Int32)) F dX9_replace_5 (by decide) ?_
  refine ax_iadd F dX9_replace_7 ?_
  refine ax_iconst (v := (5 : Int32)) F dX9_replace_8 (by decide) ?_
  refine ax_iload_n F dX9_replace_9 rfl ?_
  refine ax_imul F dX9_replace_10 ?_
  refine ax_iadd F dX9_replace_11 ?_
  refine ax_iload_n F dX9_replace_12 rfl ?_
  refine ax_iadd F dX9_replace_13 ?_
  refine ax_iload F dX9_replace_14 rfl ?_
  obtain ⟨hg, h⟩ := gd_some0 h
  refine ax_iast F (ar_339 hm) hg dX9_replace_16 ?_
  refine ax_aload_n F dX9_replace_17 rfl ?_
  refine ax_get (v := .ref (ad 339)) F (ob_338 hm) rfl inGX9 0 (by decide) rfl kf_X9_7 rfl dX9_replace_18 ?_
  refine ax_iload_n F dX9_replace_21 rfl ?_
  refine ax_bipush (v := (50 : Int32)) F dX9_replace_22 (by decide) ?_
  refine ax_iadd F dX9_replace_24 ?_
  refine ax_iconst (v := (5 : Int32)) F dX9_replace_25 (by decide) ?_
  refine ax_iload_n F dX9_replace_26 rfl ?_
  refine ax_imul F dX9_replace_27 ?_
  refine ax_iadd F dX9_replace_28 ?_
  refine ax_iload_n F dX9_replace_29 rfl ?_
  refine ax_iadd F dX9_replace_30 ?_
  refine ax_iload F dX9_replace_31 rfl ?_
  obtain ⟨hg, h⟩ := gd_some0 h
  refine ax_iast F (ar_339 hm) hg dX9_replace_33 ?_
  obtain ⟨h1, h2⟩ := rt_some0 h
  subst h2
  exact ax_vret F dX9_replace_34
noncomputable def fX9_write (x1 : Int32) (M : Mm) : Option Rst := cl (fX9_in (x1).toInt64 (0 : Int64) (255 : Int64) M) (fun r1 M1 => if r1 = 0 then (some ((-3 : Int32), M1)) else (if (M1 338 8) = (200 : Int32) then (some ((-5 : Int32), M1)) else (gd (okI (M1 338 8) 200) (some (((up2 (up2 M1 341 (ix (M1 338 8)) x1) 338 8 (((up2 M1 341 (ix (M1 338 8)) x1) 338 8) + (1 : Int32))) 338 8), (up2 (up2 M1 341 (ix (M1 338 8)) x1) 338 8 (((up2 M1 341 (ix (M1 338 8)) x1) 338 8) + (1 : Int32))))))))
def rmX9_write : Room := { frames := 1, cells := 0, slots := 0, locals := 25 }
theorem kn_X9_write : yX9_write.cls ≠ "java/lang/invoke/MethodHandle" ∧ yX9_write.cls ≠ "java/lang/invoke/VarHandle" ∧ (parseMethodDescriptor yX9_write.desc).map (fun d => d.parameters.length) = some 1 := by decide +kernel
set_option maxRecDepth 100000 in
set_option maxHeartbeats 4000000 in
theorem tX9_write {l : Launch} {G : va_G} {L : List Nat} {ad : Nat → Nat} {cs : Nat → ClassId} {z : Bool} {zk zv : Nat → Nat} (hinj : inj L ad) (hm : isM L) (x1 : Int32)  (M : Mm) (r : Int32) (M' : Mm) (h : fX9_write x1 M = some (r, M')) : Met l yX9_write (tgW yX9_write cX9_write 2 (some .int)) rmX9_write (APre G L ad cs z zk zv [.ref (ad 338), .int x1] M) (AQi G L ad cs r M') 0 0 (inA L ad) := by
  refine met_of (Eq.refl true) (Nat.le_of_ble_eq_true rfl) hinj [some (.ref (ad 338)), some (.int x1)] rfl ?_
  intro p e s m below meth c F
  replace F : Fx G L ad cs z zk zv p m meth c cX9_write 2 (some .int) s _ RX9 := F
  unfold fX9_write at h
  refine ax_iload_n F dX9_write_0 rfl ?_
  refine ax_i2l F dX9_write_1 ?_
  refine ax_lconst (v := (0 : Int64)) F dX9_write_2 (by decide) ?_
  refine ax_ldc2 (v := (255 : Int64)) F kk_X9_64 dX9_write_3 ?_
  obtain ⟨r1, M1, hq1, h⟩ := cq_some0 h
  refine ax_callSi (As := [.long (x1).toInt64, .long (0 : Int64), .long (255 : Int64)]) (st := []) F (tX9_in F.2.2.2.2.2.2.1 hm _ _ _  _ _ _ hq1) kc_X9_in kz_X9 kt_X9_in km_X9_66 ⟨kn_X9_in, rfl, rfl, Nat.le_of_ble_eq_true rfl, Nat.le_of_ble_eq_true rfl⟩ rfl (Nat.le_of_ble_eq_true rfl) dX9_write_6 ?_
  refine ax_if_ne (t := 15) F dX9_write_9 (by decide) (fun hc => ?_) (fun hc => ?_)
  · have h := it_neg0 h hc
    refine ax_aload_n F dX9_write_15 rfl ?_
    refine ax_get (v := .int (M1 338 8)) F (ob_338 hm) rfl inGX9 8 (by decide) rfl kf_X9_70 rfl dX9_write_16 ?_
    refine ax_sipush (v := (200 : Int32)) F dX9_write_19 (by decide) ?_
    refine ax_icmp_ne (t := 28) F dX9_write_22 (by decide) (fun hc => ?_) (fun hc => ?_)
    · have h := it_neg0 h hc
      refine ax_aload_n F dX9_write_28 rfl ?_
      refine ax_get (v := .ref (ad 341)) F (ob_338 hm) rfl inGX9 7 (by decide) rfl kf_X9_17 rfl dX9_write_29 ?_
      refine ax_aload_n F dX9_write_32 rfl ?_
      refine ax_get (v := .int (M1 338 8)) F (ob_338 hm) rfl inGX9 8 (by decide) rfl kf_X9_70 rfl dX9_write_33 ?_
      refine ax_iload_n F dX9_write_36 rfl ?_
      obtain ⟨hg, h⟩ := gd_some0 h
      refine ax_iast F (ar_341 hm) hg dX9_write_37 ?_
      refine ax_aload_n F dX9_write_38 rfl ?_
      refine ax_dup F dX9_write_39 rfl ?_
      refine ax_get (v := .int ((up2 M1 341 (ix (M1 338 8)) x1) 338 8)) F (ob_338 hm) rfl inGX9 8 (by decide) rfl kf_X9_70 rfl dX9_write_40 ?_
      refine ax_iconst (v := (1 : Int32)) F dX9_write_43 (by decide) ?_
      refine ax_iadd F dX9_write_44 ?_
      refine ax_put (ty := .int) F (ob_338 hm) rfl inGX9 tyX9 tyX9_ok nmX9 8 (by decide) rfl kf_X9_70 (by decide) rfl rfl (Nat.le_of_ble_eq_true rfl) rfl dX9_write_45 ?_
      refine ax_aload_n F dX9_write_48 rfl ?_
      refine ax_get (v := .int ((up2 (up2 M1 341 (ix (M1 338 8)) x1) 338 8 (((up2 M1 341 (ix (M1 338 8)) x1) 338 8) + (1 : Int32))) 338 8)) F (ob_338 hm) rfl inGX9 8 (by decide) rfl kf_X9_70 rfl dX9_write_49 ?_
      obtain ⟨h1, h2⟩ := rt_some0 h
      subst h1; subst h2
      exact ax_iret F dX9_write_52
    · have h := it_pos0 h hc
      refine ax_bipush (v := (-5 : Int32)) F dX9_write_25 (by decide) ?_
      obtain ⟨h1, h2⟩ := rt_some0 h
      subst h1; subst h2
      exact ax_iret F dX9_write_27
  · have h := it_pos0 h hc
    refine ax_bipush (v := (-3 : Int32)) F dX9_write_12 (by decide) ?_
    obtain ⟨h1, h2⟩ := rt_some0 h
    subst h1; subst h2
    exact ax_iret F dX9_write_14
noncomputable def fX9_erase  (M : Mm) : Option Rst := some ((M 338 8), (up2 M 338 8 (0 : Int32)))
def rmX9_erase : Room := { frames := 0, cells := 0, slots := 0, locals := 0 }
theorem kn_X9_erase : yX9_erase.cls ≠ "java/lang/invoke/MethodHandle" ∧ yX9_erase.cls ≠ "java/lang/invoke/VarHandle" ∧ (parseMethodDescriptor yX9_erase.desc).map (fun d => d.parameters.length) = some 0 := by decide +kernel
set_option maxRecDepth 100000 in
set_option maxHeartbeats 4000000 in
theorem tX9_erase {l : Launch} {G : va_G} {L : List Nat} {ad : Nat → Nat} {cs : Nat → ClassId} {z : Bool} {zk zv : Nat → Nat} (hinj : inj L ad) (hm : isM L)   (M : Mm) (r : Int32) (M' : Mm) (h : fX9_erase  M = some (r, M')) : Met l yX9_erase (tgW yX9_erase cX9_erase 2 (some .int)) rmX9_erase (APre G L ad cs z zk zv [.ref (ad 338)] M) (AQi G L ad cs r M') 0 0 (inA L ad) := by
  refine met_of (Eq.refl true) (Nat.le_of_ble_eq_true rfl) hinj [some (.ref (ad 338)), none] rfl ?_
  intro p e s m below meth c F
  replace F : Fx G L ad cs z zk zv p m meth c cX9_erase 2 (some .int) s _ RX9 := F
  unfold fX9_erase at h
  refine ax_aload_n F dX9_erase_0 rfl ?_
  refine ax_get (v := .int (M 338 8)) F (ob_338 hm) rfl inGX9 8 (by decide) rfl kf_X9_70 rfl dX9_erase_1 ?_
  refine ax_istore_n F dX9_erase_4 (by decide) rfl ?_
  refine ax_aload_n F dX9_erase_5 rfl ?_
  refine ax_iconst (v := (0 : Int32)) F dX9_erase_6 (by decide) ?_
  refine ax_put (ty := .int) F (ob_338 hm) rfl inGX9 tyX9 tyX9_ok nmX9 8 (by decide) rfl kf_X9_70 (by decide) rfl rfl (Nat.le_of_ble_eq_true rfl) rfl dX9_erase_7 ?_
  refine ax_iload_n F dX9_erase_10 rfl ?_
  obtain ⟨h1, h2⟩ := rt_some0 h
  subst h1; subst h2
  exact ax_iret F dX9_erase_11
noncomputable def fX9_isSmall (x0 : Int32) (M : Mm) : Option Rst := cl (fX9_in (x0).toInt64 (97 : Int64) (122 : Int64) M) (fun r1 M1 => gd (okZ r1) (some (r1, M1)))
def rmX9_isSmall : Room := { frames := 1, cells := 0, slots := 0, locals := 25 }
theorem kn_X9_isSmall : yX9_isSmall.cls ≠ "java/lang/invoke/MethodHandle" ∧ yX9_isSmall.cls ≠ "java/lang/invoke/VarHandle" ∧ (parseMethodDescriptor yX9_isSmall.desc).map (fun d => d.parameters.length) = some 1 := by decide +kernel
set_option maxRecDepth 100000 in
set_option maxHeartbeats 4000000 in
theorem tX9_isSmall {l : Launch} {G : va_G} {L : List Nat} {ad : Nat → Nat} {cs : Nat → ClassId} {z : Bool} {zk zv : Nat → Nat} (hinj : inj L ad) (hm : isM L) (x0 : Int32)  (M : Mm) (r : Int32) (M' : Mm) (h : fX9_isSmall x0 M = some (r, M')) : Met l yX9_isSmall (tgW yX9_isSmall cX9_isSmall 1 (some .boolean)) rmX9_isSmall (APre G L ad cs z zk zv [.int x0] M) (AQi G L ad cs r M') 0 0 (inA L ad) := by
  refine met_of (Eq.refl true) (Nat.le_of_ble_eq_true rfl) hinj [some (.int x0)] rfl ?_
  intro p e s m below meth c F
  replace F : Fx G L ad cs z zk zv p m meth c cX9_isSmall 1 (some .boolean) s _ RX9 := F
  unfold fX9_isSmall at h
  refine ax_iload_n F dX9_isSmall_0 rfl ?_
  refine ax_i2l F dX9_isSmall_1 ?_
  refine ax_ldc2 (v := (97 : Int64)) F kk_X9_73 dX9_isSmall_2 ?_
  refine ax_ldc2 (v := (122 : Int64)) F kk_X9_75 dX9_isSmall_5 ?_
  obtain ⟨r1, M1, hq1, h⟩ := cq_some0 h
  refine ax_callSi (As := [.long (x0).toInt64, .long (97 : Int64), .long (122 : Int64)]) (st := []) F (tX9_in F.2.2.2.2.2.2.1 hm _ _ _  _ _ _ hq1) kc_X9_in kz_X9 kt_X9_in km_X9_66 ⟨kn_X9_in, rfl, rfl, Nat.le_of_ble_eq_true rfl, Nat.le_of_ble_eq_true rfl⟩ rfl (Nat.le_of_ble_eq_true rfl) dX9_isSmall_8 ?_
  obtain ⟨hz, h⟩ := gd_some0 h
  obtain ⟨h1, h2⟩ := rt_some0 h
  subst h1; subst h2
  exact ax_zret F hz dX9_isSmall_11
noncomputable def fX9_isDigit (x0 : Int32) (M : Mm) : Option Rst := cl (fX9_in (x0).toInt64 (48 : Int64) (57 : Int64) M) (fun r1 M1 => gd (okZ r1) (some (r1, M1)))
def rmX9_isDigit : Room := { frames := 1, cells := 0, slots := 0, locals := 25 }
theorem kn_X9_isDigit : yX9_isDigit.cls ≠ "java/lang/invoke/MethodHandle" ∧ yX9_isDigit.cls ≠ "java/lang/invoke/VarHandle" ∧ (parseMethodDescriptor yX9_isDigit.desc).map (fun d => d.parameters.length) = some 1 := by decide +kernel
set_option maxRecDepth 100000 in
set_option maxHeartbeats 4000000 in
theorem tX9_isDigit {l : Launch} {G : va_G} {L : List Nat} {ad : Nat → Nat} {cs : Nat → ClassId} {z : Bool} {zk zv : Nat → Nat} (hinj : inj L ad) (hm : isM L) (x0 : Int32)  (M : Mm) (r : Int32) (M' : Mm) (h : fX9_isDigit x0 M = some (r, M')) : Met l yX9_isDigit (tgW yX9_isDigit cX9_isDigit 1 (some .boolean)) rmX9_isDigit (APre G L ad cs z zk zv [.int x0] M) (AQi G L ad cs r M') 0 0 (inA L ad) := by
  refine met_of (Eq.refl true) (Nat.le_of_ble_eq_true rfl) hinj [some (.int x0)] rfl ?_
  intro p e s m below meth c F
  replace F : Fx G L ad cs z zk zv p m meth c cX9_isDigit 1 (some .boolean) s _ RX9 := F
  unfold fX9_isDigit at h
  refine ax_iload_n F dX9_isDigit_0 rfl ?_
  refine ax_i2l F dX9_isDigit_1 ?_
  refine ax_ldc2 (v := (48 : Int64)) F kk_X9_77 dX9_isDigit_2 ?_
  refine ax_ldc2 (v := (57 : Int64)) F kk_X9_79 dX9_isDigit_5 ?_
  obtain ⟨r1, M1, hq1, h⟩ := cq_some0 h
  refine ax_callSi (As := [.long (x0).toInt64, .long (48 : Int64), .long (57 : Int64)]) (st := []) F (tX9_in F.2.2.2.2.2.2.1 hm _ _ _  _ _ _ hq1) kc_X9_in kz_X9 kt_X9_in km_X9_66 ⟨kn_X9_in, rfl, rfl, Nat.le_of_ble_eq_true rfl, Nat.le_of_ble_eq_true rfl⟩ rfl (Nat.le_of_ble_eq_true rfl) dX9_isDigit_8 ?_
  obtain ⟨hz, h⟩ := gd_some0 h
  obtain ⟨h1, h2⟩ := rt_some0 h
  subst h1; subst h2
  exact ax_zret F hz dX9_isDigit_11
def rmX9_nextToken : Room := { frames := 2, cells := 0, slots := 0, locals := 45 }
theorem kn_X9_nextToken : yX9_nextToken.cls ≠ "java/lang/invoke/MethodHandle" ∧ yX9_nextToken.cls ≠ "java/lang/invoke/VarHandle" ∧ (parseMethodDescriptor yX9_nextToken.desc).map (fun d => d.parameters.length) = some 0 := by decide +kernel
noncomputable def bX9_nextToken_0  (M : Mm) : Option (Sst ⊕ Rst) := some (.inl (1, [], [], (up2 M 338 11 (M 338 12))))
noncomputable def bX9_nextToken_1  (M : Mm) : Option (Sst ⊕ Rst) := if (M 338 8) ≤ (M 338 11) then (some (.inl (2, [], [], M))) else (gd (okI (M 338 11) 200) (if (M 341 (ix (M 338 11))) = (32 : Int32) then (some (.inl (1, [], [], (up2 M 338 11 ((M 338 11) + (1 : Int32)))))) else (some (.inl (2, [], [], M)))))
noncomputable def bX9_nextToken_2  (M : Mm) : Option (Sst ⊕ Rst) := if (M 338 8) ≤ (M 338 11) then (some (.inl (3, [], [(M 338 11)], M))) else (some (.inl (3, [], [((M 338 11) + (1 : Int32))], M)))
noncomputable def bX9_nextToken_3 (s0 : Int32) (M : Mm) : Option (Sst ⊕ Rst) := if ((up2 M 338 12 s0) 338 8) ≤ ((up2 M 338 12 s0) 338 11) then (some (.inl (5, [], [], (up2 M 338 12 s0)))) else (gd (okI ((up2 M 338 12 s0) 338 11) 200) (cl (fX9_isSmall ((up2 M 338 12 s0) 341 (ix ((up2 M 338 12 s0) 338 11))) (up2 M 338 12 s0)) (fun r1 M1 => if r1 = 0 then (some (.inl (5, [], [], M1))) else (some (.inl (4, [], [], M1))))))
noncomputable def bX9_nextToken_4  (M : Mm) : Option (Sst ⊕ Rst) := if (M 338 8) ≤ (M 338 12) then (some (.inr ((0 : Int32), M))) else (gd (okI (M 338 12) 200) (cl (fX9_isSmall (M 341 (ix (M 338 12))) M) (fun r1 M1 => if r1 = 0 then (some (.inr ((0 : Int32), M1))) else (some (.inl (4, [], [], (up2 M1 338 12 ((M1 338 12) + (1 : Int32)))))))))
noncomputable def bX9_nextToken_5  (M : Mm) : Option (Sst ⊕ Rst) := if (M 338 8) ≤ (M 338 11) then (some (.inr ((0 : Int32), M))) else (gd (okI (M 338 11) 200) (cl (fX9_isDigit (M 341 (ix (M 338 11))) M) (fun r1 M1 => if r1 = 0 then (some (.inr ((0 : Int32), M1))) else (some (.inl (6, [], [], M1))))))
noncomputable def bX9_nextToken_6  (M : Mm) : Option (Sst ⊕ Rst) := if (M 338 8) ≤ (M 338 12) then (some (.inr ((0 : Int32), M))) else (gd (okI (M 338 12) 200) (cl (fX9_isDigit (M 341 (ix (M 338 12))) M) (fun r1 M1 => if r1 = 0 then (some (.inr ((0 : Int32), M1))) else (some (.inl (6, [], [], (up2 M1 338 12 ((M1 338 12) + (1 : Int32)))))))))
noncomputable def stX9_nextToken : Sst → Option (Sst ⊕ Rst) := fun q => match q.1 with
  | 0 => bX9_nextToken_0  q.2.2.2
  | 1 => bX9_nextToken_1  q.2.2.2
  | 2 => bX9_nextToken_2  q.2.2.2
  | 3 => bX9_nextToken_3 (q.2.2.1.getD 0 0) q.2.2.2
  | 4 => bX9_nextToken_4  q.2.2.2
  | 5 => bX9_nextToken_5  q.2.2.2
  | 6 => bX9_nextToken_6  q.2.2.2
  | _ => none
noncomputable def fX9_nextToken  (M : Mm) : Option Rst := run stX9_nextToken (0, [], [], M)
def PX9_nextToken (p : Program) (l : Launch) (e : Env) (s : State) (m : MethodId) (args : Array Value) (below : List Frame) (meth : Method) (c : Code) (G : va_G) (L : List Nat) (ad : Nat → Nat) (cs : Nat → ClassId) (zk : Nat → Nat) (r : Int32) (M' : Mm) (n : Nat) : Prop := (∀  (M : Mm), itr stX9_nextToken n (0, [], [], M) = some (r, M') → AW p l e rmX9_nextToken s m args below meth c (MQ below (AQv G L ad cs M') args s 0 0 (inA L ad)) G L ad cs 1 0 [some (.ref (ad 338))] [] M) ∧ (∀  (M : Mm), itr stX9_nextToken n (1, [], [], M) = some (r, M') → AW p l e rmX9_nextToken s m args below meth c (MQ below (AQv G L ad cs M') args s 0 0 (inA L ad)) G L ad cs 1 8 [some (.ref (ad 338))] [] M) ∧ (∀  (M : Mm), itr stX9_nextToken n (2, [], [], M) = some (r, M') → AW p l e rmX9_nextToken s m args below meth c (MQ below (AQv G L ad cs M') args s 0 0 (inA L ad)) G L ad cs 1 46 [some (.ref (ad 338))] [] M) ∧ (∀ (s0 : Int32) (M : Mm), itr stX9_nextToken n (3, [], [s0], M) = some (r, M') → AW p l e rmX9_nextToken s m args below meth c (MQ below (AQv G L ad cs M') args s 0 0 (inA L ad)) G L ad cs 1 71 [some (.ref (ad 338))] [.int s0, .ref (ad 338)] M) ∧ (∀  (M : Mm), itr stX9_nextToken n (4, [], [], M) = some (r, M') → AW p l e rmX9_nextToken s m args below meth c (MQ below (AQv G L ad cs M') args s 0 0 (inA L ad)) G L ad cs 1 100 [some (.ref (ad 338))] [] M) ∧ (∀  (M : Mm), itr stX9_nextToken n (5, [], [], M) = some (r, M') → AW p l e rmX9_nextToken s m args below meth c (MQ below (AQv G L ad cs M') args s 0 0 (inA L ad)) G L ad cs 1 139 [some (.ref (ad 338))] [] M) ∧ (∀  (M : Mm), itr stX9_nextToken n (6, [], [], M) = some (r, M') → AW p l e rmX9_nextToken s m args below meth c (MQ below (AQv G L ad cs M') args s 0 0 (inA L ad)) G L ad cs 1 165 [some (.ref (ad 338))] [] M)
set_option maxRecDepth 100000 in
set_option maxHeartbeats 4000000 in
theorem wX9_nextToken_0 {p : Program} {l : Launch} {e : Env} {s : State} {m : MethodId} {args : Array Value} {below : List Frame} {meth : Method} {c : Code} {G : va_G} {L : List Nat} {ad : Nat → Nat} {cs : Nat → ClassId} {z : Bool} {zk zv : Nat → Nat} {r : Int32} {M' : Mm} {n : Nat} (F : Fx G L ad cs z zk zv p m meth c cX9_nextToken 1 none s args RX9) (hm : isM L) (IH : PX9_nextToken p l e s m args below meth c G L ad cs zk r M' n)  (M : Mm) (h : (bX9_nextToken_0  M).bind (fun q => match q with | .inl s' => itr stX9_nextToken n s' | .inr r => some r) = some (r, M'))  : AW p l e rmX9_nextToken s m args below meth c (MQ below (AQv G L ad cs M') args s 0 0 (inA L ad)) G L ad cs 1 0 [some (.ref (ad 338))] [] M := by
  unfold bX9_nextToken_0 at h
  refine ax_aload_n F dX9_nextToken_0 rfl ?_
  refine ax_aload_n F dX9_nextToken_1 rfl ?_
  refine ax_get (v := .int (M 338 12)) F (ob_338 hm) rfl inGX9 12 (by decide) rfl kf_X9_81 rfl dX9_nextToken_2 ?_
  refine ax_put (ty := .int) F (ob_338 hm) rfl inGX9 tyX9 tyX9_ok nmX9 11 (by decide) rfl kf_X9_84 (by decide) rfl rfl (Nat.le_of_ble_eq_true rfl) rfl dX9_nextToken_5 ?_
  exact IH.2.1  _ h 
set_option maxRecDepth 100000 in
set_option maxHeartbeats 4000000 in
theorem wX9_nextToken_1 {p : Program} {l : Launch} {e : Env} {s : State} {m : MethodId} {args : Array Value} {below : List Frame} {meth : Method} {c : Code} {G : va_G} {L : List Nat} {ad : Nat → Nat} {cs : Nat → ClassId} {z : Bool} {zk zv : Nat → Nat} {r : Int32} {M' : Mm} {n : Nat} (F : Fx G L ad cs z zk zv p m meth c cX9_nextToken 1 none s args RX9) (hm : isM L) (IH : PX9_nextToken p l e s m args below meth c G L ad cs zk r M' n)  (M : Mm) (h : (bX9_nextToken_1  M).bind (fun q => match q with | .inl s' => itr stX9_nextToken n s' | .inr r => some r) = some (r, M'))  : AW p l e rmX9_nextToken s m args below meth c (MQ below (AQv G L ad cs M') args s 0 0 (inA L ad)) G L ad cs 1 8 [some (.ref (ad 338))] [] M := by
  unfold bX9_nextToken_1 at h
  refine ax_aload_n F dX9_nextToken_8 rfl ?_
  refine ax_get (v := .int (M 338 11)) F (ob_338 hm) rfl inGX9 11 (by decide) rfl kf_X9_84 rfl dX9_nextToken_9 ?_
  refine ax_aload_n F dX9_nextToken_12 rfl ?_
  refine ax_get (v := .int (M 338 8)) F (ob_338 hm) rfl inGX9 8 (by decide) rfl kf_X9_70 rfl dX9_nextToken_13 ?_
  refine ax_icmp_ge (t := 46) F dX9_nextToken_16 (by decide) (fun hc => ?_) (fun hc => ?_)
  · have h := it_pos h hc
    exact IH.2.2.1  _ h 
  · have h := it_neg h hc
    refine ax_aload_n F dX9_nextToken_19 rfl ?_
    refine ax_get (v := .ref (ad 341)) F (ob_338 hm) rfl inGX9 7 (by decide) rfl kf_X9_17 rfl dX9_nextToken_20 ?_
    refine ax_aload_n F dX9_nextToken_23 rfl ?_
    refine ax_get (v := .int (M 338 11)) F (ob_338 hm) rfl inGX9 11 (by decide) rfl kf_X9_84 rfl dX9_nextToken_24 ?_
    obtain ⟨hg, h⟩ := gd_some h
    refine ax_iald F (ar_341 hm) hg dX9_nextToken_27 ?_
    refine ax_bipush (v := (32 : Int32)) F dX9_nextToken_28 (by decide) ?_
    refine ax_icmp_ne (t := 46) F dX9_nextToken_30 (by decide) (fun hc => ?_) (fun hc => ?_)
    · have h := it_neg h hc
      exact IH.2.2.1  _ h 
    · have h := it_pos h hc
      refine ax_aload_n F dX9_nextToken_33 rfl ?_
      refine ax_dup F dX9_nextToken_34 rfl ?_
      refine ax_get (v := .int (M 338 11)) F (ob_338 hm) rfl inGX9 11 (by decide) rfl kf_X9_84 rfl dX9_nextToken_35 ?_
      refine ax_iconst (v := (1 : Int32)) F dX9_nextToken_38 (by decide) ?_
      refine ax_iadd F dX9_nextToken_39 ?_
      refine ax_put (ty := .int) F (ob_338 hm) rfl inGX9 tyX9 tyX9_ok nmX9 11 (by decide) rfl kf_X9_84 (by decide) rfl rfl (Nat.le_of_ble_eq_true rfl) rfl dX9_nextToken_40 ?_
      refine ax_goto (t := 8) F dX9_nextToken_43 (by decide) ?_
      exact IH.2.1  _ h 
set_option maxRecDepth 100000 in
set_option maxHeartbeats 4000000 in
theorem wX9_nextToken_2 {p : Program} {l : Launch} {e : Env} {s : State} {m : MethodId} {args : Array Value} {below : List Frame} {meth : Method} {c : Code} {G : va_G} {L : List Nat} {ad : Nat → Nat} {cs : Nat → ClassId} {z : Bool} {zk zv : Nat → Nat} {r : Int32} {M' : Mm} {n : Nat} (F : Fx G L ad cs z zk zv p m meth c cX9_nextToken 1 none s args RX9) (hm : isM L) (IH : PX9_nextToken p l e s m args below meth c G L ad cs zk r M' n)  (M : Mm) (h : (bX9_nextToken_2  M).bind (fun q => match q with | .inl s' => itr stX9_nextToken n s' | .inr r => some r) = some (r, M'))  : AW p l e rmX9_nextToken s m args below meth c (MQ below (AQv G L ad cs M') args s 0 0 (inA L ad)) G L ad cs 1 46 [some (.ref (ad 338))] [] M := by
  unfold bX9_nextToken_2 at h
  refine ax_aload_n F dX9_nextToken_46 rfl ?_
  refine ax_aload_n F dX9_nextToken_47 rfl ?_
  refine ax_get (v := .int (M 338 11)) F (ob_338 hm) rfl inGX9 11 (by decide) rfl kf_X9_84 rfl dX9_nextToken_48 ?_
  refine ax_aload_n F dX9_nextToken_51 rfl ?_
  refine ax_get (v := .int (M 338 8)) F (ob_338 hm) rfl inGX9 8 (by decide) rfl kf_X9_70 rfl dX9_nextToken_52 ?_
  refine ax_icmp_ge (t := 67) F dX9_nextToken_55 (by decide) (fun hc => ?_) (fun hc => ?_)
  · have h := it_pos h hc
    refine ax_aload_n F dX9_nextToken_67 rfl ?_
    refine ax_get (v := .int (M 338 11)) F (ob_338 hm) rfl inGX9 11 (by decide) rfl kf_X9_84 rfl dX9_nextToken_68 ?_
    exact IH.2.2.2.1 _ _ h 
  · have h := it_neg h hc
    refine ax_aload_n F dX9_nextToken_58 rfl ?_
    refine ax_get (v := .int (M 338 11)) F (ob_338 hm) rfl inGX9 11 (by decide) rfl kf_X9_84 rfl dX9_nextToken_59 ?_
    refine ax_iconst (v := (1 : Int32)) F dX9_nextToken_62 (by decide) ?_
    refine ax_iadd F dX9_nextToken_63 ?_
    refine ax_goto (t := 71) F dX9_nextToken_64 (by decide) ?_
    exact IH.2.2.2.1 _ _ h 
set_option maxRecDepth 100000 in
set_option maxHeartbeats 4000000 in
theorem wX9_nextToken_3 {p : Program} {l : Launch} {e : Env} {s : State} {m : MethodId} {args : Array Value} {below : List Frame} {meth : Method} {c : Code} {G : va_G} {L : List Nat} {ad : Nat → Nat} {cs : Nat → ClassId} {z : Bool} {zk zv : Nat → Nat} {r : Int32} {M' : Mm} {n : Nat} (F : Fx G L ad cs z zk zv p m meth c cX9_nextToken 1 none s args RX9) (hm : isM L) (IH : PX9_nextToken p l e s m args below meth c G L ad cs zk r M' n) (s0 : Int32) (M : Mm) (h : (bX9_nextToken_3 s0 M).bind (fun q => match q with | .inl s' => itr stX9_nextToken n s' | .inr r => some r) = some (r, M'))  : AW p l e rmX9_nextToken s m args below meth c (MQ below (AQv G L ad cs M') args s 0 0 (inA L ad)) G L ad cs 1 71 [some (.ref (ad 338))] [.int s0, .ref (ad 338)] M := by
  unfold bX9_nextToken_3 at h
  refine ax_put (ty := .int) F (ob_338 hm) rfl inGX9 tyX9 tyX9_ok nmX9 12 (by decide) rfl kf_X9_81 (by decide) rfl rfl (Nat.le_of_ble_eq_true rfl) rfl dX9_nextToken_71 ?_
  refine ax_aload_n F dX9_nextToken_74 rfl ?_
  refine ax_get (v := .int ((up2 M 338 12 s0) 338 11)) F (ob_338 hm) rfl inGX9 11 (by decide) rfl kf_X9_84 rfl dX9_nextToken_75 ?_
  refine ax_aload_n F dX9_nextToken_78 rfl ?_
  refine ax_get (v := .int ((up2 M 338 12 s0) 338 8)) F (ob_338 hm) rfl inGX9 8 (by decide) rfl kf_X9_70 rfl dX9_nextToken_79 ?_
  refine ax_icmp_ge (t := 139) F dX9_nextToken_82 (by decide) (fun hc => ?_) (fun hc => ?_)
  · have h := it_pos h hc
    exact IH.2.2.2.2.2.1  _ h 
  · have h := it_neg h hc
    refine ax_aload_n F dX9_nextToken_85 rfl ?_
    refine ax_get (v := .ref (ad 341)) F (ob_338 hm) rfl inGX9 7 (by decide) rfl kf_X9_17 rfl dX9_nextToken_86 ?_
    refine ax_aload_n F dX9_nextToken_89 rfl ?_
    refine ax_get (v := .int ((up2 M 338 12 s0) 338 11)) F (ob_338 hm) rfl inGX9 11 (by decide) rfl kf_X9_84 rfl dX9_nextToken_90 ?_
    obtain ⟨hg, h⟩ := gd_some h
    refine ax_iald F (ar_341 hm) hg dX9_nextToken_93 ?_
    obtain ⟨r1, M1, hq1, h⟩ := cq_some h
    refine ax_callSi (As := [.int ((up2 M 338 12 s0) 341 (ix ((up2 M 338 12 s0) 338 11)))]) (st := []) F (tX9_isSmall F.2.2.2.2.2.2.1 hm _  _ _ _ hq1) kc_X9_isSmall kz_X9 kt_X9_isSmall km_X9_87 ⟨kn_X9_isSmall, rfl, rfl, Nat.le_of_ble_eq_true rfl, Nat.le_of_ble_eq_true rfl⟩ rfl (Nat.le_of_ble_eq_true rfl) dX9_nextToken_94 ?_
    refine ax_if_eq (t := 139) F dX9_nextToken_97 (by decide) (fun hc => ?_) (fun hc => ?_)
    · have h := it_pos h hc
      exact IH.2.2.2.2.2.1  _ h 
    · have h := it_neg h hc
      exact IH.2.2.2.2.1  _ h 
set_option maxRecDepth 100000 in
set_option maxHeartbeats 4000000 in
theorem wX9_nextToken_4 {p : Program} {l : Launch} {e : Env} {s : State} {m : MethodId} {args : Array Value} {below : List Frame} {meth : Method} {c : Code} {G : va_G} {L : List Nat} {ad : Nat → Nat} {cs : Nat → ClassId} {z : Bool} {zk zv : Nat → Nat} {r : Int32} {M' : Mm} {n : Nat} (F : Fx G L ad cs z zk zv p m meth c cX9_nextToken 1 none s args RX9) (hm : isM L) (IH : PX9_nextToken p l e s m args below meth c G L ad cs zk r M' n)  (M : Mm) (h : (bX9_nextToken_4  M).bind (fun q => match q with | .inl s' => itr stX9_nextToken n s' | .inr r => some r) = some (r, M'))  : AW p l e rmX9_nextToken s m args below meth c (MQ below (AQv G L ad cs M') args s 0 0 (inA L ad)) G L ad cs 1 100 [some (.ref (ad 338))] [] M := by
  unfold bX9_nextToken_4 at h
  refine ax_aload_n F dX9_nextToken_100 rfl ?_
  refine ax_get (v := .int (M 338 12)) F (ob_338 hm) rfl inGX9 12 (by decide) rfl kf_X9_81 rfl dX9_nextToken_101 ?_
  refine ax_aload_n F dX9_nextToken_104 rfl ?_
  refine ax_get (v := .int (M 338 8)) F (ob_338 hm) rfl inGX9 8 (by decide) rfl kf_X9_70 rfl dX9_nextToken_105 ?_
  refine ax_icmp_ge (t := 204) F dX9_nextToken_108 (by decide) (fun hc => ?_) (fun hc => ?_)
  · have h := it_pos h hc
    obtain ⟨h1, h2⟩ := rt_some h
    subst h2
    exact ax_vret F dX9_nextToken_204
  · have h := it_neg h hc
    refine ax_aload_n F dX9_nextToken_111 rfl ?_
    refine ax_get (v := .ref (ad 341)) F (ob_338 hm) rfl inGX9 7 (by decide) rfl kf_X9_17 rfl dX9_nextToken_112 ?_
    refine ax_aload_n F dX9_nextToken_115 rfl ?_
    refine ax_get (v := .int (M 338 12)) F (ob_338 hm) rfl inGX9 12 (by decide) rfl kf_X9_81 rfl dX9_nextToken_116 ?_
    obtain ⟨hg, h⟩ := gd_some h
    refine ax_iald F (ar_341 hm) hg dX9_nextToken_119 ?_
    obtain ⟨r1, M1, hq1, h⟩ := cq_some h
    refine ax_callSi (As := [.int (M 341 (ix (M 338 12)))]) (st := []) F (tX9_isSmall F.2.2.2.2.2.2.1 hm _  _ _ _ hq1) kc_X9_isSmall kz_X9 kt_X9_isSmall km_X9_87 ⟨kn_X9_isSmall, rfl, rfl, Nat.le_of_ble_eq_true rfl, Nat.le_of_ble_eq_true rfl⟩ rfl (Nat.le_of_ble_eq_true rfl) dX9_nextToken_120 ?_
    refine ax_if_eq (t := 204) F dX9_nextToken_123 (by decide) (fun hc => ?_) (fun hc => ?_)
    · have h := it_pos h hc
      obtain ⟨h1, h2⟩ := rt_some h
      subst h2
      exact ax_vret F dX9_nextToken_204
    · have h := it_neg h hc
      refine ax_aload_n F dX9_nextToken_126 rfl ?_
      refine ax_dup F dX9_nextToken_127 rfl ?_
      refine ax_get (v := .int (M1 338 12)) F (ob_338 hm) rfl inGX9 12 (by decide) rfl kf_X9_81 rfl dX9_nextToken_128 ?_
      refine ax_iconst (v := (1 : Int32)) F dX9_nextToken_131 (by decide) ?_
      refine ax_iadd F dX9_nextToken_132 ?_
      refine ax_put (ty := .int) F (ob_338 hm) rfl inGX9 tyX9 tyX9_ok nmX9 12 (by decide) rfl kf_X9_81 (by decide) rfl rfl (Nat.le_of_ble_eq_true rfl) rfl dX9_nextToken_133 ?_
      refine ax_goto (t := 100) F dX9_nextToken_136 (by decide) ?_
      exact IH.2.2.2.2.1  _ h 
set_option maxRecDepth 100000 in
set_option maxHeartbeats 4000000 in
theorem wX9_nextToken_5 {p : Program} {l : Launch} {e : Env} {s : State} {m : MethodId} {args : Array Value} {below : List Frame} {meth : Method} {c : Code} {G : va_G} {L : List Nat} {ad : Nat → Nat} {cs : Nat → ClassId} {z : Bool} {zk zv : Nat → Nat} {r : Int32} {M' : Mm} {n : Nat} (F : Fx G L ad cs z zk zv p m meth c cX9_nextToken 1 none s args RX9) (hm : isM L) (IH : PX9_nextToken p l e s m args below meth c G L ad cs zk r M' n)  (M : Mm) (h : (bX9_nextToken_5  M).bind (fun q => match q with | .inl s' => itr stX9_nextToken n s' | .inr r => some r) = some (r, M'))  : AW p l e rmX9_nextToken s m args below meth c (MQ below (AQv G L ad cs M') args s 0 0 (inA L ad)) G L ad cs 1 139 [some (.ref (ad 338))] [] M := by
  unfold bX9_nextToken_5 at h
  refine ax_aload_n F dX9_nextToken_139 rfl ?_
  refine ax_get (v := .int (M 338 11)) F (ob_338 hm) rfl inGX9 11 (by decide) rfl kf_X9_84 rfl dX9_nextToken_140 ?_
  refine ax_aload_n F dX9_nextToken_143 rfl ?_
  refine ax_get (v := .int (M 338 8)) F (ob_338 hm) rfl inGX9 8 (by decide) rfl kf_X9_70 rfl dX9_nextToken_144 ?_
  refine ax_icmp_ge (t := 204) F dX9_nextToken_147 (by decide) (fun hc => ?_) (fun hc => ?_)
  · have h := it_pos h hc
    obtain ⟨h1, h2⟩ := rt_some h
    subst h2
    exact ax_vret F dX9_nextToken_204
  · have h := it_neg h hc
    refine ax_aload_n F dX9_nextToken_150 rfl ?_
    refine ax_get (v := .ref (ad 341)) F (ob_338 hm) rfl inGX9 7 (by decide) rfl kf_X9_17 rfl dX9_nextToken_151 ?_
    refine ax_aload_n F dX9_nextToken_154 rfl ?_
    refine ax_get (v := .int (M 338 11)) F (ob_338 hm) rfl inGX9 11 (by decide) rfl kf_X9_84 rfl dX9_nextToken_155 ?_
    obtain ⟨hg, h⟩ := gd_some h
    refine ax_iald F (ar_341 hm) hg dX9_nextToken_158 ?_
    obtain ⟨r1, M1, hq1, h⟩ := cq_some h
    refine ax_callSi (As := [.int (M 341 (ix (M 338 11)))]) (st := []) F (tX9_isDigit F.2.2.2.2.2.2.1 hm _  _ _ _ hq1) kc_X9_isDigit kz_X9 kt_X9_isDigit km_X9_91 ⟨kn_X9_isDigit, rfl, rfl, Nat.le_of_ble_eq_true rfl, Nat.le_of_ble_eq_true rfl⟩ rfl (Nat.le_of_ble_eq_true rfl) dX9_nextToken_159 ?_
    refine ax_if_eq (t := 204) F dX9_nextToken_162 (by decide) (fun hc => ?_) (fun hc => ?_)
    · have h := it_pos h hc
      obtain ⟨h1, h2⟩ := rt_some h
      subst h2
      exact ax_vret F dX9_nextToken_204
    · have h := it_neg h hc
      exact IH.2.2.2.2.2.2  _ h 
set_option maxRecDepth 100000 in
set_option maxHeartbeats 4000000 in
theorem wX9_nextToken_6 {p : Program} {l : Launch} {e : Env} {s : State} {m : MethodId} {args : Array Value} {below : List Frame} {meth : Method} {c : Code} {G : va_G} {L : List Nat} {ad : Nat → Nat} {cs : Nat → ClassId} {z : Bool} {zk zv : Nat → Nat} {r : Int32} {M' : Mm} {n : Nat} (F : Fx G L ad cs z zk zv p m meth c cX9_nextToken 1 none s args RX9) (hm : isM L) (IH : PX9_nextToken p l e s m args below meth c G L ad cs zk r M' n)  (M : Mm) (h : (bX9_nextToken_6  M).bind (fun q => match q with | .inl s' => itr stX9_nextToken n s' | .inr r => some r) = some (r, M'))  : AW p l e rmX9_nextToken s m args below meth c (MQ below (AQv G L ad cs M') args s 0 0 (inA L ad)) G L ad cs 1 165 [some (.ref (ad 338))] [] M := by
  unfold bX9_nextToken_6 at h
  refine ax_aload_n F dX9_nextToken_165 rfl ?_
  refine ax_get (v := .int (M 338 12)) F (ob_338 hm) rfl inGX9 12 (by decide) rfl kf_X9_81 rfl dX9_nextToken_166 ?_
  refine ax_aload_n F dX9_nextToken_169 rfl ?_
  refine ax_get (v := .int (M 338 8)) F (ob_338 hm) rfl inGX9 8 (by decide) rfl kf_X9_70 rfl dX9_nextToken_170 ?_
  refine ax_icmp_ge (t := 204) F dX9_nextToken_173 (by decide) (fun hc => ?_) (fun hc => ?_)
  · have h := it_pos h hc
    obtain ⟨h1, h2⟩ := rt_some h
    subst h2
    exact ax_vret F dX9_nextToken_204
  · have h := it_neg h hc
    refine ax_aload_n F dX9_nextToken_176 rfl ?_
    refine ax_get (v := .ref (ad 341)) F (ob_338 hm) rfl inGX9 7 (by decide) rfl kf_X9_17 rfl dX9_nextToken_177 ?_
    refine ax_aload_n F dX9_nextToken_180 rfl ?_
    refine ax_get (v := .int (M 338 12)) F (ob_338 hm) rfl inGX9 12 (by decide) rfl kf_X9_81 rfl dX9_nextToken_181 ?_
    obtain ⟨hg, h⟩ := gd_some h
    refine ax_iald F (ar_341 hm) hg dX9_nextToken_184 ?_
    obtain ⟨r1, M1, hq1, h⟩ := cq_some h
    refine ax_callSi (As := [.int (M 341 (ix (M 338 12)))]) (st := []) F (tX9_isDigit F.2.2.2.2.2.2.1 hm _  _ _ _ hq1) kc_X9_isDigit kz_X9 kt_X9_isDigit km_X9_91 ⟨kn_X9_isDigit, rfl, rfl, Nat.le_of_ble_eq_true rfl, Nat.le_of_ble_eq_true rfl⟩ rfl (Nat.le_of_ble_eq_true rfl) dX9_nextToken_185 ?_
    refine ax_if_eq (t := 204) F dX9_nextToken_188 (by decide) (fun hc => ?_) (fun hc => ?_)
    · have h := it_pos h hc
      obtain ⟨h1, h2⟩ := rt_some h
      subst h2
      exact ax_vret F dX9_nextToken_204
    · have h := it_neg h hc
      refine ax_aload_n F dX9_nextToken_191 rfl ?_
      refine ax_dup F dX9_nextToken_192 rfl ?_
      refine ax_get (v := .int (M1 338 12)) F (ob_338 hm) rfl inGX9 12 (by decide) rfl kf_X9_81 rfl dX9_nextToken_193 ?_
      refine ax_iconst (v := (1 : Int32)) F dX9_nextToken_196 (by decide) ?_
      refine ax_iadd F dX9_nextToken_197 ?_
      refine ax_put (ty := .int) F (ob_338 hm) rfl inGX9 tyX9 tyX9_ok nmX9 12 (by decide) rfl kf_X9_81 (by decide) rfl rfl (Nat.le_of_ble_eq_true rfl) rfl dX9_nextToken_198 ?_
      refine ax_goto (t := 165) F dX9_nextToken_201 (by decide) ?_
      exact IH.2.2.2.2.2.2  _ h 
set_option maxRecDepth 100000 in
set_option maxHeartbeats 4000000 in
theorem wX9_nextToken {p : Program} {l : Launch} {e : Env} {s : State} {m : MethodId} {args : Array Value} {below : List Frame} {meth : Method} {c : Code} {G : va_G} {L : List Nat} {ad : Nat → Nat} {cs : Nat → ClassId} {z : Bool} {zk zv : Nat → Nat} {r : Int32} {M' : Mm} (F : Fx G L ad cs z zk zv p m meth c cX9_nextToken 1 none s args RX9) (hm : isM L) (n : Nat) : PX9_nextToken p l e s m args below meth c G L ad cs zk r M' n := by
  induction n with
  | zero => exact ⟨(fun  M h => by cases h), (fun  M h => by cases h), (fun  M h => by cases h), (fun s0 M h => by cases h), (fun  M h => by cases h), (fun  M h => by cases h), (fun  M h => by cases h)⟩
  | succ n ih =>
    exact ⟨fun  M h  => wX9_nextToken_0 F hm ih  M h ,
      fun  M h  => wX9_nextToken_1 F hm ih  M h ,
      fun  M h  => wX9_nextToken_2 F hm ih  M h ,
      fun s0 M h  => wX9_nextToken_3 F hm ih s0 M h ,
      fun  M h  => wX9_nextToken_4 F hm ih  M h ,
      fun  M h  => wX9_nextToken_5 F hm ih  M h ,
      fun  M h  => wX9_nextToken_6 F hm ih  M h ⟩
set_option maxRecDepth 100000 in
set_option maxHeartbeats 4000000 in
theorem tX9_nextToken {l : Launch} {G : va_G} {L : List Nat} {ad : Nat → Nat} {cs : Nat → ClassId} {z : Bool} {zk zv : Nat → Nat} (hinj : inj L ad) (hm : isM L)   (M : Mm) (r : Int32) (M' : Mm) (h : fX9_nextToken  M = some (r, M')) : Met l yX9_nextToken (tgW yX9_nextToken cX9_nextToken 1 none) rmX9_nextToken (APre G L ad cs z zk zv [.ref (ad 338)] M) (AQv G L ad cs M') 0 0 (inA L ad) := by
  refine met_of (Eq.refl true) (Nat.le_of_ble_eq_true rfl) hinj [some (.ref (ad 338))] rfl ?_
  intro p e s m below meth c F
  replace F : Fx G L ad cs z zk zv p m meth c cX9_nextToken 1 none s _ RX9 := F
  obtain ⟨n, hn⟩ := run_ex h
  exact (wX9_nextToken F hm n).1  M hn 
def rmX9_wordHere : Room := { frames := 0, cells := 0, slots := 0, locals := 0 }
theorem kn_X9_wordHere : yX9_wordHere.cls ≠ "java/lang/invoke/MethodHandle" ∧ yX9_wordHere.cls ≠ "java/lang/invoke/VarHandle" ∧ (parseMethodDescriptor yX9_wordHere.desc).map (fun d => d.parameters.length) = some 0 := by decide +kernel
noncomputable def bX9_wordHere_0  (M : Mm) : Option (Sst ⊕ Rst) := some (.inl (1, [], [(0 : Int32)], M))
noncomputable def bX9_wordHere_1 (x1 : Int32) (M : Mm) : Option (Sst ⊕ Rst) := if (4 : Int32) < x1 then (some (.inr ((-1 : Int32), M))) else (if (M 338 12) ≤ (M 338 11) then (some (.inl (2, [], [x1, (0 : Int32), (0 : Int32)], M))) else (if (5 : Int32) ≤ ((M 338 12) - (M 338 11)) then (some (.inl (2, [], [x1, (0 : Int32), (0 : Int32)], M))) else (some (.inl (2, [], [x1, (1 : Int32), (0 : Int32)], M)))))
noncomputable def bX9_wordHere_2 (x1 : Int32) (x2 : Int32) (x3 : Int32) (M : Mm) : Option (Sst ⊕ Rst) := if (4 : Int32) ≤ x3 then (if x2 = 0 then (some (.inl (1, [], [(x1 + (1 : Int32))], M))) else (some (.inr (x1, M)))) else (if x2 = 0 then (if x2 = 0 then (some (.inl (1, [], [(x1 + (1 : Int32))], M))) else (some (.inr (x1, M)))) else (gd (okI (((4 : Int32) * x1) + x3) 20) (if (M 338 12) ≤ ((M 338 11) + x3) then (some (.inl (3, [], [x1, x3, (0 : Int32), (M 345 (ix (((4 : Int32) * x1) + x3)))], M))) else (gd (okI ((M 338 11) + x3) 200) (some (.inl (3, [], [x1, x3, (M 341 (ix ((M 338 11) + x3))), (M 345 (ix (((4 : Int32) * x1) + x3)))], M)))))))
noncomputable def bX9_wordHere_3 (x1 : Int32) (x3 : Int32) (s0 : Int32) (s1 : Int32) (M : Mm) : Option (Sst ⊕ Rst) := if s1 = s0 then (some (.inl (2, [], [x1, (1 : Int32), (x3 + (1 : Int32))], M))) else (some (.inl (2, [], [x1, (0 : Int32), (x3 + (1 : Int32))], M)))
noncomputable def stX9_wordHere : Sst → Option (Sst ⊕ Rst) := fun q => match q.1 with
  | 0 => bX9_wordHere_0  q.2.2.2
  | 1 => bX9_wordHere_1 (q.2.2.1.getD 0 0) q.2.2.2
  | 2 => bX9_wordHere_2 (q.2.2.1.getD 0 0) (q.2.2.1.getD 1 0) (q.2.2.1.getD 2 0) q.2.2.2
  | 3 => bX9_wordHere_3 (q.2.2.1.getD 0 0) (q.2.2.1.getD 1 0) (q.2.2.1.getD 2 0) (q.2.2.1.getD 3 0) q.2.2.2
  | _ => none
noncomputable def fX9_wordHere  (M : Mm) : Option Rst := run stX9_wordHere (0, [], [], M)
def PX9_wordHere (p : Program) (l : Launch) (e : Env) (s : State) (m : MethodId) (args : Array Value) (below : List Frame) (meth : Method) (c : Code) (G : va_G) (L : List Nat) (ad : Nat → Nat) (cs : Nat → ClassId) (zk : Nat → Nat) (r : Int32) (M' : Mm) (n : Nat) : Prop := (∀  (M : Mm), itr stX9_wordHere n (0, [], [], M) = some (r, M') → AW p l e rmX9_wordHere s m args below meth c (MQ below (AQi G L ad cs r M') args s 0 0 (inA L ad)) G L ad cs 4 0 [some (.ref (ad 338)), none, none, none] [] M) ∧ (∀ (x1 : Int32) (M : Mm), itr stX9_wordHere n (1, [], [x1], M) = some (r, M') → AW p l e rmX9_wordHere s m args below meth c (MQ below (AQi G L ad cs r M') args s 0 0 (inA L ad)) G L ad cs 4 2 [some (.ref (ad 338)), some (.int x1), none, none] [] M) ∧ (∀ (x1 : Int32) (x2 : Int32) (x3 : Int32) (M : Mm), itr stX9_wordHere n (2, [], [x1, x2, x3], M) = some (r, M') → AW p l e rmX9_wordHere s m args below meth c (MQ below (AQi G L ad cs r M') args s 0 0 (inA L ad)) G L ad cs 4 39 [some (.ref (ad 338)), some (.int x1), some (.int x2), some (.int x3)] [] M) ∧ (∀ (x1 : Int32) (x3 : Int32) (s0 : Int32) (s1 : Int32) (M : Mm), itr stX9_wordHere n (3, [], [x1, x3, s0, s1], M) = some (r, M') → AW p l e rmX9_wordHere s m args below meth c (MQ below (AQi G L ad cs r M') args s 0 0 (inA L ad)) G L ad cs 4 86 [some (.ref (ad 338)), some (.int x1), none, some (.int x3)] [.int s0, .int s1] M)
set_option maxRecDepth 100000 in
set_option maxHeartbeats 4000000 in
theorem wX9_wordHere_0 {p : Program} {l : Launch} {e : Env} {s : State} {m : MethodId} {args : Array Value} {below : List Frame} {meth : Method} {c : Code} {G : va_G} {L : List Nat} {ad : Nat → Nat} {cs : Nat → ClassId} {z : Bool} {zk zv : Nat → Nat} {r : Int32} {M' : Mm} {n : Nat} (F : Fx G L ad cs z zk zv p m meth c cX9_wordHere 4 (some .int) s args RX9) (hm : isM L) (IH : PX9_wordHere p l e s m args below meth c G L ad cs zk r M' n)  (M : Mm) (h : (bX9_wordHere_0  M).bind (fun q => match q with | .inl s' => itr stX9_wordHere n s' | .inr r => some r) = some (r, M'))  : AW p l e rmX9_wordHere s m args below meth c (MQ below (AQi G L ad cs r M') args s 0 0 (inA L ad)) G L ad cs 4 0 [some (.ref (ad 338)), none, none, none] [] M := by
  unfold bX9_wordHere_0 at h
  refine ax_iconst (v := (0 : Int32)) F dX9_wordHere_0 (by decide) ?_
  refine ax_istore_n F dX9_wordHere_1 (by decide) rfl ?_
  exact IH.2.1 _ _ h 
set_option maxRecDepth 100000 in
set_option maxHeartbeats 4000000 in
theorem wX9_wordHere_1 {p : Program} {l : Launch} {e : Env} {s : State} {m : MethodId} {args : Array Value} {below : List Frame} {meth : Method} {c : Code} {G : va_G} {L : List Nat} {ad : Nat → Nat} {cs : Nat → ClassId} {z : Bool} {zk zv : Nat → Nat} {r : Int32} {M' : Mm} {n : Nat} (F : Fx G L ad cs z zk zv p m meth c cX9_wordHere 4 (some .int) s args RX9) (hm : isM L) (IH : PX9_wordHere p l e s m args below meth c G L ad cs zk r M' n) (x1 : Int32) (M : Mm) (h : (bX9_wordHere_1 x1 M).bind (fun q => match q with | .inl s' => itr stX9_wordHere n s' | .inr r => some r) = some (r, M'))  : AW p l e rmX9_wordHere s m args below meth c (MQ below (AQi G L ad cs r M') args s 0 0 (inA L ad)) G L ad cs 4 2 [some (.ref (ad 338)), some (.int x1), none, none] [] M := by
  unfold bX9_wordHere_1 at h
  refine ax_iload_n F dX9_wordHere_2 rfl ?_
  refine ax_iconst (v := (4 : Int32)) F dX9_wordHere_3 (by decide) ?_
  refine ax_icmp_gt (t := 113) F dX9_wordHere_4 (by decide) (fun hc => ?_) (fun hc => ?_)
  · have h := it_pos h hc
    refine ax_iconst (v := (-1 : Int32)) F dX9_wordHere_113 (by decide) ?_
    obtain ⟨h1, h2⟩ := rt_some h
    subst h1; subst h2
    exact ax_iret F dX9_wordHere_114
  · have h := it_neg h hc
    refine ax_aload_n F dX9_wordHere_7 rfl ?_
    refine ax_get (v := .int (M 338 12)) F (ob_338 hm) rfl inGX9 12 (by decide) rfl kf_X9_81 rfl dX9_wordHere_8 ?_
    refine ax_aload_n F dX9_wordHere_11 rfl ?_
    refine ax_get (v := .int (M 338 11)) F (ob_338 hm) rfl inGX9 11 (by decide) rfl kf_X9_84 rfl dX9_wordHere_12 ?_
    refine ax_icmp_le (t := 35) F dX9_wordHere_15 (by decide) (fun hc => ?_) (fun hc => ?_)
    · have h := it_pos h hc
      refine ax_iconst (v := (0 : Int32)) F dX9_wordHere_35 (by decide) ?_
      refine ax_istore_n F dX9_wordHere_36 (by decide) rfl ?_
      refine ax_iconst (v := (0 : Int32)) F dX9_wordHere_37 (by decide) ?_
      refine ax_istore_n F dX9_wordHere_38 (by decide) rfl ?_
      exact IH.2.2.1 _ _ _ _ h 
    · have h := it_neg h hc
      refine ax_aload_n F dX9_wordHere_18 rfl ?_
      refine ax_get (v := .int (M 338 12)) F (ob_338 hm) rfl inGX9 12 (by decide) rfl kf_X9_81 rfl dX9_wordHere_19 ?_
      refine ax_aload_n F dX9_wordHere_22 rfl ?_
      refine ax_get (v := .int (M 338 11)) F (ob_338 hm) rfl inGX9 11 (by decide) rfl kf_X9_84 rfl dX9_wordHere_23 ?_
      refine ax_isub F dX9_wordHere_26 ?_
      refine ax_iconst (v := (5 : Int32)) F dX9_wordHere_27 (by decide) ?_
      refine ax_icmp_ge (t := 35) F dX9_wordHere_28 (by decide) (fun hc => ?_) (fun hc => ?_)
      · have h := it_pos h hc
        refine ax_iconst (v := (0 : Int32)) F dX9_wordHere_35 (by decide) ?_
        refine ax_istore_n F dX9_wordHere_36 (by decide) rfl ?_
        refine ax_iconst (v := (0 : Int32)) F dX9_wordHere_37 (by decide) ?_
        refine ax_istore_n F dX9_wordHere_38 (by decide) rfl ?_
        exact IH.2.2.1 _ _ _ _ h 
      · have h := it_neg h hc
        refine ax_iconst (v := (1 : Int32)) F dX9_wordHere_31 (by decide) ?_
        refine ax_goto (t := 36) F dX9_wordHere_32 (by decide) ?_
        refine ax_istore_n F dX9_wordHere_36 (by decide) rfl ?_
        refine ax_iconst (v := (0 : Int32)) F dX9_wordHere_37 (by decide) ?_
        refine ax_istore_n F dX9_wordHere_38 (by decide) rfl ?_
        exact IH.2.2.1 _ _ _ _ h 
set_option maxRecDepth 100000 in
set_option maxHeartbeats 4000000 in
theorem wX9_wordHere_2 {p : Program} {l : Launch} {e : Env} {s : State} {m : MethodId} {args : Array Value} {below : List Frame} {meth : Method} {c : Code} {G : va_G} {L : List Nat} {ad : Nat → Nat} {cs : Nat → ClassId} {z : Bool} {zk zv : Nat → Nat} {r : Int32} {M' : Mm} {n : Nat} (F : Fx G L ad cs z zk zv p m meth c cX9_wordHere 4 (some .int) s args RX9) (hm : isM L) (IH : PX9_wordHere p l e s m args below meth c G L ad cs zk r M' n) (x1 : Int32) (x2 : Int32) (x3 : Int32) (M : Mm) (h : (bX9_wordHere_2 x1 x2 x3 M).bind (fun q => match q with | .inl s' => itr stX9_wordHere n s' | .inr r => some r) = some (r, M'))  : AW p l e rmX9_wordHere s m args below meth c (MQ below (AQi G L ad cs r M') args s 0 0 (inA L ad)) G L ad cs 4 39 [some (.ref (ad 338)), some (.int x1), some (.int x2), some (.int x3)] [] M := by
  unfold bX9_wordHere_2 at h
  refine ax_iload_n F dX9_wordHere_39 rfl ?_
  refine ax_iconst (v := (4 : Int32)) F dX9_wordHere_40 (by decide) ?_
  refine ax_icmp_ge (t := 101) F dX9_wordHere_41 (by decide) (fun hc => ?_) (fun hc => ?_)
  · have h := it_pos h hc
    refine ax_iload_n F dX9_wordHere_101 rfl ?_
    refine ax_if_eq (t := 107) F dX9_wordHere_102 (by decide) (fun hc => ?_) (fun hc => ?_)
    · have h := it_pos h hc
      refine ax_iinc (v := (1 : Int32)) F dX9_wordHere_107 rfl (by decide) (by decide) rfl ?_
      refine ax_goto (t := 2) F dX9_wordHere_110 (by decide) ?_
      refine ax_mask [true, true, false, false] ?_
      exact IH.2.1 _ _ h 
    · have h := it_neg h hc
      refine ax_iload_n F dX9_wordHere_105 rfl ?_
      obtain ⟨h1, h2⟩ := rt_some h
      subst h1; subst h2
      exact ax_iret F dX9_wordHere_106
  · have h := it_neg h hc
    refine ax_iload_n F dX9_wordHere_44 rfl ?_
    refine ax_if_eq (t := 101) F dX9_wordHere_45 (by decide) (fun hc => ?_) (fun hc => ?_)
    · have h := it_pos h hc
      refine ax_iload_n F dX9_wordHere_101 rfl ?_
      refine ax_if_eq (t := 107) F dX9_wordHere_102 (by decide) (fun hc => ?_) (fun hc => ?_)
      · have h := it_pos h hc
        refine ax_iinc (v := (1 : Int32)) F dX9_wordHere_107 rfl (by decide) (by decide) rfl ?_
        refine ax_goto (t := 2) F dX9_wordHere_110 (by decide) ?_
        refine ax_mask [true, true, false, false] ?_
        exact IH.2.1 _ _ h 
      · have h := it_neg h hc
        refine ax_iload_n F dX9_wordHere_105 rfl ?_
        obtain ⟨h1, h2⟩ := rt_some h
        subst h1; subst h2
        exact ax_iret F dX9_wordHere_106
    · have h := it_neg h hc
      refine ax_aload_n F dX9_wordHere_48 rfl ?_
      refine ax_get (v := .ref (ad 345)) F (ob_338 hm) rfl inGX9 17 (by decide) rfl kf_X9_29 rfl dX9_wordHere_49 ?_
      refine ax_iconst (v := (4 : Int32)) F dX9_wordHere_52 (by decide) ?_
      refine ax_iload_n F dX9_wordHere_53 rfl ?_
      refine ax_imul F dX9_wordHere_54 ?_
      refine ax_iload_n F dX9_wordHere_55 rfl ?_
      refine ax_iadd F dX9_wordHere_56 ?_
      obtain ⟨hg, h⟩ := gd_some h
      refine ax_iald F (ar_345 hm) hg dX9_wordHere_57 ?_
      refine ax_aload_n F dX9_wordHere_58 rfl ?_
      refine ax_get (v := .int (M 338 11)) F (ob_338 hm) rfl inGX9 11 (by decide) rfl kf_X9_84 rfl dX9_wordHere_59 ?_
      refine ax_iload_n F dX9_wordHere_62 rfl ?_
      refine ax_iadd F dX9_wordHere_63 ?_
      refine ax_aload_n F dX9_wordHere_64 rfl ?_
      refine ax_get (v := .int (M 338 12)) F (ob_338 hm) rfl inGX9 12 (by decide) rfl kf_X9_81 rfl dX9_wordHere_65 ?_
      refine ax_icmp_ge (t := 85) F dX9_wordHere_68 (by decide) (fun hc => ?_) (fun hc => ?_)
      · have h := it_pos h hc
        refine ax_iconst (v := (0 : Int32)) F dX9_wordHere_85 (by decide) ?_
        refine ax_mask [true, true, false, true] ?_
        exact IH.2.2.2 _ _ _ _ _ h 
      · have h := it_neg h hc
        refine ax_aload_n F dX9_wordHere_71 rfl ?_
        refine ax_get (v := .ref (ad 341)) F (ob_338 hm) rfl inGX9 7 (by decide) rfl kf_X9_17 rfl dX9_wordHere_72 ?_
        refine ax_aload_n F dX9_wordHere_75 rfl ?_
        refine ax_get (v := .int (M 338 11)) F (ob_338 hm) rfl inGX9 11 (by decide) rfl kf_X9_84 rfl dX9_wordHere_76 ?_
        refine ax_iload_n F dX9_wordHere_79 rfl ?_
        refine ax_iadd F dX9_wordHere_80 ?_
        obtain ⟨hg, h⟩ := gd_some h
        refine ax_iald F (ar_341 hm) hg dX9_wordHere_81 ?_
        refine ax_goto (t := 86) F dX9_wordHere_82 (by decide) ?_
        refine ax_mask [true, true, false, true] ?_
        exact IH.2.2.2 _ _ _ _ _ h 
set_option maxRecDepth 100000 in
set_option maxHeartbeats 4000000 in
theorem wX9_wordHere_3 {p : Program} {l : Launch} {e : Env} {s : State} {m : MethodId} {args : Array Value} {below : List Frame} {meth : Method} {c : Code} {G : va_G} {L : List Nat} {ad : Nat → Nat} {cs : Nat → ClassId} {z : Bool} {zk zv : Nat → Nat} {r : Int32} {M' : Mm} {n : Nat} (F : Fx G L ad cs z zk zv p m meth c cX9_wordHere 4 (some .int) s args RX9) (hm : isM L) (IH : PX9_wordHere p l e s m args below meth c G L ad cs zk r M' n) (x1 : Int32) (x3 : Int32) (s0 : Int32) (s1 : Int32) (M : Mm) (h : (bX9_wordHere_3 x1 x3 s0 s1 M).bind (fun q => match q with | .inl s' => itr stX9_wordHere n s' | .inr r => some r) = some (r, M'))  : AW p l e rmX9_wordHere s m args below meth c (MQ below (AQi G L ad cs r M') args s 0 0 (inA L ad)) G L ad cs 4 86 [some (.ref (ad 338)), some (.int x1), none, some (.int x3)] [.int s0, .int s1] M := by
  unfold bX9_wordHere_3 at h
  refine ax_icmp_ne (t := 93) F dX9_wordHere_86 (by decide) (fun hc => ?_) (fun hc => ?_)
  · have h := it_neg h hc
    refine ax_iconst (v := (0 : Int32)) F dX9_wordHere_93 (by decide) ?_
    refine ax_istore_n F dX9_wordHere_94 (by decide) rfl ?_
    refine ax_iinc (v := (1 : Int32)) F dX9_wordHere_95 rfl (by decide) (by decide) rfl ?_
    refine ax_goto (t := 39) F dX9_wordHere_98 (by decide) ?_
    exact IH.2.2.1 _ _ _ _ h 
  · have h := it_pos h hc
    refine ax_iconst (v := (1 : Int32)) F dX9_wordHere_89 (by decide) ?_
    refine ax_goto (t := 94) F dX9_wordHere_90 (by decide) ?_
    refine ax_istore_n F dX9_wordHere_94 (by decide) rfl ?_
    refine ax_iinc (v := (1 : Int32)) F dX9_wordHere_95 rfl (by decide) (by decide) rfl ?_
    refine ax_goto (t := 39) F dX9_wordHere_98 (by decide) ?_
    exact IH.2.2.1 _ _ _ _ h 
set_option maxRecDepth 100000 in
set_option maxHeartbeats 4000000 in
theorem wX9_wordHere {p : Program} {l : Launch} {e : Env} {s : State} {m : MethodId} {args : Array Value} {below : List Frame} {meth : Method} {c : Code} {G : va_G} {L : List Nat} {ad : Nat → Nat} {cs : Nat → ClassId} {z : Bool} {zk zv : Nat → Nat} {r : Int32} {M' : Mm} (F : Fx G L ad cs z zk zv p m meth c cX9_wordHere 4 (some .int) s args RX9) (hm : isM L) (n : Nat) : PX9_wordHere p l e s m args below meth c G L ad cs zk r M' n := by
  induction n with
  | zero => exact ⟨(fun  M h => by cases h), (fun x1 M h => by cases h), (fun x1 x2 x3 M h => by cases h), (fun x1 x3 s0 s1 M h => by cases h)⟩
  | succ n ih =>
    exact ⟨fun  M h  => wX9_wordHere_0 F hm ih  M h ,
      fun x1 M h  => wX9_wordHere_1 F hm ih x1 M h ,
      fun x1 x2 x3 M h  => wX9_wordHere_2 F hm ih x1 x2 x3 M h ,
      fun x1 x3 s0 s1 M h  => wX9_wordHere_3 F hm ih x1 x3 s0 s1 M h ⟩
set_option maxRecDepth 100000 in
set_option maxHeartbeats 4000000 in
theorem tX9_wordHere {l : Launch} {G : va_G} {L : List Nat} {ad : Nat → Nat} {cs : Nat → ClassId} {z : Bool} {zk zv : Nat → Nat} (hinj : inj L ad) (hm : isM L)   (M : Mm) (r : Int32) (M' : Mm) (h : fX9_wordHere  M = some (r, M')) : Met l yX9_wordHere (tgW yX9_wordHere cX9_wordHere 4 (some .int)) rmX9_wordHere (APre G L ad cs z zk zv [.ref (ad 338)] M) (AQi G L ad cs r M') 0 0 (inA L ad) := by
  refine met_of (Eq.refl true) (Nat.le_of_ble_eq_true rfl) hinj [some (.ref (ad 338)), none, none, none] rfl ?_
  intro p e s m below meth c F
  replace F : Fx G L ad cs z zk zv p m meth c cX9_wordHere 4 (some .int) s _ RX9 := F
  obtain ⟨n, hn⟩ := run_ex h
  exact (wX9_wordHere F hm n).1  M hn 
def rmX9_number : Room := { frames := 3, cells := 0, slots := 0, locals := 65 }
theorem kn_X9_number : yX9_number.cls ≠ "java/lang/invoke/MethodHandle" ∧ yX9_number.cls ≠ "java/lang/invoke/VarHandle" ∧ (parseMethodDescriptor yX9_number.desc).map (fun d => d.parameters.length) = some 4 := by decide +kernel
noncomputable def bX9_number_0 (x1 : Int32) (x2 : Int32) (x3 : Int32) (x4 : Int32) (M : Mm) : Option (Sst ⊕ Rst) := if (M 338 11) = (M 338 8) then (some (.inr ((0 : Int32), M))) else (gd (okI (M 338 11) 200) (cl (fX9_isDigit (M 341 (ix (M 338 11))) M) (fun r1 M1 => if r1 = 0 then (some (.inr ((0 : Int32), M1))) else (if ((M1 338 12) - (M1 338 11)) ≤ (3 : Int32) then (some (.inl (1, [], [x1, x2, x3, x4, (0 : Int32), (M1 338 11)], M1))) else (some (.inr ((0 : Int32), M1)))))))
noncomputable def bX9_number_1 (x1 : Int32) (x2 : Int32) (x3 : Int32) (x4 : Int32) (x5 : Int32) (x6 : Int32) (M : Mm) : Option (Sst ⊕ Rst) := if (M 338 12) ≤ x6 then (cl (fX9_in (x5).toInt64 (x2).toInt64 (x3).toInt64 M) (fun r1 M1 => if r1 = 0 then (some (.inl (2, [], [x1, x5, (0 : Int32)], M1))) else (if x5 = x4 then (some (.inl (2, [], [x1, x5, (0 : Int32)], M1))) else (some (.inl (2, [], [x1, x5, (1 : Int32)], M1)))))) else (gd (okI x6 200) (some (.inl (1, [], [x1, x2, x3, x4, ((((10 : Int32) * x5) + (M 341 (ix x6))) - (48 : Int32)), (x6 + (1 : Int32))], M))))
noncomputable def bX9_number_2 (x1 : Int32) (x5 : Int32) (s0 : Int32) (M : Mm) : Option (Sst ⊕ Rst) := if s0 = 0 then (gd (okZ s0) (some (.inr (s0, M)))) else (gd (okI x1 4) (cl (fX9_nextToken (up2 M 344 (ix x1) x5)) (fun r1 M1 => gd (okZ s0) (some (.inr (s0, M1))))))
noncomputable def stX9_number : Sst → Option (Sst ⊕ Rst) := fun q => match q.1 with
  | 0 => bX9_number_0 (q.2.2.1.getD 0 0) (q.2.2.1.getD 1 0) (q.2.2.1.getD 2 0) (q.2.2.1.getD 3 0) q.2.2.2
  | 1 => bX9_number_1 (q.2.2.1.getD 0 0) (q.2.2.1.getD 1 0) (q.2.2.1.getD 2 0) (q.2.2.1.getD 3 0) (q.2.2.1.getD 4 0) (q.2.2.1.getD 5 0) q.2.2.2
  | 2 => bX9_number_2 (q.2.2.1.getD 0 0) (q.2.2.1.getD 1 0) (q.2.2.1.getD 2 0) q.2.2.2
  | _ => none
noncomputable def fX9_number (x1 : Int32) (x2 : Int32) (x3 : Int32) (x4 : Int32) (M : Mm) : Option Rst := run stX9_number (0, [], [x1, x2, x3, x4], M)
def PX9_number (p : Program) (l : Launch) (e : Env) (s : State) (m : MethodId) (args : Array Value) (below : List Frame) (meth : Method) (c : Code) (G : va_G) (L : List Nat) (ad : Nat → Nat) (cs : Nat → ClassId) (zk : Nat → Nat) (r : Int32) (M' : Mm) (n : Nat) : Prop := (∀ (x1 : Int32) (x2 : Int32) (x3 : Int32) (x4 : Int32) (M : Mm), itr stX9_number n (0, [], [x1, x2, x3, x4], M) = some (r, M') → AW p l e rmX9_number s m args below meth c (MQ below (AQi G L ad cs r M') args s 0 0 (inA L ad)) G L ad cs 7 0 [some (.ref (ad 338)), some (.int x1), some (.int x2), some (.int x3), some (.int x4), none, none] [] M) ∧ (∀ (x1 : Int32) (x2 : Int32) (x3 : Int32) (x4 : Int32) (x5 : Int32) (x6 : Int32) (M : Mm), itr stX9_number n (1, [], [x1, x2, x3, x4, x5, x6], M) = some (r, M') → AW p l e rmX9_number s m args below meth c (MQ below (AQi G L ad cs r M') args s 0 0 (inA L ad)) G L ad cs 7 50 [some (.ref (ad 338)), some (.int x1), some (.int x2), some (.int x3), some (.int x4), some (.int x5), some (.int x6)] [] M) ∧ (∀ (x1 : Int32) (x5 : Int32) (s0 : Int32) (M : Mm), itr stX9_number n (2, [], [x1, x5, s0], M) = some (r, M') → AW p l e rmX9_number s m args below meth c (MQ below (AQi G L ad cs r M') args s 0 0 (inA L ad)) G L ad cs 7 108 [some (.ref (ad 338)), some (.int x1), none, none, none, some (.int x5), none] [.int s0] M)
set_option maxRecDepth 100000 in
set_option maxHeartbeats 4000000 in
theorem wX9_number_0 {p : Program} {l : Launch} {e : Env} {s : State} {m : MethodId} {args : Array Value} {below : List Frame} {meth : Method} {c : Code} {G : va_G} {L : List Nat} {ad : Nat → Nat} {cs : Nat → ClassId} {z : Bool} {zk zv : Nat → Nat} {r : Int32} {M' : Mm} {n : Nat} (F : Fx G L ad cs z zk zv p m meth c cX9_number 7 (some .boolean) s args RX9) (hm : isM L) (IH : PX9_number p l e s m args below meth c G L ad cs zk r M' n) (x1 : Int32) (x2 : Int32) (x3 : Int32) (x4 : Int32) (M : Mm) (h : (bX9_number_0 x1 x2 x3 x4 M).bind (fun q => match q with | .inl s' => itr stX9_number n s' | .inr r => some r) = some (r, M'))  : AW p l e rmX9_number s m args below meth c (MQ below (AQi G L ad cs r M') args s 0 0 (inA L ad)) G L ad cs 7 0 [some (.ref (ad 338)), some (.int x1), some (.int x2), some (.int x3), some (.int x4), none, none] [] M := by
  unfold bX9_number_0 at h
  refine ax_aload_n F dX9_number_0 rfl ?_
  refine ax_get (v := .int (M 338 11)) F (ob_338 hm) rfl inGX9 11 (by decide) rfl kf_X9_84 rfl dX9_number_1 ?_
  refine ax_aload_n F dX9_number_4 rfl ?_
  refine ax_get (v := .int (M 338 8)) F (ob_338 hm) rfl inGX9 8 (by decide) rfl kf_X9_70 rfl dX9_number_5 ?_
  refine ax_icmp_eq (t := 39) F dX9_number_8 (by decide) (fun hc => ?_) (fun hc => ?_)
  · have h := it_pos h hc
    refine ax_iconst (v := (0 : Int32)) F dX9_number_39 (by decide) ?_
    obtain ⟨h1, h2⟩ := rt_some h
    subst h1; subst h2
    exact ax_zret F (by decide) dX9_number_40
  · have h := it_neg h hc
    refine ax_aload_n F dX9_number_11 rfl ?_
    refine ax_get (v := .ref (ad 341)) F (ob_338 hm) rfl inGX9 7 (by decide) rfl kf_X9_17 rfl dX9_number_12 ?_
    refine ax_aload_n F dX9_number_15 rfl ?_
    refine ax_get (v := .int (M 338 11)) F (ob_338 hm) rfl inGX9 11 (by decide) rfl kf_X9_84 rfl dX9_number_16 ?_
    obtain ⟨hg, h⟩ := gd_some h
    refine ax_iald F (ar_341 hm) hg dX9_number_19 ?_
    obtain ⟨r1, M1, hq1, h⟩ := cq_some h
    refine ax_callSi (As := [.int (M 341 (ix (M 338 11)))]) (st := []) F (tX9_isDigit F.2.2.2.2.2.2.1 hm _  _ _ _ hq1) kc_X9_isDigit kz_X9 kt_X9_isDigit km_X9_91 ⟨kn_X9_isDigit, rfl, rfl, Nat.le_of_ble_eq_true rfl, Nat.le_of_ble_eq_true rfl⟩ rfl (Nat.le_of_ble_eq_true rfl) dX9_number_20 ?_
    refine ax_if_eq (t := 39) F dX9_number_23 (by decide) (fun hc => ?_) (fun hc => ?_)
    · have h := it_pos h hc
      refine ax_iconst (v := (0 : Int32)) F dX9_number_39 (by decide) ?_
      obtain ⟨h1, h2⟩ := rt_some h
      subst h1; subst h2
      exact ax_zret F (by decide) dX9_number_40
    · have h := it_neg h hc
      refine ax_aload_n F dX9_number_26 rfl ?_
      refine ax_get (v := .int (M1 338 12)) F (ob_338 hm) rfl inGX9 12 (by decide) rfl kf_X9_81 rfl dX9_number_27 ?_
      refine ax_aload_n F dX9_number_30 rfl ?_
      refine ax_get (v := .int (M1 338 11)) F (ob_338 hm) rfl inGX9 11 (by decide) rfl kf_X9_84 rfl dX9_number_31 ?_
      refine ax_isub F dX9_number_34 ?_
      refine ax_iconst (v := (3 : Int32)) F dX9_number_35 (by decide) ?_
      refine ax_icmp_le (t := 41) F dX9_number_36 (by decide) (fun hc => ?_) (fun hc => ?_)
      · have h := it_pos h hc
        refine ax_iconst (v := (0 : Int32)) F dX9_number_41 (by decide) ?_
        refine ax_istore F dX9_number_42 (by decide) rfl ?_
        refine ax_aload_n F dX9_number_44 rfl ?_
        refine ax_get (v := .int (M1 338 11)) F (ob_338 hm) rfl inGX9 11 (by decide) rfl kf_X9_84 rfl dX9_number_45 ?_
        refine ax_istore F dX9_number_48 (by decide) rfl ?_
        exact IH.2.1 _ _ _ _ _ _ _ h 
      · have h := it_neg h hc
        refine ax_iconst (v := (0 : Int32)) F dX9_number_39 (by decide) ?_
        obtain ⟨h1, h2⟩ := rt_some h
        subst h1; subst h2
        exact ax_zret F (by decide) dX9_number_40
set_option maxRecDepth 100000 in
set_option maxHeartbeats 4000000 in
theorem wX9_number_1 {p : Program} {l : Launch} {e : Env} {s : State} {m : MethodId} {args : Array Value} {below : List Frame} {meth : Method} {c : Code} {G : va_G} {L : List Nat} {ad : Nat → Nat} {cs : Nat → ClassId} {z : Bool} {zk zv : Nat → Nat} {r : Int32} {M' : Mm} {n : Nat} (F : Fx G L ad cs z zk zv p m meth c cX9_number 7 (some .boolean) s args RX9) (hm : isM L) (IH : PX9_number p l e s m args below meth c G L ad cs zk r M' n) (x1 : Int32) (x2 : Int32) (x3 : Int32) (x4 : Int32) (x5 : Int32) (x6 : Int32) (M : Mm) (h : (bX9_number_1 x1 x2 x3 x4 x5 x6 M).bind (fun q => match q with | .inl s' => itr stX9_number n s' | .inr r => some r) = some (r, M'))  : AW p l e rmX9_number s m args below meth c (MQ below (AQi G L ad cs r M') args s 0 0 (inA L ad)) G L ad cs 7 50 [some (.ref (ad 338)), some (.int x1), some (.int x2), some (.int x3), some (.int x4), some (.int x5), some (.int x6)] [] M := by
  unfold bX9_number_1 at h
  refine ax_iload F dX9_number_50 rfl ?_
  refine ax_aload_n F dX9_number_52 rfl ?_
  refine ax_get (v := .int (M 338 12)) F (ob_338 hm) rfl inGX9 12 (by decide) rfl kf_X9_81 rfl dX9_number_53 ?_
  refine ax_icmp_ge (t := 83) F dX9_number_56 (by decide) (fun hc => ?_) (fun hc => ?_)
  · have h := it_pos h hc
    refine ax_iload F dX9_number_83 rfl ?_
    refine ax_i2l F dX9_number_85 ?_
    refine ax_iload_n F dX9_number_86 rfl ?_
    refine ax_i2l F dX9_number_87 ?_
    refine ax_iload_n F dX9_number_88 rfl ?_
    refine ax_i2l F dX9_number_89 ?_
    obtain ⟨r1, M1, hq1, h⟩ := cq_some h
    refine ax_callSi (As := [.long (x5).toInt64, .long (x2).toInt64, .long (x3).toInt64]) (st := []) F (tX9_in F.2.2.2.2.2.2.1 hm _ _ _  _ _ _ hq1) kc_X9_in kz_X9 kt_X9_in km_X9_66 ⟨kn_X9_in, rfl, rfl, Nat.le_of_ble_eq_true rfl, Nat.le_of_ble_eq_true rfl⟩ rfl (Nat.le_of_ble_eq_true rfl) dX9_number_90 ?_
    refine ax_if_eq (t := 107) F dX9_number_93 (by decide) (fun hc => ?_) (fun hc => ?_)
    · have h := it_pos h hc
      refine ax_iconst (v := (0 : Int32)) F dX9_number_107 (by decide) ?_
      refine ax_mask [true, true, false, false, false, true, false] ?_
      exact IH.2.2 _ _ _ _ h 
    · have h := it_neg h hc
      refine ax_iload F dX9_number_96 rfl ?_
      refine ax_iload F dX9_number_98 rfl ?_
      refine ax_icmp_eq (t := 107) F dX9_number_100 (by decide) (fun hc => ?_) (fun hc => ?_)
      · have h := it_pos h hc
        refine ax_iconst (v := (0 : Int32)) F dX9_number_107 (by decide) ?_
        refine ax_mask [true, true, false, false, false, true, false] ?_
        exact IH.2.2 _ _ _ _ h 
      · have h := it_neg h hc
        refine ax_iconst (v := (1 : Int32)) F dX9_number_103 (by decide) ?_
        refine ax_goto (t := 108) F dX9_number_104 (by decide) ?_
        refine ax_mask [true, true, false, false, false, true, false] ?_
        exact IH.2.2 _ _ _ _ h 
  · have h := it_neg h hc
    refine ax_bipush (v := (10 : Int32)) F dX9_number_59 (by decide) ?_
    refine ax_iload F dX9_number_61 rfl ?_
    refine ax_imul F dX9_number_63 ?_
    refine ax_aload_n F dX9_number_64 rfl ?_
    refine ax_get (v := .ref (ad 341)) F (ob_338 hm) rfl inGX9 7 (by decide) rfl kf_X9_17 rfl dX9_number_65 ?_
    refine ax_iload F dX9_number_68 rfl ?_
    obtain ⟨hg, h⟩ := gd_some h
    refine ax_iald F (ar_341 hm) hg dX9_number_70 ?_
    refine ax_iadd F dX9_number_71 ?_
    refine ax_bipush (v := (48 : Int32)) F dX9_number_72 (by decide) ?_
    refine ax_isub F dX9_number_74 ?_
    refine ax_istore F dX9_number_75 (by decide) rfl ?_
    refine ax_iinc (v := (1 : Int32)) F dX9_number_77 rfl (by decide) (by decide) rfl ?_
    refine ax_goto (t := 50) F dX9_number_80 (by decide) ?_
    exact IH.2.1 _ _ _ _ _ _ _ h 
set_option maxRecDepth 100000 in
set_option maxHeartbeats 4000000 in
theorem wX9_number_2 {p : Program} {l : Launch} {e : Env} {s : State} {m : MethodId} {args : Array Value} {below : List Frame} {meth : Method} {c : Code} {G : va_G} {L : List Nat} {ad : Nat → Nat} {cs : Nat → ClassId} {z : Bool} {zk zv : Nat → Nat} {r : Int32} {M' : Mm} {n : Nat} (F : Fx G L ad cs z zk zv p m meth c cX9_number 7 (some .boolean) s args RX9) (hm : isM L) (IH : PX9_number p l e s m args below meth c G L ad cs zk r M' n) (x1 : Int32) (x5 : Int32) (s0 : Int32) (M : Mm) (h : (bX9_number_2 x1 x5 s0 M).bind (fun q => match q with | .inl s' => itr stX9_number n s' | .inr r => some r) = some (r, M'))  : AW p l e rmX9_number s m args below meth c (MQ below (AQi G L ad cs r M') args s 0 0 (inA L ad)) G L ad cs 7 108 [some (.ref (ad 338)), some (.int x1), none, none, none, some (.int x5), none] [.int s0] M := by
  unfold bX9_number_2 at h
  refine ax_istore F dX9_number_108 (by decide) rfl ?_
  refine ax_iload F dX9_number_110 rfl ?_
  refine ax_if_eq (t := 127) F dX9_number_112 (by decide) (fun hc => ?_) (fun hc => ?_)
  · have h := it_pos h hc
    refine ax_iload F dX9_number_127 rfl ?_
    obtain ⟨hz, h⟩ := gd_some h
    obtain ⟨h1, h2⟩ := rt_some h
    subst h1; subst h2
    exact ax_zret F hz dX9_number_129
  · have h := it_neg h hc
    refine ax_aload_n F dX9_number_115 rfl ?_
    refine ax_get (v := .ref (ad 344)) F (ob_338 hm) rfl inGX9 16 (by decide) rfl kf_X9_26 rfl dX9_number_116 ?_
    refine ax_iload_n F dX9_number_119 rfl ?_
    refine ax_iload F dX9_number_120 rfl ?_
    obtain ⟨hg, h⟩ := gd_some h
    refine ax_iast F (ar_344 hm) hg dX9_number_122 ?_
    refine ax_aload_n F dX9_number_123 rfl ?_
    obtain ⟨r1, M1, hq1, h⟩ := cq_some h
    refine ax_callVv (As := []) (st := []) F (tX9_nextToken F.2.2.2.2.2.2.1 hm   _ _ _ hq1) (ob_338 hm) rfl kc_X9_nextToken kz_X9 ki_X9_nextToken ks_X9_nextToken km_X9_94 ⟨kn_X9_nextToken, rfl, rfl, Nat.le_of_ble_eq_true rfl, Nat.le_of_ble_eq_true rfl⟩ rfl (Nat.le_of_ble_eq_true rfl) dX9_number_124 ?_
    refine ax_iload F dX9_number_127 rfl ?_
    obtain ⟨hz, h⟩ := gd_some h
    obtain ⟨h1, h2⟩ := rt_some h
    subst h1; subst h2
    exact ax_zret F hz dX9_number_129
set_option maxRecDepth 100000 in
set_option maxHeartbeats 4000000 in
theorem wX9_number {p : Program} {l : Launch} {e : Env} {s : State} {m : MethodId} {args : Array Value} {below : List Frame} {meth : Method} {c : Code} {G : va_G} {L : List Nat} {ad : Nat → Nat} {cs : Nat → ClassId} {z : Bool} {zk zv : Nat → Nat} {r : Int32} {M' : Mm} (F : Fx G L ad cs z zk zv p m meth c cX9_number 7 (some .boolean) s args RX9) (hm : isM L) (n : Nat) : PX9_number p l e s m args below meth c G L ad cs zk r M' n := by
  induction n with
  | zero => exact ⟨(fun x1 x2 x3 x4 M h => by cases h), (fun x1 x2 x3 x4 x5 x6 M h => by cases h), (fun x1 x5 s0 M h => by cases h)⟩
  | succ n ih =>
    exact ⟨fun x1 x2 x3 x4 M h  => wX9_number_0 F hm ih x1 x2 x3 x4 M h ,
      fun x1 x2 x3 x4 x5 x6 M h  => wX9_number_1 F hm ih x1 x2 x3 x4 x5 x6 M h ,
      fun x1 x5 s0 M h  => wX9_number_2 F hm ih x1 x5 s0 M h ⟩
set_option maxRecDepth 100000 in
set_option maxHeartbeats 4000000 in
theorem tX9_number {l : Launch} {G : va_G} {L : List Nat} {ad : Nat → Nat} {cs : Nat → ClassId} {z : Bool} {zk zv : Nat → Nat} (hinj : inj L ad) (hm : isM L) (x1 : Int32) (x2 : Int32) (x3 : Int32) (x4 : Int32)  (M : Mm) (r : Int32) (M' : Mm) (h : fX9_number x1 x2 x3 x4 M = some (r, M')) : Met l yX9_number (tgW yX9_number cX9_number 7 (some .boolean)) rmX9_number (APre G L ad cs z zk zv [.ref (ad 338), .int x1, .int x2, .int x3, .int x4] M) (AQi G L ad cs r M') 0 0 (inA L ad) := by
  refine met_of (Eq.refl true) (Nat.le_of_ble_eq_true rfl) hinj [some (.ref (ad 338)), some (.int x1), some (.int x2), some (.int x3), some (.int x4), none, none] rfl ?_
  intro p e s m below meth c F
  replace F : Fx G L ad cs z zk zv p m meth c cX9_number 7 (some .boolean) s _ RX9 := F
  obtain ⟨n, hn⟩ := run_ex h
  exact (wX9_number F hm n).1 x1 x2 x3 x4 M hn 
noncomputable def fX9_readsNode (x1 : Int32) (x2 : Int32) (M : Mm) : Option Rst := cl (fX9_number x1 (0 : Int32) ((M 338 13) - (1 : Int32)) x2 M) (fun r1 M1 => gd (okZ r1) (some (r1, M1)))
def rmX9_readsNode : Room := { frames := 4, cells := 0, slots := 0, locals := 91 }
theorem kn_X9_readsNode : yX9_readsNode.cls ≠ "java/lang/invoke/MethodHandle" ∧ yX9_readsNode.cls ≠ "java/lang/invoke/VarHandle" ∧ (parseMethodDescriptor yX9_readsNode.desc).map (fun d => d.parameters.length) = some 2 := by decide +kernel
set_option maxRecDepth 100000 in
set_option maxHeartbeats 4000000 in
theorem tX9_readsNode {l : Launch} {G : va_G} {L : List Nat} {ad : Nat → Nat} {cs : Nat → ClassId} {z : Bool} {zk zv : Nat → Nat} (hinj : inj L ad) (hm : isM L) (x1 : Int32) (x2 : Int32)  (M : Mm) (r : Int32) (M' : Mm) (h : fX9_readsNode x1 x2 M = some (r, M')) : Met l yX9_readsNode (tgW yX9_readsNode cX9_readsNode 3 (some .boolean)) rmX9_readsNode (APre G L ad cs z zk zv [.ref (ad 338), .int x1, .int x2] M) (AQi G L ad cs r M') 0 0 (inA L ad) := by
  refine met_of (Eq.refl true) (Nat.le_of_ble_eq_true rfl) hinj [some (.ref (ad 338)), some (.int x1), some (.int x2)] rfl ?_
  intro p e s m below meth c F
  replace F : Fx G L ad cs z zk zv p m meth c cX9_readsNode 3 (some .boolean) s _ RX9 := F
  unfold fX9_readsNode at h
  refine ax_aload_n F dX9_readsNode_0 rfl ?_
  refine ax_iload_n F dX9_readsNode_1 rfl ?_
  refine ax_iconst (v := (0 : Int32)) F dX9_readsNode_2 (by decide) ?_
  refine ax_aload_n F dX9_readsNode_3 rfl ?_
  refine ax_get (v := .int (M 338 13)) F (ob_338 hm) rfl inGX9 13 (by decide) rfl kf_X9_97 rfl dX9_readsNode_4 ?_
  refine ax_iconst (v := (1 : Int32)) F dX9_readsNode_7 (by decide) ?_
  refine ax_isub F dX9_readsNode_8 ?_
  refine ax_iload_n F dX9_readsNode_9 rfl ?_
  obtain ⟨r1, M1, hq1, h⟩ := cq_some0 h
  refine ax_callVi (As := [.int x1, .int (0 : Int32), .int ((M 338 13) - (1 : Int32)), .int x2]) (st := []) F (tX9_number F.2.2.2.2.2.2.1 hm _ _ _ _  _ _ _ hq1) (ob_338 hm) rfl kc_X9_number kz_X9 ki_X9_number ks_X9_number km_X9_100 ⟨kn_X9_number, rfl, rfl, Nat.le_of_ble_eq_true rfl, Nat.le_of_ble_eq_true rfl⟩ rfl (Nat.le_of_ble_eq_true rfl) dX9_readsNode_10 ?_
  obtain ⟨hz, h⟩ := gd_some0 h
  obtain ⟨h1, h2⟩ := rt_some0 h
  subst h1; subst h2
  exact ax_zret F hz dX9_readsNode_13
