def rmX9_allNumbers : Room := { frames := 0, cells := 0, slots := 0, locals := 0 }
theorem kn_X9_allNumbers : yX9_allNumbers.cls ≠ "java/lang/invoke/MethodHandle" ∧ yX9_allNumbers.cls ≠ "java/lang/invoke/VarHandle" ∧ (parseMethodDescriptor yX9_allNumbers.desc).map (fun d => d.parameters.length) = some 0 := by decide +kernel
noncomputable def bX9_allNumbers_0  (M : Mm) : Option (Sst ⊕ Rst) := some (.inl (1, [], [(0 : Int32), (0 : Int32)], M))
noncomputable def bX9_allNumbers_1 (x1 : Int32) (x2 : Int32) (M : Mm) : Option (Sst ⊕ Rst) := if (3 : Int32) ≤ x2 then (some (.inr (x1, M))) else (gd (okI x2 3) (if 0 ≤ (M 342 (ix x2)) then (gd (okI x2 3) (some (.inl (1, [], [(x1 + (M 342 (ix x2))), (x2 + (1 : Int32))], M)))) else (some (.inl (1, [], [(x1 + (0 : Int32)), (x2 + (1 : Int32))], M)))))
noncomputable def stX9_allNumbers : Sst → Option (Sst ⊕ Rst) := fun q => match q.1 with
  | 0 => bX9_allNumbers_0  q.2.2.2
  | 1 => bX9_allNumbers_1 (q.2.2.1.getD 0 0) (q.2.2.1.getD 1 0) q.2.2.2
  | _ => none
noncomputable def fX9_allNumbers  (M : Mm) : Option Rst := run stX9_allNumbers (0, [], [], M)
def PX9_allNumbers (p : Program) (l : Launch) (e : Env) (s : State) (m : MethodId) (args : Array Value) (below : List Frame) (meth : Method) (c : Code) (G : va_G) (L : List Nat) (ad : Nat → Nat) (cs : Nat → ClassId) (zk : Nat → Nat) (r : Int32) (M' : Mm) (n : Nat) : Prop := (∀  (M : Mm), itr stX9_allNumbers n (0, [], [], M) = some (r, M') → AW p l e rmX9_allNumbers s m args below meth c (MQ below (AQi G L ad cs r M') args s 0 0 (inA L ad)) G L ad cs 3 0 [some (.ref (ad 338)), none, none] [] M) ∧ (∀ (x1 : Int32) (x2 : Int32) (M : Mm), itr stX9_allNumbers n (1, [], [x1, x2], M) = some (r, M') → AW p l e rmX9_allNumbers s m args below meth c (MQ below (AQi G L ad cs r M') args s 0 0 (inA L ad)) G L ad cs 3 4 [some (.ref (ad 338)), some (.int x1), some (.int x2)] [] M)
set_option maxRecDepth 100000 in
set_option maxHeartbeats 4000000 in
theorem wX9_allNumbers_0 {p : Program} {l : Launch} {e : Env} {s : State} {m : MethodId} {args : Array Value} {below : List Frame} {meth : Method} {c : Code} {G : va_G} {L : List Nat} {ad : Nat → Nat} {cs : Nat → ClassId} {z : Bool} {zk zv : Nat → Nat} {r : Int32} {M' : Mm} {n : Nat} (F : Fx G L ad cs z zk zv p m meth c cX9_allNumbers 3 (some .int) s args RX9) (hm : isM L) (IH : PX9_allNumbers p l e s m args below meth c G L ad cs zk r M' n)  (M : Mm) (h : (bX9_allNumbers_0  M).bind (fun q => match q with | .inl s' => itr stX9_allNumbers n s' | .inr r => some r) = some (r, M'))  : AW p l e rmX9_allNumbers s m args below meth c (MQ below (AQi G L ad cs r M') args s 0 0 (inA L ad)) G L ad cs 3 0 [some (.ref (ad 338)), none, none] [] M := by
  unfold bX9_allNumbers_0 at h
  refine ax_iconst (v := (0 : Int32)) F dX9_allNumbers_0 (by decide) ?_
  refine ax_istore_n F dX9_allNumbers_1 (by decide) rfl ?_
  refine ax_iconst (v := (0 : Int32)) F dX9_allNumbers_2 (by decide) ?_
  refine ax_istore_n F dX9_allNumbers_3 (by decide) rfl ?_
  exact IH.2 _ _ _ h 
set_option maxRecDepth 100000 in
set_option maxHeartbeats 4000000 in
theorem wX9_allNumbers_1 {p : Program} {l : Launch} {e : Env} {s : State} {m : MethodId} {args : Array Value} {below : List Frame} {meth : Method} {c : Code} {G : va_G} {L : List Nat} {ad : Nat → Nat} {cs : Nat → ClassId} {z : Bool} {zk zv : Nat → Nat} {r : Int32} {M' : Mm} {n : Nat} (F : Fx G L ad cs z zk zv p m meth c cX9_allNumbers 3 (some .int) s args RX9) (hm : isM L) (IH : PX9_allNumbers p l e s m args below meth c G L ad cs zk r M' n) (x1 : Int32) (x2 : Int32) (M : Mm) (h : (bX9_allNumbers_1 x1 x2 M).bind (fun q => match q with | .inl s' => itr stX9_allNumbers n s' | .inr r => some r) = some (r, M'))  : AW p l e rmX9_allNumbers s m args below meth c (MQ below (AQi G L ad cs r M') args s 0 0 (inA L ad)) G L ad cs 3 4 [some (.ref (ad 338)), some (.int x1), some (.int x2)] [] M := by
  unfold bX9_allNumbers_1 at h
  refine ax_iload_n F dX9_allNumbers_4 rfl ?_
  refine ax_iconst (v := (3 : Int32)) F dX9_allNumbers_5 (by decide) ?_
  refine ax_icmp_ge (t := 37) F dX9_allNumbers_6 (by decide) (fun hc => ?_) (fun hc => ?_)
  · have h := it_pos h hc
    refine ax_iload_n F dX9_allNumbers_37 rfl ?_
    obtain ⟨h1, h2⟩ := rt_some h
    subst h1; subst h2
    exact ax_iret F dX9_allNumbers_38
  · have h := it_neg h hc
    refine ax_iload_n F dX9_allNumbers_9 rfl ?_
    refine ax_aload_n F dX9_allNumbers_10 rfl ?_
    refine ax_get (v := .ref (ad 342)) F (ob_338 hm) rfl inGX9 9 (by decide) rfl kf_X9_20 rfl dX9_allNumbers_11 ?_
    refine ax_iload_n F dX9_allNumbers_14 rfl ?_
    obtain ⟨hg, h⟩ := gd_some h
    refine ax_iald F (ar_342 hm) hg dX9_allNumbers_15 ?_
    refine ax_if_ge (t := 23) F dX9_allNumbers_16 (by decide) (fun hc => ?_) (fun hc => ?_)
    · have h := it_pos h hc
      refine ax_aload_n F dX9_allNumbers_23 rfl ?_
      refine ax_get (v := .ref (ad 342)) F (ob_338 hm) rfl inGX9 9 (by decide) rfl kf_X9_20 rfl dX9_allNumbers_24 ?_
      refine ax_iload_n F dX9_allNumbers_27 rfl ?_
      obtain ⟨hg, h⟩ := gd_some h
      refine ax_iald F (ar_342 hm) hg dX9_allNumbers_28 ?_
      refine ax_iadd F dX9_allNumbers_29 ?_
      refine ax_istore_n F dX9_allNumbers_30 (by decide) rfl ?_
      refine ax_iinc (v := (1 : Int32)) F dX9_allNumbers_31 rfl (by decide) (by decide) rfl ?_
      refine ax_goto (t := 4) F dX9_allNumbers_34 (by decide) ?_
      exact IH.2 _ _ _ h 
    · have h := it_neg h hc
      refine ax_iconst (v := (0 : Int32)) F dX9_allNumbers_19 (by decide) ?_
      refine ax_goto (t := 29) F dX9_allNumbers_20 (by decide) ?_
      refine ax_iadd F dX9_allNumbers_29 ?_
      refine ax_istore_n F dX9_allNumbers_30 (by decide) rfl ?_
      refine ax_iinc (v := (1 : Int32)) F dX9_allNumbers_31 rfl (by decide) (by decide) rfl ?_
      refine ax_goto (t := 4) F dX9_allNumbers_34 (by decide) ?_
      exact IH.2 _ _ _ h 
set_option maxRecDepth 100000 in
set_option maxHeartbeats 4000000 in
theorem wX9_allNumbers {p : Program} {l : Launch} {e : Env} {s : State} {m : MethodId} {args : Array Value} {below : List Frame} {meth : Method} {c : Code} {G : va_G} {L : List Nat} {ad : Nat → Nat} {cs : Nat → ClassId} {z : Bool} {zk zv : Nat → Nat} {r : Int32} {M' : Mm} (F : Fx G L ad cs z zk zv p m meth c cX9_allNumbers 3 (some .int) s args RX9) (hm : isM L) (n : Nat) : PX9_allNumbers p l e s m args below meth c G L ad cs zk r M' n := by
  induction n with
  | zero => exact ⟨(fun  M h => by cases h), (fun x1 x2 M h => by cases h)⟩
  | succ n ih =>
    exact ⟨fun  M h  => wX9_allNumbers_0 F hm ih  M h ,
      fun x1 x2 M h  => wX9_allNumbers_1 F hm ih x1 x2 M h ⟩
set_option maxRecDepth 100000 in
set_option maxHeartbeats 4000000 in
theorem tX9_allNumbers {l : Launch} {G : va_G} {L : List Nat} {ad : Nat → Nat} {cs : Nat → ClassId} {z : Bool} {zk zv : Nat → Nat} (hinj : inj L ad) (hm : isM L)   (M : Mm) (r : Int32) (M' : Mm) (h : fX9_allNumbers  M = some (r, M')) : Met l yX9_allNumbers (tgW yX9_allNumbers cX9_allNumbers 3 (some .int)) rmX9_allNumbers (APre G L ad cs z zk zv [.ref (ad 338)] M) (AQi G L ad cs r M') 0 0 (inA L ad) := by
  refine met_of (Eq.refl true) (Nat.le_of_ble_eq_true rfl) hinj [some (.ref (ad 338)), none, none] rfl ?_
  intro p e s m below meth c F
  replace F : Fx G L ad cs z zk zv p m meth c cX9_allNumbers 3 (some .int) s _ RX9 := F
  obtain ⟨n, hn⟩ := run_ex h
  exact (wX9_allNumbers F hm n).1  M hn 
noncomputable def fX9_told (x1 : Int32) (M : Mm) : Option Rst := if x1 = (0 : Int32) then (some ((M 338 1), M)) else if x1 = (1 : Int32) then (some ((M 338 2), M)) else if x1 = (2 : Int32) then (some ((M 338 3), M)) else if x1 = (3 : Int32) then (cl (fX9_alive (0 : Int32) M) (fun r1 M1 => some (r1, M1))) else if x1 = (4 : Int32) then (cl (fX9_entries M) (fun r2 M2 => some (r2, M2))) else if x1 = (5 : Int32) then (cl (fX9_extreme (0 : Int32) (1 : Int32) M) (fun r3 M3 => some (r3, M3))) else if x1 = (6 : Int32) then (cl (fX9_extreme (0 : Int32) (0 : Int32) M) (fun r4 M4 => some (r4, M4))) else if x1 = (7 : Int32) then (cl (fX9_parts M) (fun r5 M5 => some (r5, M5))) else if x1 = (8 : Int32) then (some ((M 339 (ix (0 : Int32))), M)) else if x1 = (9 : Int32) then (cl (fX9_allNumbers M) (fun r6 M6 => some (r6, M6))) else if x1 = (10 : Int32) then (some ((M 338 5), M)) else if x1 = (11 : Int32) then (some ((M 338 8), M)) else (some ((-3 : Int32), M))
def rmX9_told : Room := { frames := 4, cells := 0, slots := 0, locals := 92 }
theorem kn_X9_told : yX9_told.cls ≠ "java/lang/invoke/MethodHandle" ∧ yX9_told.cls ≠ "java/lang/invoke/VarHandle" ∧ (parseMethodDescriptor yX9_told.desc).map (fun d => d.parameters.length) = some 1 := by decide +kernel
set_option maxRecDepth 100000 in
set_option maxHeartbeats 4000000 in
theorem tX9_told {l : Launch} {G : va_G} {L : List Nat} {ad : Nat → Nat} {cs : Nat → ClassId} {z : Bool} {zk zv : Nat → Nat} (hinj : inj L ad) (hm : isM L) (x1 : Int32)  (M : Mm) (r : Int32) (M' : Mm) (h : fX9_told x1 M = some (r, M')) : Met l yX9_told (tgW yX9_told cX9_told 2 (some .int)) rmX9_told (APre G L ad cs z zk zv [.ref (ad 338), .int x1] M) (AQi G L ad cs r M') 0 0 (inA L ad) := by
  refine met_of (Eq.refl true) (Nat.le_of_ble_eq_true rfl) hinj [some (.ref (ad 338)), some (.int x1)] rfl ?_
  intro p e s m below meth c F
  replace F : Fx G L ad cs z zk zv p m meth c cX9_told 2 (some .int) s _ RX9 := F
  unfold fX9_told at h
  refine ax_iload_n F dX9_told_0 rfl ?_
  by_cases hc0 : x1 = (0 : Int32)
  · have h := it_pos0 h hc0
    refine ax_swK (v := (0 : Int32)) (t := 64) F dX9_told_1 hc0 (by decide) (by decide) rfl (by decide) ?_
    refine ax_aload_n F dX9_told_64 rfl ?_
    refine ax_get (v := .int (M 338 1)) F (ob_338 hm) rfl inGX9 1 (by decide) rfl kf_X9_48 rfl dX9_told_65 ?_
    obtain ⟨h1, h2⟩ := rt_some0 h
    subst h1; subst h2
    exact ax_iret F dX9_told_68
  replace h := it_neg0 h hc0
  by_cases hc1 : x1 = (1 : Int32)
  · have h := it_pos0 h hc1
    refine ax_swK (v := (1 : Int32)) (t := 69) F dX9_told_1 hc1 (by decide) (by decide) rfl (by decide) ?_
    refine ax_aload_n F dX9_told_69 rfl ?_
    refine ax_get (v := .int (M 338 2)) F (ob_338 hm) rfl inGX9 2 (by decide) rfl kf_X9_52 rfl dX9_told_70 ?_
    obtain ⟨h1, h2⟩ := rt_some0 h
    subst h1; subst h2
    exact ax_iret F dX9_told_73
  replace h := it_neg0 h hc1
  by_cases hc2 : x1 = (2 : Int32)
  · have h := it_pos0 h hc2
    refine ax_swK (v := (2 : Int32)) (t := 74) F dX9_told_1 hc2 (by decide) (by decide) rfl (by decide) ?_
    refine ax_aload_n F dX9_told_74 rfl ?_
    refine ax_get (v := .int (M 338 3)) F (ob_338 hm) rfl inGX9 3 (by decide) rfl kf_X9_55 rfl dX9_told_75 ?_
    obtain ⟨h1, h2⟩ := rt_some0 h
    subst h1; subst h2
    exact ax_iret F dX9_told_78
  replace h := it_neg0 h hc2
  by_cases hc3 : x1 = (3 : Int32)
  · have h := it_pos0 h hc3
    refine ax_swK (v := (3 : Int32)) (t := 79) F dX9_told_1 hc3 (by decide) (by decide) rfl (by decide) ?_
    refine ax_aload_n F dX9_told_79 rfl ?_
    refine ax_iconst (v := (0 : Int32)) F dX9_told_80 (by decide) ?_
    obtain ⟨r1, M1, hq1, h⟩ := cq_some0 h
    refine ax_callVi (As := [.int (0 : Int32)]) (st := []) F (tX9_alive F.2.2.2.2.2.2.1 hm _  _ _ _ hq1) (ob_338 hm) rfl kc_X9_alive kz_X9 ki_X9_alive ks_X9_alive km_X9_212 ⟨kn_X9_alive, rfl, rfl, Nat.le_of_ble_eq_true rfl, Nat.le_of_ble_eq_true rfl⟩ rfl (Nat.le_of_ble_eq_true rfl) dX9_told_81 ?_
    obtain ⟨h1, h2⟩ := rt_some0 h
    subst h1; subst h2
    exact ax_iret F dX9_told_84
  replace h := it_neg0 h hc3
  by_cases hc4 : x1 = (4 : Int32)
  · have h := it_pos0 h hc4
    refine ax_swK (v := (4 : Int32)) (t := 85) F dX9_told_1 hc4 (by decide) (by decide) rfl (by decide) ?_
    refine ax_aload_n F dX9_told_85 rfl ?_
    obtain ⟨r2, M2, hq2, h⟩ := cq_some0 h
    refine ax_callVi (As := []) (st := []) F (tX9_entries F.2.2.2.2.2.2.1 hm   _ _ _ hq2) (ob_338 hm) rfl kc_X9_entries kz_X9 ki_X9_entries ks_X9_entries km_X9_209 ⟨kn_X9_entries, rfl, rfl, Nat.le_of_ble_eq_true rfl, Nat.le_of_ble_eq_true rfl⟩ rfl (Nat.le_of_ble_eq_true rfl) dX9_told_86 ?_
    obtain ⟨h1, h2⟩ := rt_some0 h
    subst h1; subst h2
    exact ax_iret F dX9_told_89
  replace h := it_neg0 h hc4
  by_cases hc5 : x1 = (5 : Int32)
  · have h := it_pos0 h hc5
    refine ax_swK (v := (5 : Int32)) (t := 90) F dX9_told_1 hc5 (by decide) (by decide) rfl (by decide) ?_
    refine ax_aload_n F dX9_told_90 rfl ?_
    refine ax_iconst (v := (0 : Int32)) F dX9_told_91 (by decide) ?_
    refine ax_iconst (v := (1 : Int32)) F dX9_told_92 (by decide) ?_
    obtain ⟨r3, M3, hq3, h⟩ := cq_some0 h
    refine ax_callVi (As := [.int (0 : Int32), .int (1 : Int32)]) (st := []) F (tX9_extreme F.2.2.2.2.2.2.1 hm _ _  _ _ _ hq3) (ob_338 hm) rfl kc_X9_extreme kz_X9 ki_X9_extreme ks_X9_extreme km_X9_220 ⟨kn_X9_extreme, rfl, rfl, Nat.le_of_ble_eq_true rfl, Nat.le_of_ble_eq_true rfl⟩ rfl (Nat.le_of_ble_eq_true rfl) dX9_told_93 ?_
    obtain ⟨h1, h2⟩ := rt_some0 h
    subst h1; subst h2
    exact ax_iret F dX9_told_96
  replace h := it_neg0 h hc5
  by_cases hc6 : x1 = (6 : Int32)
  · have h := it_pos0 h hc6
    refine ax_swK (v := (6 : Int32)) (t := 97) F dX9_told_1 hc6 (by decide) (by decide) rfl (by decide) ?_
    refine ax_aload_n F dX9_told_97 rfl ?_
    refine ax_iconst (v := (0 : Int32)) F dX9_told_98 (by decide) ?_
    refine ax_iconst (v := (0 : Int32)) F dX9_told_99 (by decide) ?_
    obtain ⟨r4, M4, hq4, h⟩ := cq_some0 h
    refine ax_callVi (As := [.int (0 : Int32), .int (0 : Int32)]) (st := []) F (tX9_extreme F.2.2.2.2.2.2.1 hm _ _  _ _ _ hq4) (ob_338 hm) rfl kc_X9_extreme kz_X9 ki_X9_extreme ks_X9_extreme km_X9_220 ⟨kn_X9_extreme, rfl, rfl, Nat.le_of_ble_eq_true rfl, Nat.le_of_ble_eq_true rfl⟩ rfl (Nat.le_of_ble_eq_true rfl) dX9_told_100 ?_
    obtain ⟨h1, h2⟩ := rt_some0 h
    subst h1; subst h2
    exact ax_iret F dX9_told_103
  replace h := it_neg0 h hc6
  by_cases hc7 : x1 = (7 : Int32)
  · have h := it_pos0 h hc7
    refine ax_swK (v := (7 : Int32)) (t := 104) F dX9_told_1 hc7 (by decide) (by decide) rfl (by decide) ?_
    refine ax_aload_n F dX9_told_104 rfl ?_
    obtain ⟨r5, M5, hq5, h⟩ := cq_some0 h
    refine ax_callVi (As := []) (st := []) F (tX9_parts F.2.2.2.2.2.2.1 hm   _ _ _ hq5) (ob_338 hm) rfl kc_X9_parts kz_X9 ki_X9_parts ks_X9_parts km_X9_244 ⟨kn_X9_parts, rfl, rfl, Nat.le_of_ble_eq_true rfl, Nat.le_of_ble_eq_true rfl⟩ rfl (Nat.le_of_ble_eq_true rfl) dX9_told_105 ?_
    obtain ⟨h1, h2⟩ := rt_some0 h
    subst h1; subst h2
    exact ax_iret F dX9_told_108
  replace h := it_neg0 h hc7
  by_cases hc8 : x1 = (8 : Int32)
  · have h := it_pos0 h hc8
    refine ax_swK (v := (8 : Int32)) (t := 109) F dX9_told_1 hc8 (by decide) (by decide) rfl (by decide) ?_
    refine ax_aload_n F dX9_told_109 rfl ?_
    refine ax_get (v := .ref (ad 339)) F (ob_338 hm) rfl inGX9 0 (by decide) rfl kf_X9_7 rfl dX9_told_110 ?_
    refine ax_iconst (v := (0 : Int32)) F dX9_told_113 (by decide) ?_
    refine ax_iald F (ar_339 hm) (by decide) dX9_told_114 ?_
    obtain ⟨h1, h2⟩ := rt_some0 h
    subst h1; subst h2
    exact ax_iret F dX9_told_115
  replace h := it_neg0 h hc8
  by_cases hc9 : x1 = (9 : Int32)
  · have h := it_pos0 h hc9
    refine ax_swK (v := (9 : Int32)) (t := 116) F dX9_told_1 hc9 (by decide) (by decide) rfl (by decide) ?_
    refine ax_aload_n F dX9_told_116 rfl ?_
    obtain ⟨r6, M6, hq6, h⟩ := cq_some0 h
    refine ax_callVi (As := []) (st := []) F (tX9_allNumbers F.2.2.2.2.2.2.1 hm   _ _ _ hq6) (ob_338 hm) rfl kc_X9_allNumbers kz_X9 ki_X9_allNumbers ks_X9_allNumbers km_X9_247 ⟨kn_X9_allNumbers, rfl, rfl, Nat.le_of_ble_eq_true rfl, Nat.le_of_ble_eq_true rfl⟩ rfl (Nat.le_of_ble_eq_true rfl) dX9_told_117 ?_
    obtain ⟨h1, h2⟩ := rt_some0 h
    subst h1; subst h2
    exact ax_iret F dX9_told_120
  replace h := it_neg0 h hc9
  by_cases hc10 : x1 = (10 : Int32)
  · have h := it_pos0 h hc10
    refine ax_swK (v := (10 : Int32)) (t := 121) F dX9_told_1 hc10 (by decide) (by decide) rfl (by decide) ?_
    refine ax_aload_n F dX9_told_121 rfl ?_
    refine ax_get (v := .int (M 338 5)) F (ob_338 hm) rfl inGX9 5 (by decide) rfl kf_X9_149 rfl dX9_told_122 ?_
    obtain ⟨h1, h2⟩ := rt_some0 h
    subst h1; subst h2
    exact ax_iret F dX9_told_125
  replace h := it_neg0 h hc10
  by_cases hc11 : x1 = (11 : Int32)
  · have h := it_pos0 h hc11
    refine ax_swK (v := (11 : Int32)) (t := 126) F dX9_told_1 hc11 (by decide) (by decide) rfl (by decide) ?_
    refine ax_aload_n F dX9_told_126 rfl ?_
    refine ax_get (v := .int (M 338 8)) F (ob_338 hm) rfl inGX9 8 (by decide) rfl kf_X9_70 rfl dX9_told_127 ?_
    obtain ⟨h1, h2⟩ := rt_some0 h
    subst h1; subst h2
    exact ax_iret F dX9_told_130
  replace h := it_neg0 h hc11
  have hd0 : (x1).toInt ≠ 0 := fun e => hc0 (Int32.toInt_inj.mp (by rw [e]; rfl))
  have hd1 : (x1).toInt ≠ 1 := fun e => hc1 (Int32.toInt_inj.mp (by rw [e]; rfl))
  have hd2 : (x1).toInt ≠ 2 := fun e => hc2 (Int32.toInt_inj.mp (by rw [e]; rfl))
  have hd3 : (x1).toInt ≠ 3 := fun e => hc3 (Int32.toInt_inj.mp (by rw [e]; rfl))
  have hd4 : (x1).toInt ≠ 4 := fun e => hc4 (Int32.toInt_inj.mp (by rw [e]; rfl))
  have hd5 : (x1).toInt ≠ 5 := fun e => hc5 (Int32.toInt_inj.mp (by rw [e]; rfl))
  have hd6 : (x1).toInt ≠ 6 := fun e => hc6 (Int32.toInt_inj.mp (by rw [e]; rfl))
  have hd7 : (x1).toInt ≠ 7 := fun e => hc7 (Int32.toInt_inj.mp (by rw [e]; rfl))
  have hd8 : (x1).toInt ≠ 8 := fun e => hc8 (Int32.toInt_inj.mp (by rw [e]; rfl))
  have hd9 : (x1).toInt ≠ 9 := fun e => hc9 (Int32.toInt_inj.mp (by rw [e]; rfl))
  have hd10 : (x1).toInt ≠ 10 := fun e => hc10 (Int32.toInt_inj.mp (by rw [e]; rfl))
  have hd11 : (x1).toInt ≠ 11 := fun e => hc11 (Int32.toInt_inj.mp (by rw [e]; rfl))
  refine ax_swOut (t := 131) F dX9_told_1 (by omega) (by decide) ?_
  refine ax_bipush (v := (-3 : Int32)) F dX9_told_131 (by decide) ?_
  obtain ⟨h1, h2⟩ := rt_some0 h
  subst h1; subst h2
  exact ax_iret F dX9_told_133
