def rmX1_begin : Room := { frames := 1, cells := 0, slots := 0, locals := 22 }
theorem kn_X1_begin : yX1_begin.cls ≠ "java/lang/invoke/MethodHandle" ∧ yX1_begin.cls ≠ "java/lang/invoke/VarHandle" ∧ (parseMethodDescriptor yX1_begin.desc).map (fun d => d.parameters.length) = some 4 := by decide +kernel
noncomputable def bX1_begin_0 (a0 : Nat) (x1 : Int32) (x2 : Int32) (x3 : Int32) (x4 : Int32) (M : Mm) : Option (Sst ⊕ Rst) := some (.inl (1, [a0], [(0 : Int32)], (up2 (up2 (up2 (up2 (up2 (up2 M a0 1 (imax (2 : Int32) (imin x1 (8 : Int32)))) a0 2 x2) a0 3 x3) a0 4 x4) a0 5 ((ish (1 : Int32) ((up2 (up2 (up2 (up2 M a0 1 (imax (2 : Int32) (imin x1 (8 : Int32)))) a0 2 x2) a0 3 x3) a0 4 x4) a0 1)) - (1 : Int32))) a0 6 (0 : Int32))))
noncomputable def bX1_begin_1 (a0 : Nat) (x5 : Int32) (M : Mm) : Option (Sst ⊕ Rst) := if (8 : Int32) ≤ x5 then (some (.inr ((0 : Int32), M))) else (gd (okI x5 8) (cl (fX7_clear (a0 + 2 + 3 * ix (x5)) M) (fun r1 M1 => some (.inl (2, [a0], [x5, (1 : Int32)], M1)))))
noncomputable def bX1_begin_2 (a0 : Nat) (x5 : Int32) (x6 : Int32) (M : Mm) : Option (Sst ⊕ Rst) := if (M a0 1) ≤ x5 then (some (.inl (1, [a0], [(x5 + (1 : Int32))], M))) else (if (M a0 1) ≤ x6 then (some (.inl (1, [a0], [(x5 + (1 : Int32))], M))) else (if (M a0 2) < x6 then (some (.inl (1, [a0], [(x5 + (1 : Int32))], M))) else (gd (okI x5 8) (gd (decide (¬ (M a0 1) = 0)) (cl (fX7_append (a0 + 2 + 3 * ix (x5)) (irem (x5 + x6) (M a0 1)) (0 : Int32) M) (fun r1 M1 => some (.inl (2, [a0], [x5, (x6 + (1 : Int32))], M1))))))))
noncomputable def stX1_begin : Sst → Option (Sst ⊕ Rst) := fun q => match q.1 with
  | 0 => bX1_begin_0 (q.2.1.getD 0 0) (q.2.2.1.getD 0 0) (q.2.2.1.getD 1 0) (q.2.2.1.getD 2 0) (q.2.2.1.getD 3 0) q.2.2.2
  | 1 => bX1_begin_1 (q.2.1.getD 0 0) (q.2.2.1.getD 0 0) q.2.2.2
  | 2 => bX1_begin_2 (q.2.1.getD 0 0) (q.2.2.1.getD 0 0) (q.2.2.1.getD 1 0) q.2.2.2
  | _ => none
noncomputable def fX1_begin (a0 : Nat) (x1 : Int32) (x2 : Int32) (x3 : Int32) (x4 : Int32) (M : Mm) : Option Rst := run stX1_begin (0, [a0], [x1, x2, x3, x4], M)
def PX1_begin (p : Program) (l : Launch) (e : Env) (s : State) (m : MethodId) (args : Array Value) (below : List Frame) (meth : Method) (c : Code) (G : va_G) (L : List Nat) (ad : Nat → Nat) (cs : Nat → ClassId) (zk : Nat → Nat) (r : Int32) (M' : Mm) (n : Nat) : Prop := (∀ (a0 : Nat) (x1 : Int32) (x2 : Int32) (x3 : Int32) (x4 : Int32) (M : Mm), itr stX1_begin n (0, [a0], [x1, x2, x3, x4], M) = some (r, M') → isN L a0 → AW p l e rmX1_begin s m args below meth c (MQ below (AQv G L ad cs M') args s 0 0 (inA L ad)) G L ad cs 7 0 [some (.ref (ad a0)), some (.int x1), some (.int x2), some (.int x3), some (.int x4), none, none] [] M) ∧ (∀ (a0 : Nat) (x5 : Int32) (M : Mm), itr stX1_begin n (1, [a0], [x5], M) = some (r, M') → isN L a0 → AW p l e rmX1_begin s m args below meth c (MQ below (AQv G L ad cs M') args s 0 0 (inA L ad)) G L ad cs 7 50 [some (.ref (ad a0)), none, none, none, none, some (.int x5), none] [] M) ∧ (∀ (a0 : Nat) (x5 : Int32) (x6 : Int32) (M : Mm), itr stX1_begin n (2, [a0], [x5, x6], M) = some (r, M') → isN L a0 → AW p l e rmX1_begin s m args below meth c (MQ below (AQv G L ad cs M') args s 0 0 (inA L ad)) G L ad cs 7 70 [some (.ref (ad a0)), none, none, none, none, some (.int x5), some (.int x6)] [] M)
set_option maxRecDepth 100000 in
set_option maxHeartbeats 4000000 in
theorem wX1_begin_0 {p : Program} {l : Launch} {e : Env} {s : State} {m : MethodId} {args : Array Value} {below : List Frame} {meth : Method} {c : Code} {G : va_G} {L : List Nat} {ad : Nat → Nat} {cs : Nat → ClassId} {z : Bool} {zk zv : Nat → Nat} {r : Int32} {M' : Mm} {n : Nat} (F : Fx G L ad cs z zk zv p m meth c cX1_begin 7 none s args RX1)  (IH : PX1_begin p l e s m args below meth c G L ad cs zk r M' n) (a0 : Nat) (x1 : Int32) (x2 : Int32) (x3 : Int32) (x4 : Int32) (M : Mm) (h : (bX1_begin_0 a0 x1 x2 x3 x4 M).bind (fun q => match q with | .inl s' => itr stX1_begin n s' | .inr r => some r) = some (r, M')) (h0 : isN L a0) : AW p l e rmX1_begin s m args below meth c (MQ below (AQv G L ad cs M') args s 0 0 (inA L ad)) G L ad cs 7 0 [some (.ref (ad a0)), some (.int x1), some (.int x2), some (.int x3), some (.int x4), none, none] [] M := by
  unfold bX1_begin_0 at h
  refine ax_aload_n F dX1_begin_0 rfl ?_
  refine ax_iconst (v := (2 : Int32)) F dX1_begin_1 (by decide) ?_
  refine ax_iload_n F dX1_begin_2 rfl ?_
  refine ax_bipush (v := (8 : Int32)) F dX1_begin_3 (by decide) ?_
  refine ax_min F km_X1_22 (kt_J9_min_7cf53) kz_J9 (kc_J9_min_7cf53) (Nat.le_of_ble_eq_true rfl) (Nat.le_of_ble_eq_true rfl) dX1_begin_5 ?_
  refine ax_max F km_X1_28 (kt_J9_max_7cf53) kz_J9 (kc_J9_max_7cf53) (Nat.le_of_ble_eq_true rfl) (Nat.le_of_ble_eq_true rfl) dX1_begin_8 ?_
  refine ax_put (ty := .int) F (ob_N h0) rfl inGX1 tyX1 tyX1_ok nmX1 1 (by decide) rfl kf_X1_31 (by decide) rfl rfl (Nat.le_of_ble_eq_true rfl) rfl dX1_begin_11 ?_
  refine ax_aload_n F dX1_begin_14 rfl ?_
  refine ax_iload_n F dX1_begin_15 rfl ?_
  refine ax_put (ty := .int) F (ob_N h0) rfl inGX1 tyX1 tyX1_ok nmX1 2 (by decide) rfl kf_X1_35 (by decide) rfl rfl (Nat.le_of_ble_eq_true rfl) rfl dX1_begin_16 ?_
  refine ax_aload_n F dX1_begin_19 rfl ?_
  refine ax_iload_n F dX1_begin_20 rfl ?_
  refine ax_put (ty := .int) F (ob_N h0) rfl inGX1 tyX1 tyX1_ok nmX1 3 (by decide) rfl kf_X1_38 (by decide) rfl rfl (Nat.le_of_ble_eq_true rfl) rfl dX1_begin_21 ?_
  refine ax_aload_n F dX1_begin_24 rfl ?_
  refine ax_iload F dX1_begin_25 rfl ?_
  refine ax_put (ty := .int) F (ob_N h0) rfl inGX1 tyX1 tyX1_ok nmX1 4 (by decide) rfl kf_X1_41 (by decide) rfl rfl (Nat.le_of_ble_eq_true rfl) rfl dX1_begin_27 ?_
  refine ax_aload_n F dX1_begin_30 rfl ?_
  refine ax_iconst (v := (1 : Int32)) F dX1_begin_31 (by decide) ?_
  refine ax_aload_n F dX1_begin_32 rfl ?_
  refine ax_get (v := .int ((up2 (up2 (up2 (up2 M a0 1 (imax (2 : Int32) (imin x1 (8 : Int32)))) a0 2 x2) a0 3 x3) a0 4 x4) a0 1)) F (ob_N h0) rfl inGX1 1 (by decide) rfl kf_X1_31 rfl dX1_begin_33 ?_
  refine ax_ishl F dX1_begin_36 ?_
  refine ax_iconst (v := (1 : Int32)) F dX1_begin_37 (by decide) ?_
  refine ax_isub F dX1_begin_38 ?_
  refine ax_put (ty := .int) F (ob_N h0) rfl inGX1 tyX1 tyX1_ok nmX1 5 (by decide) rfl kf_X1_44 (by decide) rfl rfl (Nat.le_of_ble_eq_true rfl) rfl dX1_begin_39 ?_
  refine ax_aload_n F dX1_begin_42 rfl ?_
  refine ax_iconst (v := (0 : Int32)) F dX1_begin_43 (by decide) ?_
  refine ax_put (ty := .int) F (ob_N h0) rfl inGX1 tyX1 tyX1_ok nmX1 6 (by decide) rfl kf_X1_47 (by decide) rfl rfl (Nat.le_of_ble_eq_true rfl) rfl dX1_begin_44 ?_
  refine ax_iconst (v := (0 : Int32)) F dX1_begin_47 (by decide) ?_
  refine ax_istore F dX1_begin_48 (by decide) rfl ?_
  refine ax_mask [true, false, false, false, false, true, false] ?_
  exact IH.2.1 _ _ _ h h0
set_option maxRecDepth 100000 in
set_option maxHeartbeats 4000000 in
theorem wX1_begin_1 {p : Program} {l : Launch} {e : Env} {s : State} {m : MethodId} {args : Array Value} {below : List Frame} {meth : Method} {c : Code} {G : va_G} {L : List Nat} {ad : Nat → Nat} {cs : Nat → ClassId} {z : Bool} {zk zv : Nat → Nat} {r : Int32} {M' : Mm} {n : Nat} (F : Fx G L ad cs z zk zv p m meth c cX1_begin 7 none s args RX1)  (IH : PX1_begin p l e s m args below meth c G L ad cs zk r M' n) (a0 : Nat) (x5 : Int32) (M : Mm) (h : (bX1_begin_1 a0 x5 M).bind (fun q => match q with | .inl s' => itr stX1_begin n s' | .inr r => some r) = some (r, M')) (h0 : isN L a0) : AW p l e rmX1_begin s m args below meth c (MQ below (AQv G L ad cs M') args s 0 0 (inA L ad)) G L ad cs 7 50 [some (.ref (ad a0)), none, none, none, none, some (.int x5), none] [] M := by
  unfold bX1_begin_1 at h
  refine ax_iload F dX1_begin_50 rfl ?_
  refine ax_bipush (v := (8 : Int32)) F dX1_begin_52 (by decide) ?_
  refine ax_icmp_ge (t := 130) F dX1_begin_54 (by decide) (fun hc => ?_) (fun hc => ?_)
  · have h := it_pos h hc
    obtain ⟨h1, h2⟩ := rt_some h
    subst h2
    exact ax_vret F dX1_begin_130
  · have h := it_neg h hc
    refine ax_aload_n F dX1_begin_57 rfl ?_
    refine ax_get (v := .ref (ad (a0 + 1))) F (ob_N h0) rfl inGX1 0 (by decide) rfl kf_X1_11 rfl dX1_begin_58 ?_
    refine ax_iload F dX1_begin_61 rfl ?_
    obtain ⟨hi1, h⟩ := gd_some h
    refine ax_aald F (rf_N h0) rfl hi1 dX1_begin_63 ?_
    obtain ⟨r1, M1, hq1, h⟩ := cq_some h
    refine ax_callVv (As := []) (st := []) F (tX7_clear F.2.2.2.2.2.2.1 _ (isV_of h0 (okI_lt hi1)) _ _ _ hq1) (ob_V (isV_of h0 (okI_lt hi1))) rfl kc_X7_clear kz_X7 ki_X7_clear ks_X7_clear km_X1_50 ⟨kn_X7_clear, rfl, rfl, Nat.le_of_ble_eq_true rfl, Nat.le_of_ble_eq_true rfl⟩ rfl (Nat.le_of_ble_eq_true rfl) dX1_begin_64 ?_
    refine ax_iconst (v := (1 : Int32)) F dX1_begin_67 (by decide) ?_
    refine ax_istore F dX1_begin_68 (by decide) rfl ?_
    exact IH.2.2 _ _ _ _ h h0
set_option maxRecDepth 100000 in
set_option maxHeartbeats 4000000 in
theorem wX1_begin_2 {p : Program} {l : Launch} {e : Env} {s : State} {m : MethodId} {args : Array Value} {below : List Frame} {meth : Method} {c : Code} {G : va_G} {L : List Nat} {ad : Nat → Nat} {cs : Nat → ClassId} {z : Bool} {zk zv : Nat → Nat} {r : Int32} {M' : Mm} {n : Nat} (F : Fx G L ad cs z zk zv p m meth c cX1_begin 7 none s args RX1)  (IH : PX1_begin p l e s m args below meth c G L ad cs zk r M' n) (a0 : Nat) (x5 : Int32) (x6 : Int32) (M : Mm) (h : (bX1_begin_2 a0 x5 x6 M).bind (fun q => match q with | .inl s' => itr stX1_begin n s' | .inr r => some r) = some (r, M')) (h0 : isN L a0) : AW p l e rmX1_begin s m args below meth c (MQ below (AQv G L ad cs M') args s 0 0 (inA L ad)) G L ad cs 7 70 [some (.ref (ad a0)), none, none, none, none, some (.int x5), some (.int x6)] [] M := by
  unfold bX1_begin_2 at h
  refine ax_iload F dX1_begin_70 rfl ?_
  refine ax_aload_n F dX1_begin_72 rfl ?_
  refine ax_get (v := .int (M a0 1)) F (ob_N h0) rfl inGX1 1 (by decide) rfl kf_X1_31 rfl dX1_begin_73 ?_
  refine ax_icmp_ge (t := 124) F dX1_begin_76 (by decide) (fun hc => ?_) (fun hc => ?_)
  · have h := it_pos h hc
    refine ax_iinc (v := (1 : Int32)) F dX1_begin_124 rfl (by decide) (by decide) rfl ?_
    refine ax_goto (t := 50) F dX1_begin_127 (by decide) ?_
    refine ax_mask [true, false, false, false, false, true, false] ?_
    exact IH.2.1 _ _ _ h h0
  · have h := it_neg h hc
    refine ax_iload F dX1_begin_79 rfl ?_
    refine ax_aload_n F dX1_begin_81 rfl ?_
    refine ax_get (v := .int (M a0 1)) F (ob_N h0) rfl inGX1 1 (by decide) rfl kf_X1_31 rfl dX1_begin_82 ?_
    refine ax_icmp_ge (t := 124) F dX1_begin_85 (by decide) (fun hc => ?_) (fun hc => ?_)
    · have h := it_pos h hc
      refine ax_iinc (v := (1 : Int32)) F dX1_begin_124 rfl (by decide) (by decide) rfl ?_
      refine ax_goto (t := 50) F dX1_begin_127 (by decide) ?_
      refine ax_mask [true, false, false, false, false, true, false] ?_
      exact IH.2.1 _ _ _ h h0
    · have h := it_neg h hc
      refine ax_iload F dX1_begin_88 rfl ?_
      refine ax_aload_n F dX1_begin_90 rfl ?_
      refine ax_get (v := .int (M a0 2)) F (ob_N h0) rfl inGX1 2 (by decide) rfl kf_X1_35 rfl dX1_begin_91 ?_
      refine ax_icmp_gt (t := 124) F dX1_begin_94 (by decide) (fun hc => ?_) (fun hc => ?_)
      · have h := it_pos h hc
        refine ax_iinc (v := (1 : Int32)) F dX1_begin_124 rfl (by decide) (by decide) rfl ?_
        refine ax_goto (t := 50) F dX1_begin_127 (by decide) ?_
        refine ax_mask [true, false, false, false, false, true, false] ?_
        exact IH.2.1 _ _ _ h h0
      · have h := it_neg h hc
        refine ax_aload_n F dX1_begin_97 rfl ?_
        refine ax_get (v := .ref (ad (a0 + 1))) F (ob_N h0) rfl inGX1 0 (by decide) rfl kf_X1_11 rfl dX1_begin_98 ?_
        refine ax_iload F dX1_begin_101 rfl ?_
        obtain ⟨hi1, h⟩ := gd_some h
        refine ax_aald F (rf_N h0) rfl hi1 dX1_begin_103 ?_
        refine ax_iload F dX1_begin_104 rfl ?_
        refine ax_iload F dX1_begin_106 rfl ?_
        refine ax_iadd F dX1_begin_108 ?_
        refine ax_aload_n F dX1_begin_109 rfl ?_
        refine ax_get (v := .int (M a0 1)) F (ob_N h0) rfl inGX1 1 (by decide) rfl kf_X1_31 rfl dX1_begin_110 ?_
        obtain ⟨hg, h⟩ := gd_some h
        refine ax_irem F dX1_begin_113 (of_decide_eq_true hg) ?_
        refine ax_iconst (v := (0 : Int32)) F dX1_begin_114 (by decide) ?_
        obtain ⟨r1, M1, hq1, h⟩ := cq_some h
        refine ax_callVv (As := [.int (irem (x5 + x6) (M a0 1)), .int (0 : Int32)]) (st := []) F (tX7_append F.2.2.2.2.2.2.1 _ _ _ (isV_of h0 (okI_lt hi1)) _ _ _ hq1) (ob_V (isV_of h0 (okI_lt hi1))) rfl kc_X7_append kz_X7 ki_X7_append ks_X7_append km_X1_53 ⟨kn_X7_append, rfl, rfl, Nat.le_of_ble_eq_true rfl, Nat.le_of_ble_eq_true rfl⟩ rfl (Nat.le_of_ble_eq_true rfl) dX1_begin_115 ?_
        refine ax_iinc (v := (1 : Int32)) F dX1_begin_118 rfl (by decide) (by decide) rfl ?_
        refine ax_goto (t := 70) F dX1_begin_121 (by decide) ?_
        exact IH.2.2 _ _ _ _ h h0
set_option maxRecDepth 100000 in
set_option maxHeartbeats 4000000 in
theorem wX1_begin {p : Program} {l : Launch} {e : Env} {s : State} {m : MethodId} {args : Array Value} {below : List Frame} {meth : Method} {c : Code} {G : va_G} {L : List Nat} {ad : Nat → Nat} {cs : Nat → ClassId} {z : Bool} {zk zv : Nat → Nat} {r : Int32} {M' : Mm} (F : Fx G L ad cs z zk zv p m meth c cX1_begin 7 none s args RX1)  (n : Nat) : PX1_begin p l e s m args below meth c G L ad cs zk r M' n := by
  induction n with
  | zero => exact ⟨(fun a0 x1 x2 x3 x4 M h => by cases h), (fun a0 x5 M h => by cases h), (fun a0 x5 x6 M h => by cases h)⟩
  | succ n ih =>
    exact ⟨fun a0 x1 x2 x3 x4 M h h0 => wX1_begin_0 F ih a0 x1 x2 x3 x4 M h h0,
      fun a0 x5 M h h0 => wX1_begin_1 F ih a0 x5 M h h0,
      fun a0 x5 x6 M h h0 => wX1_begin_2 F ih a0 x5 x6 M h h0⟩
set_option maxRecDepth 100000 in
set_option maxHeartbeats 4000000 in
theorem tX1_begin {l : Launch} {G : va_G} {L : List Nat} {ad : Nat → Nat} {cs : Nat → ClassId} {z : Bool} {zk zv : Nat → Nat} (hinj : inj L ad)  (a0 : Nat) (x1 : Int32) (x2 : Int32) (x3 : Int32) (x4 : Int32) (h0 : isN L a0) (M : Mm) (r : Int32) (M' : Mm) (h : fX1_begin a0 x1 x2 x3 x4 M = some (r, M')) : Met l yX1_begin (tgW yX1_begin cX1_begin 7 none) rmX1_begin (APre G L ad cs z zk zv [.ref (ad a0), .int x1, .int x2, .int x3, .int x4] M) (AQv G L ad cs M') 0 0 (inA L ad) := by
  refine met_of (Eq.refl true) (Nat.le_of_ble_eq_true rfl) hinj [some (.ref (ad a0)), some (.int x1), some (.int x2), some (.int x3), some (.int x4), none, none] rfl ?_
  intro p e s m below meth c F
  replace F : Fx G L ad cs z zk zv p m meth c cX1_begin 7 none s _ RX1 := F
  obtain ⟨n, hn⟩ := run_ex h
  exact (wX1_begin F n).1 a0 x1 x2 x3 x4 M hn h0
noncomputable def fX1_has (a0 : Nat) (x1 : Int32) (M : Mm) : Option Rst := if x1 < 0 then (some ((0 : Int32), M)) else (if (M a0 1) ≤ x1 then (some ((0 : Int32), M)) else (if (8 : Int32) ≤ x1 then (some ((0 : Int32), M)) else (some ((1 : Int32), M))))
def rmX1_has : Room := { frames := 0, cells := 0, slots := 0, locals := 0 }
theorem kn_X1_has : yX1_has.cls ≠ "java/lang/invoke/MethodHandle" ∧ yX1_has.cls ≠ "java/lang/invoke/VarHandle" ∧ (parseMethodDescriptor yX1_has.desc).map (fun d => d.parameters.length) = some 1 := by decide +kernel
set_option maxRecDepth 100000 in
set_option maxHeartbeats 4000000 in
theorem tX1_has {l : Launch} {G : va_G} {L : List Nat} {ad : Nat → Nat} {cs : Nat → ClassId} {z : Bool} {zk zv : Nat → Nat} (hinj : inj L ad)  (a0 : Nat) (x1 : Int32) (h0 : isN L a0) (M : Mm) (r : Int32) (M' : Mm) (h : fX1_has a0 x1 M = some (r, M')) : Met l yX1_has (tgW yX1_has cX1_has 2 (some .boolean)) rmX1_has (APre G L ad cs z zk zv [.ref (ad a0), .int x1] M) (AQi G L ad cs r M') 0 0 (inA L ad) := by
  refine met_of (Eq.refl true) (Nat.le_of_ble_eq_true rfl) hinj [some (.ref (ad a0)), some (.int x1)] rfl ?_
  intro p e s m below meth c F
  replace F : Fx G L ad cs z zk zv p m meth c cX1_has 2 (some .boolean) s _ RX1 := F
  unfold fX1_has at h
  refine ax_iload_n F dX1_has_0 rfl ?_
  refine ax_if_lt (t := 22) F dX1_has_1 (by decide) (fun hc => ?_) (fun hc => ?_)
  · have h := it_pos0 h hc
    refine ax_iconst (v := (0 : Int32)) F dX1_has_22 (by decide) ?_
    obtain ⟨h1, h2⟩ := rt_some0 h
    subst h1; subst h2
    exact ax_zret F (by decide) dX1_has_23
  · have h := it_neg0 h hc
    refine ax_iload_n F dX1_has_4 rfl ?_
    refine ax_aload_n F dX1_has_5 rfl ?_
    refine ax_get (v := .int (M a0 1)) F (ob_N h0) rfl inGX1 1 (by decide) rfl kf_X1_31 rfl dX1_has_6 ?_
    refine ax_icmp_ge (t := 22) F dX1_has_9 (by decide) (fun hc => ?_) (fun hc => ?_)
    · have h := it_pos0 h hc
      refine ax_iconst (v := (0 : Int32)) F dX1_has_22 (by decide) ?_
      obtain ⟨h1, h2⟩ := rt_some0 h
      subst h1; subst h2
      exact ax_zret F (by decide) dX1_has_23
    · have h := it_neg0 h hc
      refine ax_iload_n F dX1_has_12 rfl ?_
      refine ax_bipush (v := (8 : Int32)) F dX1_has_13 (by decide) ?_
      refine ax_icmp_ge (t := 22) F dX1_has_15 (by decide) (fun hc => ?_) (fun hc => ?_)
      · have h := it_pos0 h hc
        refine ax_iconst (v := (0 : Int32)) F dX1_has_22 (by decide) ?_
        obtain ⟨h1, h2⟩ := rt_some0 h
        subst h1; subst h2
        exact ax_zret F (by decide) dX1_has_23
      · have h := it_neg0 h hc
        refine ax_iconst (v := (1 : Int32)) F dX1_has_18 (by decide) ?_
        refine ax_goto (t := 23) F dX1_has_19 (by decide) ?_
        obtain ⟨h1, h2⟩ := rt_some0 h
        subst h1; subst h2
        exact ax_zret F (by decide) dX1_has_23
noncomputable def fX1_setAlive (a0 : Nat) (x1 : Int32) (x2 : Int32) (M : Mm) : Option Rst := cl (fX1_has a0 x1 M) (fun r1 M1 => if r1 = 0 then (some ((0 : Int32), M1)) else (if x2 = 0 then (some ((0 : Int32), (up2 M1 a0 5 ((M1 a0 5) &&& ((ish (1 : Int32) x1) ^^^ (-1 : Int32)))))) else (some ((0 : Int32), (up2 M1 a0 5 ((M1 a0 5) ||| (ish (1 : Int32) x1)))))))
def rmX1_setAlive : Room := { frames := 1, cells := 0, slots := 0, locals := 21 }
theorem kn_X1_setAlive : yX1_setAlive.cls ≠ "java/lang/invoke/MethodHandle" ∧ yX1_setAlive.cls ≠ "java/lang/invoke/VarHandle" ∧ (parseMethodDescriptor yX1_setAlive.desc).map (fun d => d.parameters.length) = some 2 := by decide +kernel
set_option maxRecDepth 100000 in
set_option maxHeartbeats 4000000 in
theorem tX1_setAlive {l : Launch} {G : va_G} {L : List Nat} {ad : Nat → Nat} {cs : Nat → ClassId} {z : Bool} {zk zv : Nat → Nat} (hinj : inj L ad)  (a0 : Nat) (x1 : Int32) (x2 : Int32) (h0 : isN L a0) (M : Mm) (r : Int32) (M' : Mm) (h : fX1_setAlive a0 x1 x2 M = some (r, M')) : Met l yX1_setAlive (tgW yX1_setAlive cX1_setAlive 3 none) rmX1_setAlive (APre G L ad cs z zk zv [.ref (ad a0), .int x1, .int x2] M) (AQv G L ad cs M') 0 0 (inA L ad) := by
  refine met_of (Eq.refl true) (Nat.le_of_ble_eq_true rfl) hinj [some (.ref (ad a0)), some (.int x1), some (.int x2)] rfl ?_
  intro p e s m below meth c F
  replace F : Fx G L ad cs z zk zv p m meth c cX1_setAlive 3 none s _ RX1 := F
  unfold fX1_setAlive at h
  refine ax_aload_n F dX1_setAlive_0 rfl ?_
  refine ax_iload_n F dX1_setAlive_1 rfl ?_
  obtain ⟨r1, M1, hq1, h⟩ := cq_some0 h
  refine ax_callVi (As := [.int x1]) (st := []) F (tX1_has F.2.2.2.2.2.2.1 _ _ h0 _ _ _ hq1) (ob_N h0) rfl kc_X1_has kz_X1 ki_X1_has ks_X1_has km_X1_61 ⟨kn_X1_has, rfl, rfl, Nat.le_of_ble_eq_true rfl, Nat.le_of_ble_eq_true rfl⟩ rfl (Nat.le_of_ble_eq_true rfl) dX1_setAlive_2 ?_
  refine ax_if_eq (t := 37) F dX1_setAlive_5 (by decide) (fun hc => ?_) (fun hc => ?_)
  · have h := it_pos0 h hc
    obtain ⟨h1, h2⟩ := rt_some0 h
    subst h2
    exact ax_vret F dX1_setAlive_37
  · have h := it_neg0 h hc
    refine ax_aload_n F dX1_setAlive_8 rfl ?_
    refine ax_iload_n F dX1_setAlive_9 rfl ?_
    refine ax_if_eq (t := 24) F dX1_setAlive_10 (by decide) (fun hc => ?_) (fun hc => ?_)
    · have h := it_pos0 h hc
      refine ax_aload_n F dX1_setAlive_24 rfl ?_
      refine ax_get (v := .int (M1 a0 5)) F (ob_N h0) rfl inGX1 5 (by decide) rfl kf_X1_44 rfl dX1_setAlive_25 ?_
      refine ax_iconst (v := (1 : Int32)) F dX1_setAlive_28 (by decide) ?_
      refine ax_iload_n F dX1_setAlive_29 rfl ?_
      refine ax_ishl F dX1_setAlive_30 ?_
      refine ax_iconst (v := (-1 : Int32)) F dX1_setAlive_31 (by decide) ?_
      refine ax_ixor F dX1_setAlive_32 ?_
      refine ax_iand F dX1_setAlive_33 ?_
      refine ax_put (ty := .int) F (ob_N h0) rfl inGX1 tyX1 tyX1_ok nmX1 5 (by decide) rfl kf_X1_44 (by decide) rfl rfl (Nat.le_of_ble_eq_true rfl) rfl dX1_setAlive_34 ?_
      obtain ⟨h1, h2⟩ := rt_some0 h
      subst h2
      exact ax_vret F dX1_setAlive_37
    · have h := it_neg0 h hc
      refine ax_aload_n F dX1_setAlive_13 rfl ?_
      refine ax_get (v := .int (M1 a0 5)) F (ob_N h0) rfl inGX1 5 (by decide) rfl kf_X1_44 rfl dX1_setAlive_14 ?_
      refine ax_iconst (v := (1 : Int32)) F dX1_setAlive_17 (by decide) ?_
      refine ax_iload_n F dX1_setAlive_18 rfl ?_
      refine ax_ishl F dX1_setAlive_19 ?_
      refine ax_ior F dX1_setAlive_20 ?_
      refine ax_goto (t := 34) F dX1_setAlive_21 (by decide) ?_
      refine ax_put (ty := .int) F (ob_N h0) rfl inGX1 tyX1 tyX1_ok nmX1 5 (by decide) rfl kf_X1_44 (by decide) rfl rfl (Nat.le_of_ble_eq_true rfl) rfl dX1_setAlive_34 ?_
      obtain ⟨h1, h2⟩ := rt_some0 h
      subst h2
      exact ax_vret F dX1_setAlive_37
noncomputable def fX1_setSly (a0 : Nat) (x1 : Int32) (M : Mm) : Option Rst := cl (fX1_has a0 x1 M) (fun r1 M1 => if r1 = 0 then (some ((0 : Int32), M1)) else (some ((0 : Int32), (up2 M1 a0 6 ((M1 a0 6) ||| (ish (1 : Int32) x1))))))
def rmX1_setSly : Room := { frames := 1, cells := 0, slots := 0, locals := 21 }
theorem kn_X1_setSly : yX1_setSly.cls ≠ "java/lang/invoke/MethodHandle" ∧ yX1_setSly.cls ≠ "java/lang/invoke/VarHandle" ∧ (parseMethodDescriptor yX1_setSly.desc).map (fun d => d.parameters.length) = some 1 := by decide +kernel
set_option maxRecDepth 100000 in
set_option maxHeartbeats 4000000 in
theorem tX1_setSly {l : Launch} {G : va_G} {L : List Nat} {ad : Nat → Nat} {cs : Nat → ClassId} {z : Bool} {zk zv : Nat → Nat} (hinj : inj L ad)  (a0 : Nat) (x1 : Int32) (h0 : isN L a0) (M : Mm) (r : Int32) (M' : Mm) (h : fX1_setSly a0 x1 M = some (r, M')) : Met l yX1_setSly (tgW yX1_setSly cX1_setSly 2 none) rmX1_setSly (APre G L ad cs z zk zv [.ref (ad a0), .int x1] M) (AQv G L ad cs M') 0 0 (inA L ad) := by
  refine met_of (Eq.refl true) (Nat.le_of_ble_eq_true rfl) hinj [some (.ref (ad a0)), some (.int x1)] rfl ?_
  intro p e s m below meth c F
  replace F : Fx G L ad cs z zk zv p m meth c cX1_setSly 2 none s _ RX1 := F
  unfold fX1_setSly at h
  refine ax_aload_n F dX1_setSly_0 rfl ?_
  refine ax_iload_n F dX1_setSly_1 rfl ?_
  obtain ⟨r1, M1, hq1, h⟩ := cq_some0 h
  refine ax_callVi (As := [.int x1]) (st := []) F (tX1_has F.2.2.2.2.2.2.1 _ _ h0 _ _ _ hq1) (ob_N h0) rfl kc_X1_has kz_X1 ki_X1_has ks_X1_has km_X1_61 ⟨kn_X1_has, rfl, rfl, Nat.le_of_ble_eq_true rfl, Nat.le_of_ble_eq_true rfl⟩ rfl (Nat.le_of_ble_eq_true rfl) dX1_setSly_2 ?_
  refine ax_if_eq (t := 20) F dX1_setSly_5 (by decide) (fun hc => ?_) (fun hc => ?_)
  · have h := it_pos0 h hc
    obtain ⟨h1, h2⟩ := rt_some0 h
    subst h2
    exact ax_vret F dX1_setSly_20
  · have h := it_neg0 h hc
    refine ax_aload_n F dX1_setSly_8 rfl ?_
    refine ax_dup F dX1_setSly_9 rfl ?_
    refine ax_get (v := .int (M1 a0 6)) F (ob_N h0) rfl inGX1 6 (by decide) rfl kf_X1_47 rfl dX1_setSly_10 ?_
    refine ax_iconst (v := (1 : Int32)) F dX1_setSly_13 (by decide) ?_
    refine ax_iload_n F dX1_setSly_14 rfl ?_
    refine ax_ishl F dX1_setSly_15 ?_
    refine ax_ior F dX1_setSly_16 ?_
    refine ax_put (ty := .int) F (ob_N h0) rfl inGX1 tyX1 tyX1_ok nmX1 6 (by decide) rfl kf_X1_47 (by decide) rfl rfl (Nat.le_of_ble_eq_true rfl) rfl dX1_setSly_17 ?_
    obtain ⟨h1, h2⟩ := rt_some0 h
    subst h2
    exact ax_vret F dX1_setSly_20
noncomputable def fX1_hasTwo (a0 : Nat) (x1 : Int32) (x2 : Int32) (M : Mm) : Option Rst := cl (fX1_has a0 x1 M) (fun r1 M1 => if r1 = 0 then (some ((0 : Int32), M1)) else (cl (fX1_has a0 x2 M1) (fun r2 M2 => if r2 = 0 then (some ((0 : Int32), M2)) else (if x1 = x2 then (some ((0 : Int32), M2)) else (some ((1 : Int32), M2))))))
def rmX1_hasTwo : Room := { frames := 1, cells := 0, slots := 0, locals := 21 }
theorem kn_X1_hasTwo : yX1_hasTwo.cls ≠ "java/lang/invoke/MethodHandle" ∧ yX1_hasTwo.cls ≠ "java/lang/invoke/VarHandle" ∧ (parseMethodDescriptor yX1_hasTwo.desc).map (fun d => d.parameters.length) = some 2 := by decide +kernel
set_option maxRecDepth 100000 in
set_option maxHeartbeats 4000000 in
theorem tX1_hasTwo {l : Launch} {G : va_G} {L : List Nat} {ad : Nat → Nat} {cs : Nat → ClassId} {z : Bool} {zk zv : Nat → Nat} (hinj : inj L ad)  (a0 : Nat) (x1 : Int32) (x2 : Int32) (h0 : isN L a0) (M : Mm) (r : Int32) (M' : Mm) (h : fX1_hasTwo a0 x1 x2 M = some (r, M')) : Met l yX1_hasTwo (tgW yX1_hasTwo cX1_hasTwo 3 (some .boolean)) rmX1_hasTwo (APre G L ad cs z zk zv [.ref (ad a0), .int x1, .int x2] M) (AQi G L ad cs r M') 0 0 (inA L ad) := by
  refine met_of (Eq.refl true) (Nat.le_of_ble_eq_true rfl) hinj [some (.ref (ad a0)), some (.int x1), some (.int x2)] rfl ?_
  intro p e s m below meth c F
  replace F : Fx G L ad cs z zk zv p m meth c cX1_hasTwo 3 (some .boolean) s _ RX1 := F
  unfold fX1_hasTwo at h
  refine ax_aload_n F dX1_hasTwo_0 rfl ?_
  refine ax_iload_n F dX1_hasTwo_1 rfl ?_
  obtain ⟨r1, M1, hq1, h⟩ := cq_some0 h
  refine ax_callVi (As := [.int x1]) (st := []) F (tX1_has F.2.2.2.2.2.2.1 _ _ h0 _ _ _ hq1) (ob_N h0) rfl kc_X1_has kz_X1 ki_X1_has ks_X1_has km_X1_61 ⟨kn_X1_has, rfl, rfl, Nat.le_of_ble_eq_true rfl, Nat.le_of_ble_eq_true rfl⟩ rfl (Nat.le_of_ble_eq_true rfl) dX1_hasTwo_2 ?_
  refine ax_if_eq (t := 25) F dX1_hasTwo_5 (by decide) (fun hc => ?_) (fun hc => ?_)
  · have h := it_pos0 h hc
    refine ax_iconst (v := (0 : Int32)) F dX1_hasTwo_25 (by decide) ?_
    obtain ⟨h1, h2⟩ := rt_some0 h
    subst h1; subst h2
    exact ax_zret F (by decide) dX1_hasTwo_26
  · have h := it_neg0 h hc
    refine ax_aload_n F dX1_hasTwo_8 rfl ?_
    refine ax_iload_n F dX1_hasTwo_9 rfl ?_
    obtain ⟨r2, M2, hq2, h⟩ := cq_some0 h
    refine ax_callVi (As := [.int x2]) (st := []) F (tX1_has F.2.2.2.2.2.2.1 _ _ h0 _ _ _ hq2) (ob_N h0) rfl kc_X1_has kz_X1 ki_X1_has ks_X1_has km_X1_61 ⟨kn_X1_has, rfl, rfl, Nat.le_of_ble_eq_true rfl, Nat.le_of_ble_eq_true rfl⟩ rfl (Nat.le_of_ble_eq_true rfl) dX1_hasTwo_10 ?_
    refine ax_if_eq (t := 25) F dX1_hasTwo_13 (by decide) (fun hc => ?_) (fun hc => ?_)
    · have h := it_pos0 h hc
      refine ax_iconst (v := (0 : Int32)) F dX1_hasTwo_25 (by decide) ?_
      obtain ⟨h1, h2⟩ := rt_some0 h
      subst h1; subst h2
      exact ax_zret F (by decide) dX1_hasTwo_26
    · have h := it_neg0 h hc
      refine ax_iload_n F dX1_hasTwo_16 rfl ?_
      refine ax_iload_n F dX1_hasTwo_17 rfl ?_
      refine ax_icmp_eq (t := 25) F dX1_hasTwo_18 (by decide) (fun hc => ?_) (fun hc => ?_)
      · have h := it_pos0 h hc
        refine ax_iconst (v := (0 : Int32)) F dX1_hasTwo_25 (by decide) ?_
        obtain ⟨h1, h2⟩ := rt_some0 h
        subst h1; subst h2
        exact ax_zret F (by decide) dX1_hasTwo_26
      · have h := it_neg0 h hc
        refine ax_iconst (v := (1 : Int32)) F dX1_hasTwo_21 (by decide) ?_
        refine ax_goto (t := 26) F dX1_hasTwo_22 (by decide) ?_
        obtain ⟨h1, h2⟩ := rt_some0 h
        subst h1; subst h2
        exact ax_zret F (by decide) dX1_hasTwo_26
def rmX7_placeOf : Room := { frames := 0, cells := 0, slots := 0, locals := 0 }
theorem kn_X7_placeOf : yX7_placeOf.cls ≠ "java/lang/invoke/MethodHandle" ∧ yX7_placeOf.cls ≠ "java/lang/invoke/VarHandle" ∧ (parseMethodDescriptor yX7_placeOf.desc).map (fun d => d.parameters.length) = some 1 := by decide +kernel
noncomputable def bX7_placeOf_0 (a0 : Nat) (x1 : Int32) (M : Mm) : Option (Sst ⊕ Rst) := some (.inl (1, [a0], [x1, (0 : Int32)], M))
noncomputable def bX7_placeOf_1 (a0 : Nat) (x1 : Int32) (x2 : Int32) (M : Mm) : Option (Sst ⊕ Rst) := if (M a0 2) ≤ x2 then (some (.inr ((-1 : Int32), M))) else (gd (okI x2 5) (if (M (a0 + 1) (ix x2)) = x1 then (some (.inr (x2, M))) else (some (.inl (1, [a0], [x1, (x2 + (1 : Int32))], M)))))
noncomputable def stX7_placeOf : Sst → Option (Sst ⊕ Rst) := fun q => match q.1 with
  | 0 => bX7_placeOf_0 (q.2.1.getD 0 0) (q.2.2.1.getD 0 0) q.2.2.2
  | 1 => bX7_placeOf_1 (q.2.1.getD 0 0) (q.2.2.1.getD 0 0) (q.2.2.1.getD 1 0) q.2.2.2
  | _ => none
noncomputable def fX7_placeOf (a0 : Nat) (x1 : Int32) (M : Mm) : Option Rst := run stX7_placeOf (0, [a0], [x1], M)
def PX7_placeOf (p : Program) (l : Launch) (e : Env) (s : State) (m : MethodId) (args : Array Value) (below : List Frame) (meth : Method) (c : Code) (G : va_G) (L : List Nat) (ad : Nat → Nat) (cs : Nat → ClassId) (zk : Nat → Nat) (r : Int32) (M' : Mm) (n : Nat) : Prop := (∀ (a0 : Nat) (x1 : Int32) (M : Mm), itr stX7_placeOf n (0, [a0], [x1], M) = some (r, M') → isV L a0 → AW p l e rmX7_placeOf s m args below meth c (MQ below (AQi G L ad cs r M') args s 0 0 (inA L ad)) G L ad cs 3 0 [some (.ref (ad a0)), some (.int x1), none] [] M) ∧ (∀ (a0 : Nat) (x1 : Int32) (x2 : Int32) (M : Mm), itr stX7_placeOf n (1, [a0], [x1, x2], M) = some (r, M') → isV L a0 → AW p l e rmX7_placeOf s m args below meth c (MQ below (AQi G L ad cs r M') args s 0 0 (inA L ad)) G L ad cs 3 2 [some (.ref (ad a0)), some (.int x1), some (.int x2)] [] M)
set_option maxRecDepth 100000 in
set_option maxHeartbeats 4000000 in
theorem wX7_placeOf_0 {p : Program} {l : Launch} {e : Env} {s : State} {m : MethodId} {args : Array Value} {below : List Frame} {meth : Method} {c : Code} {G : va_G} {L : List Nat} {ad : Nat → Nat} {cs : Nat → ClassId} {z : Bool} {zk zv : Nat → Nat} {r : Int32} {M' : Mm} {n : Nat} (F : Fx G L ad cs z zk zv p m meth c cX7_placeOf 3 (some .int) s args RX7)  (IH : PX7_placeOf p l e s m args below meth c G L ad cs zk r M' n) (a0 : Nat) (x1 : Int32) (M : Mm) (h : (bX7_placeOf_0 a0 x1 M).bind (fun q => match q with | .inl s' => itr stX7_placeOf n s' | .inr r => some r) = some (r, M')) (h0 : isV L a0) : AW p l e rmX7_placeOf s m args below meth c (MQ below (AQi G L ad cs r M') args s 0 0 (inA L ad)) G L ad cs 3 0 [some (.ref (ad a0)), some (.int x1), none] [] M := by
  unfold bX7_placeOf_0 at h
  refine ax_iconst (v := (0 : Int32)) F dX7_placeOf_0 (by decide) ?_
  refine ax_istore_n F dX7_placeOf_1 (by decide) rfl ?_
  exact IH.2 _ _ _ _ h h0
set_option maxRecDepth 100000 in
set_option maxHeartbeats 4000000 in
theorem wX7_placeOf_1 {p : Program} {l : Launch} {e : Env} {s : State} {m : MethodId} {args : Array Value} {below : List Frame} {meth : Method} {c : Code} {G : va_G} {L : List Nat} {ad : Nat → Nat} {cs : Nat → ClassId} {z : Bool} {zk zv : Nat → Nat} {r : Int32} {M' : Mm} {n : Nat} (F : Fx G L ad cs z zk zv p m meth c cX7_placeOf 3 (some .int) s args RX7)  (IH : PX7_placeOf p l e s m args below meth c G L ad cs zk r M' n) (a0 : Nat) (x1 : Int32) (x2 : Int32) (M : Mm) (h : (bX7_placeOf_1 a0 x1 x2 M).bind (fun q => match q with | .inl s' => itr stX7_placeOf n s' | .inr r => some r) = some (r, M')) (h0 : isV L a0) : AW p l e rmX7_placeOf s m args below meth c (MQ below (AQi G L ad cs r M') args s 0 0 (inA L ad)) G L ad cs 3 2 [some (.ref (ad a0)), some (.int x1), some (.int x2)] [] M := by
  unfold bX7_placeOf_1 at h
  refine ax_iload_n F dX7_placeOf_2 rfl ?_
  refine ax_aload_n F dX7_placeOf_3 rfl ?_
  refine ax_get (v := .int (M a0 2)) F (ob_V h0) rfl inGX7 2 (by decide) rfl kf_X7_18 rfl dX7_placeOf_4 ?_
  refine ax_icmp_ge (t := 28) F dX7_placeOf_7 (by decide) (fun hc => ?_) (fun hc => ?_)
  · have h := it_pos h hc
    refine ax_iconst (v := (-1 : Int32)) F dX7_placeOf_28 (by decide) ?_
    obtain ⟨h1, h2⟩ := rt_some h
    subst h1; subst h2
    exact ax_iret F dX7_placeOf_29
  · have h := it_neg h hc
    refine ax_aload_n F dX7_placeOf_10 rfl ?_
    refine ax_get (v := .ref (ad (a0 + 1))) F (ob_V h0) rfl inGX7 0 (by decide) rfl kf_X7_9 rfl dX7_placeOf_11 ?_
    refine ax_iload_n F dX7_placeOf_14 rfl ?_
    obtain ⟨hg, h⟩ := gd_some h
    refine ax_iald F (ar_V1 h0) hg dX7_placeOf_15 ?_
    refine ax_iload_n F dX7_placeOf_16 rfl ?_
    refine ax_icmp_ne (t := 22) F dX7_placeOf_17 (by decide) (fun hc => ?_) (fun hc => ?_)
    · have h := it_neg h hc
      refine ax_iinc (v := (1 : Int32)) F dX7_placeOf_22 rfl (by decide) (by decide) rfl ?_
      refine ax_goto (t := 2) F dX7_placeOf_25 (by decide) ?_
      exact IH.2 _ _ _ _ h h0
    · have h := it_pos h hc
      refine ax_iload_n F dX7_placeOf_20 rfl ?_
      obtain ⟨h1, h2⟩ := rt_some h
      subst h1; subst h2
      exact ax_iret F dX7_placeOf_21
set_option maxRecDepth 100000 in
set_option maxHeartbeats 4000000 in
theorem wX7_placeOf {p : Program} {l : Launch} {e : Env} {s : State} {m : MethodId} {args : Array Value} {below : List Frame} {meth : Method} {c : Code} {G : va_G} {L : List Nat} {ad : Nat → Nat} {cs : Nat → ClassId} {z : Bool} {zk zv : Nat → Nat} {r : Int32} {M' : Mm} (F : Fx G L ad cs z zk zv p m meth c cX7_placeOf 3 (some .int) s args RX7)  (n : Nat) : PX7_placeOf p l e s m args below meth c G L ad cs zk r M' n := by
  induction n with
  | zero => exact ⟨(fun a0 x1 M h => by cases h), (fun a0 x1 x2 M h => by cases h)⟩
  | succ n ih =>
    exact ⟨fun a0 x1 M h h0 => wX7_placeOf_0 F ih a0 x1 M h h0,
      fun a0 x1 x2 M h h0 => wX7_placeOf_1 F ih a0 x1 x2 M h h0⟩
set_option maxRecDepth 100000 in
set_option maxHeartbeats 4000000 in
theorem tX7_placeOf {l : Launch} {G : va_G} {L : List Nat} {ad : Nat → Nat} {cs : Nat → ClassId} {z : Bool} {zk zv : Nat → Nat} (hinj : inj L ad)  (a0 : Nat) (x1 : Int32) (h0 : isV L a0) (M : Mm) (r : Int32) (M' : Mm) (h : fX7_placeOf a0 x1 M = some (r, M')) : Met l yX7_placeOf (tgW yX7_placeOf cX7_placeOf 3 (some .int)) rmX7_placeOf (APre G L ad cs z zk zv [.ref (ad a0), .int x1] M) (AQi G L ad cs r M') 0 0 (inA L ad) := by
  refine met_of (Eq.refl true) (Nat.le_of_ble_eq_true rfl) hinj [some (.ref (ad a0)), some (.int x1), none] rfl ?_
  intro p e s m below meth c F
  replace F : Fx G L ad cs z zk zv p m meth c cX7_placeOf 3 (some .int) s _ RX7 := F
  obtain ⟨n, hn⟩ := run_ex h
  exact (wX7_placeOf F n).1 a0 x1 M hn h0
noncomputable def fX7_holds (a0 : Nat) (x1 : Int32) (M : Mm) : Option Rst := cl (fX7_placeOf a0 x1 M) (fun r1 M1 => if r1 = (-1 : Int32) then (some ((0 : Int32), M1)) else (some ((1 : Int32), M1)))
def rmX7_holds : Room := { frames := 1, cells := 0, slots := 0, locals := 22 }
theorem kn_X7_holds : yX7_holds.cls ≠ "java/lang/invoke/MethodHandle" ∧ yX7_holds.cls ≠ "java/lang/invoke/VarHandle" ∧ (parseMethodDescriptor yX7_holds.desc).map (fun d => d.parameters.length) = some 1 := by decide +kernel
set_option maxRecDepth 100000 in
set_option maxHeartbeats 4000000 in
theorem tX7_holds {l : Launch} {G : va_G} {L : List Nat} {ad : Nat → Nat} {cs : Nat → ClassId} {z : Bool} {zk zv : Nat → Nat} (hinj : inj L ad)  (a0 : Nat) (x1 : Int32) (h0 : isV L a0) (M : Mm) (r : Int32) (M' : Mm) (h : fX7_holds a0 x1 M = some (r, M')) : Met l yX7_holds (tgW yX7_holds cX7_holds 2 (some .boolean)) rmX7_holds (APre G L ad cs z zk zv [.ref (ad a0), .int x1] M) (AQi G L ad cs r M') 0 0 (inA L ad) := by
  refine met_of (Eq.refl true) (Nat.le_of_ble_eq_true rfl) hinj [some (.ref (ad a0)), some (.int x1)] rfl ?_
  intro p e s m below meth c F
  replace F : Fx G L ad cs z zk zv p m meth c cX7_holds 2 (some .boolean) s _ RX7 := F
  unfold fX7_holds at h
  refine ax_aload_n F dX7_holds_0 rfl ?_
  refine ax_iload_n F dX7_holds_1 rfl ?_
  obtain ⟨r1, M1, hq1, h⟩ := cq_some0 h
  refine ax_callVi (As := [.int x1]) (st := []) F (tX7_placeOf F.2.2.2.2.2.2.1 _ _ h0 _ _ _ hq1) (ob_V h0) rfl kc_X7_placeOf kz_X7 ki_X7_placeOf ks_X7_placeOf km_X7_22 ⟨kn_X7_placeOf, rfl, rfl, Nat.le_of_ble_eq_true rfl, Nat.le_of_ble_eq_true rfl⟩ rfl (Nat.le_of_ble_eq_true rfl) dX7_holds_2 ?_
  refine ax_iconst (v := (-1 : Int32)) F dX7_holds_5 (by decide) ?_
  refine ax_icmp_eq (t := 13) F dX7_holds_6 (by decide) (fun hc => ?_) (fun hc => ?_)
  · have h := it_pos0 h hc
    refine ax_iconst (v := (0 : Int32)) F dX7_holds_13 (by decide) ?_
    obtain ⟨h1, h2⟩ := rt_some0 h
    subst h1; subst h2
    exact ax_zret F (by decide) dX7_holds_14
  · have h := it_neg0 h hc
    refine ax_iconst (v := (1 : Int32)) F dX7_holds_9 (by decide) ?_
    refine ax_goto (t := 14) F dX7_holds_10 (by decide) ?_
    obtain ⟨h1, h2⟩ := rt_some0 h
    subst h1; subst h2
    exact ax_zret F (by decide) dX7_holds_14
noncomputable def fX7_replace (a0 : Nat) (x1 : Int32) (x2 : Int32) (x3 : Int32) (M : Mm) : Option Rst := if x1 < 0 then (some ((0 : Int32), M)) else (if (M a0 2) ≤ x1 then (some ((0 : Int32), M)) else (gd (okI x1 5) (gd (okI x1 5) (some ((0 : Int32), (up2 (up2 M (a0 + 1) (ix x1) x2) (a0 + 2) (ix x1) x3))))))
def rmX7_replace : Room := { frames := 0, cells := 0, slots := 0, locals := 0 }
theorem kn_X7_replace : yX7_replace.cls ≠ "java/lang/invoke/MethodHandle" ∧ yX7_replace.cls ≠ "java/lang/invoke/VarHandle" ∧ (parseMethodDescriptor yX7_replace.desc).map (fun d => d.parameters.length) = some 3 := by decide +kernel
set_option maxRecDepth 100000 in
set_option maxHeartbeats 4000000 in
theorem tX7_replace {l : Launch} {G : va_G} {L : List Nat} {ad : Nat → Nat} {cs : Nat → ClassId} {z : Bool} {zk zv : Nat → Nat} (hinj : inj L ad)  (a0 : Nat) (x1 : Int32) (x2 : Int32) (x3 : Int32) (h0 : isV L a0) (M : Mm) (r : Int32) (M' : Mm) (h : fX7_replace a0 x1 x2 x3 M = some (r, M')) : Met l yX7_replace (tgW yX7_replace cX7_replace 4 none) rmX7_replace (APre G L ad cs z zk zv [.ref (ad a0), .int x1, .int x2, .int x3] M) (AQv G L ad cs M') 0 0 (inA L ad) := by
  refine met_of (Eq.refl true) (Nat.le_of_ble_eq_true rfl) hinj [some (.ref (ad a0)), some (.int x1), some (.int x2), some (.int x3)] rfl ?_
  intro p e s m below meth c F
  replace F : Fx G L ad cs z zk zv p m meth c cX7_replace 4 none s _ RX7 := F
  unfold fX7_replace at h
  refine ax_iload_n F dX7_replace_0 rfl ?_
  refine ax_if_lt (t := 26) F dX7_replace_1 (by decide) (fun hc => ?_) (fun hc => ?_)
  · have h := it_pos0 h hc
    obtain ⟨h1, h2⟩ := rt_some0 h
    subst h2
    exact ax_vret F dX7_replace_26
  · have h := it_neg0 h hc
    refine ax_iload_n F dX7_replace_4 rfl ?_
    refine ax_aload_n F dX7_replace_5 rfl ?_
    refine ax_get (v := .int (M a0 2)) F (ob_V h0) rfl inGX7 2 (by decide) rfl kf_X7_18 rfl dX7_replace_6 ?_
    refine ax_icmp_ge (t := 26) F dX7_replace_9 (by decide) (fun hc => ?_) (fun hc => ?_)
    · have h := it_pos0 h hc
      obtain ⟨h1, h2⟩ := rt_some0 h
      subst h2
      exact ax_vret F dX7_replace_26
    · have h := it_neg0 h hc
      refine ax_aload_n F dX7_replace_12 rfl ?_
      refine ax_get (v := .ref (ad (a0 + 1))) F (ob_V h0) rfl inGX7 0 (by decide) rfl kf_X7_9 rfl dX7_replace_13 ?_
      refine ax_iload_n F dX7_replace_16 rfl ?_
      refine ax_iload_n F dX7_replace_17 rfl ?_
      obtain ⟨hg, h⟩ := gd_some0 h
      refine ax_iast F (ar_V1 h0) hg dX7_replace_18 ?_
      refine ax_aload_n F dX7_replace_19 rfl ?_
      refine ax_get (v := .ref (ad (a0 + 2))) F (ob_V h0) rfl inGX7 1 (by decide) rfl kf_X7_15 rfl dX7_replace_20 ?_
      refine ax_iload_n F dX7_replace_23 rfl ?_
      refine ax_iload_n F dX7_replace_24 rfl ?_
      obtain ⟨hg, h⟩ := gd_some0 h
      refine ax_iast F (ar_V2 h0) hg dX7_replace_25 ?_
      obtain ⟨h1, h2⟩ := rt_some0 h
      subst h2
      exact ax_vret F dX7_replace_26
noncomputable def fX1_putLink (a0 : Nat) (x1 : Int32) (x2 : Int32) (x3 : Int32) (M : Mm) : Option Rst := cl (fX1_hasTwo a0 x1 x2 M) (fun r1 M1 => if r1 = 0 then (some ((0 : Int32), M1)) else (gd (okI x1 8) (cl (fX7_holds (a0 + 2 + 3 * ix (x1)) x2 M1) (fun r2 M2 => if r2 = 0 then (if (M2 a0 2) ≤ (M2 (a0 + 2 + 3 * ix (x1)) 2) then (cl (fX7_replace (a0 + 2 + 3 * ix (x1)) ((M2 (a0 + 2 + 3 * ix (x1)) 2) - (1 : Int32)) x2 x3 M2) (fun r3 M3 => some ((0 : Int32), M3))) else (cl (fX7_append (a0 + 2 + 3 * ix (x1)) x2 x3 M2) (fun r4 M4 => some ((0 : Int32), M4)))) else (cl (fX7_placeOf (a0 + 2 + 3 * ix (x1)) x2 M2) (fun r5 M5 => cl (fX7_replace (a0 + 2 + 3 * ix (x1)) r5 x2 x3 M5) (fun r6 M6 => some ((0 : Int32), M6))))))))
def rmX1_putLink : Room := { frames := 2, cells := 0, slots := 0, locals := 43 }
theorem kn_X1_putLink : yX1_putLink.cls ≠ "java/lang/invoke/MethodHandle" ∧ yX1_putLink.cls ≠ "java/lang/invoke/VarHandle" ∧ (parseMethodDescriptor yX1_putLink.desc).map (fun d => d.parameters.length) = some 3 := by decide +kernel
set_option maxRecDepth 100000 in
set_option maxHeartbeats 4000000 in
theorem tX1_putLink {l : Launch} {G : va_G} {L : List Nat} {ad : Nat → Nat} {cs : Nat → ClassId} {z : Bool} {zk zv : Nat → Nat} (hinj : inj L ad)  (a0 : Nat) (x1 : Int32) (x2 : Int32) (x3 : Int32) (h0 : isN L a0) (M : Mm) (r : Int32) (M' : Mm) (h : fX1_putLink a0 x1 x2 x3 M = some (r, M')) : Met l yX1_putLink (tgW yX1_putLink cX1_putLink 5 none) rmX1_putLink (APre G L ad cs z zk zv [.ref (ad a0), .int x1, .int x2, .int x3] M) (AQv G L ad cs M') 0 0 (inA L ad) := by
  refine met_of (Eq.refl true) (Nat.le_of_ble_eq_true rfl) hinj [some (.ref (ad a0)), some (.int x1), some (.int x2), some (.int x3), none] rfl ?_
  intro p e s m below meth c F
  replace F : Fx G L ad cs z zk zv p m meth c cX1_putLink 5 none s _ RX1 := F
  unfold fX1_putLink at h
  refine ax_aload_n F dX1_putLink_0 rfl ?_
  refine ax_iload_n F dX1_putLink_1 rfl ?_
  refine ax_iload_n F dX1_putLink_2 rfl ?_
  obtain ⟨r1, M1, hq1, h⟩ := cq_some0 h
  refine ax_callVi (As := [.int x1, .int x2]) (st := []) F (tX1_hasTwo F.2.2.2.2.2.2.1 _ _ _ h0 _ _ _ hq1) (ob_N h0) rfl kc_X1_hasTwo kz_X1 ki_X1_hasTwo ks_X1_hasTwo km_X1_65 ⟨kn_X1_hasTwo, rfl, rfl, Nat.le_of_ble_eq_true rfl, Nat.le_of_ble_eq_true rfl⟩ rfl (Nat.le_of_ble_eq_true rfl) dX1_putLink_3 ?_
  refine ax_if_ne (t := 10) F dX1_putLink_6 (by decide) (fun hc => ?_) (fun hc => ?_)
  · have h := it_neg0 h hc
    refine ax_aload_n F dX1_putLink_10 rfl ?_
    refine ax_get (v := .ref (ad (a0 + 1))) F (ob_N h0) rfl inGX1 0 (by decide) rfl kf_X1_11 rfl dX1_putLink_11 ?_
    refine ax_iload_n F dX1_putLink_14 rfl ?_
    obtain ⟨hi1, h⟩ := gd_some0 h
    refine ax_aald F (rf_N h0) rfl hi1 dX1_putLink_15 ?_
    refine ax_astore F dX1_putLink_16 (by decide) rfl ?_
    refine ax_aload F dX1_putLink_18 rfl ?_
    refine ax_iload_n F dX1_putLink_20 rfl ?_
    obtain ⟨r2, M2, hq2, h⟩ := cq_some0 h
    refine ax_callVi (As := [.int x2]) (st := []) F (tX7_holds F.2.2.2.2.2.2.1 _ _ (isV_of h0 (okI_lt hi1)) _ _ _ hq2) (ob_V (isV_of h0 (okI_lt hi1))) rfl kc_X7_holds kz_X7 ki_X7_holds ks_X7_holds km_X1_69 ⟨kn_X7_holds, rfl, rfl, Nat.le_of_ble_eq_true rfl, Nat.le_of_ble_eq_true rfl⟩ rfl (Nat.le_of_ble_eq_true rfl) dX1_putLink_21 ?_
    refine ax_if_eq (t := 43) F dX1_putLink_24 (by decide) (fun hc => ?_) (fun hc => ?_)
    · have h := it_pos0 h hc
      refine ax_aload F dX1_putLink_43 rfl ?_
      refine ax_get (v := .int (M2 (a0 + 2 + 3 * ix (x1)) 2)) F (ob_V (isV_of h0 (okI_lt hi1))) rfl inGX7 2 (by decide) rfl kf_X1_80 rfl dX1_putLink_45 ?_
      refine ax_aload_n F dX1_putLink_48 rfl ?_
      refine ax_get (v := .int (M2 a0 2)) F (ob_N h0) rfl inGX1 2 (by decide) rfl kf_X1_35 rfl dX1_putLink_49 ?_
      refine ax_icmp_ge (t := 65) F dX1_putLink_52 (by decide) (fun hc => ?_) (fun hc => ?_)
      · have h := it_pos0 h hc
        refine ax_aload F dX1_putLink_65 rfl ?_
        refine ax_aload F dX1_putLink_67 rfl ?_
        refine ax_get (v := .int (M2 (a0 + 2 + 3 * ix (x1)) 2)) F (ob_V (isV_of h0 (okI_lt hi1))) rfl inGX7 2 (by decide) rfl kf_X1_80 rfl dX1_putLink_69 ?_
        refine ax_iconst (v := (1 : Int32)) F dX1_putLink_72 (by decide) ?_
        refine ax_isub F dX1_putLink_73 ?_
        refine ax_iload_n F dX1_putLink_74 rfl ?_
        refine ax_iload_n F dX1_putLink_75 rfl ?_
        obtain ⟨r3, M3, hq3, h⟩ := cq_some0 h
        refine ax_callVv (As := [.int ((M2 (a0 + 2 + 3 * ix (x1)) 2) - (1 : Int32)), .int x2, .int x3]) (st := []) F (tX7_replace F.2.2.2.2.2.2.1 _ _ _ _ (isV_of h0 (okI_lt hi1)) _ _ _ hq3) (ob_V (isV_of h0 (okI_lt hi1))) rfl kc_X7_replace kz_X7 ki_X7_replace ks_X7_replace km_X1_76 ⟨kn_X7_replace, rfl, rfl, Nat.le_of_ble_eq_true rfl, Nat.le_of_ble_eq_true rfl⟩ rfl (Nat.le_of_ble_eq_true rfl) dX1_putLink_76 ?_
        obtain ⟨h1, h2⟩ := rt_some0 h
        subst h2
        exact ax_vret F dX1_putLink_79
      · have h := it_neg0 h hc
        refine ax_aload F dX1_putLink_55 rfl ?_
        refine ax_iload_n F dX1_putLink_57 rfl ?_
        refine ax_iload_n F dX1_putLink_58 rfl ?_
        obtain ⟨r4, M4, hq4, h⟩ := cq_some0 h
        refine ax_callVv (As := [.int x2, .int x3]) (st := []) F (tX7_append F.2.2.2.2.2.2.1 _ _ _ (isV_of h0 (okI_lt hi1)) _ _ _ hq4) (ob_V (isV_of h0 (okI_lt hi1))) rfl kc_X7_append kz_X7 ki_X7_append ks_X7_append km_X1_53 ⟨kn_X7_append, rfl, rfl, Nat.le_of_ble_eq_true rfl, Nat.le_of_ble_eq_true rfl⟩ rfl (Nat.le_of_ble_eq_true rfl) dX1_putLink_59 ?_
        refine ax_goto (t := 79) F dX1_putLink_62 (by decide) ?_
        obtain ⟨h1, h2⟩ := rt_some0 h
        subst h2
        exact ax_vret F dX1_putLink_79
    · have h := it_neg0 h hc
      refine ax_aload F dX1_putLink_27 rfl ?_
      refine ax_aload F dX1_putLink_29 rfl ?_
      refine ax_iload_n F dX1_putLink_31 rfl ?_
      obtain ⟨r5, M5, hq5, h⟩ := cq_some0 h
      refine ax_callVi (As := [.int x2]) (st := [.ref (ad (a0 + 2 + 3 * ix (x1)))]) F (tX7_placeOf F.2.2.2.2.2.2.1 _ _ (isV_of h0 (okI_lt hi1)) _ _ _ hq5) (ob_V (isV_of h0 (okI_lt hi1))) rfl kc_X7_placeOf kz_X7 ki_X7_placeOf ks_X7_placeOf km_X1_72 ⟨kn_X7_placeOf, rfl, rfl, Nat.le_of_ble_eq_true rfl, Nat.le_of_ble_eq_true rfl⟩ rfl (Nat.le_of_ble_eq_true rfl) dX1_putLink_32 ?_
      refine ax_iload_n F dX1_putLink_35 rfl ?_
      refine ax_iload_n F dX1_putLink_36 rfl ?_
      obtain ⟨r6, M6, hq6, h⟩ := cq_some0 h
      refine ax_callVv (As := [.int r5, .int x2, .int x3]) (st := []) F (tX7_replace F.2.2.2.2.2.2.1 _ _ _ _ (isV_of h0 (okI_lt hi1)) _ _ _ hq6) (ob_V (isV_of h0 (okI_lt hi1))) rfl kc_X7_replace kz_X7 ki_X7_replace ks_X7_replace km_X1_76 ⟨kn_X7_replace, rfl, rfl, Nat.le_of_ble_eq_true rfl, Nat.le_of_ble_eq_true rfl⟩ rfl (Nat.le_of_ble_eq_true rfl) dX1_putLink_37 ?_
      refine ax_goto (t := 79) F dX1_putLink_40 (by decide) ?_
      obtain ⟨h1, h2⟩ := rt_some0 h
      subst h2
      exact ax_vret F dX1_putLink_79
  · have h := it_pos0 h hc
    obtain ⟨h1, h2⟩ := rt_some0 h
    subst h2
    exact ax_vret F dX1_putLink_9
def rmX7_strike : Room := { frames := 0, cells := 0, slots := 0, locals := 0 }
theorem kn_X7_strike : yX7_strike.cls ≠ "java/lang/invoke/MethodHandle" ∧ yX7_strike.cls ≠ "java/lang/invoke/VarHandle" ∧ (parseMethodDescriptor yX7_strike.desc).map (fun d => d.parameters.length) = some 1 := by decide +kernel
noncomputable def bX7_strike_0 (a0 : Nat) (x1 : Int32) (M : Mm) : Option (Sst ⊕ Rst) := if x1 < 0 then (some (.inr ((0 : Int32), M))) else (if x1 < (M a0 2) then (some (.inl (1, [a0], [x1], M))) else (some (.inr ((0 : Int32), M))))
noncomputable def bX7_strike_1 (a0 : Nat) (x2 : Int32) (M : Mm) : Option (Sst ⊕ Rst) := if (M a0 2) ≤ (x2 + (1 : Int32)) then (some (.inr ((0 : Int32), (up2 M a0 2 ((M a0 2) - (1 : Int32)))))) else (gd (okI (x2 + (1 : Int32)) 5) (gd (okI x2 5) (gd (okI (x2 + (1 : Int32)) 5) (gd (okI x2 5) (some (.inl (1, [a0], [(x2 + (1 : Int32))], (up2 (up2 M (a0 + 1) (ix x2) (M (a0 + 1) (ix (x2 + (1 : Int32))))) (a0 + 2) (ix x2) ((up2 M (a0 + 1) (ix x2) (M (a0 + 1) (ix (x2 + (1 : Int32))))) (a0 + 2) (ix (x2 + (1 : Int32))))))))))))
noncomputable def stX7_strike : Sst → Option (Sst ⊕ Rst) := fun q => match q.1 with
  | 0 => bX7_strike_0 (q.2.1.getD 0 0) (q.2.2.1.getD 0 0) q.2.2.2
  | 1 => bX7_strike_1 (q.2.1.getD 0 0) (q.2.2.1.getD 0 0) q.2.2.2
  | _ => none
noncomputable def fX7_strike (a0 : Nat) (x1 : Int32) (M : Mm) : Option Rst := run stX7_strike (0, [a0], [x1], M)
def PX7_strike (p : Program) (l : Launch) (e : Env) (s : State) (m : MethodId) (args : Array Value) (below : List Frame) (meth : Method) (c : Code) (G : va_G) (L : List Nat) (ad : Nat → Nat) (cs : Nat → ClassId) (zk : Nat → Nat) (r : Int32) (M' : Mm) (n : Nat) : Prop := (∀ (a0 : Nat) (x1 : Int32) (M : Mm), itr stX7_strike n (0, [a0], [x1], M) = some (r, M') → isV L a0 → AW p l e rmX7_strike s m args below meth c (MQ below (AQv G L ad cs M') args s 0 0 (inA L ad)) G L ad cs 3 0 [some (.ref (ad a0)), some (.int x1), none] [] M) ∧ (∀ (a0 : Nat) (x2 : Int32) (M : Mm), itr stX7_strike n (1, [a0], [x2], M) = some (r, M') → isV L a0 → AW p l e rmX7_strike s m args below meth c (MQ below (AQv G L ad cs M') args s 0 0 (inA L ad)) G L ad cs 3 15 [some (.ref (ad a0)), none, some (.int x2)] [] M)
set_option maxRecDepth 100000 in
set_option maxHeartbeats 4000000 in
theorem wX7_strike_0 {p : Program} {l : Launch} {e : Env} {s : State} {m : MethodId} {args : Array Value} {below : List Frame} {meth : Method} {c : Code} {G : va_G} {L : List Nat} {ad : Nat → Nat} {cs : Nat → ClassId} {z : Bool} {zk zv : Nat → Nat} {r : Int32} {M' : Mm} {n : Nat} (F : Fx G L ad cs z zk zv p m meth c cX7_strike 3 none s args RX7)  (IH : PX7_strike p l e s m args below meth c G L ad cs zk r M' n) (a0 : Nat) (x1 : Int32) (M : Mm) (h : (bX7_strike_0 a0 x1 M).bind (fun q => match q with | .inl s' => itr stX7_strike n s' | .inr r => some r) = some (r, M')) (h0 : isV L a0) : AW p l e rmX7_strike s m args below meth c (MQ below (AQv G L ad cs M') args s 0 0 (inA L ad)) G L ad cs 3 0 [some (.ref (ad a0)), some (.int x1), none] [] M := by
  unfold bX7_strike_0 at h
  refine ax_iload_n F dX7_strike_0 rfl ?_
  refine ax_if_lt (t := 12) F dX7_strike_1 (by decide) (fun hc => ?_) (fun hc => ?_)
  · have h := it_pos h hc
    obtain ⟨h1, h2⟩ := rt_some h
    subst h2
    exact ax_vret F dX7_strike_12
  · have h := it_neg h hc
    refine ax_iload_n F dX7_strike_4 rfl ?_
    refine ax_aload_n F dX7_strike_5 rfl ?_
    refine ax_get (v := .int (M a0 2)) F (ob_V h0) rfl inGX7 2 (by decide) rfl kf_X7_18 rfl dX7_strike_6 ?_
    refine ax_icmp_lt (t := 13) F dX7_strike_9 (by decide) (fun hc => ?_) (fun hc => ?_)
    · have h := it_pos h hc
      refine ax_iload_n F dX7_strike_13 rfl ?_
      refine ax_istore_n F dX7_strike_14 (by decide) rfl ?_
      refine ax_mask [true, false, true] ?_
      exact IH.2 _ _ _ h h0
    · have h := it_neg h hc
      obtain ⟨h1, h2⟩ := rt_some h
      subst h2
      exact ax_vret F dX7_strike_12
set_option maxRecDepth 100000 in
set_option maxHeartbeats 4000000 in
theorem wX7_strike_1 {p : Program} {l : Launch} {e : Env} {s : State} {m : MethodId} {args : Array Value} {below : List Frame} {meth : Method} {c : Code} {G : va_G} {L : List Nat} {ad : Nat → Nat} {cs : Nat → ClassId} {z : Bool} {zk zv : Nat → Nat} {r : Int32} {M' : Mm} {n : Nat} (F : Fx G L ad cs z zk zv p m meth c cX7_strike 3 none s args RX7)  (IH : PX7_strike p l e s m args below meth c G L ad cs zk r M' n) (a0 : Nat) (x2 : Int32) (M : Mm) (h : (bX7_strike_1 a0 x2 M).bind (fun q => match q with | .inl s' => itr stX7_strike n s' | .inr r => some r) = some (r, M')) (h0 : isV L a0) : AW p l e rmX7_strike s m args below meth c (MQ below (AQv G L ad cs M') args s 0 0 (inA L ad)) G L ad cs 3 15 [some (.ref (ad a0)), none, some (.int x2)] [] M := by
  unfold bX7_strike_1 at h
  refine ax_iload_n F dX7_strike_15 rfl ?_
  refine ax_iconst (v := (1 : Int32)) F dX7_strike_16 (by decide) ?_
  refine ax_iadd F dX7_strike_17 ?_
  refine ax_aload_n F dX7_strike_18 rfl ?_
  refine ax_get (v := .int (M a0 2)) F (ob_V h0) rfl inGX7 2 (by decide) rfl kf_X7_18 rfl dX7_strike_19 ?_
  refine ax_icmp_ge (t := 59) F dX7_strike_22 (by decide) (fun hc => ?_) (fun hc => ?_)
  · have h := it_pos h hc
    refine ax_aload_n F dX7_strike_59 rfl ?_
    refine ax_dup F dX7_strike_60 rfl ?_
    refine ax_get (v := .int (M a0 2)) F (ob_V h0) rfl inGX7 2 (by decide) rfl kf_X7_18 rfl dX7_strike_61 ?_
    refine ax_iconst (v := (1 : Int32)) F dX7_strike_64 (by decide) ?_
    refine ax_isub F dX7_strike_65 ?_
    refine ax_put (ty := .int) F (ob_V h0) rfl inGX7 tyX7 tyX7_ok nmX7 2 (by decide) rfl kf_X7_18 (by decide) rfl rfl (Nat.le_of_ble_eq_true rfl) rfl dX7_strike_66 ?_
    obtain ⟨h1, h2⟩ := rt_some h
    subst h2
    exact ax_vret F dX7_strike_69
  · have h := it_neg h hc
    refine ax_aload_n F dX7_strike_25 rfl ?_
    refine ax_get (v := .ref (ad (a0 + 1))) F (ob_V h0) rfl inGX7 0 (by decide) rfl kf_X7_9 rfl dX7_strike_26 ?_
    refine ax_iload_n F dX7_strike_29 rfl ?_
    refine ax_aload_n F dX7_strike_30 rfl ?_
    refine ax_get (v := .ref (ad (a0 + 1))) F (ob_V h0) rfl inGX7 0 (by decide) rfl kf_X7_9 rfl dX7_strike_31 ?_
    refine ax_iload_n F dX7_strike_34 rfl ?_
    refine ax_iconst (v := (1 : Int32)) F dX7_strike_35 (by decide) ?_
    refine ax_iadd F dX7_strike_36 ?_
    obtain ⟨hg, h⟩ := gd_some h
    refine ax_iald F (ar_V1 h0) hg dX7_strike_37 ?_
    obtain ⟨hg, h⟩ := gd_some h
    refine ax_iast F (ar_V1 h0) hg dX7_strike_38 ?_
    refine ax_aload_n F dX7_strike_39 rfl ?_
    refine ax_get (v := .ref (ad (a0 + 2))) F (ob_V h0) rfl inGX7 1 (by decide) rfl kf_X7_15 rfl dX7_strike_40 ?_
    refine ax_iload_n F dX7_strike_43 rfl ?_
    refine ax_aload_n F dX7_strike_44 rfl ?_
    refine ax_get (v := .ref (ad (a0 + 2))) F (ob_V h0) rfl inGX7 1 (by decide) rfl kf_X7_15 rfl dX7_strike_45 ?_
    refine ax_iload_n F dX7_strike_48 rfl ?_
    refine ax_iconst (v := (1 : Int32)) F dX7_strike_49 (by decide) ?_
    refine ax_iadd F dX7_strike_50 ?_
    obtain ⟨hg, h⟩ := gd_some h
    refine ax_iald F (ar_V2 h0) hg dX7_strike_51 ?_
    obtain ⟨hg, h⟩ := gd_some h
    refine ax_iast F (ar_V2 h0) hg dX7_strike_52 ?_
    refine ax_iinc (v := (1 : Int32)) F dX7_strike_53 rfl (by decide) (by decide) rfl ?_
    refine ax_goto (t := 15) F dX7_strike_56 (by decide) ?_
    exact IH.2 _ _ _ h h0
set_option maxRecDepth 100000 in
set_option maxHeartbeats 4000000 in
theorem wX7_strike {p : Program} {l : Launch} {e : Env} {s : State} {m : MethodId} {args : Array Value} {below : List Frame} {meth : Method} {c : Code} {G : va_G} {L : List Nat} {ad : Nat → Nat} {cs : Nat → ClassId} {z : Bool} {zk zv : Nat → Nat} {r : Int32} {M' : Mm} (F : Fx G L ad cs z zk zv p m meth c cX7_strike 3 none s args RX7)  (n : Nat) : PX7_strike p l e s m args below meth c G L ad cs zk r M' n := by
  induction n with
  | zero => exact ⟨(fun a0 x1 M h => by cases h), (fun a0 x2 M h => by cases h)⟩
  | succ n ih =>
    exact ⟨fun a0 x1 M h h0 => wX7_strike_0 F ih a0 x1 M h h0,
      fun a0 x2 M h h0 => wX7_strike_1 F ih a0 x2 M h h0⟩
set_option maxRecDepth 100000 in
set_option maxHeartbeats 4000000 in
theorem tX7_strike {l : Launch} {G : va_G} {L : List Nat} {ad : Nat → Nat} {cs : Nat → ClassId} {z : Bool} {zk zv : Nat → Nat} (hinj : inj L ad)  (a0 : Nat) (x1 : Int32) (h0 : isV L a0) (M : Mm) (r : Int32) (M' : Mm) (h : fX7_strike a0 x1 M = some (r, M')) : Met l yX7_strike (tgW yX7_strike cX7_strike 3 none) rmX7_strike (APre G L ad cs z zk zv [.ref (ad a0), .int x1] M) (AQv G L ad cs M') 0 0 (inA L ad) := by
  refine met_of (Eq.refl true) (Nat.le_of_ble_eq_true rfl) hinj [some (.ref (ad a0)), some (.int x1), none] rfl ?_
  intro p e s m below meth c F
  replace F : Fx G L ad cs z zk zv p m meth c cX7_strike 3 none s _ RX7 := F
  obtain ⟨n, hn⟩ := run_ex h
  exact (wX7_strike F n).1 a0 x1 M hn h0
noncomputable def fX1_cutLink (a0 : Nat) (x1 : Int32) (x2 : Int32) (M : Mm) : Option Rst := cl (fX1_has a0 x1 M) (fun r1 M1 => if r1 = 0 then (some ((0 : Int32), M1)) else (gd (okI x1 8) (gd (okI x1 8) (cl (fX7_placeOf (a0 + 2 + 3 * ix (x1)) x2 M1) (fun r2 M2 => cl (fX7_strike (a0 + 2 + 3 * ix (x1)) r2 M2) (fun r3 M3 => some ((0 : Int32), M3)))))))
def rmX1_cutLink : Room := { frames := 1, cells := 0, slots := 0, locals := 22 }
theorem kn_X1_cutLink : yX1_cutLink.cls ≠ "java/lang/invoke/MethodHandle" ∧ yX1_cutLink.cls ≠ "java/lang/invoke/VarHandle" ∧ (parseMethodDescriptor yX1_cutLink.desc).map (fun d => d.parameters.length) = some 2 := by decide +kernel
set_option maxRecDepth 100000 in
set_option maxHeartbeats 4000000 in
theorem tX1_cutLink {l : Launch} {G : va_G} {L : List Nat} {ad : Nat → Nat} {cs : Nat → ClassId} {z : Bool} {zk zv : Nat → Nat} (hinj : inj L ad)  (a0 : Nat) (x1 : Int32) (x2 : Int32) (h0 : isN L a0) (M : Mm) (r : Int32) (M' : Mm) (h : fX1_cutLink a0 x1 x2 M = some (r, M')) : Met l yX1_cutLink (tgW yX1_cutLink cX1_cutLink 3 none) rmX1_cutLink (APre G L ad cs z zk zv [.ref (ad a0), .int x1, .int x2] M) (AQv G L ad cs M') 0 0 (inA L ad) := by
  refine met_of (Eq.refl true) (Nat.le_of_ble_eq_true rfl) hinj [some (.ref (ad a0)), some (.int x1), some (.int x2)] rfl ?_
  intro p e s m below meth c F
  replace F : Fx G L ad cs z zk zv p m meth c cX1_cutLink 3 none s _ RX1 := F
  unfold fX1_cutLink at h
  refine ax_aload_n F dX1_cutLink_0 rfl ?_
  refine ax_iload_n F dX1_cutLink_1 rfl ?_
  obtain ⟨r1, M1, hq1, h⟩ := cq_some0 h
  refine ax_callVi (As := [.int x1]) (st := []) F (tX1_has F.2.2.2.2.2.2.1 _ _ h0 _ _ _ hq1) (ob_N h0) rfl kc_X1_has kz_X1 ki_X1_has ks_X1_has km_X1_61 ⟨kn_X1_has, rfl, rfl, Nat.le_of_ble_eq_true rfl, Nat.le_of_ble_eq_true rfl⟩ rfl (Nat.le_of_ble_eq_true rfl) dX1_cutLink_2 ?_
  refine ax_if_eq (t := 27) F dX1_cutLink_5 (by decide) (fun hc => ?_) (fun hc => ?_)
  · have h := it_pos0 h hc
    obtain ⟨h1, h2⟩ := rt_some0 h
    subst h2
    exact ax_vret F dX1_cutLink_27
  · have h := it_neg0 h hc
    refine ax_aload_n F dX1_cutLink_8 rfl ?_
    refine ax_get (v := .ref (ad (a0 + 1))) F (ob_N h0) rfl inGX1 0 (by decide) rfl kf_X1_11 rfl dX1_cutLink_9 ?_
    refine ax_iload_n F dX1_cutLink_12 rfl ?_
    obtain ⟨hi1, h⟩ := gd_some0 h
    refine ax_aald F (rf_N h0) rfl hi1 dX1_cutLink_13 ?_
    refine ax_aload_n F dX1_cutLink_14 rfl ?_
    refine ax_get (v := .ref (ad (a0 + 1))) F (ob_N h0) rfl inGX1 0 (by decide) rfl kf_X1_11 rfl dX1_cutLink_15 ?_
    refine ax_iload_n F dX1_cutLink_18 rfl ?_
    obtain ⟨hi2, h⟩ := gd_some0 h
    refine ax_aald F (rf_N h0) rfl hi2 dX1_cutLink_19 ?_
    refine ax_iload_n F dX1_cutLink_20 rfl ?_
    obtain ⟨r2, M2, hq2, h⟩ := cq_some0 h
    refine ax_callVi (As := [.int x2]) (st := [.ref (ad (a0 + 2 + 3 * ix (x1)))]) F (tX7_placeOf F.2.2.2.2.2.2.1 _ _ (isV_of h0 (okI_lt hi2)) _ _ _ hq2) (ob_V (isV_of h0 (okI_lt hi2))) rfl kc_X7_placeOf kz_X7 ki_X7_placeOf ks_X7_placeOf km_X1_72 ⟨kn_X7_placeOf, rfl, rfl, Nat.le_of_ble_eq_true rfl, Nat.le_of_ble_eq_true rfl⟩ rfl (Nat.le_of_ble_eq_true rfl) dX1_cutLink_21 ?_
    obtain ⟨r3, M3, hq3, h⟩ := cq_some0 h
    refine ax_callVv (As := [.int r2]) (st := []) F (tX7_strike F.2.2.2.2.2.2.1 _ _ (isV_of h0 (okI_lt hi1)) _ _ _ hq3) (ob_V (isV_of h0 (okI_lt hi1))) rfl kc_X7_strike kz_X7 ki_X7_strike ks_X7_strike km_X1_83 ⟨kn_X7_strike, rfl, rfl, Nat.le_of_ble_eq_true rfl, Nat.le_of_ble_eq_true rfl⟩ rfl (Nat.le_of_ble_eq_true rfl) dX1_cutLink_24 ?_
    obtain ⟨h1, h2⟩ := rt_some0 h
    subst h2
    exact ax_vret F dX1_cutLink_27
noncomputable def fX0_doOne (a1 : Nat) (x2 : Int32) (M : Mm) : Option Rst := cl (fX0_numberOf x2 (0 : Int32) M) (fun r1 M1 => cl (fX0_numberOf x2 (1 : Int32) M1) (fun r2 M2 => cl (fX0_numberOf x2 (2 : Int32) M2) (fun r3 M3 => cl (fX0_formAt x2 M3) (fun r4 M4 => if r4 = (0 : Int32) then (cl (fX0_numberOf x2 (3 : Int32) M4) (fun r5 M5 => cl (fX1_begin a1 r1 r2 r3 r5 M5) (fun r6 M6 => some ((0 : Int32), M6)))) else if r4 = (1 : Int32) then (cl (fX1_setAlive a1 r1 (0 : Int32) M4) (fun r7 M7 => some ((0 : Int32), M7))) else if r4 = (2 : Int32) then (cl (fX1_setSly a1 r1 M4) (fun r8 M8 => some ((0 : Int32), M8))) else if r4 = (3 : Int32) then (cl (fX1_putLink a1 r1 r2 r3 M4) (fun r9 M9 => some ((0 : Int32), M9))) else if r4 = (4 : Int32) then (cl (fX1_cutLink a1 r1 r2 M4) (fun r10 M10 => some ((0 : Int32), M10))) else (some ((0 : Int32), M4))))))
def rmX0_doOne : Room := { frames := 3, cells := 0, slots := 0, locals := 67 }
theorem kn_X0_doOne : yX0_doOne.cls ≠ "java/lang/invoke/MethodHandle" ∧ yX0_doOne.cls ≠ "java/lang/invoke/VarHandle" ∧ (parseMethodDescriptor yX0_doOne.desc).map (fun d => d.parameters.length) = some 2 := by decide +kernel
set_option maxRecDepth 100000 in
set_option maxHeartbeats 4000000 in
theorem tX0_doOne {l : Launch} {G : va_G} {L : List Nat} {ad : Nat → Nat} {cs : Nat → ClassId} {z : Bool} {zk zv : Nat → Nat} (hinj : inj L ad) (hx : isX L) (a1 : Nat) (x2 : Int32) (h1 : isN L a1) (M : Mm) (r : Int32) (M' : Mm) (h : fX0_doOne a1 x2 M = some (r, M')) : Met l yX0_doOne (tgW yX0_doOne cX0_doOne 6 none) rmX0_doOne (APre G L ad cs z zk zv [.ref (ad 3), .ref (ad a1), .int x2] M) (AQv G L ad cs M') 0 0 (inA L ad) := by
  refine met_of (Eq.refl true) (Nat.le_of_ble_eq_true rfl) hinj [some (.ref (ad 3)), some (.ref (ad a1)), some (.int x2), none, none, none] rfl ?_
  intro p e s m below meth c F
  replace F : Fx G L ad cs z zk zv p m meth c cX0_doOne 6 none s _ RX0 := F
  unfold fX0_doOne at h
  refine ax_aload_n F dX0_doOne_0 rfl ?_
  refine ax_iload_n F dX0_doOne_1 rfl ?_
  refine ax_iconst (v := (0 : Int32)) F dX0_doOne_2 (by decide) ?_
  obtain ⟨r1, M1, hq1, h⟩ := cq_some0 h
  refine ax_callVi (As := [.int x2, .int (0 : Int32)]) (st := []) F (tX0_numberOf F.2.2.2.2.2.2.1 hx _ _  _ _ _ hq1) (ob_3 hx) rfl kc_X0_numberOf kz_X0 ki_X0_numberOf ks_X0_numberOf km_X0_59 ⟨kn_X0_numberOf, rfl, rfl, Nat.le_of_ble_eq_true rfl, Nat.le_of_ble_eq_true rfl⟩ rfl (Nat.le_of_ble_eq_true rfl) dX0_doOne_3 ?_
  refine ax_istore_n F dX0_doOne_6 (by decide) rfl ?_
  refine ax_aload_n F dX0_doOne_7 rfl ?_
  refine ax_iload_n F dX0_doOne_8 rfl ?_
  refine ax_iconst (v := (1 : Int32)) F dX0_doOne_9 (by decide) ?_
  obtain ⟨r2, M2, hq2, h⟩ := cq_some0 h
  refine ax_callVi (As := [.int x2, .int (1 : Int32)]) (st := []) F (tX0_numberOf F.2.2.2.2.2.2.1 hx _ _  _ _ _ hq2) (ob_3 hx) rfl kc_X0_numberOf kz_X0 ki_X0_numberOf ks_X0_numberOf km_X0_59 ⟨kn_X0_numberOf, rfl, rfl, Nat.le_of_ble_eq_true rfl, Nat.le_of_ble_eq_true rfl⟩ rfl (Nat.le_of_ble_eq_true rfl) dX0_doOne_10 ?_
  refine ax_istore F dX0_doOne_13 (by decide) rfl ?_
  refine ax_aload_n F dX0_doOne_15 rfl ?_
  refine ax_iload_n F dX0_doOne_16 rfl ?_
  refine ax_iconst (v := (2 : Int32)) F dX0_doOne_17 (by decide) ?_
  obtain ⟨r3, M3, hq3, h⟩ := cq_some0 h
  refine ax_callVi (As := [.int x2, .int (2 : Int32)]) (st := []) F (tX0_numberOf F.2.2.2.2.2.2.1 hx _ _  _ _ _ hq3) (ob_3 hx) rfl kc_X0_numberOf kz_X0 ki_X0_numberOf ks_X0_numberOf km_X0_59 ⟨kn_X0_numberOf, rfl, rfl, Nat.le_of_ble_eq_true rfl, Nat.le_of_ble_eq_true rfl⟩ rfl (Nat.le_of_ble_eq_true rfl) dX0_doOne_18 ?_
  refine ax_istore F dX0_doOne_21 (by decide) rfl ?_
  refine ax_aload_n F dX0_doOne_23 rfl ?_
  refine ax_iload_n F dX0_doOne_24 rfl ?_
  obtain ⟨r4, M4, hq4, h⟩ := cq_some0 h
  refine ax_callVi (As := [.int x2]) (st := []) F (tX0_formAt F.2.2.2.2.2.2.1 hx _  _ _ _ hq4) (ob_3 hx) rfl kc_X0_formAt kz_X0 ki_X0_formAt ks_X0_formAt km_X0_63 ⟨kn_X0_formAt, rfl, rfl, Nat.le_of_ble_eq_true rfl, Nat.le_of_ble_eq_true rfl⟩ rfl (Nat.le_of_ble_eq_true rfl) dX0_doOne_25 ?_
  by_cases hc0 : r4 = (0 : Int32)
  · have h := it_pos0 h hc0
    refine ax_swK (v := (0 : Int32)) (t := 64) F dX0_doOne_28 hc0 (by decide) (by decide) rfl (by decide) ?_
    refine ax_aload_n F dX0_doOne_64 rfl ?_
    refine ax_iload_n F dX0_doOne_65 rfl ?_
    refine ax_iload F dX0_doOne_66 rfl ?_
    refine ax_iload F dX0_doOne_68 rfl ?_
    refine ax_aload_n F dX0_doOne_70 rfl ?_
    refine ax_iload_n F dX0_doOne_71 rfl ?_
    refine ax_iconst (v := (3 : Int32)) F dX0_doOne_72 (by decide) ?_
    obtain ⟨r5, M5, hq5, h⟩ := cq_some0 h
    refine ax_callVi (As := [.int x2, .int (3 : Int32)]) (st := [.int r3, .int r2, .int r1, .ref (ad a1)]) F (tX0_numberOf F.2.2.2.2.2.2.1 hx _ _  _ _ _ hq5) (ob_3 hx) rfl kc_X0_numberOf kz_X0 ki_X0_numberOf ks_X0_numberOf km_X0_59 ⟨kn_X0_numberOf, rfl, rfl, Nat.le_of_ble_eq_true rfl, Nat.le_of_ble_eq_true rfl⟩ rfl (Nat.le_of_ble_eq_true rfl) dX0_doOne_73 ?_
    obtain ⟨r6, M6, hq6, h⟩ := cq_some0 h
    refine ax_callVv (As := [.int r1, .int r2, .int r3, .int r5]) (st := []) F (tX1_begin F.2.2.2.2.2.2.1 _ _ _ _ _ h1 _ _ _ hq6) (ob_N h1) rfl kc_X1_begin kz_X1 ki_X1_begin ks_X1_begin km_X0_90 ⟨kn_X1_begin, rfl, rfl, Nat.le_of_ble_eq_true rfl, Nat.le_of_ble_eq_true rfl⟩ rfl (Nat.le_of_ble_eq_true rfl) dX0_doOne_76 ?_
    refine ax_goto (t := 121) F dX0_doOne_79 (by decide) ?_
    obtain ⟨h1, h2⟩ := rt_some0 h
    subst h2
    exact ax_vret F dX0_doOne_121
  replace h := it_neg0 h hc0
  by_cases hc1 : r4 = (1 : Int32)
  · have h := it_pos0 h hc1
    refine ax_swK (v := (1 : Int32)) (t := 82) F dX0_doOne_28 hc1 (by decide) (by decide) rfl (by decide) ?_
    refine ax_aload_n F dX0_doOne_82 rfl ?_
    refine ax_iload_n F dX0_doOne_83 rfl ?_
    refine ax_iconst (v := (0 : Int32)) F dX0_doOne_84 (by decide) ?_
    obtain ⟨r7, M7, hq7, h⟩ := cq_some0 h
    refine ax_callVv (As := [.int r1, .int (0 : Int32)]) (st := []) F (tX1_setAlive F.2.2.2.2.2.2.1 _ _ _ h1 _ _ _ hq7) (ob_N h1) rfl kc_X1_setAlive kz_X1 ki_X1_setAlive ks_X1_setAlive km_X0_96 ⟨kn_X1_setAlive, rfl, rfl, Nat.le_of_ble_eq_true rfl, Nat.le_of_ble_eq_true rfl⟩ rfl (Nat.le_of_ble_eq_true rfl) dX0_doOne_85 ?_
    refine ax_goto (t := 121) F dX0_doOne_88 (by decide) ?_
    obtain ⟨h1, h2⟩ := rt_some0 h
    subst h2
    exact ax_vret F dX0_doOne_121
  replace h := it_neg0 h hc1
  by_cases hc2 : r4 = (2 : Int32)
  · have h := it_pos0 h hc2
    refine ax_swK (v := (2 : Int32)) (t := 91) F dX0_doOne_28 hc2 (by decide) (by decide) rfl (by decide) ?_
    refine ax_aload_n F dX0_doOne_91 rfl ?_
    refine ax_iload_n F dX0_doOne_92 rfl ?_
    obtain ⟨r8, M8, hq8, h⟩ := cq_some0 h
    refine ax_callVv (As := [.int r1]) (st := []) F (tX1_setSly F.2.2.2.2.2.2.1 _ _ h1 _ _ _ hq8) (ob_N h1) rfl kc_X1_setSly kz_X1 ki_X1_setSly ks_X1_setSly km_X0_100 ⟨kn_X1_setSly, rfl, rfl, Nat.le_of_ble_eq_true rfl, Nat.le_of_ble_eq_true rfl⟩ rfl (Nat.le_of_ble_eq_true rfl) dX0_doOne_93 ?_
    refine ax_goto (t := 121) F dX0_doOne_96 (by decide) ?_
    obtain ⟨h1, h2⟩ := rt_some0 h
    subst h2
    exact ax_vret F dX0_doOne_121
  replace h := it_neg0 h hc2
  by_cases hc3 : r4 = (3 : Int32)
  · have h := it_pos0 h hc3
    refine ax_swK (v := (3 : Int32)) (t := 99) F dX0_doOne_28 hc3 (by decide) (by decide) rfl (by decide) ?_
    refine ax_aload_n F dX0_doOne_99 rfl ?_
    refine ax_iload_n F dX0_doOne_100 rfl ?_
    refine ax_iload F dX0_doOne_101 rfl ?_
    refine ax_iload F dX0_doOne_103 rfl ?_
    obtain ⟨r9, M9, hq9, h⟩ := cq_some0 h
    refine ax_callVv (As := [.int r1, .int r2, .int r3]) (st := []) F (tX1_putLink F.2.2.2.2.2.2.1 _ _ _ _ h1 _ _ _ hq9) (ob_N h1) rfl kc_X1_putLink kz_X1 ki_X1_putLink ks_X1_putLink km_X0_104 ⟨kn_X1_putLink, rfl, rfl, Nat.le_of_ble_eq_true rfl, Nat.le_of_ble_eq_true rfl⟩ rfl (Nat.le_of_ble_eq_true rfl) dX0_doOne_105 ?_
    refine ax_goto (t := 121) F dX0_doOne_108 (by decide) ?_
    obtain ⟨h1, h2⟩ := rt_some0 h
    subst h2
    exact ax_vret F dX0_doOne_121
  replace h := it_neg0 h hc3
  by_cases hc4 : r4 = (4 : Int32)
  · have h := it_pos0 h hc4
    refine ax_swK (v := (4 : Int32)) (t := 111) F dX0_doOne_28 hc4 (by decide) (by decide) rfl (by decide) ?_
    refine ax_aload_n F dX0_doOne_111 rfl ?_
    refine ax_iload_n F dX0_doOne_112 rfl ?_
    refine ax_iload F dX0_doOne_113 rfl ?_
    obtain ⟨r10, M10, hq10, h⟩ := cq_some0 h
    refine ax_callVv (As := [.int r1, .int r2]) (st := []) F (tX1_cutLink F.2.2.2.2.2.2.1 _ _ _ h1 _ _ _ hq10) (ob_N h1) rfl kc_X1_cutLink kz_X1 ki_X1_cutLink ks_X1_cutLink km_X0_108 ⟨kn_X1_cutLink, rfl, rfl, Nat.le_of_ble_eq_true rfl, Nat.le_of_ble_eq_true rfl⟩ rfl (Nat.le_of_ble_eq_true rfl) dX0_doOne_115 ?_
    refine ax_goto (t := 121) F dX0_doOne_118 (by decide) ?_
    obtain ⟨h1, h2⟩ := rt_some0 h
    subst h2
    exact ax_vret F dX0_doOne_121
  replace h := it_neg0 h hc4
  have hd0 : (r4).toInt ≠ 0 := fun e => hc0 (Int32.toInt_inj.mp (by rw [e]; rfl))
  have hd1 : (r4).toInt ≠ 1 := fun e => hc1 (Int32.toInt_inj.mp (by rw [e]; rfl))
  have hd2 : (r4).toInt ≠ 2 := fun e => hc2 (Int32.toInt_inj.mp (by rw [e]; rfl))
  have hd3 : (r4).toInt ≠ 3 := fun e => hc3 (Int32.toInt_inj.mp (by rw [e]; rfl))
  have hd4 : (r4).toInt ≠ 4 := fun e => hc4 (Int32.toInt_inj.mp (by rw [e]; rfl))
  refine ax_swOut (t := 121) F dX0_doOne_28 (by omega) (by decide) ?_
  obtain ⟨h1, h2⟩ := rt_some0 h
  subst h2
  exact ax_vret F dX0_doOne_121
def rmX0_doAll : Room := { frames := 4, cells := 0, slots := 0, locals := 92 }
theorem kn_X0_doAll : yX0_doAll.cls ≠ "java/lang/invoke/MethodHandle" ∧ yX0_doAll.cls ≠ "java/lang/invoke/VarHandle" ∧ (parseMethodDescriptor yX0_doAll.desc).map (fun d => d.parameters.length) = some 1 := by decide +kernel
noncomputable def bX0_doAll_0 (a1 : Nat) (M : Mm) : Option (Sst ⊕ Rst) := some (.inl (1, [a1], [(0 : Int32)], M))
noncomputable def bX0_doAll_1 (a1 : Nat) (x2 : Int32) (M : Mm) : Option (Sst ⊕ Rst) := if (M 3 2) ≤ x2 then (some (.inr ((0 : Int32), M))) else (cl (fX0_doOne a1 x2 M) (fun r1 M1 => some (.inl (1, [a1], [(x2 + (1 : Int32))], M1))))
noncomputable def stX0_doAll : Sst → Option (Sst ⊕ Rst) := fun q => match q.1 with
  | 0 => bX0_doAll_0 (q.2.1.getD 0 0) q.2.2.2
  | 1 => bX0_doAll_1 (q.2.1.getD 0 0) (q.2.2.1.getD 0 0) q.2.2.2
  | _ => none
noncomputable def fX0_doAll (a1 : Nat) (M : Mm) : Option Rst := run stX0_doAll (0, [a1], [], M)
def PX0_doAll (p : Program) (l : Launch) (e : Env) (s : State) (m : MethodId) (args : Array Value) (below : List Frame) (meth : Method) (c : Code) (G : va_G) (L : List Nat) (ad : Nat → Nat) (cs : Nat → ClassId) (zk : Nat → Nat) (r : Int32) (M' : Mm) (n : Nat) : Prop := (∀ (a1 : Nat) (M : Mm), itr stX0_doAll n (0, [a1], [], M) = some (r, M') → isN L a1 → AW p l e rmX0_doAll s m args below meth c (MQ below (AQv G L ad cs M') args s 0 0 (inA L ad)) G L ad cs 3 0 [some (.ref (ad 3)), some (.ref (ad a1)), none] [] M) ∧ (∀ (a1 : Nat) (x2 : Int32) (M : Mm), itr stX0_doAll n (1, [a1], [x2], M) = some (r, M') → isN L a1 → AW p l e rmX0_doAll s m args below meth c (MQ below (AQv G L ad cs M') args s 0 0 (inA L ad)) G L ad cs 3 2 [some (.ref (ad 3)), some (.ref (ad a1)), some (.int x2)] [] M)
set_option maxRecDepth 100000 in
set_option maxHeartbeats 4000000 in
theorem wX0_doAll_0 {p : Program} {l : Launch} {e : Env} {s : State} {m : MethodId} {args : Array Value} {below : List Frame} {meth : Method} {c : Code} {G : va_G} {L : List Nat} {ad : Nat → Nat} {cs : Nat → ClassId} {z : Bool} {zk zv : Nat → Nat} {r : Int32} {M' : Mm} {n : Nat} (F : Fx G L ad cs z zk zv p m meth c cX0_doAll 3 none s args RX0) (hx : isX L) (IH : PX0_doAll p l e s m args below meth c G L ad cs zk r M' n) (a1 : Nat) (M : Mm) (h : (bX0_doAll_0 a1 M).bind (fun q => match q with | .inl s' => itr stX0_doAll n s' | .inr r => some r) = some (r, M')) (h1 : isN L a1) : AW p l e rmX0_doAll s m args below meth c (MQ below (AQv G L ad cs M') args s 0 0 (inA L ad)) G L ad cs 3 0 [some (.ref (ad 3)), some (.ref (ad a1)), none] [] M := by
  unfold bX0_doAll_0 at h
  refine ax_iconst (v := (0 : Int32)) F dX0_doAll_0 (by decide) ?_
  refine ax_istore_n F dX0_doAll_1 (by decide) rfl ?_
  exact IH.2 _ _ _ h h1
set_option maxRecDepth 100000 in
set_option maxHeartbeats 4000000 in
theorem wX0_doAll_1 {p : Program} {l : Launch} {e : Env} {s : State} {m : MethodId} {args : Array Value} {below : List Frame} {meth : Method} {c : Code} {G : va_G} {L : List Nat} {ad : Nat → Nat} {cs : Nat → ClassId} {z : Bool} {zk zv : Nat → Nat} {r : Int32} {M' : Mm} {n : Nat} (F : Fx G L ad cs z zk zv p m meth c cX0_doAll 3 none s args RX0) (hx : isX L) (IH : PX0_doAll p l e s m args below meth c G L ad cs zk r M' n) (a1 : Nat) (x2 : Int32) (M : Mm) (h : (bX0_doAll_1 a1 x2 M).bind (fun q => match q with | .inl s' => itr stX0_doAll n s' | .inr r => some r) = some (r, M')) (h1 : isN L a1) : AW p l e rmX0_doAll s m args below meth c (MQ below (AQv G L ad cs M') args s 0 0 (inA L ad)) G L ad cs 3 2 [some (.ref (ad 3)), some (.ref (ad a1)), some (.int x2)] [] M := by
  unfold bX0_doAll_1 at h
  refine ax_iload_n F dX0_doAll_2 rfl ?_
  refine ax_aload_n F dX0_doAll_3 rfl ?_
  refine ax_get (v := .int (M 3 2)) F (ob_3 hx) rfl inGX0 2 (by decide) rfl kf_X0_22 rfl dX0_doAll_4 ?_
  refine ax_icmp_ge (t := 22) F dX0_doAll_7 (by decide) (fun hc => ?_) (fun hc => ?_)
  · have h := it_pos h hc
    obtain ⟨h1, h2⟩ := rt_some h
    subst h2
    exact ax_vret F dX0_doAll_22
  · have h := it_neg h hc
    refine ax_aload_n F dX0_doAll_10 rfl ?_
    refine ax_aload_n F dX0_doAll_11 rfl ?_
    refine ax_iload_n F dX0_doAll_12 rfl ?_
    obtain ⟨r1, M1, hq1, h⟩ := cq_some h
    refine ax_callVv (As := [.ref (ad a1), .int x2]) (st := []) F (tX0_doOne F.2.2.2.2.2.2.1 hx _ _ h1 _ _ _ hq1) (ob_3 hx) rfl kc_X0_doOne kz_X0 ki_X0_doOne ks_X0_doOne km_X0_86 ⟨kn_X0_doOne, rfl, rfl, Nat.le_of_ble_eq_true rfl, Nat.le_of_ble_eq_true rfl⟩ rfl (Nat.le_of_ble_eq_true rfl) dX0_doAll_13 ?_
    refine ax_iinc (v := (1 : Int32)) F dX0_doAll_16 rfl (by decide) (by decide) rfl ?_
    refine ax_goto (t := 2) F dX0_doAll_19 (by decide) ?_
    exact IH.2 _ _ _ h h1
set_option maxRecDepth 100000 in
set_option maxHeartbeats 4000000 in
theorem wX0_doAll {p : Program} {l : Launch} {e : Env} {s : State} {m : MethodId} {args : Array Value} {below : List Frame} {meth : Method} {c : Code} {G : va_G} {L : List Nat} {ad : Nat → Nat} {cs : Nat → ClassId} {z : Bool} {zk zv : Nat → Nat} {r : Int32} {M' : Mm} (F : Fx G L ad cs z zk zv p m meth c cX0_doAll 3 none s args RX0) (hx : isX L) (n : Nat) : PX0_doAll p l e s m args below meth c G L ad cs zk r M' n := by
  induction n with
  | zero => exact ⟨(fun a1 M h => by cases h), (fun a1 x2 M h => by cases h)⟩
  | succ n ih =>
    exact ⟨fun a1 M h h1 => wX0_doAll_0 F hx ih a1 M h h1,
      fun a1 x2 M h h1 => wX0_doAll_1 F hx ih a1 x2 M h h1⟩
set_option maxRecDepth 100000 in
set_option maxHeartbeats 4000000 in
theorem tX0_doAll {l : Launch} {G : va_G} {L : List Nat} {ad : Nat → Nat} {cs : Nat → ClassId} {z : Bool} {zk zv : Nat → Nat} (hinj : inj L ad) (hx : isX L) (a1 : Nat) (h1 : isN L a1) (M : Mm) (r : Int32) (M' : Mm) (h : fX0_doAll a1 M = some (r, M')) : Met l yX0_doAll (tgW yX0_doAll cX0_doAll 3 none) rmX0_doAll (APre G L ad cs z zk zv [.ref (ad 3), .ref (ad a1)] M) (AQv G L ad cs M') 0 0 (inA L ad) := by
  refine met_of (Eq.refl true) (Nat.le_of_ble_eq_true rfl) hinj [some (.ref (ad 3)), some (.ref (ad a1)), none] rfl ?_
  intro p e s m below meth c F
  replace F : Fx G L ad cs z zk zv p m meth c cX0_doAll 3 none s _ RX0 := F
  obtain ⟨n, hn⟩ := run_ex h
  exact (wX0_doAll F hx n).1 a1 M hn h1
def rmX7_copyFrom : Room := { frames := 0, cells := 0, slots := 0, locals := 0 }
theorem kn_X7_copyFrom : yX7_copyFrom.cls ≠ "java/lang/invoke/MethodHandle" ∧ yX7_copyFrom.cls ≠ "java/lang/invoke/VarHandle" ∧ (parseMethodDescriptor yX7_copyFrom.desc).map (fun d => d.parameters.length) = some 1 := by decide +kernel
noncomputable def bX7_copyFrom_0 (a0 : Nat) (a1 : Nat) (M : Mm) : Option (Sst ⊕ Rst) := some (.inl (1, [a0, a1], [(0 : Int32)], M))
noncomputable def bX7_copyFrom_1 (a0 : Nat) (a1 : Nat) (x2 : Int32) (M : Mm) : Option (Sst ⊕ Rst) := if (5 : Int32) ≤ x2 then (some (.inr ((0 : Int32), (up2 M a0 2 (M a1 2))))) else (gd (okI x2 5) (gd (okI x2 5) (gd (okI x2 5) (gd (okI x2 5) (some (.inl (1, [a0, a1], [(x2 + (1 : Int32))], (up2 (up2 M (a0 + 1) (ix x2) (M (a1 + 1) (ix x2))) (a0 + 2) (ix x2) ((up2 M (a0 + 1) (ix x2) (M (a1 + 1) (ix x2))) (a1 + 2) (ix x2))))))))))
noncomputable def stX7_copyFrom : Sst → Option (Sst ⊕ Rst) := fun q => match q.1 with
  | 0 => bX7_copyFrom_0 (q.2.1.getD 0 0) (q.2.1.getD 1 0) q.2.2.2
  | 1 => bX7_copyFrom_1 (q.2.1.getD 0 0) (q.2.1.getD 1 0) (q.2.2.1.getD 0 0) q.2.2.2
  | _ => none
noncomputable def fX7_copyFrom (a0 : Nat) (a1 : Nat) (M : Mm) : Option Rst := run stX7_copyFrom (0, [a0, a1], [], M)
def PX7_copyFrom (p : Program) (l : Launch) (e : Env) (s : State) (m : MethodId) (args : Array Value) (below : List Frame) (meth : Method) (c : Code) (G : va_G) (L : List Nat) (ad : Nat → Nat) (cs : Nat → ClassId) (zk : Nat → Nat) (r : Int32) (M' : Mm) (n : Nat) : Prop := (∀ (a0 : Nat) (a1 : Nat) (M : Mm), itr stX7_copyFrom n (0, [a0, a1], [], M) = some (r, M') → isV L a0 → isV L a1 → AW p l e rmX7_copyFrom s m args below meth c (MQ below (AQv G L ad cs M') args s 0 0 (inA L ad)) G L ad cs 3 0 [some (.ref (ad a0)), some (.ref (ad a1)), none] [] M) ∧ (∀ (a0 : Nat) (a1 : Nat) (x2 : Int32) (M : Mm), itr stX7_copyFrom n (1, [a0, a1], [x2], M) = some (r, M') → isV L a0 → isV L a1 → AW p l e rmX7_copyFrom s m args below meth c (MQ below (AQv G L ad cs M') args s 0 0 (inA L ad)) G L ad cs 3 2 [some (.ref (ad a0)), some (.ref (ad a1)), some (.int x2)] [] M)
set_option maxRecDepth 100000 in
set_option maxHeartbeats 4000000 in
theorem wX7_copyFrom_0 {p : Program} {l : Launch} {e : Env} {s : State} {m : MethodId} {args : Array Value} {below : List Frame} {meth : Method} {c : Code} {G : va_G} {L : List Nat} {ad : Nat → Nat} {cs : Nat → ClassId} {z : Bool} {zk zv : Nat → Nat} {r : Int32} {M' : Mm} {n : Nat} (F : Fx G L ad cs z zk zv p m meth c cX7_copyFrom 3 none s args RX7)  (IH : PX7_copyFrom p l e s m args below meth c G L ad cs zk r M' n) (a0 : Nat) (a1 : Nat) (M : Mm) (h : (bX7_copyFrom_0 a0 a1 M).bind (fun q => match q with | .inl s' => itr stX7_copyFrom n s' | .inr r => some r) = some (r, M')) (h0 : isV L a0) (h1 : isV L a1) : AW p l e rmX7_copyFrom s m args below meth c (MQ below (AQv G L ad cs M') args s 0 0 (inA L ad)) G L ad cs 3 0 [some (.ref (ad a0)), some (.ref (ad a1)), none] [] M := by
  unfold bX7_copyFrom_0 at h
  refine ax_iconst (v := (0 : Int32)) F dX7_copyFrom_0 (by decide) ?_
  refine ax_istore_n F dX7_copyFrom_1 (by decide) rfl ?_
  exact IH.2 _ _ _ _ h h0 h1
set_option maxRecDepth 100000 in
set_option maxHeartbeats 4000000 in
theorem wX7_copyFrom_1 {p : Program} {l : Launch} {e : Env} {s : State} {m : MethodId} {args : Array Value} {below : List Frame} {meth : Method} {c : Code} {G : va_G} {L : List Nat} {ad : Nat → Nat} {cs : Nat → ClassId} {z : Bool} {zk zv : Nat → Nat} {r : Int32} {M' : Mm} {n : Nat} (F : Fx G L ad cs z zk zv p m meth c cX7_copyFrom 3 none s args RX7)  (IH : PX7_copyFrom p l e s m args below meth c G L ad cs zk r M' n) (a0 : Nat) (a1 : Nat) (x2 : Int32) (M : Mm) (h : (bX7_copyFrom_1 a0 a1 x2 M).bind (fun q => match q with | .inl s' => itr stX7_copyFrom n s' | .inr r => some r) = some (r, M')) (h0 : isV L a0) (h1 : isV L a1) : AW p l e rmX7_copyFrom s m args below meth c (MQ below (AQv G L ad cs M') args s 0 0 (inA L ad)) G L ad cs 3 2 [some (.ref (ad a0)), some (.ref (ad a1)), some (.int x2)] [] M := by
  unfold bX7_copyFrom_1 at h
  refine ax_iload_n F dX7_copyFrom_2 rfl ?_
  refine ax_iconst (v := (5 : Int32)) F dX7_copyFrom_3 (by decide) ?_
  refine ax_icmp_ge (t := 37) F dX7_copyFrom_4 (by decide) (fun hc => ?_) (fun hc => ?_)
  · have h := it_pos h hc
    refine ax_aload_n F dX7_copyFrom_37 rfl ?_
    refine ax_aload_n F dX7_copyFrom_38 rfl ?_
    refine ax_get (v := .int (M a1 2)) F (ob_V h1) rfl inGX7 2 (by decide) rfl kf_X7_18 rfl dX7_copyFrom_39 ?_
    refine ax_put (ty := .int) F (ob_V h0) rfl inGX7 tyX7 tyX7_ok nmX7 2 (by decide) rfl kf_X7_18 (by decide) rfl rfl (Nat.le_of_ble_eq_true rfl) rfl dX7_copyFrom_42 ?_
    obtain ⟨h1, h2⟩ := rt_some h
    subst h2
    exact ax_vret F dX7_copyFrom_45
  · have h := it_neg h hc
    refine ax_aload_n F dX7_copyFrom_7 rfl ?_
    refine ax_get (v := .ref (ad (a0 + 1))) F (ob_V h0) rfl inGX7 0 (by decide) rfl kf_X7_9 rfl dX7_copyFrom_8 ?_
    refine ax_iload_n F dX7_copyFrom_11 rfl ?_
    refine ax_aload_n F dX7_copyFrom_12 rfl ?_
    refine ax_get (v := .ref (ad (a1 + 1))) F (ob_V h1) rfl inGX7 0 (by decide) rfl kf_X7_9 rfl dX7_copyFrom_13 ?_
    refine ax_iload_n F dX7_copyFrom_16 rfl ?_
    obtain ⟨hg, h⟩ := gd_some h
    refine ax_iald F (ar_V1 h1) hg dX7_copyFrom_17 ?_
    obtain ⟨hg, h⟩ := gd_some h
    refine ax_iast F (ar_V1 h0) hg dX7_copyFrom_18 ?_
    refine ax_aload_n F dX7_copyFrom_19 rfl ?_
    refine ax_get (v := .ref (ad (a0 + 2))) F (ob_V h0) rfl inGX7 1 (by decide) rfl kf_X7_15 rfl dX7_copyFrom_20 ?_
    refine ax_iload_n F dX7_copyFrom_23 rfl ?_
    refine ax_aload_n F dX7_copyFrom_24 rfl ?_
    refine ax_get (v := .ref (ad (a1 + 2))) F (ob_V h1) rfl inGX7 1 (by decide) rfl kf_X7_15 rfl dX7_copyFrom_25 ?_
    refine ax_iload_n F dX7_copyFrom_28 rfl ?_
    obtain ⟨hg, h⟩ := gd_some h
    refine ax_iald F (ar_V2 h1) hg dX7_copyFrom_29 ?_
    obtain ⟨hg, h⟩ := gd_some h
    refine ax_iast F (ar_V2 h0) hg dX7_copyFrom_30 ?_
    refine ax_iinc (v := (1 : Int32)) F dX7_copyFrom_31 rfl (by decide) (by decide) rfl ?_
    refine ax_goto (t := 2) F dX7_copyFrom_34 (by decide) ?_
    exact IH.2 _ _ _ _ h h0 h1
set_option maxRecDepth 100000 in
set_option maxHeartbeats 4000000 in
theorem wX7_copyFrom {p : Program} {l : Launch} {e : Env} {s : State} {m : MethodId} {args : Array Value} {below : List Frame} {meth : Method} {c : Code} {G : va_G} {L : List Nat} {ad : Nat → Nat} {cs : Nat → ClassId} {z : Bool} {zk zv : Nat → Nat} {r : Int32} {M' : Mm} (F : Fx G L ad cs z zk zv p m meth c cX7_copyFrom 3 none s args RX7)  (n : Nat) : PX7_copyFrom p l e s m args below meth c G L ad cs zk r M' n := by
  induction n with
  | zero => exact ⟨(fun a0 a1 M h => by cases h), (fun a0 a1 x2 M h => by cases h)⟩
  | succ n ih =>
    exact ⟨fun a0 a1 M h h0 h1 => wX7_copyFrom_0 F ih a0 a1 M h h0 h1,
      fun a0 a1 x2 M h h0 h1 => wX7_copyFrom_1 F ih a0 a1 x2 M h h0 h1⟩
set_option maxRecDepth 100000 in
set_option maxHeartbeats 4000000 in
theorem tX7_copyFrom {l : Launch} {G : va_G} {L : List Nat} {ad : Nat → Nat} {cs : Nat → ClassId} {z : Bool} {zk zv : Nat → Nat} (hinj : inj L ad)  (a0 : Nat) (a1 : Nat) (h0 : isV L a0) (h1 : isV L a1) (M : Mm) (r : Int32) (M' : Mm) (h : fX7_copyFrom a0 a1 M = some (r, M')) : Met l yX7_copyFrom (tgW yX7_copyFrom cX7_copyFrom 3 none) rmX7_copyFrom (APre G L ad cs z zk zv [.ref (ad a0), .ref (ad a1)] M) (AQv G L ad cs M') 0 0 (inA L ad) := by
  refine met_of (Eq.refl true) (Nat.le_of_ble_eq_true rfl) hinj [some (.ref (ad a0)), some (.ref (ad a1)), none] rfl ?_
  intro p e s m below meth c F
  replace F : Fx G L ad cs z zk zv p m meth c cX7_copyFrom 3 none s _ RX7 := F
  obtain ⟨n, hn⟩ := run_ex h
  exact (wX7_copyFrom F n).1 a0 a1 M hn h0 h1
def rmX1_copyFrom : Room := { frames := 1, cells := 0, slots := 0, locals := 22 }
theorem kn_X1_copyFrom : yX1_copyFrom.cls ≠ "java/lang/invoke/MethodHandle" ∧ yX1_copyFrom.cls ≠ "java/lang/invoke/VarHandle" ∧ (parseMethodDescriptor yX1_copyFrom.desc).map (fun d => d.parameters.length) = some 1 := by decide +kernel
noncomputable def bX1_copyFrom_0 (a0 : Nat) (a1 : Nat) (M : Mm) : Option (Sst ⊕ Rst) := some (.inl (1, [a0, a1], [(0 : Int32)], (up2 (up2 (up2 (up2 (up2 (up2 M a0 1 (M a1 1)) a0 2 ((up2 M a0 1 (M a1 1)) a1 2)) a0 3 ((up2 (up2 M a0 1 (M a1 1)) a0 2 ((up2 M a0 1 (M a1 1)) a1 2)) a1 3)) a0 4 ((up2 (up2 (up2 M a0 1 (M a1 1)) a0 2 ((up2 M a0 1 (M a1 1)) a1 2)) a0 3 ((up2 (up2 M a0 1 (M a1 1)) a0 2 ((up2 M a0 1 (M a1 1)) a1 2)) a1 3)) a1 4)) a0 5 ((up2 (up2 (up2 (up2 M a0 1 (M a1 1)) a0 2 ((up2 M a0 1 (M a1 1)) a1 2)) a0 3 ((up2 (up2 M a0 1 (M a1 1)) a0 2 ((up2 M a0 1 (M a1 1)) a1 2)) a1 3)) a0 4 ((up2 (up2 (up2 M a0 1 (M a1 1)) a0 2 ((up2 M a0 1 (M a1 1)) a1 2)) a0 3 ((up2 (up2 M a0 1 (M a1 1)) a0 2 ((up2 M a0 1 (M a1 1)) a1 2)) a1 3)) a1 4)) a1 5)) a0 6 ((up2 (up2 (up2 (up2 (up2 M a0 1 (M a1 1)) a0 2 ((up2 M a0 1 (M a1 1)) a1 2)) a0 3 ((up2 (up2 M a0 1 (M a1 1)) a0 2 ((up2 M a0 1 (M a1 1)) a1 2)) a1 3)) a0 4 ((up2 (up2 (up2 M a0 1 (M a1 1)) a0 2 ((up2 M a0 1 (M a1 1)) a1 2)) a0 3 ((up2 (up2 M a0 1 (M a1 1)) a0 2 ((up2 M a0 1 (M a1 1)) a1 2)) a1 3)) a1 4)) a0 5 ((up2 (up2 (up2 (up2 M a0 1 (M a1 1)) a0 2 ((up2 M a0 1 (M a1 1)) a1 2)) a0 3 ((up2 (up2 M a0 1 (M a1 1)) a0 2 ((up2 M a0 1 (M a1 1)) a1 2)) a1 3)) a0 4 ((up2 (up2 (up2 M a0 1 (M a1 1)) a0 2 ((up2 M a0 1 (M a1 1)) a1 2)) a0 3 ((up2 (up2 M a0 1 (M a1 1)) a0 2 ((up2 M a0 1 (M a1 1)) a1 2)) a1 3)) a1 4)) a1 5)) a1 6))))
noncomputable def bX1_copyFrom_1 (a0 : Nat) (a1 : Nat) (x2 : Int32) (M : Mm) : Option (Sst ⊕ Rst) := if (8 : Int32) ≤ x2 then (some (.inr ((0 : Int32), M))) else (gd (okI x2 8) (gd (okI x2 8) (cl (fX7_copyFrom (a0 + 2 + 3 * ix (x2)) (a1 + 2 + 3 * ix (x2)) M) (fun r1 M1 => some (.inl (1, [a0, a1], [(x2 + (1 : Int32))], M1))))))
noncomputable def stX1_copyFrom : Sst → Option (Sst ⊕ Rst) := fun q => match q.1 with
  | 0 => bX1_copyFrom_0 (q.2.1.getD 0 0) (q.2.1.getD 1 0) q.2.2.2
  | 1 => bX1_copyFrom_1 (q.2.1.getD 0 0) (q.2.1.getD 1 0) (q.2.2.1.getD 0 0) q.2.2.2
  | _ => none
noncomputable def fX1_copyFrom (a0 : Nat) (a1 : Nat) (M : Mm) : Option Rst := run stX1_copyFrom (0, [a0, a1], [], M)
def PX1_copyFrom (p : Program) (l : Launch) (e : Env) (s : State) (m : MethodId) (args : Array Value) (below : List Frame) (meth : Method) (c : Code) (G : va_G) (L : List Nat) (ad : Nat → Nat) (cs : Nat → ClassId) (zk : Nat → Nat) (r : Int32) (M' : Mm) (n : Nat) : Prop := (∀ (a0 : Nat) (a1 : Nat) (M : Mm), itr stX1_copyFrom n (0, [a0, a1], [], M) = some (r, M') → isN L a0 → isN L a1 → AW p l e rmX1_copyFrom s m args below meth c (MQ below (AQv G L ad cs M') args s 0 0 (inA L ad)) G L ad cs 3 0 [some (.ref (ad a0)), some (.ref (ad a1)), none] [] M) ∧ (∀ (a0 : Nat) (a1 : Nat) (x2 : Int32) (M : Mm), itr stX1_copyFrom n (1, [a0, a1], [x2], M) = some (r, M') → isN L a0 → isN L a1 → AW p l e rmX1_copyFrom s m args below meth c (MQ below (AQv G L ad cs M') args s 0 0 (inA L ad)) G L ad cs 3 50 [some (.ref (ad a0)), some (.ref (ad a1)), some (.int x2)] [] M)
set_option maxRecDepth 100000 in
set_option maxHeartbeats 4000000 in
theorem wX1_copyFrom_0 {p : Program} {l : Launch} {e : Env} {s : State} {m : MethodId} {args : Array Value} {below : List Frame} {meth : Method} {c : Code} {G : va_G} {L : List Nat} {ad : Nat → Nat} {cs : Nat → ClassId} {z : Bool} {zk zv : Nat → Nat} {r : Int32} {M' : Mm} {n : Nat} (F : Fx G L ad cs z zk zv p m meth c cX1_copyFrom 3 none s args RX1)  (IH : PX1_copyFrom p l e s m args below meth c G L ad cs zk r M' n) (a0 : Nat) (a1 : Nat) (M : Mm) (h : (bX1_copyFrom_0 a0 a1 M).bind (fun q => match q with | .inl s' => itr stX1_copyFrom n s' | .inr r => some r) = some (r, M')) (h0 : isN L a0) (h1 : isN L a1) : AW p l e rmX1_copyFrom s m args below meth c (MQ below (AQv G L ad cs M') args s 0 0 (inA L ad)) G L ad cs 3 0 [some (.ref (ad a0)), some (.ref (ad a1)), none] [] M := by
  unfold bX1_copyFrom_0 at h
  refine ax_aload_n F dX1_copyFrom_0 rfl ?_
  refine ax_aload_n F dX1_copyFrom_1 rfl ?_
  refine ax_get (v := .int (M a1 1)) F (ob_N h1) rfl inGX1 1 (by decide) rfl kf_X1_31 rfl dX1_copyFrom_2 ?_
  refine ax_put (ty := .int) F (ob_N h0) rfl inGX1 tyX1 tyX1_ok nmX1 1 (by decide) rfl kf_X1_31 (by decide) rfl rfl (Nat.le_of_ble_eq_true rfl) rfl dX1_copyFrom_5 ?_
  refine ax_aload_n F dX1_copyFrom_8 rfl ?_
  refine ax_aload_n F dX1_copyFrom_9 rfl ?_
  refine ax_get (v := .int ((up2 M a0 1 (M a1 1)) a1 2)) F (ob_N h1) rfl inGX1 2 (by decide) rfl kf_X1_35 rfl dX1_copyFrom_10 ?_
  refine ax_put (ty := .int) F (ob_N h0) rfl inGX1 tyX1 tyX1_ok nmX1 2 (by decide) rfl kf_X1_35 (by decide) rfl rfl (Nat.le_of_ble_eq_true rfl) rfl dX1_copyFrom_13 ?_
  refine ax_aload_n F dX1_copyFrom_16 rfl ?_
  refine ax_aload_n F dX1_copyFrom_17 rfl ?_
  refine ax_get (v := .int ((up2 (up2 M a0 1 (M a1 1)) a0 2 ((up2 M a0 1 (M a1 1)) a1 2)) a1 3)) F (ob_N h1) rfl inGX1 3 (by decide) rfl kf_X1_38 rfl dX1_copyFrom_18 ?_
  refine ax_put (ty := .int) F (ob_N h0) rfl inGX1 tyX1 tyX1_ok nmX1 3 (by decide) rfl kf_X1_38 (by decide) rfl rfl (Nat.le_of_ble_eq_true rfl) rfl dX1_copyFrom_21 ?_
  refine ax_aload_n F dX1_copyFrom_24 rfl ?_
  refine ax_aload_n F dX1_copyFrom_25 rfl ?_
  refine ax_get (v := .int ((up2 (up2 (up2 M a0 1 (M a1 1)) a0 2 ((up2 M a0 1 (M a1 1)) a1 2)) a0 3 ((up2 (up2 M a0 1 (M a1 1)) a0 2 ((up2 M a0 1 (M a1 1)) a1 2)) a1 3)) a1 4)) F (ob_N h1) rfl inGX1 4 (by decide) rfl kf_X1_41 rfl dX1_copyFrom_26 ?_
  refine ax_put (ty := .int) F (ob_N h0) rfl inGX1 tyX1 tyX1_ok nmX1 4 (by decide) rfl kf_X1_41 (by decide) rfl rfl (Nat.le_of_ble_eq_true rfl) rfl dX1_copyFrom_29 ?_
  refine ax_aload_n F dX1_copyFrom_32 rfl ?_
  refine ax_aload_n F dX1_copyFrom_33 rfl ?_
  refine ax_get (v := .int ((up2 (up2 (up2 (up2 M a0 1 (M a1 1)) a0 2 ((up2 M a0 1 (M a1 1)) a1 2)) a0 3 ((up2 (up2 M a0 1 (M a1 1)) a0 2 ((up2 M a0 1 (M a1 1)) a1 2)) a1 3)) a0 4 ((up2 (up2 (up2 M a0 1 (M a1 1)) a0 2 ((up2 M a0 1 (M a1 1)) a1 2)) a0 3 ((up2 (up2 M a0 1 (M a1 1)) a0 2 ((up2 M a0 1 (M a1 1)) a1 2)) a1 3)) a1 4)) a1 5)) F (ob_N h1) rfl inGX1 5 (by decide) rfl kf_X1_44 rfl dX1_copyFrom_34 ?_
  refine ax_put (ty := .int) F (ob_N h0) rfl inGX1 tyX1 tyX1_ok nmX1 5 (by decide) rfl kf_X1_44 (by decide) rfl rfl (Nat.le_of_ble_eq_true rfl) rfl dX1_copyFrom_37 ?_
  refine ax_aload_n F dX1_copyFrom_40 rfl ?_
  refine ax_aload_n F dX1_copyFrom_41 rfl ?_
  refine ax_get (v := .int ((up2 (up2 (up2 (up2 (up2 M a0 1 (M a1 1)) a0 2 ((up2 M a0 1 (M a1 1)) a1 2)) a0 3 ((up2 (up2 M a0 1 (M a1 1)) a0 2 ((up2 M a0 1 (M a1 1)) a1 2)) a1 3)) a0 4 ((up2 (up2 (up2 M a0 1 (M a1 1)) a0 2 ((up2 M a0 1 (M a1 1)) a1 2)) a0 3 ((up2 (up2 M a0 1 (M a1 1)) a0 2 ((up2 M a0 1 (M a1 1)) a1 2)) a1 3)) a1 4)) a0 5 ((up2 (up2 (up2 (up2 M a0 1 (M a1 1)) a0 2 ((up2 M a0 1 (M a1 1)) a1 2)) a0 3 ((up2 (up2 M a0 1 (M a1 1)) a0 2 ((up2 M a0 1 (M a1 1)) a1 2)) a1 3)) a0 4 ((up2 (up2 (up2 M a0 1 (M a1 1)) a0 2 ((up2 M a0 1 (M a1 1)) a1 2)) a0 3 ((up2 (up2 M a0 1 (M a1 1)) a0 2 ((up2 M a0 1 (M a1 1)) a1 2)) a1 3)) a1 4)) a1 5)) a1 6)) F (ob_N h1) rfl inGX1 6 (by decide) rfl kf_X1_47 rfl dX1_copyFrom_42 ?_
  refine ax_put (ty := .int) F (ob_N h0) rfl inGX1 tyX1 tyX1_ok nmX1 6 (by decide) rfl kf_X1_47 (by decide) rfl rfl (Nat.le_of_ble_eq_true rfl) rfl dX1_copyFrom_45 ?_
  refine ax_iconst (v := (0 : Int32)) F dX1_copyFrom_48 (by decide) ?_
  refine ax_istore_n F dX1_copyFrom_49 (by decide) rfl ?_
  exact IH.2 _ _ _ _ h h0 h1
set_option maxRecDepth 100000 in
set_option maxHeartbeats 4000000 in
theorem wX1_copyFrom_1 {p : Program} {l : Launch} {e : Env} {s : State} {m : MethodId} {args : Array Value} {below : List Frame} {meth : Method} {c : Code} {G : va_G} {L : List Nat} {ad : Nat → Nat} {cs : Nat → ClassId} {z : Bool} {zk zv : Nat → Nat} {r : Int32} {M' : Mm} {n : Nat} (F : Fx G L ad cs z zk zv p m meth c cX1_copyFrom 3 none s args RX1)  (IH : PX1_copyFrom p l e s m args below meth c G L ad cs zk r M' n) (a0 : Nat) (a1 : Nat) (x2 : Int32) (M : Mm) (h : (bX1_copyFrom_1 a0 a1 x2 M).bind (fun q => match q with | .inl s' => itr stX1_copyFrom n s' | .inr r => some r) = some (r, M')) (h0 : isN L a0) (h1 : isN L a1) : AW p l e rmX1_copyFrom s m args below meth c (MQ below (AQv G L ad cs M') args s 0 0 (inA L ad)) G L ad cs 3 50 [some (.ref (ad a0)), some (.ref (ad a1)), some (.int x2)] [] M := by
  unfold bX1_copyFrom_1 at h
  refine ax_iload_n F dX1_copyFrom_50 rfl ?_
  refine ax_bipush (v := (8 : Int32)) F dX1_copyFrom_51 (by decide) ?_
  refine ax_icmp_ge (t := 77) F dX1_copyFrom_53 (by decide) (fun hc => ?_) (fun hc => ?_)
  · have h := it_pos h hc
    obtain ⟨h1, h2⟩ := rt_some h
    subst h2
    exact ax_vret F dX1_copyFrom_77
  · have h := it_neg h hc
    refine ax_aload_n F dX1_copyFrom_56 rfl ?_
    refine ax_get (v := .ref (ad (a0 + 1))) F (ob_N h0) rfl inGX1 0 (by decide) rfl kf_X1_11 rfl dX1_copyFrom_57 ?_
    refine ax_iload_n F dX1_copyFrom_60 rfl ?_
    obtain ⟨hi1, h⟩ := gd_some h
    refine ax_aald F (rf_N h0) rfl hi1 dX1_copyFrom_61 ?_
    refine ax_aload_n F dX1_copyFrom_62 rfl ?_
    refine ax_get (v := .ref (ad (a1 + 1))) F (ob_N h1) rfl inGX1 0 (by decide) rfl kf_X1_11 rfl dX1_copyFrom_63 ?_
    refine ax_iload_n F dX1_copyFrom_66 rfl ?_
    obtain ⟨hi2, h⟩ := gd_some h
    refine ax_aald F (rf_N h1) rfl hi2 dX1_copyFrom_67 ?_
    obtain ⟨r1, M1, hq1, h⟩ := cq_some h
    refine ax_callVv (As := [.ref (ad (a1 + 2 + 3 * ix (x2)))]) (st := []) F (tX7_copyFrom F.2.2.2.2.2.2.1 _ _ (isV_of h0 (okI_lt hi1)) (isV_of h1 (okI_lt hi2)) _ _ _ hq1) (ob_V (isV_of h0 (okI_lt hi1))) rfl kc_X7_copyFrom kz_X7 ki_X7_copyFrom ks_X7_copyFrom km_X1_57 ⟨kn_X7_copyFrom, rfl, rfl, Nat.le_of_ble_eq_true rfl, Nat.le_of_ble_eq_true rfl⟩ rfl (Nat.le_of_ble_eq_true rfl) dX1_copyFrom_68 ?_
    refine ax_iinc (v := (1 : Int32)) F dX1_copyFrom_71 rfl (by decide) (by decide) rfl ?_
    refine ax_goto (t := 50) F dX1_copyFrom_74 (by decide) ?_
    exact IH.2 _ _ _ _ h h0 h1
set_option maxRecDepth 100000 in
set_option maxHeartbeats 4000000 in
theorem wX1_copyFrom {p : Program} {l : Launch} {e : Env} {s : State} {m : MethodId} {args : Array Value} {below : List Frame} {meth : Method} {c : Code} {G : va_G} {L : List Nat} {ad : Nat → Nat} {cs : Nat → ClassId} {z : Bool} {zk zv : Nat → Nat} {r : Int32} {M' : Mm} (F : Fx G L ad cs z zk zv p m meth c cX1_copyFrom 3 none s args RX1)  (n : Nat) : PX1_copyFrom p l e s m args below meth c G L ad cs zk r M' n := by
  induction n with
  | zero => exact ⟨(fun a0 a1 M h => by cases h), (fun a0 a1 x2 M h => by cases h)⟩
  | succ n ih =>
    exact ⟨fun a0 a1 M h h0 h1 => wX1_copyFrom_0 F ih a0 a1 M h h0 h1,
      fun a0 a1 x2 M h h0 h1 => wX1_copyFrom_1 F ih a0 a1 x2 M h h0 h1⟩
set_option maxRecDepth 100000 in
set_option maxHeartbeats 4000000 in
theorem tX1_copyFrom {l : Launch} {G : va_G} {L : List Nat} {ad : Nat → Nat} {cs : Nat → ClassId} {z : Bool} {zk zv : Nat → Nat} (hinj : inj L ad)  (a0 : Nat) (a1 : Nat) (h0 : isN L a0) (h1 : isN L a1) (M : Mm) (r : Int32) (M' : Mm) (h : fX1_copyFrom a0 a1 M = some (r, M')) : Met l yX1_copyFrom (tgW yX1_copyFrom cX1_copyFrom 3 none) rmX1_copyFrom (APre G L ad cs z zk zv [.ref (ad a0), .ref (ad a1)] M) (AQv G L ad cs M') 0 0 (inA L ad) := by
  refine met_of (Eq.refl true) (Nat.le_of_ble_eq_true rfl) hinj [some (.ref (ad a0)), some (.ref (ad a1)), none] rfl ?_
  intro p e s m below meth c F
  replace F : Fx G L ad cs z zk zv p m meth c cX1_copyFrom 3 none s _ RX1 := F
  obtain ⟨n, hn⟩ := run_ex h
  exact (wX1_copyFrom F n).1 a0 a1 M hn h0 h1
noncomputable def fX1_isAlive (a0 : Nat) (x1 : Int32) (M : Mm) : Option Rst := cl (fX1_has a0 x1 M) (fun r1 M1 => if r1 = 0 then (some ((0 : Int32), M1)) else (if ((isr (M1 a0 5) x1) &&& (1 : Int32)) = (1 : Int32) then (some ((1 : Int32), M1)) else (some ((0 : Int32), M1))))
def rmX1_isAlive : Room := { frames := 1, cells := 0, slots := 0, locals := 21 }
theorem kn_X1_isAlive : yX1_isAlive.cls ≠ "java/lang/invoke/MethodHandle" ∧ yX1_isAlive.cls ≠ "java/lang/invoke/VarHandle" ∧ (parseMethodDescriptor yX1_isAlive.desc).map (fun d => d.parameters.length) = some 1 := by decide +kernel
set_option maxRecDepth 100000 in
set_option maxHeartbeats 4000000 in
theorem tX1_isAlive {l : Launch} {G : va_G} {L : List Nat} {ad : Nat → Nat} {cs : Nat → ClassId} {z : Bool} {zk zv : Nat → Nat} (hinj : inj L ad)  (a0 : Nat) (x1 : Int32) (h0 : isN L a0) (M : Mm) (r : Int32) (M' : Mm) (h : fX1_isAlive a0 x1 M = some (r, M')) : Met l yX1_isAlive (tgW yX1_isAlive cX1_isAlive 2 (some .boolean)) rmX1_isAlive (APre G L ad cs z zk zv [.ref (ad a0), .int x1] M) (AQi G L ad cs r M') 0 0 (inA L ad) := by
  refine met_of (Eq.refl true) (Nat.le_of_ble_eq_true rfl) hinj [some (.ref (ad a0)), some (.int x1)] rfl ?_
  intro p e s m below meth c F
  replace F : Fx G L ad cs z zk zv p m meth c cX1_isAlive 2 (some .boolean) s _ RX1 := F
  unfold fX1_isAlive at h
  refine ax_aload_n F dX1_isAlive_0 rfl ?_
  refine ax_iload_n F dX1_isAlive_1 rfl ?_
  obtain ⟨r1, M1, hq1, h⟩ := cq_some0 h
  refine ax_callVi (As := [.int x1]) (st := []) F (tX1_has F.2.2.2.2.2.2.1 _ _ h0 _ _ _ hq1) (ob_N h0) rfl kc_X1_has kz_X1 ki_X1_has ks_X1_has km_X1_61 ⟨kn_X1_has, rfl, rfl, Nat.le_of_ble_eq_true rfl, Nat.le_of_ble_eq_true rfl⟩ rfl (Nat.le_of_ble_eq_true rfl) dX1_isAlive_2 ?_
  refine ax_if_eq (t := 24) F dX1_isAlive_5 (by decide) (fun hc => ?_) (fun hc => ?_)
  · have h := it_pos0 h hc
    refine ax_iconst (v := (0 : Int32)) F dX1_isAlive_24 (by decide) ?_
    obtain ⟨h1, h2⟩ := rt_some0 h
    subst h1; subst h2
    exact ax_zret F (by decide) dX1_isAlive_25
  · have h := it_neg0 h hc
    refine ax_aload_n F dX1_isAlive_8 rfl ?_
    refine ax_get (v := .int (M1 a0 5)) F (ob_N h0) rfl inGX1 5 (by decide) rfl kf_X1_44 rfl dX1_isAlive_9 ?_
    refine ax_iload_n F dX1_isAlive_12 rfl ?_
    refine ax_ishr F dX1_isAlive_13 ?_
    refine ax_iconst (v := (1 : Int32)) F dX1_isAlive_14 (by decide) ?_
    refine ax_iand F dX1_isAlive_15 ?_
    refine ax_iconst (v := (1 : Int32)) F dX1_isAlive_16 (by decide) ?_
    refine ax_icmp_ne (t := 24) F dX1_isAlive_17 (by decide) (fun hc => ?_) (fun hc => ?_)
    · have h := it_neg0 h hc
      refine ax_iconst (v := (0 : Int32)) F dX1_isAlive_24 (by decide) ?_
      obtain ⟨h1, h2⟩ := rt_some0 h
      subst h1; subst h2
      exact ax_zret F (by decide) dX1_isAlive_25
    · have h := it_pos0 h hc
      refine ax_iconst (v := (1 : Int32)) F dX1_isAlive_20 (by decide) ?_
      refine ax_goto (t := 25) F dX1_isAlive_21 (by decide) ?_
      obtain ⟨h1, h2⟩ := rt_some0 h
      subst h1; subst h2
      exact ax_zret F (by decide) dX1_isAlive_25
noncomputable def fX1_isSly (a0 : Nat) (x1 : Int32) (M : Mm) : Option Rst := cl (fX1_has a0 x1 M) (fun r1 M1 => if r1 = 0 then (some ((0 : Int32), M1)) else (if ((isr (M1 a0 6) x1) &&& (1 : Int32)) = (1 : Int32) then (some ((1 : Int32), M1)) else (some ((0 : Int32), M1))))
def rmX1_isSly : Room := { frames := 1, cells := 0, slots := 0, locals := 21 }
theorem kn_X1_isSly : yX1_isSly.cls ≠ "java/lang/invoke/MethodHandle" ∧ yX1_isSly.cls ≠ "java/lang/invoke/VarHandle" ∧ (parseMethodDescriptor yX1_isSly.desc).map (fun d => d.parameters.length) = some 1 := by decide +kernel
set_option maxRecDepth 100000 in
set_option maxHeartbeats 4000000 in
theorem tX1_isSly {l : Launch} {G : va_G} {L : List Nat} {ad : Nat → Nat} {cs : Nat → ClassId} {z : Bool} {zk zv : Nat → Nat} (hinj : inj L ad)  (a0 : Nat) (x1 : Int32) (h0 : isN L a0) (M : Mm) (r : Int32) (M' : Mm) (h : fX1_isSly a0 x1 M = some (r, M')) : Met l yX1_isSly (tgW yX1_isSly cX1_isSly 2 (some .boolean)) rmX1_isSly (APre G L ad cs z zk zv [.ref (ad a0), .int x1] M) (AQi G L ad cs r M') 0 0 (inA L ad) := by
  refine met_of (Eq.refl true) (Nat.le_of_ble_eq_true rfl) hinj [some (.ref (ad a0)), some (.int x1)] rfl ?_
  intro p e s m below meth c F
  replace F : Fx G L ad cs z zk zv p m meth c cX1_isSly 2 (some .boolean) s _ RX1 := F
  unfold fX1_isSly at h
  refine ax_aload_n F dX1_isSly_0 rfl ?_
  refine ax_iload_n F dX1_isSly_1 rfl ?_
  obtain ⟨r1, M1, hq1, h⟩ := cq_some0 h
  refine ax_callVi (As := [.int x1]) (st := []) F (tX1_has F.2.2.2.2.2.2.1 _ _ h0 _ _ _ hq1) (ob_N h0) rfl kc_X1_has kz_X1 ki_X1_has ks_X1_has km_X1_61 ⟨kn_X1_has, rfl, rfl, Nat.le_of_ble_eq_true rfl, Nat.le_of_ble_eq_true rfl⟩ rfl (Nat.le_of_ble_eq_true rfl) dX1_isSly_2 ?_
  refine ax_if_eq (t := 24) F dX1_isSly_5 (by decide) (fun hc => ?_) (fun hc => ?_)
  · have h := it_pos0 h hc
    refine ax_iconst (v := (0 : Int32)) F dX1_isSly_24 (by decide) ?_
    obtain ⟨h1, h2⟩ := rt_some0 h
    subst h1; subst h2
    exact ax_zret F (by decide) dX1_isSly_25
  · have h := it_neg0 h hc
    refine ax_aload_n F dX1_isSly_8 rfl ?_
    refine ax_get (v := .int (M1 a0 6)) F (ob_N h0) rfl inGX1 6 (by decide) rfl kf_X1_47 rfl dX1_isSly_9 ?_
    refine ax_iload_n F dX1_isSly_12 rfl ?_
    refine ax_ishr F dX1_isSly_13 ?_
    refine ax_iconst (v := (1 : Int32)) F dX1_isSly_14 (by decide) ?_
    refine ax_iand F dX1_isSly_15 ?_
    refine ax_iconst (v := (1 : Int32)) F dX1_isSly_16 (by decide) ?_
    refine ax_icmp_ne (t := 24) F dX1_isSly_17 (by decide) (fun hc => ?_) (fun hc => ?_)
    · have h := it_neg0 h hc
      refine ax_iconst (v := (0 : Int32)) F dX1_isSly_24 (by decide) ?_
      obtain ⟨h1, h2⟩ := rt_some0 h
      subst h1; subst h2
      exact ax_zret F (by decide) dX1_isSly_25
    · have h := it_pos0 h hc
      refine ax_iconst (v := (1 : Int32)) F dX1_isSly_20 (by decide) ?_
      refine ax_goto (t := 25) F dX1_isSly_21 (by decide) ?_
      obtain ⟨h1, h2⟩ := rt_some0 h
      subst h1; subst h2
      exact ax_zret F (by decide) dX1_isSly_25
noncomputable def fX1_draw (a0 : Nat) (x1 : Int32) (M : Mm) : Option Rst := if (1 : Int32) ≤ x1 then (gd (decide (¬ x1 = 0)) (some ((irem (((up2 M a0 4 (irem (((M a0 4) * (75 : Int32)) + (74 : Int32)) (65537 : Int32))) a0 4) / (2 : Int32)) x1), (up2 M a0 4 (irem (((M a0 4) * (75 : Int32)) + (74 : Int32)) (65537 : Int32)))))) else (some ((0 : Int32), (up2 M a0 4 (irem (((M a0 4) * (75 : Int32)) + (74 : Int32)) (65537 : Int32)))))
def rmX1_draw : Room := { frames := 0, cells := 0, slots := 0, locals := 0 }
theorem kn_X1_draw : yX1_draw.cls ≠ "java/lang/invoke/MethodHandle" ∧ yX1_draw.cls ≠ "java/lang/invoke/VarHandle" ∧ (parseMethodDescriptor yX1_draw.desc).map (fun d => d.parameters.length) = some 1 := by decide +kernel
set_option maxRecDepth 100000 in
set_option maxHeartbeats 4000000 in
theorem tX1_draw {l : Launch} {G : va_G} {L : List Nat} {ad : Nat → Nat} {cs : Nat → ClassId} {z : Bool} {zk zv : Nat → Nat} (hinj : inj L ad)  (a0 : Nat) (x1 : Int32) (h0 : isN L a0) (M : Mm) (r : Int32) (M' : Mm) (h : fX1_draw a0 x1 M = some (r, M')) : Met l yX1_draw (tgW yX1_draw cX1_draw 2 (some .int)) rmX1_draw (APre G L ad cs z zk zv [.ref (ad a0), .int x1] M) (AQi G L ad cs r M') 0 0 (inA L ad) := by
  refine met_of (Eq.refl true) (Nat.le_of_ble_eq_true rfl) hinj [some (.ref (ad a0)), some (.int x1)] rfl ?_
  intro p e s m below meth c F
  replace F : Fx G L ad cs z zk zv p m meth c cX1_draw 2 (some .int) s _ RX1 := F
  unfold fX1_draw at h
  refine ax_aload_n F dX1_draw_0 rfl ?_
  refine ax_aload_n F dX1_draw_1 rfl ?_
  refine ax_get (v := .int (M a0 4)) F (ob_N h0) rfl inGX1 4 (by decide) rfl kf_X1_41 rfl dX1_draw_2 ?_
  refine ax_bipush (v := (75 : Int32)) F dX1_draw_5 (by decide) ?_
  refine ax_imul F dX1_draw_7 ?_
  refine ax_bipush (v := (74 : Int32)) F dX1_draw_8 (by decide) ?_
  refine ax_iadd F dX1_draw_10 ?_
  refine ax_ldc (v := (65537 : Int32)) F kk_X1_87 dX1_draw_11 ?_
  refine ax_irem F dX1_draw_13 (by decide) ?_
  refine ax_put (ty := .int) F (ob_N h0) rfl inGX1 tyX1 tyX1_ok nmX1 4 (by decide) rfl kf_X1_41 (by decide) rfl rfl (Nat.le_of_ble_eq_true rfl) rfl dX1_draw_14 ?_
  refine ax_iload_n F dX1_draw_17 rfl ?_
  refine ax_iconst (v := (1 : Int32)) F dX1_draw_18 (by decide) ?_
  refine ax_icmp_ge (t := 26) F dX1_draw_19 (by decide) (fun hc => ?_) (fun hc => ?_)
  · have h := it_pos0 h hc
    refine ax_aload_n F dX1_draw_26 rfl ?_
    refine ax_get (v := .int ((up2 M a0 4 (irem (((M a0 4) * (75 : Int32)) + (74 : Int32)) (65537 : Int32))) a0 4)) F (ob_N h0) rfl inGX1 4 (by decide) rfl kf_X1_41 rfl dX1_draw_27 ?_
    refine ax_iconst (v := (2 : Int32)) F dX1_draw_30 (by decide) ?_
    refine ax_idiv F dX1_draw_31 (by decide) ?_
    refine ax_iload_n F dX1_draw_32 rfl ?_
    obtain ⟨hg, h⟩ := gd_some0 h
    refine ax_irem F dX1_draw_33 (of_decide_eq_true hg) ?_
    obtain ⟨h1, h2⟩ := rt_some0 h
    subst h1; subst h2
    exact ax_iret F dX1_draw_34
  · have h := it_neg0 h hc
    refine ax_iconst (v := (0 : Int32)) F dX1_draw_22 (by decide) ?_
    refine ax_goto (t := 34) F dX1_draw_23 (by decide) ?_
    obtain ⟨h1, h2⟩ := rt_some0 h
    subst h1; subst h2
    exact ax_iret F dX1_draw_34
def rmX1_entries : Room := { frames := 0, cells := 0, slots := 0, locals := 0 }
theorem kn_X1_entries : yX1_entries.cls ≠ "java/lang/invoke/MethodHandle" ∧ yX1_entries.cls ≠ "java/lang/invoke/VarHandle" ∧ (parseMethodDescriptor yX1_entries.desc).map (fun d => d.parameters.length) = some 0 := by decide +kernel
noncomputable def bX1_entries_0 (a0 : Nat) (M : Mm) : Option (Sst ⊕ Rst) := some (.inl (1, [a0], [(0 : Int32), (0 : Int32)], M))
noncomputable def bX1_entries_1 (a0 : Nat) (x1 : Int32) (x2 : Int32) (M : Mm) : Option (Sst ⊕ Rst) := if (8 : Int32) ≤ x2 then (some (.inr (x1, M))) else (gd (okI x2 8) (some (.inl (1, [a0], [(x1 + (M (a0 + 2 + 3 * ix (x2)) 2)), (x2 + (1 : Int32))], M))))
noncomputable def stX1_entries : Sst → Option (Sst ⊕ Rst) := fun q => match q.1 with
  | 0 => bX1_entries_0 (q.2.1.getD 0 0) q.2.2.2
  | 1 => bX1_entries_1 (q.2.1.getD 0 0) (q.2.2.1.getD 0 0) (q.2.2.1.getD 1 0) q.2.2.2
  | _ => none
noncomputable def fX1_entries (a0 : Nat) (M : Mm) : Option Rst := run stX1_entries (0, [a0], [], M)
def PX1_entries (p : Program) (l : Launch) (e : Env) (s : State) (m : MethodId) (args : Array Value) (below : List Frame) (meth : Method) (c : Code) (G : va_G) (L : List Nat) (ad : Nat → Nat) (cs : Nat → ClassId) (zk : Nat → Nat) (r : Int32) (M' : Mm) (n : Nat) : Prop := (∀ (a0 : Nat) (M : Mm), itr stX1_entries n (0, [a0], [], M) = some (r, M') → isN L a0 → AW p l e rmX1_entries s m args below meth c (MQ below (AQi G L ad cs r M') args s 0 0 (inA L ad)) G L ad cs 3 0 [some (.ref (ad a0)), none, none] [] M) ∧ (∀ (a0 : Nat) (x1 : Int32) (x2 : Int32) (M : Mm), itr stX1_entries n (1, [a0], [x1, x2], M) = some (r, M') → isN L a0 → AW p l e rmX1_entries s m args below meth c (MQ below (AQi G L ad cs r M') args s 0 0 (inA L ad)) G L ad cs 3 4 [some (.ref (ad a0)), some (.int x1), some (.int x2)] [] M)
set_option maxRecDepth 100000 in
set_option maxHeartbeats 4000000 in
theorem wX1_entries_0 {p : Program} {l : Launch} {e : Env} {s : State} {m : MethodId} {args : Array Value} {below : List Frame} {meth : Method} {c : Code} {G : va_G} {L : List Nat} {ad : Nat → Nat} {cs : Nat → ClassId} {z : Bool} {zk zv : Nat → Nat} {r : Int32} {M' : Mm} {n : Nat} (F : Fx G L ad cs z zk zv p m meth c cX1_entries 3 (some .int) s args RX1)  (IH : PX1_entries p l e s m args below meth c G L ad cs zk r M' n) (a0 : Nat) (M : Mm) (h : (bX1_entries_0 a0 M).bind (fun q => match q with | .inl s' => itr stX1_entries n s' | .inr r => some r) = some (r, M')) (h0 : isN L a0) : AW p l e rmX1_entries s m args below meth c (MQ below (AQi G L ad cs r M') args s 0 0 (inA L ad)) G L ad cs 3 0 [some (.ref (ad a0)), none, none] [] M := by
  unfold bX1_entries_0 at h
  refine ax_iconst (v := (0 : Int32)) F dX1_entries_0 (by decide) ?_
  refine ax_istore_n F dX1_entries_1 (by decide) rfl ?_
  refine ax_iconst (v := (0 : Int32)) F dX1_entries_2 (by decide) ?_
  refine ax_istore_n F dX1_entries_3 (by decide) rfl ?_
  exact IH.2 _ _ _ _ h h0
set_option maxRecDepth 100000 in
set_option maxHeartbeats 4000000 in
theorem wX1_entries_1 {p : Program} {l : Launch} {e : Env} {s : State} {m : MethodId} {args : Array Value} {below : List Frame} {meth : Method} {c : Code} {G : va_G} {L : List Nat} {ad : Nat → Nat} {cs : Nat → ClassId} {z : Bool} {zk zv : Nat → Nat} {r : Int32} {M' : Mm} {n : Nat} (F : Fx G L ad cs z zk zv p m meth c cX1_entries 3 (some .int) s args RX1)  (IH : PX1_entries p l e s m args below meth c G L ad cs zk r M' n) (a0 : Nat) (x1 : Int32) (x2 : Int32) (M : Mm) (h : (bX1_entries_1 a0 x1 x2 M).bind (fun q => match q with | .inl s' => itr stX1_entries n s' | .inr r => some r) = some (r, M')) (h0 : isN L a0) : AW p l e rmX1_entries s m args below meth c (MQ below (AQi G L ad cs r M') args s 0 0 (inA L ad)) G L ad cs 3 4 [some (.ref (ad a0)), some (.int x1), some (.int x2)] [] M := by
  unfold bX1_entries_1 at h
  refine ax_iload_n F dX1_entries_4 rfl ?_
  refine ax_bipush (v := (8 : Int32)) F dX1_entries_5 (by decide) ?_
  refine ax_icmp_ge (t := 28) F dX1_entries_7 (by decide) (fun hc => ?_) (fun hc => ?_)
  · have h := it_pos h hc
    refine ax_iload_n F dX1_entries_28 rfl ?_
    obtain ⟨h1, h2⟩ := rt_some h
    subst h1; subst h2
    exact ax_iret F dX1_entries_29
  · have h := it_neg h hc
    refine ax_iload_n F dX1_entries_10 rfl ?_
    refine ax_aload_n F dX1_entries_11 rfl ?_
    refine ax_get (v := .ref (ad (a0 + 1))) F (ob_N h0) rfl inGX1 0 (by decide) rfl kf_X1_11 rfl dX1_entries_12 ?_
    refine ax_iload_n F dX1_entries_15 rfl ?_
    obtain ⟨hi1, h⟩ := gd_some h
    refine ax_aald F (rf_N h0) rfl hi1 dX1_entries_16 ?_
    refine ax_get (v := .int (M (a0 + 2 + 3 * ix (x2)) 2)) F (ob_V (isV_of h0 (okI_lt hi1))) rfl inGX7 2 (by decide) rfl kf_X1_80 rfl dX1_entries_17 ?_
    refine ax_iadd F dX1_entries_20 ?_
    refine ax_istore_n F dX1_entries_21 (by decide) rfl ?_
    refine ax_iinc (v := (1 : Int32)) F dX1_entries_22 rfl (by decide) (by decide) rfl ?_
    refine ax_goto (t := 4) F dX1_entries_25 (by decide) ?_
    exact IH.2 _ _ _ _ h h0
set_option maxRecDepth 100000 in
set_option maxHeartbeats 4000000 in
theorem wX1_entries {p : Program} {l : Launch} {e : Env} {s : State} {m : MethodId} {args : Array Value} {below : List Frame} {meth : Method} {c : Code} {G : va_G} {L : List Nat} {ad : Nat → Nat} {cs : Nat → ClassId} {z : Bool} {zk zv : Nat → Nat} {r : Int32} {M' : Mm} (F : Fx G L ad cs z zk zv p m meth c cX1_entries 3 (some .int) s args RX1)  (n : Nat) : PX1_entries p l e s m args below meth c G L ad cs zk r M' n := by
  induction n with
  | zero => exact ⟨(fun a0 M h => by cases h), (fun a0 x1 x2 M h => by cases h)⟩
  | succ n ih =>
    exact ⟨fun a0 M h h0 => wX1_entries_0 F ih a0 M h h0,
      fun a0 x1 x2 M h h0 => wX1_entries_1 F ih a0 x1 x2 M h h0⟩
set_option maxRecDepth 100000 in
set_option maxHeartbeats 4000000 in
theorem tX1_entries {l : Launch} {G : va_G} {L : List Nat} {ad : Nat → Nat} {cs : Nat → ClassId} {z : Bool} {zk zv : Nat → Nat} (hinj : inj L ad)  (a0 : Nat) (h0 : isN L a0) (M : Mm) (r : Int32) (M' : Mm) (h : fX1_entries a0 M = some (r, M')) : Met l yX1_entries (tgW yX1_entries cX1_entries 3 (some .int)) rmX1_entries (APre G L ad cs z zk zv [.ref (ad a0)] M) (AQi G L ad cs r M') 0 0 (inA L ad) := by
  refine met_of (Eq.refl true) (Nat.le_of_ble_eq_true rfl) hinj [some (.ref (ad a0)), none, none] rfl ?_
  intro p e s m below meth c F
  replace F : Fx G L ad cs z zk zv p m meth c cX1_entries 3 (some .int) s _ RX1 := F
  obtain ⟨n, hn⟩ := run_ex h
  exact (wX1_entries F n).1 a0 M hn h0
