noncomputable def fX9_keep (x1 : Int32) (M : Mm) : Option Rst := cl (fX9_in (x1).toInt64 (0 : Int64) (1 : Int64) M) (fun r1 M1 => if r1 = 0 then (some ((-2 : Int32), M1)) else (cl (fX9_copyRow (0 : Int32) ((810 : Int32) + ((90 : Int32) * x1)) M1) (fun r2 M2 => gd (okI x1 2) (cl (fX9_entries (up2 M2 340 (ix x1) (1 : Int32))) (fun r3 M3 => some (r3, M3))))))
def rmX9_keep : Room := { frames := 1, cells := 0, slots := 0, locals := 25 }
theorem kn_X9_keep : yX9_keep.cls ≠ "java/lang/invoke/MethodHandle" ∧ yX9_keep.cls ≠ "java/lang/invoke/VarHandle" ∧ (parseMethodDescriptor yX9_keep.desc).map (fun d => d.parameters.length) = some 1 := by decide +kernel
set_option maxRecDepth 100000 in
set_option maxHeartbeats 4000000 in
theorem tX9_keep {l : Launch} {G : va_G} {ad : Nat → Nat} {cs : Nat → ClassId} {zk zv : Nat → Nat} (hinj : inj ad) (x1 : Int32)  (M : Mm) (r : Int32) (M' : Mm) (h : fX9_keep x1 M = some (r, M')) : Met l yX9_keep (tgW yX9_keep cX9_keep 2 (some .int)) rmX9_keep (APre G ad cs zk zv [.ref (ad 338), .int x1] M) (AQi G ad cs r M') 0 0 (inA ad) := by
  refine met_of (Eq.refl true) (Nat.le_of_ble_eq_true rfl) hinj [some (.ref (ad 338)), some (.int x1)] rfl ?_
  intro p e s m below meth c F
  replace F : Fx G ad cs zk zv p m meth c cX9_keep 2 (some .int) s _ RX9 := F
  unfold fX9_keep at h
  refine ax_iload_n F dX9_keep_0 rfl ?_
  refine ax_i2l F dX9_keep_1 ?_
  refine ax_lconst (v := (0 : Int64)) F dX9_keep_2 (by decide) ?_
  refine ax_lconst (v := (1 : Int64)) F dX9_keep_3 (by decide) ?_
  obtain ⟨r1, M1, hq1, h⟩ := cq_some0 h
  refine ax_callSi (As := [.long (x1).toInt64, .long (0 : Int64), .long (1 : Int64)]) (st := []) F (tX9_in F.2.2.2.2.2.2.1 _ _ _  _ _ _ hq1) kc_X9_in kz_X9 kt_X9_in km_X9_66 ⟨kn_X9_in, rfl, rfl, Nat.le_of_ble_eq_true rfl, Nat.le_of_ble_eq_true rfl⟩ rfl (Nat.le_of_ble_eq_true rfl) dX9_keep_4 ?_
  refine ax_if_ne (t := 13) F dX9_keep_7 (by decide) (fun hc => ?_) (fun hc => ?_)
  · have h := it_neg0 h hc
    refine ax_aload_n F dX9_keep_13 rfl ?_
    refine ax_iconst (v := (0 : Int32)) F dX9_keep_14 (by decide) ?_
    refine ax_sipush (v := (810 : Int32)) F dX9_keep_15 (by decide) ?_
    refine ax_bipush (v := (90 : Int32)) F dX9_keep_18 (by decide) ?_
    refine ax_iload_n F dX9_keep_20 rfl ?_
    refine ax_imul F dX9_keep_21 ?_
    refine ax_iadd F dX9_keep_22 ?_
    obtain ⟨r2, M2, hq2, h⟩ := cq_some0 h
    refine ax_callVv (As := [.int (0 : Int32), .int ((810 : Int32) + ((90 : Int32) * x1))]) (st := []) F (tX9_copyRow F.2.2.2.2.2.2.1 _ _  _ _ _ hq2) ob_338 rfl kc_X9_copyRow kz_X9 ki_X9_copyRow ks_X9_copyRow km_X9_198 ⟨kn_X9_copyRow, rfl, rfl, Nat.le_of_ble_eq_true rfl, Nat.le_of_ble_eq_true rfl⟩ rfl (Nat.le_of_ble_eq_true rfl) dX9_keep_23 ?_
    refine ax_aload_n F dX9_keep_26 rfl ?_
    refine ax_get (v := .ref (ad 340)) F ob_338 rfl inGX9 6 (by decide) rfl kf_X9_13 rfl dX9_keep_27 ?_
    refine ax_iload_n F dX9_keep_30 rfl ?_
    refine ax_iconst (v := (1 : Int32)) F dX9_keep_31 (by decide) ?_
    obtain ⟨hg, h⟩ := gd_some0 h
    refine ax_zast F ar_340 hg (by decide) dX9_keep_32 ?_
    refine ax_aload_n F dX9_keep_33 rfl ?_
    obtain ⟨r3, M3, hq3, h⟩ := cq_some0 h
    refine ax_callVi (As := []) (st := []) F (tX9_entries F.2.2.2.2.2.2.1   _ _ _ hq3) ob_338 rfl kc_X9_entries kz_X9 ki_X9_entries ks_X9_entries km_X9_209 ⟨kn_X9_entries, rfl, rfl, Nat.le_of_ble_eq_true rfl, Nat.le_of_ble_eq_true rfl⟩ rfl (Nat.le_of_ble_eq_true rfl) dX9_keep_34 ?_
    obtain ⟨h1, h2⟩ := rt_some0 h
    subst h1; subst h2
    exact ax_iret F dX9_keep_37
  · have h := it_pos0 h hc
    refine ax_bipush (v := (-2 : Int32)) F dX9_keep_10 (by decide) ?_
    obtain ⟨h1, h2⟩ := rt_some0 h
    subst h1; subst h2
    exact ax_iret F dX9_keep_12
noncomputable def fX9_back (x1 : Int32) (M : Mm) : Option Rst := cl (fX9_in (x1).toInt64 (0 : Int64) (1 : Int64) M) (fun r1 M1 => if r1 = 0 then (some ((-2 : Int32), M1)) else (gd (okI x1 2) (if (M1 340 (ix x1)) = 0 then (some ((-4 : Int32), M1)) else (cl (fX9_copyRow ((810 : Int32) + ((90 : Int32) * x1)) (0 : Int32) M1) (fun r2 M2 => cl (fX9_entries (up2 M2 338 5 (0 : Int32))) (fun r3 M3 => some (r3, M3)))))))
def rmX9_back : Room := { frames := 1, cells := 0, slots := 0, locals := 25 }
theorem kn_X9_back : yX9_back.cls ≠ "java/lang/invoke/MethodHandle" ∧ yX9_back.cls ≠ "java/lang/invoke/VarHandle" ∧ (parseMethodDescriptor yX9_back.desc).map (fun d => d.parameters.length) = some 1 := by decide +kernel
set_option maxRecDepth 100000 in
set_option maxHeartbeats 4000000 in
theorem tX9_back {l : Launch} {G : va_G} {ad : Nat → Nat} {cs : Nat → ClassId} {zk zv : Nat → Nat} (hinj : inj ad) (x1 : Int32)  (M : Mm) (r : Int32) (M' : Mm) (h : fX9_back x1 M = some (r, M')) : Met l yX9_back (tgW yX9_back cX9_back 2 (some .int)) rmX9_back (APre G ad cs zk zv [.ref (ad 338), .int x1] M) (AQi G ad cs r M') 0 0 (inA ad) := by
  refine met_of (Eq.refl true) (Nat.le_of_ble_eq_true rfl) hinj [some (.ref (ad 338)), some (.int x1)] rfl ?_
  intro p e s m below meth c F
  replace F : Fx G ad cs zk zv p m meth c cX9_back 2 (some .int) s _ RX9 := F
  unfold fX9_back at h
  refine ax_iload_n F dX9_back_0 rfl ?_
  refine ax_i2l F dX9_back_1 ?_
  refine ax_lconst (v := (0 : Int64)) F dX9_back_2 (by decide) ?_
  refine ax_lconst (v := (1 : Int64)) F dX9_back_3 (by decide) ?_
  obtain ⟨r1, M1, hq1, h⟩ := cq_some0 h
  refine ax_callSi (As := [.long (x1).toInt64, .long (0 : Int64), .long (1 : Int64)]) (st := []) F (tX9_in F.2.2.2.2.2.2.1 _ _ _  _ _ _ hq1) kc_X9_in kz_X9 kt_X9_in km_X9_66 ⟨kn_X9_in, rfl, rfl, Nat.le_of_ble_eq_true rfl, Nat.le_of_ble_eq_true rfl⟩ rfl (Nat.le_of_ble_eq_true rfl) dX9_back_4 ?_
  refine ax_if_ne (t := 13) F dX9_back_7 (by decide) (fun hc => ?_) (fun hc => ?_)
  · have h := it_neg0 h hc
    refine ax_aload_n F dX9_back_13 rfl ?_
    refine ax_get (v := .ref (ad 340)) F ob_338 rfl inGX9 6 (by decide) rfl kf_X9_13 rfl dX9_back_14 ?_
    refine ax_iload_n F dX9_back_17 rfl ?_
    obtain ⟨hg, h⟩ := gd_some0 h
    refine ax_zald F ar_340 hg dX9_back_18 ?_
    refine ax_if_ne (t := 25) F dX9_back_19 (by decide) (fun hc => ?_) (fun hc => ?_)
    · have h := it_neg0 h hc
      refine ax_aload_n F dX9_back_25 rfl ?_
      refine ax_sipush (v := (810 : Int32)) F dX9_back_26 (by decide) ?_
      refine ax_bipush (v := (90 : Int32)) F dX9_back_29 (by decide) ?_
      refine ax_iload_n F dX9_back_31 rfl ?_
      refine ax_imul F dX9_back_32 ?_
      refine ax_iadd F dX9_back_33 ?_
      refine ax_iconst (v := (0 : Int32)) F dX9_back_34 (by decide) ?_
      obtain ⟨r2, M2, hq2, h⟩ := cq_some0 h
      refine ax_callVv (As := [.int ((810 : Int32) + ((90 : Int32) * x1)), .int (0 : Int32)]) (st := []) F (tX9_copyRow F.2.2.2.2.2.2.1 _ _  _ _ _ hq2) ob_338 rfl kc_X9_copyRow kz_X9 ki_X9_copyRow ks_X9_copyRow km_X9_198 ⟨kn_X9_copyRow, rfl, rfl, Nat.le_of_ble_eq_true rfl, Nat.le_of_ble_eq_true rfl⟩ rfl (Nat.le_of_ble_eq_true rfl) dX9_back_35 ?_
      refine ax_aload_n F dX9_back_38 rfl ?_
      refine ax_iconst (v := (0 : Int32)) F dX9_back_39 (by decide) ?_
      refine ax_put (ty := .int) F ob_338 rfl inGX9 tyX9 tyX9_ok nmX9 5 (by decide) rfl kf_X9_149 (by decide) rfl rfl (Nat.le_of_ble_eq_true rfl) rfl dX9_back_40 ?_
      refine ax_aload_n F dX9_back_43 rfl ?_
      obtain ⟨r3, M3, hq3, h⟩ := cq_some0 h
      refine ax_callVi (As := []) (st := []) F (tX9_entries F.2.2.2.2.2.2.1   _ _ _ hq3) ob_338 rfl kc_X9_entries kz_X9 ki_X9_entries ks_X9_entries km_X9_209 ⟨kn_X9_entries, rfl, rfl, Nat.le_of_ble_eq_true rfl, Nat.le_of_ble_eq_true rfl⟩ rfl (Nat.le_of_ble_eq_true rfl) dX9_back_44 ?_
      obtain ⟨h1, h2⟩ := rt_some0 h
      subst h1; subst h2
      exact ax_iret F dX9_back_47
    · have h := it_pos0 h hc
      refine ax_bipush (v := (-4 : Int32)) F dX9_back_22 (by decide) ?_
      obtain ⟨h1, h2⟩ := rt_some0 h
      subst h1; subst h2
      exact ax_iret F dX9_back_24
  · have h := it_pos0 h hc
    refine ax_bipush (v := (-2 : Int32)) F dX9_back_10 (by decide) ?_
    obtain ⟨h1, h2⟩ := rt_some0 h
    subst h1; subst h2
    exact ax_iret F dX9_back_12
def rmX9_forgotten : Room := { frames := 5, cells := 0, slots := 0, locals := 122 }
theorem kn_X9_forgotten : yX9_forgotten.cls ≠ "java/lang/invoke/MethodHandle" ∧ yX9_forgotten.cls ≠ "java/lang/invoke/VarHandle" ∧ (parseMethodDescriptor yX9_forgotten.desc).map (fun d => d.parameters.length) = some 1 := by decide +kernel
noncomputable def bX9_forgotten_0 (x1 : Int32) (M : Mm) : Option (Sst ⊕ Rst) := cl (fX9_isNode x1 M) (fun r1 M1 => if r1 = 0 then (some (.inr ((-2 : Int32), M1))) else (cl (fX9_isDead (0 : Int32) x1 M1) (fun r2 M2 => if r2 = 0 then (some (.inr ((-4 : Int32), M2))) else (cl (fX9_copyRow (0 : Int32) (990 : Int32) M2) (fun r3 M3 => some (.inl (1, [], [x1, (0 : Int32)], M3)))))))
noncomputable def bX9_forgotten_1 (x1 : Int32) (x2 : Int32) (M : Mm) : Option (Sst ⊕ Rst) := if (60 : Int32) ≤ x2 then (some (.inl (2, [], [x1, x2], M))) else (cl (fX9_known (990 : Int32) x1 M) (fun r1 M1 => if r1 ≤ 0 then (some (.inl (2, [], [x1, x2], M1))) else (cl (fX9_cycles (990 : Int32) M1) (fun r2 M2 => some (.inl (1, [], [x1, (x2 + (1 : Int32))], M2))))))
noncomputable def bX9_forgotten_2 (x1 : Int32) (x2 : Int32) (M : Mm) : Option (Sst ⊕ Rst) := cl (fX9_known (990 : Int32) x1 M) (fun r1 M1 => if r1 = 0 then (some (.inr (x2, M1))) else (some (.inr ((-1 : Int32), M1))))
noncomputable def stX9_forgotten : Sst → Option (Sst ⊕ Rst) := fun q => match q.1 with
  | 0 => bX9_forgotten_0 (q.2.2.1.getD 0 0) q.2.2.2
  | 1 => bX9_forgotten_1 (q.2.2.1.getD 0 0) (q.2.2.1.getD 1 0) q.2.2.2
  | 2 => bX9_forgotten_2 (q.2.2.1.getD 0 0) (q.2.2.1.getD 1 0) q.2.2.2
  | _ => none
noncomputable def fX9_forgotten (x1 : Int32) (M : Mm) : Option Rst := run stX9_forgotten (0, [], [x1], M)
def PX9_forgotten (p : Program) (l : Launch) (e : Env) (s : State) (m : MethodId) (args : Array Value) (below : List Frame) (meth : Method) (c : Code) (G : va_G) (ad : Nat → Nat) (cs : Nat → ClassId) (zk : Nat → Nat) (r : Int32) (M' : Mm) (n : Nat) : Prop := (∀ (x1 : Int32) (M : Mm), itr stX9_forgotten n (0, [], [x1], M) = some (r, M') → AW p l e rmX9_forgotten s m args below meth c (MQ below (AQi G ad cs r M') args s 0 0 (inA ad)) G ad cs 3 0 [some (.ref (ad 338)), some (.int x1), none] [] M) ∧ (∀ (x1 : Int32) (x2 : Int32) (M : Mm), itr stX9_forgotten n (1, [], [x1, x2], M) = some (r, M') → AW p l e rmX9_forgotten s m args below meth c (MQ below (AQi G ad cs r M') args s 0 0 (inA ad)) G ad cs 3 33 [some (.ref (ad 338)), some (.int x1), some (.int x2)] [] M) ∧ (∀ (x1 : Int32) (x2 : Int32) (M : Mm), itr stX9_forgotten n (2, [], [x1, x2], M) = some (r, M') → AW p l e rmX9_forgotten s m args below meth c (MQ below (AQi G ad cs r M') args s 0 0 (inA ad)) G ad cs 3 63 [some (.ref (ad 338)), some (.int x1), some (.int x2)] [] M)
set_option maxRecDepth 100000 in
set_option maxHeartbeats 4000000 in
theorem wX9_forgotten_0 {p : Program} {l : Launch} {e : Env} {s : State} {m : MethodId} {args : Array Value} {below : List Frame} {meth : Method} {c : Code} {G : va_G} {ad : Nat → Nat} {cs : Nat → ClassId} {zk zv : Nat → Nat} {r : Int32} {M' : Mm} {n : Nat} (F : Fx G ad cs zk zv p m meth c cX9_forgotten 3 (some .int) s args RX9) (IH : PX9_forgotten p l e s m args below meth c G ad cs zk r M' n) (x1 : Int32) (M : Mm) (h : (bX9_forgotten_0 x1 M).bind (fun q => match q with | .inl s' => itr stX9_forgotten n s' | .inr r => some r) = some (r, M'))  : AW p l e rmX9_forgotten s m args below meth c (MQ below (AQi G ad cs r M') args s 0 0 (inA ad)) G ad cs 3 0 [some (.ref (ad 338)), some (.int x1), none] [] M := by
  unfold bX9_forgotten_0 at h
  refine ax_aload_n F dX9_forgotten_0 rfl ?_
  refine ax_iload_n F dX9_forgotten_1 rfl ?_
  obtain ⟨r1, M1, hq1, h⟩ := cq_some h
  refine ax_callVi (As := [.int x1]) (st := []) F (tX9_isNode F.2.2.2.2.2.2.1 _  _ _ _ hq1) ob_338 rfl kc_X9_isNode kz_X9 ki_X9_isNode ks_X9_isNode km_X9_188 ⟨kn_X9_isNode, rfl, rfl, Nat.le_of_ble_eq_true rfl, Nat.le_of_ble_eq_true rfl⟩ rfl (Nat.le_of_ble_eq_true rfl) dX9_forgotten_2 ?_
  refine ax_if_ne (t := 11) F dX9_forgotten_5 (by decide) (fun hc => ?_) (fun hc => ?_)
  · have h := it_neg h hc
    refine ax_aload_n F dX9_forgotten_11 rfl ?_
    refine ax_iconst (v := (0 : Int32)) F dX9_forgotten_12 (by decide) ?_
    refine ax_iload_n F dX9_forgotten_13 rfl ?_
    obtain ⟨r2, M2, hq2, h⟩ := cq_some h
    refine ax_callVi (As := [.int (0 : Int32), .int x1]) (st := []) F (tX9_isDead F.2.2.2.2.2.2.1 _ _  _ _ _ hq2) ob_338 rfl kc_X9_isDead kz_X9 ki_X9_isDead ks_X9_isDead km_X9_176 ⟨kn_X9_isDead, rfl, rfl, Nat.le_of_ble_eq_true rfl, Nat.le_of_ble_eq_true rfl⟩ rfl (Nat.le_of_ble_eq_true rfl) dX9_forgotten_14 ?_
    refine ax_if_ne (t := 23) F dX9_forgotten_17 (by decide) (fun hc => ?_) (fun hc => ?_)
    · have h := it_neg h hc
      refine ax_aload_n F dX9_forgotten_23 rfl ?_
      refine ax_iconst (v := (0 : Int32)) F dX9_forgotten_24 (by decide) ?_
      refine ax_sipush (v := (990 : Int32)) F dX9_forgotten_25 (by decide) ?_
      obtain ⟨r3, M3, hq3, h⟩ := cq_some h
      refine ax_callVv (As := [.int (0 : Int32), .int (990 : Int32)]) (st := []) F (tX9_copyRow F.2.2.2.2.2.2.1 _ _  _ _ _ hq3) ob_338 rfl kc_X9_copyRow kz_X9 ki_X9_copyRow ks_X9_copyRow km_X9_198 ⟨kn_X9_copyRow, rfl, rfl, Nat.le_of_ble_eq_true rfl, Nat.le_of_ble_eq_true rfl⟩ rfl (Nat.le_of_ble_eq_true rfl) dX9_forgotten_28 ?_
      refine ax_iconst (v := (0 : Int32)) F dX9_forgotten_31 (by decide) ?_
      refine ax_istore_n F dX9_forgotten_32 (by decide) rfl ?_
      exact IH.2.1 _ _ _ h 
    · have h := it_pos h hc
      refine ax_bipush (v := (-4 : Int32)) F dX9_forgotten_20 (by decide) ?_
      obtain ⟨h1, h2⟩ := rt_some h
      subst h1; subst h2
      exact ax_iret F dX9_forgotten_22
  · have h := it_pos h hc
    refine ax_bipush (v := (-2 : Int32)) F dX9_forgotten_8 (by decide) ?_
    obtain ⟨h1, h2⟩ := rt_some h
    subst h1; subst h2
    exact ax_iret F dX9_forgotten_10
set_option maxRecDepth 100000 in
set_option maxHeartbeats 4000000 in
theorem wX9_forgotten_1 {p : Program} {l : Launch} {e : Env} {s : State} {m : MethodId} {args : Array Value} {below : List Frame} {meth : Method} {c : Code} {G : va_G} {ad : Nat → Nat} {cs : Nat → ClassId} {zk zv : Nat → Nat} {r : Int32} {M' : Mm} {n : Nat} (F : Fx G ad cs zk zv p m meth c cX9_forgotten 3 (some .int) s args RX9) (IH : PX9_forgotten p l e s m args below meth c G ad cs zk r M' n) (x1 : Int32) (x2 : Int32) (M : Mm) (h : (bX9_forgotten_1 x1 x2 M).bind (fun q => match q with | .inl s' => itr stX9_forgotten n s' | .inr r => some r) = some (r, M'))  : AW p l e rmX9_forgotten s m args below meth c (MQ below (AQi G ad cs r M') args s 0 0 (inA ad)) G ad cs 3 33 [some (.ref (ad 338)), some (.int x1), some (.int x2)] [] M := by
  unfold bX9_forgotten_1 at h
  refine ax_iload_n F dX9_forgotten_33 rfl ?_
  refine ax_bipush (v := (60 : Int32)) F dX9_forgotten_34 (by decide) ?_
  refine ax_icmp_ge (t := 63) F dX9_forgotten_36 (by decide) (fun hc => ?_) (fun hc => ?_)
  · have h := it_pos h hc
    exact IH.2.2 _ _ _ h 
  · have h := it_neg h hc
    refine ax_aload_n F dX9_forgotten_39 rfl ?_
    refine ax_sipush (v := (990 : Int32)) F dX9_forgotten_40 (by decide) ?_
    refine ax_iload_n F dX9_forgotten_43 rfl ?_
    obtain ⟨r1, M1, hq1, h⟩ := cq_some h
    refine ax_callVi (As := [.int (990 : Int32), .int x1]) (st := []) F (tX9_known F.2.2.2.2.2.2.1 _ _  _ _ _ hq1) ob_338 rfl kc_X9_known kz_X9 ki_X9_known ks_X9_known km_X9_191 ⟨kn_X9_known, rfl, rfl, Nat.le_of_ble_eq_true rfl, Nat.le_of_ble_eq_true rfl⟩ rfl (Nat.le_of_ble_eq_true rfl) dX9_forgotten_44 ?_
    refine ax_if_le (t := 63) F dX9_forgotten_47 (by decide) (fun hc => ?_) (fun hc => ?_)
    · have h := it_pos h hc
      exact IH.2.2 _ _ _ h 
    · have h := it_neg h hc
      refine ax_aload_n F dX9_forgotten_50 rfl ?_
      refine ax_sipush (v := (990 : Int32)) F dX9_forgotten_51 (by decide) ?_
      obtain ⟨r2, M2, hq2, h⟩ := cq_some h
      refine ax_callVv (As := [.int (990 : Int32)]) (st := []) F (tX9_cycles F.2.2.2.2.2.2.1 _  _ _ _ hq2) ob_338 rfl kc_X9_cycles kz_X9 ki_X9_cycles ks_X9_cycles km_X9_206 ⟨kn_X9_cycles, rfl, rfl, Nat.le_of_ble_eq_true rfl, Nat.le_of_ble_eq_true rfl⟩ rfl (Nat.le_of_ble_eq_true rfl) dX9_forgotten_54 ?_
      refine ax_iinc (v := (1 : Int32)) F dX9_forgotten_57 rfl (by decide) (by decide) rfl ?_
      refine ax_goto (t := 33) F dX9_forgotten_60 (by decide) ?_
      exact IH.2.1 _ _ _ h 
set_option maxRecDepth 100000 in
set_option maxHeartbeats 4000000 in
theorem wX9_forgotten_2 {p : Program} {l : Launch} {e : Env} {s : State} {m : MethodId} {args : Array Value} {below : List Frame} {meth : Method} {c : Code} {G : va_G} {ad : Nat → Nat} {cs : Nat → ClassId} {zk zv : Nat → Nat} {r : Int32} {M' : Mm} {n : Nat} (F : Fx G ad cs zk zv p m meth c cX9_forgotten 3 (some .int) s args RX9) (IH : PX9_forgotten p l e s m args below meth c G ad cs zk r M' n) (x1 : Int32) (x2 : Int32) (M : Mm) (h : (bX9_forgotten_2 x1 x2 M).bind (fun q => match q with | .inl s' => itr stX9_forgotten n s' | .inr r => some r) = some (r, M'))  : AW p l e rmX9_forgotten s m args below meth c (MQ below (AQi G ad cs r M') args s 0 0 (inA ad)) G ad cs 3 63 [some (.ref (ad 338)), some (.int x1), some (.int x2)] [] M := by
  unfold bX9_forgotten_2 at h
  refine ax_aload_n F dX9_forgotten_63 rfl ?_
  refine ax_sipush (v := (990 : Int32)) F dX9_forgotten_64 (by decide) ?_
  refine ax_iload_n F dX9_forgotten_67 rfl ?_
  obtain ⟨r1, M1, hq1, h⟩ := cq_some h
  refine ax_callVi (As := [.int (990 : Int32), .int x1]) (st := []) F (tX9_known F.2.2.2.2.2.2.1 _ _  _ _ _ hq1) ob_338 rfl kc_X9_known kz_X9 ki_X9_known ks_X9_known km_X9_191 ⟨kn_X9_known, rfl, rfl, Nat.le_of_ble_eq_true rfl, Nat.le_of_ble_eq_true rfl⟩ rfl (Nat.le_of_ble_eq_true rfl) dX9_forgotten_68 ?_
  refine ax_if_ne (t := 78) F dX9_forgotten_71 (by decide) (fun hc => ?_) (fun hc => ?_)
  · have h := it_neg h hc
    refine ax_iconst (v := (-1 : Int32)) F dX9_forgotten_78 (by decide) ?_
    obtain ⟨h1, h2⟩ := rt_some h
    subst h1; subst h2
    exact ax_iret F dX9_forgotten_79
  · have h := it_pos h hc
    refine ax_iload_n F dX9_forgotten_74 rfl ?_
    refine ax_goto (t := 79) F dX9_forgotten_75 (by decide) ?_
    obtain ⟨h1, h2⟩ := rt_some h
    subst h1; subst h2
    exact ax_iret F dX9_forgotten_79
set_option maxRecDepth 100000 in
set_option maxHeartbeats 4000000 in
theorem wX9_forgotten {p : Program} {l : Launch} {e : Env} {s : State} {m : MethodId} {args : Array Value} {below : List Frame} {meth : Method} {c : Code} {G : va_G} {ad : Nat → Nat} {cs : Nat → ClassId} {zk zv : Nat → Nat} {r : Int32} {M' : Mm} (F : Fx G ad cs zk zv p m meth c cX9_forgotten 3 (some .int) s args RX9) (n : Nat) : PX9_forgotten p l e s m args below meth c G ad cs zk r M' n := by
  induction n with
  | zero => exact ⟨(fun x1 M h => by cases h), (fun x1 x2 M h => by cases h), (fun x1 x2 M h => by cases h)⟩
  | succ n ih =>
    exact ⟨fun x1 M h  => wX9_forgotten_0 F ih x1 M h ,
      fun x1 x2 M h  => wX9_forgotten_1 F ih x1 x2 M h ,
      fun x1 x2 M h  => wX9_forgotten_2 F ih x1 x2 M h ⟩
set_option maxRecDepth 100000 in
set_option maxHeartbeats 4000000 in
theorem tX9_forgotten {l : Launch} {G : va_G} {ad : Nat → Nat} {cs : Nat → ClassId} {zk zv : Nat → Nat} (hinj : inj ad) (x1 : Int32)  (M : Mm) (r : Int32) (M' : Mm) (h : fX9_forgotten x1 M = some (r, M')) : Met l yX9_forgotten (tgW yX9_forgotten cX9_forgotten 3 (some .int)) rmX9_forgotten (APre G ad cs zk zv [.ref (ad 338), .int x1] M) (AQi G ad cs r M') 0 0 (inA ad) := by
  refine met_of (Eq.refl true) (Nat.le_of_ble_eq_true rfl) hinj [some (.ref (ad 338)), some (.int x1), none] rfl ?_
  intro p e s m below meth c F
  replace F : Fx G ad cs zk zv p m meth c cX9_forgotten 3 (some .int) s _ RX9 := F
  obtain ⟨n, hn⟩ := run_ex h
  exact (wX9_forgotten F n).1 x1 M hn 
noncomputable def fX9_next (x1 : Int32) (M : Mm) : Option Rst := cl (fX9_isNode x1 M) (fun r1 M1 => if r1 = 0 then (some ((-2 : Int32), M1)) else (cl (fX9_isDead (0 : Int32) x1 M1) (fun r2 M2 => if r2 = 0 then (cl (fX9_copyRow (0 : Int32) (990 : Int32) M2) (fun r3 M3 => cl (fX9_ages (990 : Int32) x1 M3) (fun r4 M4 => cl (fX9_oldest (990 : Int32) x1 M4) (fun r5 M5 => if r5 = (-1 : Int32) then (some ((-1 : Int32), M5)) else (gd (okI (((1000 : Int32) + ((5 : Int32) * x1)) + r5) 1080) (some ((M5 339 (ix (((1000 : Int32) + ((5 : Int32) * x1)) + r5))), M5))))))) else (some ((-4 : Int32), M2)))))
def rmX9_next : Room := { frames := 2, cells := 0, slots := 0, locals := 46 }
theorem kn_X9_next : yX9_next.cls ≠ "java/lang/invoke/MethodHandle" ∧ yX9_next.cls ≠ "java/lang/invoke/VarHandle" ∧ (parseMethodDescriptor yX9_next.desc).map (fun d => d.parameters.length) = some 1 := by decide +kernel
set_option maxRecDepth 100000 in
set_option maxHeartbeats 4000000 in
theorem tX9_next {l : Launch} {G : va_G} {ad : Nat → Nat} {cs : Nat → ClassId} {zk zv : Nat → Nat} (hinj : inj ad) (x1 : Int32)  (M : Mm) (r : Int32) (M' : Mm) (h : fX9_next x1 M = some (r, M')) : Met l yX9_next (tgW yX9_next cX9_next 3 (some .int)) rmX9_next (APre G ad cs zk zv [.ref (ad 338), .int x1] M) (AQi G ad cs r M') 0 0 (inA ad) := by
  refine met_of (Eq.refl true) (Nat.le_of_ble_eq_true rfl) hinj [some (.ref (ad 338)), some (.int x1), none] rfl ?_
  intro p e s m below meth c F
  replace F : Fx G ad cs zk zv p m meth c cX9_next 3 (some .int) s _ RX9 := F
  unfold fX9_next at h
  refine ax_aload_n F dX9_next_0 rfl ?_
  refine ax_iload_n F dX9_next_1 rfl ?_
  obtain ⟨r1, M1, hq1, h⟩ := cq_some0 h
  refine ax_callVi (As := [.int x1]) (st := []) F (tX9_isNode F.2.2.2.2.2.2.1 _  _ _ _ hq1) ob_338 rfl kc_X9_isNode kz_X9 ki_X9_isNode ks_X9_isNode km_X9_188 ⟨kn_X9_isNode, rfl, rfl, Nat.le_of_ble_eq_true rfl, Nat.le_of_ble_eq_true rfl⟩ rfl (Nat.le_of_ble_eq_true rfl) dX9_next_2 ?_
  refine ax_if_ne (t := 11) F dX9_next_5 (by decide) (fun hc => ?_) (fun hc => ?_)
  · have h := it_neg0 h hc
    refine ax_aload_n F dX9_next_11 rfl ?_
    refine ax_iconst (v := (0 : Int32)) F dX9_next_12 (by decide) ?_
    refine ax_iload_n F dX9_next_13 rfl ?_
    obtain ⟨r2, M2, hq2, h⟩ := cq_some0 h
    refine ax_callVi (As := [.int (0 : Int32), .int x1]) (st := []) F (tX9_isDead F.2.2.2.2.2.2.1 _ _  _ _ _ hq2) ob_338 rfl kc_X9_isDead kz_X9 ki_X9_isDead ks_X9_isDead km_X9_176 ⟨kn_X9_isDead, rfl, rfl, Nat.le_of_ble_eq_true rfl, Nat.le_of_ble_eq_true rfl⟩ rfl (Nat.le_of_ble_eq_true rfl) dX9_next_14 ?_
    refine ax_if_eq (t := 23) F dX9_next_17 (by decide) (fun hc => ?_) (fun hc => ?_)
    · have h := it_pos0 h hc
      refine ax_aload_n F dX9_next_23 rfl ?_
      refine ax_iconst (v := (0 : Int32)) F dX9_next_24 (by decide) ?_
      refine ax_sipush (v := (990 : Int32)) F dX9_next_25 (by decide) ?_
      obtain ⟨r3, M3, hq3, h⟩ := cq_some0 h
      refine ax_callVv (As := [.int (0 : Int32), .int (990 : Int32)]) (st := []) F (tX9_copyRow F.2.2.2.2.2.2.1 _ _  _ _ _ hq3) ob_338 rfl kc_X9_copyRow kz_X9 ki_X9_copyRow ks_X9_copyRow km_X9_198 ⟨kn_X9_copyRow, rfl, rfl, Nat.le_of_ble_eq_true rfl, Nat.le_of_ble_eq_true rfl⟩ rfl (Nat.le_of_ble_eq_true rfl) dX9_next_28 ?_
      refine ax_aload_n F dX9_next_31 rfl ?_
      refine ax_sipush (v := (990 : Int32)) F dX9_next_32 (by decide) ?_
      refine ax_iload_n F dX9_next_35 rfl ?_
      obtain ⟨r4, M4, hq4, h⟩ := cq_some0 h
      refine ax_callVv (As := [.int (990 : Int32), .int x1]) (st := []) F (tX9_ages F.2.2.2.2.2.2.1 _ _  _ _ _ hq4) ob_338 rfl kc_X9_ages kz_X9 ki_X9_ages ks_X9_ages km_X9_169 ⟨kn_X9_ages, rfl, rfl, Nat.le_of_ble_eq_true rfl, Nat.le_of_ble_eq_true rfl⟩ rfl (Nat.le_of_ble_eq_true rfl) dX9_next_36 ?_
      refine ax_aload_n F dX9_next_39 rfl ?_
      refine ax_sipush (v := (990 : Int32)) F dX9_next_40 (by decide) ?_
      refine ax_iload_n F dX9_next_43 rfl ?_
      obtain ⟨r5, M5, hq5, h⟩ := cq_some0 h
      refine ax_callVi (As := [.int (990 : Int32), .int x1]) (st := []) F (tX9_oldest F.2.2.2.2.2.2.1 _ _  _ _ _ hq5) ob_338 rfl kc_X9_oldest kz_X9 ki_X9_oldest ks_X9_oldest km_X9_173 ⟨kn_X9_oldest, rfl, rfl, Nat.le_of_ble_eq_true rfl, Nat.le_of_ble_eq_true rfl⟩ rfl (Nat.le_of_ble_eq_true rfl) dX9_next_44 ?_
      refine ax_istore_n F dX9_next_47 (by decide) rfl ?_
      refine ax_iload_n F dX9_next_48 rfl ?_
      refine ax_iconst (v := (-1 : Int32)) F dX9_next_49 (by decide) ?_
      refine ax_icmp_ne (t := 57) F dX9_next_50 (by decide) (fun hc => ?_) (fun hc => ?_)
      · have h := it_neg0 h hc
        refine ax_aload_n F dX9_next_57 rfl ?_
        refine ax_get (v := .ref (ad 339)) F ob_338 rfl inGX9 0 (by decide) rfl kf_X9_7 rfl dX9_next_58 ?_
        refine ax_sipush (v := (1000 : Int32)) F dX9_next_61 (by decide) ?_
        refine ax_iconst (v := (5 : Int32)) F dX9_next_64 (by decide) ?_
        refine ax_iload_n F dX9_next_65 rfl ?_
        refine ax_imul F dX9_next_66 ?_
        refine ax_iadd F dX9_next_67 ?_
        refine ax_iload_n F dX9_next_68 rfl ?_
        refine ax_iadd F dX9_next_69 ?_
        obtain ⟨hg, h⟩ := gd_some0 h
        refine ax_iald F ar_339 hg dX9_next_70 ?_
        obtain ⟨h1, h2⟩ := rt_some0 h
        subst h1; subst h2
        exact ax_iret F dX9_next_71
      · have h := it_pos0 h hc
        refine ax_iconst (v := (-1 : Int32)) F dX9_next_53 (by decide) ?_
        refine ax_goto (t := 71) F dX9_next_54 (by decide) ?_
        obtain ⟨h1, h2⟩ := rt_some0 h
        subst h1; subst h2
        exact ax_iret F dX9_next_71
    · have h := it_neg0 h hc
      refine ax_bipush (v := (-4 : Int32)) F dX9_next_20 (by decide) ?_
      obtain ⟨h1, h2⟩ := rt_some0 h
      subst h1; subst h2
      exact ax_iret F dX9_next_22
  · have h := it_pos0 h hc
    refine ax_bipush (v := (-2 : Int32)) F dX9_next_8 (by decide) ?_
    obtain ⟨h1, h2⟩ := rt_some0 h
    subst h1; subst h2
    exact ax_iret F dX9_next_10
def rmX9_extreme : Room := { frames := 3, cells := 0, slots := 0, locals := 67 }
theorem kn_X9_extreme : yX9_extreme.cls ≠ "java/lang/invoke/MethodHandle" ∧ yX9_extreme.cls ≠ "java/lang/invoke/VarHandle" ∧ (parseMethodDescriptor yX9_extreme.desc).map (fun d => d.parameters.length) = some 2 := by decide +kernel
noncomputable def bX9_extreme_0 (x1 : Int32) (x2 : Int32) (M : Mm) : Option (Sst ⊕ Rst) := some (.inl (1, [], [x1, x2, (-1 : Int32), (0 : Int32)], M))
noncomputable def bX9_extreme_1 (x1 : Int32) (x2 : Int32) (x3 : Int32) (x4 : Int32) (M : Mm) : Option (Sst ⊕ Rst) := if (M 338 1) ≤ x4 then (some (.inr (x3, M))) else (cl (fX9_isDead x1 x4 M) (fun r1 M1 => if r1 = 0 then (cl (fX9_known x1 x4 M1) (fun r2 M2 => if x3 = (-1 : Int32) then (some (.inl (1, [], [x1, x2, r2, (x4 + (1 : Int32))], M2))) else (if x2 = 0 then (if x3 ≤ r2 then (some (.inl (1, [], [x1, x2, x3, (x4 + (1 : Int32))], M2))) else (some (.inl (1, [], [x1, x2, r2, (x4 + (1 : Int32))], M2)))) else (if r2 ≤ x3 then (some (.inl (1, [], [x1, x2, x3, (x4 + (1 : Int32))], M2))) else (some (.inl (1, [], [x1, x2, r2, (x4 + (1 : Int32))], M2))))))) else (some (.inl (1, [], [x1, x2, x3, (x4 + (1 : Int32))], M1)))))
noncomputable def stX9_extreme : Sst → Option (Sst ⊕ Rst) := fun q => match q.1 with
  | 0 => bX9_extreme_0 (q.2.2.1.getD 0 0) (q.2.2.1.getD 1 0) q.2.2.2
  | 1 => bX9_extreme_1 (q.2.2.1.getD 0 0) (q.2.2.1.getD 1 0) (q.2.2.1.getD 2 0) (q.2.2.1.getD 3 0) q.2.2.2
  | _ => none
noncomputable def fX9_extreme (x1 : Int32) (x2 : Int32) (M : Mm) : Option Rst := run stX9_extreme (0, [], [x1, x2], M)
def PX9_extreme (p : Program) (l : Launch) (e : Env) (s : State) (m : MethodId) (args : Array Value) (below : List Frame) (meth : Method) (c : Code) (G : va_G) (ad : Nat → Nat) (cs : Nat → ClassId) (zk : Nat → Nat) (r : Int32) (M' : Mm) (n : Nat) : Prop := (∀ (x1 : Int32) (x2 : Int32) (M : Mm), itr stX9_extreme n (0, [], [x1, x2], M) = some (r, M') → AW p l e rmX9_extreme s m args below meth c (MQ below (AQi G ad cs r M') args s 0 0 (inA ad)) G ad cs 6 0 [some (.ref (ad 338)), some (.int x1), some (.int x2), none, none, none] [] M) ∧ (∀ (x1 : Int32) (x2 : Int32) (x3 : Int32) (x4 : Int32) (M : Mm), itr stX9_extreme n (1, [], [x1, x2, x3, x4], M) = some (r, M') → AW p l e rmX9_extreme s m args below meth c (MQ below (AQi G ad cs r M') args s 0 0 (inA ad)) G ad cs 6 5 [some (.ref (ad 338)), some (.int x1), some (.int x2), some (.int x3), some (.int x4), none] [] M)
set_option maxRecDepth 100000 in
set_option maxHeartbeats 4000000 in
theorem wX9_extreme_0 {p : Program} {l : Launch} {e : Env} {s : State} {m : MethodId} {args : Array Value} {below : List Frame} {meth : Method} {c : Code} {G : va_G} {ad : Nat → Nat} {cs : Nat → ClassId} {zk zv : Nat → Nat} {r : Int32} {M' : Mm} {n : Nat} (F : Fx G ad cs zk zv p m meth c cX9_extreme 6 (some .int) s args RX9) (IH : PX9_extreme p l e s m args below meth c G ad cs zk r M' n) (x1 : Int32) (x2 : Int32) (M : Mm) (h : (bX9_extreme_0 x1 x2 M).bind (fun q => match q with | .inl s' => itr stX9_extreme n s' | .inr r => some r) = some (r, M'))  : AW p l e rmX9_extreme s m args below meth c (MQ below (AQi G ad cs r M') args s 0 0 (inA ad)) G ad cs 6 0 [some (.ref (ad 338)), some (.int x1), some (.int x2), none, none, none] [] M := by
  unfold bX9_extreme_0 at h
  refine ax_iconst (v := (-1 : Int32)) F dX9_extreme_0 (by decide) ?_
  refine ax_istore_n F dX9_extreme_1 (by decide) rfl ?_
  refine ax_iconst (v := (0 : Int32)) F dX9_extreme_2 (by decide) ?_
  refine ax_istore F dX9_extreme_3 (by decide) rfl ?_
  exact IH.2 _ _ _ _ _ h 
set_option maxRecDepth 100000 in
set_option maxHeartbeats 4000000 in
theorem wX9_extreme_1 {p : Program} {l : Launch} {e : Env} {s : State} {m : MethodId} {args : Array Value} {below : List Frame} {meth : Method} {c : Code} {G : va_G} {ad : Nat → Nat} {cs : Nat → ClassId} {zk zv : Nat → Nat} {r : Int32} {M' : Mm} {n : Nat} (F : Fx G ad cs zk zv p m meth c cX9_extreme 6 (some .int) s args RX9) (IH : PX9_extreme p l e s m args below meth c G ad cs zk r M' n) (x1 : Int32) (x2 : Int32) (x3 : Int32) (x4 : Int32) (M : Mm) (h : (bX9_extreme_1 x1 x2 x3 x4 M).bind (fun q => match q with | .inl s' => itr stX9_extreme n s' | .inr r => some r) = some (r, M'))  : AW p l e rmX9_extreme s m args below meth c (MQ below (AQi G ad cs r M') args s 0 0 (inA ad)) G ad cs 6 5 [some (.ref (ad 338)), some (.int x1), some (.int x2), some (.int x3), some (.int x4), none] [] M := by
  unfold bX9_extreme_1 at h
  refine ax_iload F dX9_extreme_5 rfl ?_
  refine ax_aload_n F dX9_extreme_7 rfl ?_
  refine ax_get (v := .int (M 338 1)) F ob_338 rfl inGX9 1 (by decide) rfl kf_X9_48 rfl dX9_extreme_8 ?_
  refine ax_icmp_ge (t := 70) F dX9_extreme_11 (by decide) (fun hc => ?_) (fun hc => ?_)
  · have h := it_pos h hc
    refine ax_iload_n F dX9_extreme_70 rfl ?_
    obtain ⟨h1, h2⟩ := rt_some h
    subst h1; subst h2
    exact ax_iret F dX9_extreme_71
  · have h := it_neg h hc
    refine ax_aload_n F dX9_extreme_14 rfl ?_
    refine ax_iload_n F dX9_extreme_15 rfl ?_
    refine ax_iload F dX9_extreme_16 rfl ?_
    obtain ⟨r1, M1, hq1, h⟩ := cq_some h
    refine ax_callVi (As := [.int x1, .int x4]) (st := []) F (tX9_isDead F.2.2.2.2.2.2.1 _ _  _ _ _ hq1) ob_338 rfl kc_X9_isDead kz_X9 ki_X9_isDead ks_X9_isDead km_X9_176 ⟨kn_X9_isDead, rfl, rfl, Nat.le_of_ble_eq_true rfl, Nat.le_of_ble_eq_true rfl⟩ rfl (Nat.le_of_ble_eq_true rfl) dX9_extreme_18 ?_
    refine ax_if_ne (t := 64) F dX9_extreme_21 (by decide) (fun hc => ?_) (fun hc => ?_)
    · have h := it_neg h hc
      refine ax_iinc (v := (1 : Int32)) F dX9_extreme_64 rfl (by decide) (by decide) rfl ?_
      refine ax_goto (t := 5) F dX9_extreme_67 (by decide) ?_
      exact IH.2 _ _ _ _ _ h 
    · have h := it_pos h hc
      refine ax_aload_n F dX9_extreme_24 rfl ?_
      refine ax_iload_n F dX9_extreme_25 rfl ?_
      refine ax_iload F dX9_extreme_26 rfl ?_
      obtain ⟨r2, M2, hq2, h⟩ := cq_some h
      refine ax_callVi (As := [.int x1, .int x4]) (st := []) F (tX9_known F.2.2.2.2.2.2.1 _ _  _ _ _ hq2) ob_338 rfl kc_X9_known kz_X9 ki_X9_known ks_X9_known km_X9_191 ⟨kn_X9_known, rfl, rfl, Nat.le_of_ble_eq_true rfl, Nat.le_of_ble_eq_true rfl⟩ rfl (Nat.le_of_ble_eq_true rfl) dX9_extreme_28 ?_
      refine ax_istore F dX9_extreme_31 (by decide) rfl ?_
      refine ax_iload_n F dX9_extreme_33 rfl ?_
      refine ax_iconst (v := (-1 : Int32)) F dX9_extreme_34 (by decide) ?_
      refine ax_icmp_eq (t := 57) F dX9_extreme_35 (by decide) (fun hc => ?_) (fun hc => ?_)
      · have h := it_pos h hc
        refine ax_iload F dX9_extreme_57 rfl ?_
        refine ax_goto (t := 63) F dX9_extreme_59 (by decide) ?_
        refine ax_istore_n F dX9_extreme_63 (by decide) rfl ?_
        refine ax_iinc (v := (1 : Int32)) F dX9_extreme_64 rfl (by decide) (by decide) rfl ?_
        refine ax_goto (t := 5) F dX9_extreme_67 (by decide) ?_
        refine ax_mask [true, true, true, true, true, false] ?_
        exact IH.2 _ _ _ _ _ h 
      · have h := it_neg h hc
        refine ax_iload_n F dX9_extreme_38 rfl ?_
        refine ax_if_eq (t := 51) F dX9_extreme_39 (by decide) (fun hc => ?_) (fun hc => ?_)
        · have h := it_pos h hc
          refine ax_iload F dX9_extreme_51 rfl ?_
          refine ax_iload_n F dX9_extreme_53 rfl ?_
          refine ax_icmp_ge (t := 62) F dX9_extreme_54 (by decide) (fun hc => ?_) (fun hc => ?_)
          · have h := it_pos h hc
            refine ax_iload_n F dX9_extreme_62 rfl ?_
            refine ax_istore_n F dX9_extreme_63 (by decide) rfl ?_
            refine ax_iinc (v := (1 : Int32)) F dX9_extreme_64 rfl (by decide) (by decide) rfl ?_
            refine ax_goto (t := 5) F dX9_extreme_67 (by decide) ?_
            refine ax_mask [true, true, true, true, true, false] ?_
            exact IH.2 _ _ _ _ _ h 
          · have h := it_neg h hc
            refine ax_iload F dX9_extreme_57 rfl ?_
            refine ax_goto (t := 63) F dX9_extreme_59 (by decide) ?_
            refine ax_istore_n F dX9_extreme_63 (by decide) rfl ?_
            refine ax_iinc (v := (1 : Int32)) F dX9_extreme_64 rfl (by decide) (by decide) rfl ?_
            refine ax_goto (t := 5) F dX9_extreme_67 (by decide) ?_
            refine ax_mask [true, true, true, true, true, false] ?_
            exact IH.2 _ _ _ _ _ h 
        · have h := it_neg h hc
          refine ax_iload F dX9_extreme_42 rfl ?_
          refine ax_iload_n F dX9_extreme_44 rfl ?_
          refine ax_icmp_le (t := 62) F dX9_extreme_45 (by decide) (fun hc => ?_) (fun hc => ?_)
          · have h := it_pos h hc
            refine ax_iload_n F dX9_extreme_62 rfl ?_
            refine ax_istore_n F dX9_extreme_63 (by decide) rfl ?_
            refine ax_iinc (v := (1 : Int32)) F dX9_extreme_64 rfl (by decide) (by decide) rfl ?_
            refine ax_goto (t := 5) F dX9_extreme_67 (by decide) ?_
            refine ax_mask [true, true, true, true, true, false] ?_
            exact IH.2 _ _ _ _ _ h 
          · have h := it_neg h hc
            refine ax_goto (t := 57) F dX9_extreme_48 (by decide) ?_
            refine ax_iload F dX9_extreme_57 rfl ?_
            refine ax_goto (t := 63) F dX9_extreme_59 (by decide) ?_
            refine ax_istore_n F dX9_extreme_63 (by decide) rfl ?_
            refine ax_iinc (v := (1 : Int32)) F dX9_extreme_64 rfl (by decide) (by decide) rfl ?_
            refine ax_goto (t := 5) F dX9_extreme_67 (by decide) ?_
            refine ax_mask [true, true, true, true, true, false] ?_
            exact IH.2 _ _ _ _ _ h 
set_option maxRecDepth 100000 in
set_option maxHeartbeats 4000000 in
theorem wX9_extreme {p : Program} {l : Launch} {e : Env} {s : State} {m : MethodId} {args : Array Value} {below : List Frame} {meth : Method} {c : Code} {G : va_G} {ad : Nat → Nat} {cs : Nat → ClassId} {zk zv : Nat → Nat} {r : Int32} {M' : Mm} (F : Fx G ad cs zk zv p m meth c cX9_extreme 6 (some .int) s args RX9) (n : Nat) : PX9_extreme p l e s m args below meth c G ad cs zk r M' n := by
  induction n with
  | zero => exact ⟨(fun x1 x2 M h => by cases h), (fun x1 x2 x3 x4 M h => by cases h)⟩
  | succ n ih =>
    exact ⟨fun x1 x2 M h  => wX9_extreme_0 F ih x1 x2 M h ,
      fun x1 x2 x3 x4 M h  => wX9_extreme_1 F ih x1 x2 x3 x4 M h ⟩
set_option maxRecDepth 100000 in
set_option maxHeartbeats 4000000 in
theorem tX9_extreme {l : Launch} {G : va_G} {ad : Nat → Nat} {cs : Nat → ClassId} {zk zv : Nat → Nat} (hinj : inj ad) (x1 : Int32) (x2 : Int32)  (M : Mm) (r : Int32) (M' : Mm) (h : fX9_extreme x1 x2 M = some (r, M')) : Met l yX9_extreme (tgW yX9_extreme cX9_extreme 6 (some .int)) rmX9_extreme (APre G ad cs zk zv [.ref (ad 338), .int x1, .int x2] M) (AQi G ad cs r M') 0 0 (inA ad) := by
  refine met_of (Eq.refl true) (Nat.le_of_ble_eq_true rfl) hinj [some (.ref (ad 338)), some (.int x1), some (.int x2), none, none, none] rfl ?_
  intro p e s m below meth c F
  replace F : Fx G ad cs zk zv p m meth c cX9_extreme 6 (some .int) s _ RX9 := F
  obtain ⟨n, hn⟩ := run_ex h
  exact (wX9_extreme F n).1 x1 x2 M hn 
def rmX9_spread : Room := { frames := 5, cells := 0, slots := 0, locals := 122 }
theorem kn_X9_spread : yX9_spread.cls ≠ "java/lang/invoke/MethodHandle" ∧ yX9_spread.cls ≠ "java/lang/invoke/VarHandle" ∧ (parseMethodDescriptor yX9_spread.desc).map (fun d => d.parameters.length) = some 1 := by decide +kernel
noncomputable def bX9_spread_0 (x1 : Int32) (M : Mm) : Option (Sst ⊕ Rst) := cl (fX9_in (x1).toInt64 (0 : Int64) (60 : Int64) M) (fun r1 M1 => if r1 = 0 then (some (.inr ((-3 : Int32), M1))) else (cl (fX9_alive (0 : Int32) M1) (fun r2 M2 => if r2 = 0 then (some (.inr ((-4 : Int32), M2))) else (cl (fX9_copyRow (0 : Int32) (990 : Int32) M2) (fun r3 M3 => some (.inl (1, [], [x1, (0 : Int32)], M3)))))))
noncomputable def bX9_spread_1 (x1 : Int32) (x2 : Int32) (M : Mm) : Option (Sst ⊕ Rst) := if x1 ≤ x2 then (cl (fX9_extreme (990 : Int32) (1 : Int32) M) (fun r1 M1 => cl (fX9_extreme (990 : Int32) (0 : Int32) M1) (fun r2 M2 => some (.inr ((r1 - r2), M2))))) else (cl (fX9_cycles (990 : Int32) M) (fun r3 M3 => some (.inl (1, [], [x1, (x2 + (1 : Int32))], M3))))
noncomputable def stX9_spread : Sst → Option (Sst ⊕ Rst) := fun q => match q.1 with
  | 0 => bX9_spread_0 (q.2.2.1.getD 0 0) q.2.2.2
  | 1 => bX9_spread_1 (q.2.2.1.getD 0 0) (q.2.2.1.getD 1 0) q.2.2.2
  | _ => none
noncomputable def fX9_spread (x1 : Int32) (M : Mm) : Option Rst := run stX9_spread (0, [], [x1], M)
def PX9_spread (p : Program) (l : Launch) (e : Env) (s : State) (m : MethodId) (args : Array Value) (below : List Frame) (meth : Method) (c : Code) (G : va_G) (ad : Nat → Nat) (cs : Nat → ClassId) (zk : Nat → Nat) (r : Int32) (M' : Mm) (n : Nat) : Prop := (∀ (x1 : Int32) (M : Mm), itr stX9_spread n (0, [], [x1], M) = some (r, M') → AW p l e rmX9_spread s m args below meth c (MQ below (AQi G ad cs r M') args s 0 0 (inA ad)) G ad cs 3 0 [some (.ref (ad 338)), some (.int x1), none] [] M) ∧ (∀ (x1 : Int32) (x2 : Int32) (M : Mm), itr stX9_spread n (1, [], [x1, x2], M) = some (r, M') → AW p l e rmX9_spread s m args below meth c (MQ below (AQi G ad cs r M') args s 0 0 (inA ad)) G ad cs 3 36 [some (.ref (ad 338)), some (.int x1), some (.int x2)] [] M)
set_option maxRecDepth 100000 in
set_option maxHeartbeats 4000000 in
theorem wX9_spread_0 {p : Program} {l : Launch} {e : Env} {s : State} {m : MethodId} {args : Array Value} {below : List Frame} {meth : Method} {c : Code} {G : va_G} {ad : Nat → Nat} {cs : Nat → ClassId} {zk zv : Nat → Nat} {r : Int32} {M' : Mm} {n : Nat} (F : Fx G ad cs zk zv p m meth c cX9_spread 3 (some .int) s args RX9) (IH : PX9_spread p l e s m args below meth c G ad cs zk r M' n) (x1 : Int32) (M : Mm) (h : (bX9_spread_0 x1 M).bind (fun q => match q with | .inl s' => itr stX9_spread n s' | .inr r => some r) = some (r, M'))  : AW p l e rmX9_spread s m args below meth c (MQ below (AQi G ad cs r M') args s 0 0 (inA ad)) G ad cs 3 0 [some (.ref (ad 338)), some (.int x1), none] [] M := by
  unfold bX9_spread_0 at h
  refine ax_iload_n F dX9_spread_0 rfl ?_
  refine ax_i2l F dX9_spread_1 ?_
  refine ax_lconst (v := (0 : Int64)) F dX9_spread_2 (by decide) ?_
  refine ax_ldc2 (v := (60 : Int64)) F kk_X9_218 dX9_spread_3 ?_
  obtain ⟨r1, M1, hq1, h⟩ := cq_some h
  refine ax_callSi (As := [.long (x1).toInt64, .long (0 : Int64), .long (60 : Int64)]) (st := []) F (tX9_in F.2.2.2.2.2.2.1 _ _ _  _ _ _ hq1) kc_X9_in kz_X9 kt_X9_in km_X9_66 ⟨kn_X9_in, rfl, rfl, Nat.le_of_ble_eq_true rfl, Nat.le_of_ble_eq_true rfl⟩ rfl (Nat.le_of_ble_eq_true rfl) dX9_spread_6 ?_
  refine ax_if_ne (t := 15) F dX9_spread_9 (by decide) (fun hc => ?_) (fun hc => ?_)
  · have h := it_neg h hc
    refine ax_aload_n F dX9_spread_15 rfl ?_
    refine ax_iconst (v := (0 : Int32)) F dX9_spread_16 (by decide) ?_
    obtain ⟨r2, M2, hq2, h⟩ := cq_some h
    refine ax_callVi (As := [.int (0 : Int32)]) (st := []) F (tX9_alive F.2.2.2.2.2.2.1 _  _ _ _ hq2) ob_338 rfl kc_X9_alive kz_X9 ki_X9_alive ks_X9_alive km_X9_212 ⟨kn_X9_alive, rfl, rfl, Nat.le_of_ble_eq_true rfl, Nat.le_of_ble_eq_true rfl⟩ rfl (Nat.le_of_ble_eq_true rfl) dX9_spread_17 ?_
    refine ax_if_ne (t := 26) F dX9_spread_20 (by decide) (fun hc => ?_) (fun hc => ?_)
    · have h := it_neg h hc
      refine ax_aload_n F dX9_spread_26 rfl ?_
      refine ax_iconst (v := (0 : Int32)) F dX9_spread_27 (by decide) ?_
      refine ax_sipush (v := (990 : Int32)) F dX9_spread_28 (by decide) ?_
      obtain ⟨r3, M3, hq3, h⟩ := cq_some h
      refine ax_callVv (As := [.int (0 : Int32), .int (990 : Int32)]) (st := []) F (tX9_copyRow F.2.2.2.2.2.2.1 _ _  _ _ _ hq3) ob_338 rfl kc_X9_copyRow kz_X9 ki_X9_copyRow ks_X9_copyRow km_X9_198 ⟨kn_X9_copyRow, rfl, rfl, Nat.le_of_ble_eq_true rfl, Nat.le_of_ble_eq_true rfl⟩ rfl (Nat.le_of_ble_eq_true rfl) dX9_spread_31 ?_
      refine ax_iconst (v := (0 : Int32)) F dX9_spread_34 (by decide) ?_
      refine ax_istore_n F dX9_spread_35 (by decide) rfl ?_
      exact IH.2 _ _ _ h 
    · have h := it_pos h hc
      refine ax_bipush (v := (-4 : Int32)) F dX9_spread_23 (by decide) ?_
      obtain ⟨h1, h2⟩ := rt_some h
      subst h1; subst h2
      exact ax_iret F dX9_spread_25
  · have h := it_pos h hc
    refine ax_bipush (v := (-3 : Int32)) F dX9_spread_12 (by decide) ?_
    obtain ⟨h1, h2⟩ := rt_some h
    subst h1; subst h2
    exact ax_iret F dX9_spread_14
set_option maxRecDepth 100000 in
set_option maxHeartbeats 4000000 in
theorem wX9_spread_1 {p : Program} {l : Launch} {e : Env} {s : State} {m : MethodId} {args : Array Value} {below : List Frame} {meth : Method} {c : Code} {G : va_G} {ad : Nat → Nat} {cs : Nat → ClassId} {zk zv : Nat → Nat} {r : Int32} {M' : Mm} {n : Nat} (F : Fx G ad cs zk zv p m meth c cX9_spread 3 (some .int) s args RX9) (IH : PX9_spread p l e s m args below meth c G ad cs zk r M' n) (x1 : Int32) (x2 : Int32) (M : Mm) (h : (bX9_spread_1 x1 x2 M).bind (fun q => match q with | .inl s' => itr stX9_spread n s' | .inr r => some r) = some (r, M'))  : AW p l e rmX9_spread s m args below meth c (MQ below (AQi G ad cs r M') args s 0 0 (inA ad)) G ad cs 3 36 [some (.ref (ad 338)), some (.int x1), some (.int x2)] [] M := by
  unfold bX9_spread_1 at h
  refine ax_iload_n F dX9_spread_36 rfl ?_
  refine ax_iload_n F dX9_spread_37 rfl ?_
  refine ax_icmp_ge (t := 54) F dX9_spread_38 (by decide) (fun hc => ?_) (fun hc => ?_)
  · have h := it_pos h hc
    refine ax_aload_n F dX9_spread_54 rfl ?_
    refine ax_sipush (v := (990 : Int32)) F dX9_spread_55 (by decide) ?_
    refine ax_iconst (v := (1 : Int32)) F dX9_spread_58 (by decide) ?_
    obtain ⟨r1, M1, hq1, h⟩ := cq_some h
    refine ax_callVi (As := [.int (990 : Int32), .int (1 : Int32)]) (st := []) F (tX9_extreme F.2.2.2.2.2.2.1 _ _  _ _ _ hq1) ob_338 rfl kc_X9_extreme kz_X9 ki_X9_extreme ks_X9_extreme km_X9_220 ⟨kn_X9_extreme, rfl, rfl, Nat.le_of_ble_eq_true rfl, Nat.le_of_ble_eq_true rfl⟩ rfl (Nat.le_of_ble_eq_true rfl) dX9_spread_59 ?_
    refine ax_aload_n F dX9_spread_62 rfl ?_
    refine ax_sipush (v := (990 : Int32)) F dX9_spread_63 (by decide) ?_
    refine ax_iconst (v := (0 : Int32)) F dX9_spread_66 (by decide) ?_
    obtain ⟨r2, M2, hq2, h⟩ := cq_some h
    refine ax_callVi (As := [.int (990 : Int32), .int (0 : Int32)]) (st := [.int r1]) F (tX9_extreme F.2.2.2.2.2.2.1 _ _  _ _ _ hq2) ob_338 rfl kc_X9_extreme kz_X9 ki_X9_extreme ks_X9_extreme km_X9_220 ⟨kn_X9_extreme, rfl, rfl, Nat.le_of_ble_eq_true rfl, Nat.le_of_ble_eq_true rfl⟩ rfl (Nat.le_of_ble_eq_true rfl) dX9_spread_67 ?_
    refine ax_isub F dX9_spread_70 ?_
    obtain ⟨h1, h2⟩ := rt_some h
    subst h1; subst h2
    exact ax_iret F dX9_spread_71
  · have h := it_neg h hc
    refine ax_aload_n F dX9_spread_41 rfl ?_
    refine ax_sipush (v := (990 : Int32)) F dX9_spread_42 (by decide) ?_
    obtain ⟨r3, M3, hq3, h⟩ := cq_some h
    refine ax_callVv (As := [.int (990 : Int32)]) (st := []) F (tX9_cycles F.2.2.2.2.2.2.1 _  _ _ _ hq3) ob_338 rfl kc_X9_cycles kz_X9 ki_X9_cycles ks_X9_cycles km_X9_206 ⟨kn_X9_cycles, rfl, rfl, Nat.le_of_ble_eq_true rfl, Nat.le_of_ble_eq_true rfl⟩ rfl (Nat.le_of_ble_eq_true rfl) dX9_spread_45 ?_
    refine ax_iinc (v := (1 : Int32)) F dX9_spread_48 rfl (by decide) (by decide) rfl ?_
    refine ax_goto (t := 36) F dX9_spread_51 (by decide) ?_
    exact IH.2 _ _ _ h 
set_option maxRecDepth 100000 in
set_option maxHeartbeats 4000000 in
theorem wX9_spread {p : Program} {l : Launch} {e : Env} {s : State} {m : MethodId} {args : Array Value} {below : List Frame} {meth : Method} {c : Code} {G : va_G} {ad : Nat → Nat} {cs : Nat → ClassId} {zk zv : Nat → Nat} {r : Int32} {M' : Mm} (F : Fx G ad cs zk zv p m meth c cX9_spread 3 (some .int) s args RX9) (n : Nat) : PX9_spread p l e s m args below meth c G ad cs zk r M' n := by
  induction n with
  | zero => exact ⟨(fun x1 M h => by cases h), (fun x1 x2 M h => by cases h)⟩
  | succ n ih =>
    exact ⟨fun x1 M h  => wX9_spread_0 F ih x1 M h ,
      fun x1 x2 M h  => wX9_spread_1 F ih x1 x2 M h ⟩
set_option maxRecDepth 100000 in
set_option maxHeartbeats 4000000 in
theorem tX9_spread {l : Launch} {G : va_G} {ad : Nat → Nat} {cs : Nat → ClassId} {zk zv : Nat → Nat} (hinj : inj ad) (x1 : Int32)  (M : Mm) (r : Int32) (M' : Mm) (h : fX9_spread x1 M = some (r, M')) : Met l yX9_spread (tgW yX9_spread cX9_spread 3 (some .int)) rmX9_spread (APre G ad cs zk zv [.ref (ad 338), .int x1] M) (AQi G ad cs r M') 0 0 (inA ad) := by
  refine met_of (Eq.refl true) (Nat.le_of_ble_eq_true rfl) hinj [some (.ref (ad 338)), some (.int x1), none] rfl ?_
  intro p e s m below meth c F
  replace F : Fx G ad cs zk zv p m meth c cX9_spread 3 (some .int) s _ RX9 := F
  obtain ⟨n, hn⟩ := run_ex h
  exact (wX9_spread F n).1 x1 M hn 
def rmX9_far : Room := { frames := 2, cells := 0, slots := 0, locals := 46 }
theorem kn_X9_far : yX9_far.cls ≠ "java/lang/invoke/MethodHandle" ∧ yX9_far.cls ≠ "java/lang/invoke/VarHandle" ∧ (parseMethodDescriptor yX9_far.desc).map (fun d => d.parameters.length) = some 2 := by decide +kernel
noncomputable def bX9_far_0 (x1 : Int32) (x2 : Int32) (M : Mm) : Option (Sst ⊕ Rst) := cl (fX9_isNode x1 M) (fun r1 M1 => if r1 = 0 then (some (.inr ((-2 : Int32), M1))) else (cl (fX9_isNode x2 M1) (fun r2 M2 => if r2 = 0 then (some (.inr ((-2 : Int32), M2))) else (if x1 = x2 then (some (.inr ((-2 : Int32), M2))) else (cl (fX9_isDead (0 : Int32) x1 M2) (fun r3 M3 => if r3 = 0 then (cl (fX9_isDead (0 : Int32) x2 M3) (fun r4 M4 => if r4 = 0 then (some (.inl (1, [], [x2, (ish (1 : Int32) x1), (1 : Int32)], M4))) else (some (.inr ((-4 : Int32), M4))))) else (some (.inr ((-4 : Int32), M3)))))))))
noncomputable def bX9_far_1 (x2 : Int32) (x3 : Int32) (x4 : Int32) (M : Mm) : Option (Sst ⊕ Rst) := if (M 338 1) ≤ x4 then (some (.inr ((-1 : Int32), M))) else (some (.inl (2, [], [x2, x3, x4, x3, (0 : Int32)], M)))
noncomputable def bX9_far_2 (x2 : Int32) (x3 : Int32) (x4 : Int32) (x5 : Int32) (x6 : Int32) (M : Mm) : Option (Sst ⊕ Rst) := if (M 338 1) ≤ x6 then (cl (fX9_has x5 x2 M) (fun r1 M1 => if r1 = 0 then (some (.inl (1, [], [x2, x5, (x4 + (1 : Int32))], M1))) else (some (.inr (x4, M1))))) else (cl (fX9_has x3 x6 M) (fun r2 M2 => if r2 = 0 then (some (.inl (2, [], [x2, x3, x4, (x5 ||| (0 : Int32)), (x6 + (1 : Int32))], M2))) else (cl (fX9_viewOf x6 M2) (fun r3 M3 => cl (fX9_alive (0 : Int32) M3) (fun r4 M4 => some (.inl (2, [], [x2, x3, x4, (x5 ||| (r3 &&& r4)), (x6 + (1 : Int32))], M4)))))))
noncomputable def stX9_far : Sst → Option (Sst ⊕ Rst) := fun q => match q.1 with
  | 0 => bX9_far_0 (q.2.2.1.getD 0 0) (q.2.2.1.getD 1 0) q.2.2.2
  | 1 => bX9_far_1 (q.2.2.1.getD 0 0) (q.2.2.1.getD 1 0) (q.2.2.1.getD 2 0) q.2.2.2
  | 2 => bX9_far_2 (q.2.2.1.getD 0 0) (q.2.2.1.getD 1 0) (q.2.2.1.getD 2 0) (q.2.2.1.getD 3 0) (q.2.2.1.getD 4 0) q.2.2.2
  | _ => none
noncomputable def fX9_far (x1 : Int32) (x2 : Int32) (M : Mm) : Option Rst := run stX9_far (0, [], [x1, x2], M)
def PX9_far (p : Program) (l : Launch) (e : Env) (s : State) (m : MethodId) (args : Array Value) (below : List Frame) (meth : Method) (c : Code) (G : va_G) (ad : Nat → Nat) (cs : Nat → ClassId) (zk : Nat → Nat) (r : Int32) (M' : Mm) (n : Nat) : Prop := (∀ (x1 : Int32) (x2 : Int32) (M : Mm), itr stX9_far n (0, [], [x1, x2], M) = some (r, M') → AW p l e rmX9_far s m args below meth c (MQ below (AQi G ad cs r M') args s 0 0 (inA ad)) G ad cs 7 0 [some (.ref (ad 338)), some (.int x1), some (.int x2), none, none, none, none] [] M) ∧ (∀ (x2 : Int32) (x3 : Int32) (x4 : Int32) (M : Mm), itr stX9_far n (1, [], [x2, x3, x4], M) = some (r, M') → AW p l e rmX9_far s m args below meth c (MQ below (AQi G ad cs r M') args s 0 0 (inA ad)) G ad cs 7 52 [some (.ref (ad 338)), none, some (.int x2), some (.int x3), some (.int x4), none, none] [] M) ∧ (∀ (x2 : Int32) (x3 : Int32) (x4 : Int32) (x5 : Int32) (x6 : Int32) (M : Mm), itr stX9_far n (2, [], [x2, x3, x4, x5, x6], M) = some (r, M') → AW p l e rmX9_far s m args below meth c (MQ below (AQi G ad cs r M') args s 0 0 (inA ad)) G ad cs 7 67 [some (.ref (ad 338)), none, some (.int x2), some (.int x3), some (.int x4), some (.int x5), some (.int x6)] [] M)
set_option maxRecDepth 100000 in
set_option maxHeartbeats 4000000 in
theorem wX9_far_0 {p : Program} {l : Launch} {e : Env} {s : State} {m : MethodId} {args : Array Value} {below : List Frame} {meth : Method} {c : Code} {G : va_G} {ad : Nat → Nat} {cs : Nat → ClassId} {zk zv : Nat → Nat} {r : Int32} {M' : Mm} {n : Nat} (F : Fx G ad cs zk zv p m meth c cX9_far 7 (some .int) s args RX9) (IH : PX9_far p l e s m args below meth c G ad cs zk r M' n) (x1 : Int32) (x2 : Int32) (M : Mm) (h : (bX9_far_0 x1 x2 M).bind (fun q => match q with | .inl s' => itr stX9_far n s' | .inr r => some r) = some (r, M'))  : AW p l e rmX9_far s m args below meth c (MQ below (AQi G ad cs r M') args s 0 0 (inA ad)) G ad cs 7 0 [some (.ref (ad 338)), some (.int x1), some (.int x2), none, none, none, none] [] M := by
  unfold bX9_far_0 at h
  refine ax_aload_n F dX9_far_0 rfl ?_
  refine ax_iload_n F dX9_far_1 rfl ?_
  obtain ⟨r1, M1, hq1, h⟩ := cq_some h
  refine ax_callVi (As := [.int x1]) (st := []) F (tX9_isNode F.2.2.2.2.2.2.1 _  _ _ _ hq1) ob_338 rfl kc_X9_isNode kz_X9 ki_X9_isNode ks_X9_isNode km_X9_188 ⟨kn_X9_isNode, rfl, rfl, Nat.le_of_ble_eq_true rfl, Nat.le_of_ble_eq_true rfl⟩ rfl (Nat.le_of_ble_eq_true rfl) dX9_far_2 ?_
  refine ax_if_eq (t := 21) F dX9_far_5 (by decide) (fun hc => ?_) (fun hc => ?_)
  · have h := it_pos h hc
    refine ax_bipush (v := (-2 : Int32)) F dX9_far_21 (by decide) ?_
    obtain ⟨h1, h2⟩ := rt_some h
    subst h1; subst h2
    exact ax_iret F dX9_far_23
  · have h := it_neg h hc
    refine ax_aload_n F dX9_far_8 rfl ?_
    refine ax_iload_n F dX9_far_9 rfl ?_
    obtain ⟨r2, M2, hq2, h⟩ := cq_some h
    refine ax_callVi (As := [.int x2]) (st := []) F (tX9_isNode F.2.2.2.2.2.2.1 _  _ _ _ hq2) ob_338 rfl kc_X9_isNode kz_X9 ki_X9_isNode ks_X9_isNode km_X9_188 ⟨kn_X9_isNode, rfl, rfl, Nat.le_of_ble_eq_true rfl, Nat.le_of_ble_eq_true rfl⟩ rfl (Nat.le_of_ble_eq_true rfl) dX9_far_10 ?_
    refine ax_if_eq (t := 21) F dX9_far_13 (by decide) (fun hc => ?_) (fun hc => ?_)
    · have h := it_pos h hc
      refine ax_bipush (v := (-2 : Int32)) F dX9_far_21 (by decide) ?_
      obtain ⟨h1, h2⟩ := rt_some h
      subst h1; subst h2
      exact ax_iret F dX9_far_23
    · have h := it_neg h hc
      refine ax_iload_n F dX9_far_16 rfl ?_
      refine ax_iload_n F dX9_far_17 rfl ?_
      refine ax_icmp_ne (t := 24) F dX9_far_18 (by decide) (fun hc => ?_) (fun hc => ?_)
      · have h := it_neg h hc
        refine ax_aload_n F dX9_far_24 rfl ?_
        refine ax_iconst (v := (0 : Int32)) F dX9_far_25 (by decide) ?_
        refine ax_iload_n F dX9_far_26 rfl ?_
        obtain ⟨r3, M3, hq3, h⟩ := cq_some h
        refine ax_callVi (As := [.int (0 : Int32), .int x1]) (st := []) F (tX9_isDead F.2.2.2.2.2.2.1 _ _  _ _ _ hq3) ob_338 rfl kc_X9_isDead kz_X9 ki_X9_isDead ks_X9_isDead km_X9_176 ⟨kn_X9_isDead, rfl, rfl, Nat.le_of_ble_eq_true rfl, Nat.le_of_ble_eq_true rfl⟩ rfl (Nat.le_of_ble_eq_true rfl) dX9_far_27 ?_
        refine ax_if_ne (t := 42) F dX9_far_30 (by decide) (fun hc => ?_) (fun hc => ?_)
        · have h := it_neg h hc
          refine ax_bipush (v := (-4 : Int32)) F dX9_far_42 (by decide) ?_
          obtain ⟨h1, h2⟩ := rt_some h
          subst h1; subst h2
          exact ax_iret F dX9_far_44
        · have h := it_pos h hc
          refine ax_aload_n F dX9_far_33 rfl ?_
          refine ax_iconst (v := (0 : Int32)) F dX9_far_34 (by decide) ?_
          refine ax_iload_n F dX9_far_35 rfl ?_
          obtain ⟨r4, M4, hq4, h⟩ := cq_some h
          refine ax_callVi (As := [.int (0 : Int32), .int x2]) (st := []) F (tX9_isDead F.2.2.2.2.2.2.1 _ _  _ _ _ hq4) ob_338 rfl kc_X9_isDead kz_X9 ki_X9_isDead ks_X9_isDead km_X9_176 ⟨kn_X9_isDead, rfl, rfl, Nat.le_of_ble_eq_true rfl, Nat.le_of_ble_eq_true rfl⟩ rfl (Nat.le_of_ble_eq_true rfl) dX9_far_36 ?_
          refine ax_if_eq (t := 45) F dX9_far_39 (by decide) (fun hc => ?_) (fun hc => ?_)
          · have h := it_pos h hc
            refine ax_iconst (v := (1 : Int32)) F dX9_far_45 (by decide) ?_
            refine ax_iload_n F dX9_far_46 rfl ?_
            refine ax_ishl F dX9_far_47 ?_
            refine ax_istore_n F dX9_far_48 (by decide) rfl ?_
            refine ax_iconst (v := (1 : Int32)) F dX9_far_49 (by decide) ?_
            refine ax_istore F dX9_far_50 (by decide) rfl ?_
            refine ax_mask [true, false, true, true, true, false, false] ?_
            exact IH.2.1 _ _ _ _ h 
          · have h := it_neg h hc
            refine ax_bipush (v := (-4 : Int32)) F dX9_far_42 (by decide) ?_
            obtain ⟨h1, h2⟩ := rt_some h
            subst h1; subst h2
            exact ax_iret F dX9_far_44
      · have h := it_pos h hc
        refine ax_bipush (v := (-2 : Int32)) F dX9_far_21 (by decide) ?_
        obtain ⟨h1, h2⟩ := rt_some h
        subst h1; subst h2
        exact ax_iret F dX9_far_23
set_option maxRecDepth 100000 in
set_option maxHeartbeats 4000000 in
theorem wX9_far_1 {p : Program} {l : Launch} {e : Env} {s : State} {m : MethodId} {args : Array Value} {below : List Frame} {meth : Method} {c : Code} {G : va_G} {ad : Nat → Nat} {cs : Nat → ClassId} {zk zv : Nat → Nat} {r : Int32} {M' : Mm} {n : Nat} (F : Fx G ad cs zk zv p m meth c cX9_far 7 (some .int) s args RX9) (IH : PX9_far p l e s m args below meth c G ad cs zk r M' n) (x2 : Int32) (x3 : Int32) (x4 : Int32) (M : Mm) (h : (bX9_far_1 x2 x3 x4 M).bind (fun q => match q with | .inl s' => itr stX9_far n s' | .inr r => some r) = some (r, M'))  : AW p l e rmX9_far s m args below meth c (MQ below (AQi G ad cs r M') args s 0 0 (inA ad)) G ad cs 7 52 [some (.ref (ad 338)), none, some (.int x2), some (.int x3), some (.int x4), none, none] [] M := by
  unfold bX9_far_1 at h
  refine ax_iload F dX9_far_52 rfl ?_
  refine ax_aload_n F dX9_far_54 rfl ?_
  refine ax_get (v := .int (M 338 1)) F ob_338 rfl inGX9 1 (by decide) rfl kf_X9_48 rfl dX9_far_55 ?_
  refine ax_icmp_ge (t := 132) F dX9_far_58 (by decide) (fun hc => ?_) (fun hc => ?_)
  · have h := it_pos h hc
    refine ax_iconst (v := (-1 : Int32)) F dX9_far_132 (by decide) ?_
    obtain ⟨h1, h2⟩ := rt_some h
    subst h1; subst h2
    exact ax_iret F dX9_far_133
  · have h := it_neg h hc
    refine ax_iload_n F dX9_far_61 rfl ?_
    refine ax_istore F dX9_far_62 (by decide) rfl ?_
    refine ax_iconst (v := (0 : Int32)) F dX9_far_64 (by decide) ?_
    refine ax_istore F dX9_far_65 (by decide) rfl ?_
    exact IH.2.2 _ _ _ _ _ _ h 
set_option maxRecDepth 100000 in
set_option maxHeartbeats 4000000 in
theorem wX9_far_2 {p : Program} {l : Launch} {e : Env} {s : State} {m : MethodId} {args : Array Value} {below : List Frame} {meth : Method} {c : Code} {G : va_G} {ad : Nat → Nat} {cs : Nat → ClassId} {zk zv : Nat → Nat} {r : Int32} {M' : Mm} {n : Nat} (F : Fx G ad cs zk zv p m meth c cX9_far 7 (some .int) s args RX9) (IH : PX9_far p l e s m args below meth c G ad cs zk r M' n) (x2 : Int32) (x3 : Int32) (x4 : Int32) (x5 : Int32) (x6 : Int32) (M : Mm) (h : (bX9_far_2 x2 x3 x4 x5 x6 M).bind (fun q => match q with | .inl s' => itr stX9_far n s' | .inr r => some r) = some (r, M'))  : AW p l e rmX9_far s m args below meth c (MQ below (AQi G ad cs r M') args s 0 0 (inA ad)) G ad cs 7 67 [some (.ref (ad 338)), none, some (.int x2), some (.int x3), some (.int x4), some (.int x5), some (.int x6)] [] M := by
  unfold bX9_far_2 at h
  refine ax_iload F dX9_far_67 rfl ?_
  refine ax_aload_n F dX9_far_69 rfl ?_
  refine ax_get (v := .int (M 338 1)) F ob_338 rfl inGX9 1 (by decide) rfl kf_X9_48 rfl dX9_far_70 ?_
  refine ax_icmp_ge (t := 112) F dX9_far_73 (by decide) (fun hc => ?_) (fun hc => ?_)
  · have h := it_pos h hc
    refine ax_iload F dX9_far_112 rfl ?_
    refine ax_istore_n F dX9_far_114 (by decide) rfl ?_
    refine ax_iload_n F dX9_far_115 rfl ?_
    refine ax_iload_n F dX9_far_116 rfl ?_
    obtain ⟨r1, M1, hq1, h⟩ := cq_some h
    refine ax_callSi (As := [.int x5, .int x2]) (st := []) F (tX9_has F.2.2.2.2.2.2.1 _ _  _ _ _ hq1) kc_X9_has kz_X9 kt_X9_has km_X9_152 ⟨kn_X9_has, rfl, rfl, Nat.le_of_ble_eq_true rfl, Nat.le_of_ble_eq_true rfl⟩ rfl (Nat.le_of_ble_eq_true rfl) dX9_far_117 ?_
    refine ax_if_eq (t := 126) F dX9_far_120 (by decide) (fun hc => ?_) (fun hc => ?_)
    · have h := it_pos h hc
      refine ax_iinc (v := (1 : Int32)) F dX9_far_126 rfl (by decide) (by decide) rfl ?_
      refine ax_goto (t := 52) F dX9_far_129 (by decide) ?_
      refine ax_mask [true, false, true, true, true, false, false] ?_
      exact IH.2.1 _ _ _ _ h 
    · have h := it_neg h hc
      refine ax_iload F dX9_far_123 rfl ?_
      obtain ⟨h1, h2⟩ := rt_some h
      subst h1; subst h2
      exact ax_iret F dX9_far_125
  · have h := it_neg h hc
    refine ax_iload F dX9_far_76 rfl ?_
    refine ax_iload_n F dX9_far_78 rfl ?_
    refine ax_iload F dX9_far_79 rfl ?_
    obtain ⟨r2, M2, hq2, h⟩ := cq_some h
    refine ax_callSi (As := [.int x3, .int x6]) (st := [.int x5]) F (tX9_has F.2.2.2.2.2.2.1 _ _  _ _ _ hq2) kc_X9_has kz_X9 kt_X9_has km_X9_152 ⟨kn_X9_has, rfl, rfl, Nat.le_of_ble_eq_true rfl, Nat.le_of_ble_eq_true rfl⟩ rfl (Nat.le_of_ble_eq_true rfl) dX9_far_81 ?_
    refine ax_if_eq (t := 102) F dX9_far_84 (by decide) (fun hc => ?_) (fun hc => ?_)
    · have h := it_pos h hc
      refine ax_iconst (v := (0 : Int32)) F dX9_far_102 (by decide) ?_
      refine ax_ior F dX9_far_103 ?_
      refine ax_istore F dX9_far_104 (by decide) rfl ?_
      refine ax_iinc (v := (1 : Int32)) F dX9_far_106 rfl (by decide) (by decide) rfl ?_
      refine ax_goto (t := 67) F dX9_far_109 (by decide) ?_
      exact IH.2.2 _ _ _ _ _ _ h 
    · have h := it_neg h hc
      refine ax_aload_n F dX9_far_87 rfl ?_
      refine ax_iload F dX9_far_88 rfl ?_
      obtain ⟨r3, M3, hq3, h⟩ := cq_some h
      refine ax_callVi (As := [.int x6]) (st := [.int x5]) F (tX9_viewOf F.2.2.2.2.2.2.1 _  _ _ _ hq3) ob_338 rfl kc_X9_viewOf kz_X9 ki_X9_viewOf ks_X9_viewOf km_X9_194 ⟨kn_X9_viewOf, rfl, rfl, Nat.le_of_ble_eq_true rfl, Nat.le_of_ble_eq_true rfl⟩ rfl (Nat.le_of_ble_eq_true rfl) dX9_far_90 ?_
      refine ax_aload_n F dX9_far_93 rfl ?_
      refine ax_iconst (v := (0 : Int32)) F dX9_far_94 (by decide) ?_
      obtain ⟨r4, M4, hq4, h⟩ := cq_some h
      refine ax_callVi (As := [.int (0 : Int32)]) (st := [.int r3, .int x5]) F (tX9_alive F.2.2.2.2.2.2.1 _  _ _ _ hq4) ob_338 rfl kc_X9_alive kz_X9 ki_X9_alive ks_X9_alive km_X9_212 ⟨kn_X9_alive, rfl, rfl, Nat.le_of_ble_eq_true rfl, Nat.le_of_ble_eq_true rfl⟩ rfl (Nat.le_of_ble_eq_true rfl) dX9_far_95 ?_
      refine ax_iand F dX9_far_98 ?_
      refine ax_goto (t := 103) F dX9_far_99 (by decide) ?_
      refine ax_ior F dX9_far_103 ?_
      refine ax_istore F dX9_far_104 (by decide) rfl ?_
      refine ax_iinc (v := (1 : Int32)) F dX9_far_106 rfl (by decide) (by decide) rfl ?_
      refine ax_goto (t := 67) F dX9_far_109 (by decide) ?_
      exact IH.2.2 _ _ _ _ _ _ h 
set_option maxRecDepth 100000 in
set_option maxHeartbeats 4000000 in
theorem wX9_far {p : Program} {l : Launch} {e : Env} {s : State} {m : MethodId} {args : Array Value} {below : List Frame} {meth : Method} {c : Code} {G : va_G} {ad : Nat → Nat} {cs : Nat → ClassId} {zk zv : Nat → Nat} {r : Int32} {M' : Mm} (F : Fx G ad cs zk zv p m meth c cX9_far 7 (some .int) s args RX9) (n : Nat) : PX9_far p l e s m args below meth c G ad cs zk r M' n := by
  induction n with
  | zero => exact ⟨(fun x1 x2 M h => by cases h), (fun x2 x3 x4 M h => by cases h), (fun x2 x3 x4 x5 x6 M h => by cases h)⟩
  | succ n ih =>
    exact ⟨fun x1 x2 M h  => wX9_far_0 F ih x1 x2 M h ,
      fun x2 x3 x4 M h  => wX9_far_1 F ih x2 x3 x4 M h ,
      fun x2 x3 x4 x5 x6 M h  => wX9_far_2 F ih x2 x3 x4 x5 x6 M h ⟩
set_option maxRecDepth 100000 in
set_option maxHeartbeats 4000000 in
theorem tX9_far {l : Launch} {G : va_G} {ad : Nat → Nat} {cs : Nat → ClassId} {zk zv : Nat → Nat} (hinj : inj ad) (x1 : Int32) (x2 : Int32)  (M : Mm) (r : Int32) (M' : Mm) (h : fX9_far x1 x2 M = some (r, M')) : Met l yX9_far (tgW yX9_far cX9_far 7 (some .int)) rmX9_far (APre G ad cs zk zv [.ref (ad 338), .int x1, .int x2] M) (AQi G ad cs r M') 0 0 (inA ad) := by
  refine met_of (Eq.refl true) (Nat.le_of_ble_eq_true rfl) hinj [some (.ref (ad 338)), some (.int x1), some (.int x2), none, none, none, none] rfl ?_
  intro p e s m below meth c F
  replace F : Fx G ad cs zk zv p m meth c cX9_far 7 (some .int) s _ RX9 := F
  obtain ⟨n, hn⟩ := run_ex h
  exact (wX9_far F n).1 x1 x2 M hn 
def rmX9_parts : Room := { frames := 1, cells := 0, slots := 0, locals := 23 }
theorem kn_X9_parts : yX9_parts.cls ≠ "java/lang/invoke/MethodHandle" ∧ yX9_parts.cls ≠ "java/lang/invoke/VarHandle" ∧ (parseMethodDescriptor yX9_parts.desc).map (fun d => d.parameters.length) = some 0 := by decide +kernel
noncomputable def bX9_parts_0  (M : Mm) : Option (Sst ⊕ Rst) := cl (fX9_alive (0 : Int32) M) (fun r1 M1 => some (.inl (1, [], [r1, (0 : Int32)], M1)))
noncomputable def bX9_parts_1 (x1 : Int32) (x2 : Int32) (M : Mm) : Option (Sst ⊕ Rst) := if x1 = 0 then (some (.inr (x2, M))) else (some (.inl (2, [], [x1, x2, (x1 &&& (-x1)), (0 : Int32)], M)))
noncomputable def bX9_parts_2 (x1 : Int32) (x2 : Int32) (x3 : Int32) (x4 : Int32) (M : Mm) : Option (Sst ⊕ Rst) := if (M 338 1) ≤ x4 then (some (.inl (1, [], [(x1 &&& (x3 ^^^ (-1 : Int32))), (x2 + (1 : Int32))], M))) else (some (.inl (3, [], [x1, x2, x3, x4, (0 : Int32)], M)))
noncomputable def bX9_parts_3 (x1 : Int32) (x2 : Int32) (x3 : Int32) (x4 : Int32) (x5 : Int32) (M : Mm) : Option (Sst ⊕ Rst) := if (M 338 1) ≤ x5 then (some (.inl (2, [], [x1, x2, x3, (x4 + (1 : Int32))], M))) else (cl (fX9_viewOf x5 M) (fun r1 M1 => cl (fX9_alive (0 : Int32) M1) (fun r2 M2 => cl (fX9_has x3 x5 M2) (fun r3 M3 => if r3 = 0 then (some (.inl (4, [], [x1, x2, x4, x5, (r1 &&& r2), (0 : Int32), x3], M3))) else (some (.inl (4, [], [x1, x2, x4, x5, (r1 &&& r2), (r1 &&& r2), x3], M3)))))))
noncomputable def bX9_parts_4 (x1 : Int32) (x2 : Int32) (x4 : Int32) (x5 : Int32) (x6 : Int32) (s0 : Int32) (s1 : Int32) (M : Mm) : Option (Sst ⊕ Rst) := cl (fX9_alive (0 : Int32) M) (fun r1 M1 => cl (fX9_has r1 x5 M1) (fun r2 M2 => if r2 = 0 then (some (.inl (3, [], [x1, x2, ((s1 ||| s0) ||| (0 : Int32)), x4, (x5 + (1 : Int32))], M2))) else (if (x6 &&& (s1 ||| s0)) = 0 then (some (.inl (3, [], [x1, x2, ((s1 ||| s0) ||| (0 : Int32)), x4, (x5 + (1 : Int32))], M2))) else (some (.inl (3, [], [x1, x2, ((s1 ||| s0) ||| (ish (1 : Int32) x5)), x4, (x5 + (1 : Int32))], M2))))))
noncomputable def stX9_parts : Sst → Option (Sst ⊕ Rst) := fun q => match q.1 with
  | 0 => bX9_parts_0  q.2.2.2
  | 1 => bX9_parts_1 (q.2.2.1.getD 0 0) (q.2.2.1.getD 1 0) q.2.2.2
  | 2 => bX9_parts_2 (q.2.2.1.getD 0 0) (q.2.2.1.getD 1 0) (q.2.2.1.getD 2 0) (q.2.2.1.getD 3 0) q.2.2.2
  | 3 => bX9_parts_3 (q.2.2.1.getD 0 0) (q.2.2.1.getD 1 0) (q.2.2.1.getD 2 0) (q.2.2.1.getD 3 0) (q.2.2.1.getD 4 0) q.2.2.2
  | 4 => bX9_parts_4 (q.2.2.1.getD 0 0) (q.2.2.1.getD 1 0) (q.2.2.1.getD 2 0) (q.2.2.1.getD 3 0) (q.2.2.1.getD 4 0) (q.2.2.1.getD 5 0) (q.2.2.1.getD 6 0) q.2.2.2
  | _ => none
noncomputable def fX9_parts  (M : Mm) : Option Rst := run stX9_parts (0, [], [], M)
def PX9_parts (p : Program) (l : Launch) (e : Env) (s : State) (m : MethodId) (args : Array Value) (below : List Frame) (meth : Method) (c : Code) (G : va_G) (ad : Nat → Nat) (cs : Nat → ClassId) (zk : Nat → Nat) (r : Int32) (M' : Mm) (n : Nat) : Prop := (∀  (M : Mm), itr stX9_parts n (0, [], [], M) = some (r, M') → AW p l e rmX9_parts s m args below meth c (MQ below (AQi G ad cs r M') args s 0 0 (inA ad)) G ad cs 8 0 [some (.ref (ad 338)), none, none, none, none, none, none, none] [] M) ∧ (∀ (x1 : Int32) (x2 : Int32) (M : Mm), itr stX9_parts n (1, [], [x1, x2], M) = some (r, M') → AW p l e rmX9_parts s m args below meth c (MQ below (AQi G ad cs r M') args s 0 0 (inA ad)) G ad cs 8 8 [some (.ref (ad 338)), some (.int x1), some (.int x2), none, none, none, none, none] [] M) ∧ (∀ (x1 : Int32) (x2 : Int32) (x3 : Int32) (x4 : Int32) (M : Mm), itr stX9_parts n (2, [], [x1, x2, x3, x4], M) = some (r, M') → AW p l e rmX9_parts s m args below meth c (MQ below (AQi G ad cs r M') args s 0 0 (inA ad)) G ad cs 8 20 [some (.ref (ad 338)), some (.int x1), some (.int x2), some (.int x3), some (.int x4), none, none, none] [] M) ∧ (∀ (x1 : Int32) (x2 : Int32) (x3 : Int32) (x4 : Int32) (x5 : Int32) (M : Mm), itr stX9_parts n (3, [], [x1, x2, x3, x4, x5], M) = some (r, M') → AW p l e rmX9_parts s m args below meth c (MQ below (AQi G ad cs r M') args s 0 0 (inA ad)) G ad cs 8 32 [some (.ref (ad 338)), some (.int x1), some (.int x2), some (.int x3), some (.int x4), some (.int x5), none, none] [] M) ∧ (∀ (x1 : Int32) (x2 : Int32) (x4 : Int32) (x5 : Int32) (x6 : Int32) (s0 : Int32) (s1 : Int32) (M : Mm), itr stX9_parts n (4, [], [x1, x2, x4, x5, x6, s0, s1], M) = some (r, M') → AW p l e rmX9_parts s m args below meth c (MQ below (AQi G ad cs r M') args s 0 0 (inA ad)) G ad cs 8 75 [some (.ref (ad 338)), some (.int x1), some (.int x2), none, some (.int x4), some (.int x5), some (.int x6), none] [.int s0, .int s1] M)
set_option maxRecDepth 100000 in
set_option maxHeartbeats 4000000 in
theorem wX9_parts_0 {p : Program} {l : Launch} {e : Env} {s : State} {m : MethodId} {args : Array Value} {below : List Frame} {meth : Method} {c : Code} {G : va_G} {ad : Nat → Nat} {cs : Nat → ClassId} {zk zv : Nat → Nat} {r : Int32} {M' : Mm} {n : Nat} (F : Fx G ad cs zk zv p m meth c cX9_parts 8 (some .int) s args RX9) (IH : PX9_parts p l e s m args below meth c G ad cs zk r M' n)  (M : Mm) (h : (bX9_parts_0  M).bind (fun q => match q with | .inl s' => itr stX9_parts n s' | .inr r => some r) = some (r, M'))  : AW p l e rmX9_parts s m args below meth c (MQ below (AQi G ad cs r M') args s 0 0 (inA ad)) G ad cs 8 0 [some (.ref (ad 338)), none, none, none, none, none, none, none] [] M := by
  unfold bX9_parts_0 at h
  refine ax_aload_n F dX9_parts_0 rfl ?_
  refine ax_iconst (v := (0 : Int32)) F dX9_parts_1 (by decide) ?_
  obtain ⟨r1, M1, hq1, h⟩ := cq_some h
  refine ax_callVi (As := [.int (0 : Int32)]) (st := []) F (tX9_alive F.2.2.2.2.2.2.1 _  _ _ _ hq1) ob_338 rfl kc_X9_alive kz_X9 ki_X9_alive ks_X9_alive km_X9_212 ⟨kn_X9_alive, rfl, rfl, Nat.le_of_ble_eq_true rfl, Nat.le_of_ble_eq_true rfl⟩ rfl (Nat.le_of_ble_eq_true rfl) dX9_parts_2 ?_
  refine ax_istore_n F dX9_parts_5 (by decide) rfl ?_
  refine ax_iconst (v := (0 : Int32)) F dX9_parts_6 (by decide) ?_
  refine ax_istore_n F dX9_parts_7 (by decide) rfl ?_
  exact IH.2.1 _ _ _ h 
set_option maxRecDepth 100000 in
set_option maxHeartbeats 4000000 in
theorem wX9_parts_1 {p : Program} {l : Launch} {e : Env} {s : State} {m : MethodId} {args : Array Value} {below : List Frame} {meth : Method} {c : Code} {G : va_G} {ad : Nat → Nat} {cs : Nat → ClassId} {zk zv : Nat → Nat} {r : Int32} {M' : Mm} {n : Nat} (F : Fx G ad cs zk zv p m meth c cX9_parts 8 (some .int) s args RX9) (IH : PX9_parts p l e s m args below meth c G ad cs zk r M' n) (x1 : Int32) (x2 : Int32) (M : Mm) (h : (bX9_parts_1 x1 x2 M).bind (fun q => match q with | .inl s' => itr stX9_parts n s' | .inr r => some r) = some (r, M'))  : AW p l e rmX9_parts s m args below meth c (MQ below (AQi G ad cs r M') args s 0 0 (inA ad)) G ad cs 8 8 [some (.ref (ad 338)), some (.int x1), some (.int x2), none, none, none, none, none] [] M := by
  unfold bX9_parts_1 at h
  refine ax_iload_n F dX9_parts_8 rfl ?_
  refine ax_if_eq (t := 132) F dX9_parts_9 (by decide) (fun hc => ?_) (fun hc => ?_)
  · have h := it_pos h hc
    refine ax_iload_n F dX9_parts_132 rfl ?_
    obtain ⟨h1, h2⟩ := rt_some h
    subst h1; subst h2
    exact ax_iret F dX9_parts_133
  · have h := it_neg h hc
    refine ax_iload_n F dX9_parts_12 rfl ?_
    refine ax_iload_n F dX9_parts_13 rfl ?_
    refine ax_ineg F dX9_parts_14 ?_
    refine ax_iand F dX9_parts_15 ?_
    refine ax_istore_n F dX9_parts_16 (by decide) rfl ?_
    refine ax_iconst (v := (0 : Int32)) F dX9_parts_17 (by decide) ?_
    refine ax_istore F dX9_parts_18 (by decide) rfl ?_
    exact IH.2.2.1 _ _ _ _ _ h 
set_option maxRecDepth 100000 in
set_option maxHeartbeats 4000000 in
theorem wX9_parts_2 {p : Program} {l : Launch} {e : Env} {s : State} {m : MethodId} {args : Array Value} {below : List Frame} {meth : Method} {c : Code} {G : va_G} {ad : Nat → Nat} {cs : Nat → ClassId} {zk zv : Nat → Nat} {r : Int32} {M' : Mm} {n : Nat} (F : Fx G ad cs zk zv p m meth c cX9_parts 8 (some .int) s args RX9) (IH : PX9_parts p l e s m args below meth c G ad cs zk r M' n) (x1 : Int32) (x2 : Int32) (x3 : Int32) (x4 : Int32) (M : Mm) (h : (bX9_parts_2 x1 x2 x3 x4 M).bind (fun q => match q with | .inl s' => itr stX9_parts n s' | .inr r => some r) = some (r, M'))  : AW p l e rmX9_parts s m args below meth c (MQ below (AQi G ad cs r M') args s 0 0 (inA ad)) G ad cs 8 20 [some (.ref (ad 338)), some (.int x1), some (.int x2), some (.int x3), some (.int x4), none, none, none] [] M := by
  unfold bX9_parts_2 at h
  refine ax_iload F dX9_parts_20 rfl ?_
  refine ax_aload_n F dX9_parts_22 rfl ?_
  refine ax_get (v := .int (M 338 1)) F ob_338 rfl inGX9 1 (by decide) rfl kf_X9_48 rfl dX9_parts_23 ?_
  refine ax_icmp_ge (t := 120) F dX9_parts_26 (by decide) (fun hc => ?_) (fun hc => ?_)
  · have h := it_pos h hc
    refine ax_iload_n F dX9_parts_120 rfl ?_
    refine ax_iload_n F dX9_parts_121 rfl ?_
    refine ax_iconst (v := (-1 : Int32)) F dX9_parts_122 (by decide) ?_
    refine ax_ixor F dX9_parts_123 ?_
    refine ax_iand F dX9_parts_124 ?_
    refine ax_istore_n F dX9_parts_125 (by decide) rfl ?_
    refine ax_iinc (v := (1 : Int32)) F dX9_parts_126 rfl (by decide) (by decide) rfl ?_
    refine ax_goto (t := 8) F dX9_parts_129 (by decide) ?_
    refine ax_mask [true, true, true, false, false, false, false, false] ?_
    exact IH.2.1 _ _ _ h 
  · have h := it_neg h hc
    refine ax_iconst (v := (0 : Int32)) F dX9_parts_29 (by decide) ?_
    refine ax_istore F dX9_parts_30 (by decide) rfl ?_
    exact IH.2.2.2.1 _ _ _ _ _ _ h 
set_option maxRecDepth 100000 in
set_option maxHeartbeats 4000000 in
theorem wX9_parts_3 {p : Program} {l : Launch} {e : Env} {s : State} {m : MethodId} {args : Array Value} {below : List Frame} {meth : Method} {c : Code} {G : va_G} {ad : Nat → Nat} {cs : Nat → ClassId} {zk zv : Nat → Nat} {r : Int32} {M' : Mm} {n : Nat} (F : Fx G ad cs zk zv p m meth c cX9_parts 8 (some .int) s args RX9) (IH : PX9_parts p l e s m args below meth c G ad cs zk r M' n) (x1 : Int32) (x2 : Int32) (x3 : Int32) (x4 : Int32) (x5 : Int32) (M : Mm) (h : (bX9_parts_3 x1 x2 x3 x4 x5 M).bind (fun q => match q with | .inl s' => itr stX9_parts n s' | .inr r => some r) = some (r, M'))  : AW p l e rmX9_parts s m args below meth c (MQ below (AQi G ad cs r M') args s 0 0 (inA ad)) G ad cs 8 32 [some (.ref (ad 338)), some (.int x1), some (.int x2), some (.int x3), some (.int x4), some (.int x5), none, none] [] M := by
  unfold bX9_parts_3 at h
  refine ax_iload F dX9_parts_32 rfl ?_
  refine ax_aload_n F dX9_parts_34 rfl ?_
  refine ax_get (v := .int (M 338 1)) F ob_338 rfl inGX9 1 (by decide) rfl kf_X9_48 rfl dX9_parts_35 ?_
  refine ax_icmp_ge (t := 114) F dX9_parts_38 (by decide) (fun hc => ?_) (fun hc => ?_)
  · have h := it_pos h hc
    refine ax_iinc (v := (1 : Int32)) F dX9_parts_114 rfl (by decide) (by decide) rfl ?_
    refine ax_goto (t := 20) F dX9_parts_117 (by decide) ?_
    refine ax_mask [true, true, true, true, true, false, false, false] ?_
    exact IH.2.2.1 _ _ _ _ _ h 
  · have h := it_neg h hc
    refine ax_aload_n F dX9_parts_41 rfl ?_
    refine ax_iload F dX9_parts_42 rfl ?_
    obtain ⟨r1, M1, hq1, h⟩ := cq_some h
    refine ax_callVi (As := [.int x5]) (st := []) F (tX9_viewOf F.2.2.2.2.2.2.1 _  _ _ _ hq1) ob_338 rfl kc_X9_viewOf kz_X9 ki_X9_viewOf ks_X9_viewOf km_X9_194 ⟨kn_X9_viewOf, rfl, rfl, Nat.le_of_ble_eq_true rfl, Nat.le_of_ble_eq_true rfl⟩ rfl (Nat.le_of_ble_eq_true rfl) dX9_parts_44 ?_
    refine ax_aload_n F dX9_parts_47 rfl ?_
    refine ax_iconst (v := (0 : Int32)) F dX9_parts_48 (by decide) ?_
    obtain ⟨r2, M2, hq2, h⟩ := cq_some h
    refine ax_callVi (As := [.int (0 : Int32)]) (st := [.int r1]) F (tX9_alive F.2.2.2.2.2.2.1 _  _ _ _ hq2) ob_338 rfl kc_X9_alive kz_X9 ki_X9_alive ks_X9_alive km_X9_212 ⟨kn_X9_alive, rfl, rfl, Nat.le_of_ble_eq_true rfl, Nat.le_of_ble_eq_true rfl⟩ rfl (Nat.le_of_ble_eq_true rfl) dX9_parts_49 ?_
    refine ax_iand F dX9_parts_52 ?_
    refine ax_istore F dX9_parts_53 (by decide) rfl ?_
    refine ax_iload_n F dX9_parts_55 rfl ?_
    refine ax_iload F dX9_parts_56 rfl ?_
    obtain ⟨r3, M3, hq3, h⟩ := cq_some h
    refine ax_callSi (As := [.int x3, .int x5]) (st := []) F (tX9_has F.2.2.2.2.2.2.1 _ _  _ _ _ hq3) kc_X9_has kz_X9 kt_X9_has km_X9_152 ⟨kn_X9_has, rfl, rfl, Nat.le_of_ble_eq_true rfl, Nat.le_of_ble_eq_true rfl⟩ rfl (Nat.le_of_ble_eq_true rfl) dX9_parts_58 ?_
    refine ax_istore F dX9_parts_61 (by decide) rfl ?_
    refine ax_iload_n F dX9_parts_63 rfl ?_
    refine ax_iload F dX9_parts_64 rfl ?_
    refine ax_if_eq (t := 74) F dX9_parts_66 (by decide) (fun hc => ?_) (fun hc => ?_)
    · have h := it_pos h hc
      refine ax_iconst (v := (0 : Int32)) F dX9_parts_74 (by decide) ?_
      refine ax_mask [true, true, true, false, true, true, true, false] ?_
      exact IH.2.2.2.2 _ _ _ _ _ _ _ _ h 
    · have h := it_neg h hc
      refine ax_iload F dX9_parts_69 rfl ?_
      refine ax_goto (t := 75) F dX9_parts_71 (by decide) ?_
      refine ax_mask [true, true, true, false, true, true, true, false] ?_
      exact IH.2.2.2.2 _ _ _ _ _ _ _ _ h 
set_option maxRecDepth 100000 in
set_option maxHeartbeats 4000000 in
theorem wX9_parts_4 {p : Program} {l : Launch} {e : Env} {s : State} {m : MethodId} {args : Array Value} {below : List Frame} {meth : Method} {c : Code} {G : va_G} {ad : Nat → Nat} {cs : Nat → ClassId} {zk zv : Nat → Nat} {r : Int32} {M' : Mm} {n : Nat} (F : Fx G ad cs zk zv p m meth c cX9_parts 8 (some .int) s args RX9) (IH : PX9_parts p l e s m args below meth c G ad cs zk r M' n) (x1 : Int32) (x2 : Int32) (x4 : Int32) (x5 : Int32) (x6 : Int32) (s0 : Int32) (s1 : Int32) (M : Mm) (h : (bX9_parts_4 x1 x2 x4 x5 x6 s0 s1 M).bind (fun q => match q with | .inl s' => itr stX9_parts n s' | .inr r => some r) = some (r, M'))  : AW p l e rmX9_parts s m args below meth c (MQ below (AQi G ad cs r M') args s 0 0 (inA ad)) G ad cs 8 75 [some (.ref (ad 338)), some (.int x1), some (.int x2), none, some (.int x4), some (.int x5), some (.int x6), none] [.int s0, .int s1] M := by
  unfold bX9_parts_4 at h
  refine ax_ior F dX9_parts_75 ?_
  refine ax_istore_n F dX9_parts_76 (by decide) rfl ?_
  refine ax_iload_n F dX9_parts_77 rfl ?_
  refine ax_aload_n F dX9_parts_78 rfl ?_
  refine ax_iconst (v := (0 : Int32)) F dX9_parts_79 (by decide) ?_
  obtain ⟨r1, M1, hq1, h⟩ := cq_some h
  refine ax_callVi (As := [.int (0 : Int32)]) (st := [.int (s1 ||| s0)]) F (tX9_alive F.2.2.2.2.2.2.1 _  _ _ _ hq1) ob_338 rfl kc_X9_alive kz_X9 ki_X9_alive ks_X9_alive km_X9_212 ⟨kn_X9_alive, rfl, rfl, Nat.le_of_ble_eq_true rfl, Nat.le_of_ble_eq_true rfl⟩ rfl (Nat.le_of_ble_eq_true rfl) dX9_parts_80 ?_
  refine ax_iload F dX9_parts_83 rfl ?_
  obtain ⟨r2, M2, hq2, h⟩ := cq_some h
  refine ax_callSi (As := [.int r1, .int x5]) (st := [.int (s1 ||| s0)]) F (tX9_has F.2.2.2.2.2.2.1 _ _  _ _ _ hq2) kc_X9_has kz_X9 kt_X9_has km_X9_152 ⟨kn_X9_has, rfl, rfl, Nat.le_of_ble_eq_true rfl, Nat.le_of_ble_eq_true rfl⟩ rfl (Nat.le_of_ble_eq_true rfl) dX9_parts_85 ?_
  refine ax_if_eq (t := 105) F dX9_parts_88 (by decide) (fun hc => ?_) (fun hc => ?_)
  · have h := it_pos h hc
    refine ax_iconst (v := (0 : Int32)) F dX9_parts_105 (by decide) ?_
    refine ax_ior F dX9_parts_106 ?_
    refine ax_istore_n F dX9_parts_107 (by decide) rfl ?_
    refine ax_iinc (v := (1 : Int32)) F dX9_parts_108 rfl (by decide) (by decide) rfl ?_
    refine ax_goto (t := 32) F dX9_parts_111 (by decide) ?_
    refine ax_mask [true, true, true, true, true, true, false, false] ?_
    exact IH.2.2.2.1 _ _ _ _ _ _ h 
  · have h := it_neg h hc
    refine ax_iload F dX9_parts_91 rfl ?_
    refine ax_iload_n F dX9_parts_93 rfl ?_
    refine ax_iand F dX9_parts_94 ?_
    refine ax_if_eq (t := 105) F dX9_parts_95 (by decide) (fun hc => ?_) (fun hc => ?_)
    · have h := it_pos h hc
      refine ax_iconst (v := (0 : Int32)) F dX9_parts_105 (by decide) ?_
      refine ax_ior F dX9_parts_106 ?_
      refine ax_istore_n F dX9_parts_107 (by decide) rfl ?_
      refine ax_iinc (v := (1 : Int32)) F dX9_parts_108 rfl (by decide) (by decide) rfl ?_
      refine ax_goto (t := 32) F dX9_parts_111 (by decide) ?_
      refine ax_mask [true, true, true, true, true, true, false, false] ?_
      exact IH.2.2.2.1 _ _ _ _ _ _ h 
    · have h := it_neg h hc
      refine ax_iconst (v := (1 : Int32)) F dX9_parts_98 (by decide) ?_
      refine ax_iload F dX9_parts_99 rfl ?_
      refine ax_ishl F dX9_parts_101 ?_
      refine ax_goto (t := 106) F dX9_parts_102 (by decide) ?_
      refine ax_ior F dX9_parts_106 ?_
      refine ax_istore_n F dX9_parts_107 (by decide) rfl ?_
      refine ax_iinc (v := (1 : Int32)) F dX9_parts_108 rfl (by decide) (by decide) rfl ?_
      refine ax_goto (t := 32) F dX9_parts_111 (by decide) ?_
      refine ax_mask [true, true, true, true, true, true, false, false] ?_
      exact IH.2.2.2.1 _ _ _ _ _ _ h 
set_option maxRecDepth 100000 in
set_option maxHeartbeats 4000000 in
theorem wX9_parts {p : Program} {l : Launch} {e : Env} {s : State} {m : MethodId} {args : Array Value} {below : List Frame} {meth : Method} {c : Code} {G : va_G} {ad : Nat → Nat} {cs : Nat → ClassId} {zk zv : Nat → Nat} {r : Int32} {M' : Mm} (F : Fx G ad cs zk zv p m meth c cX9_parts 8 (some .int) s args RX9) (n : Nat) : PX9_parts p l e s m args below meth c G ad cs zk r M' n := by
  induction n with
  | zero => exact ⟨(fun  M h => by cases h), (fun x1 x2 M h => by cases h), (fun x1 x2 x3 x4 M h => by cases h), (fun x1 x2 x3 x4 x5 M h => by cases h), (fun x1 x2 x4 x5 x6 s0 s1 M h => by cases h)⟩
  | succ n ih =>
    exact ⟨fun  M h  => wX9_parts_0 F ih  M h ,
      fun x1 x2 M h  => wX9_parts_1 F ih x1 x2 M h ,
      fun x1 x2 x3 x4 M h  => wX9_parts_2 F ih x1 x2 x3 x4 M h ,
      fun x1 x2 x3 x4 x5 M h  => wX9_parts_3 F ih x1 x2 x3 x4 x5 M h ,
      fun x1 x2 x4 x5 x6 s0 s1 M h  => wX9_parts_4 F ih x1 x2 x4 x5 x6 s0 s1 M h ⟩
set_option maxRecDepth 100000 in
set_option maxHeartbeats 4000000 in
theorem tX9_parts {l : Launch} {G : va_G} {ad : Nat → Nat} {cs : Nat → ClassId} {zk zv : Nat → Nat} (hinj : inj ad)   (M : Mm) (r : Int32) (M' : Mm) (h : fX9_parts  M = some (r, M')) : Met l yX9_parts (tgW yX9_parts cX9_parts 8 (some .int)) rmX9_parts (APre G ad cs zk zv [.ref (ad 338)] M) (AQi G ad cs r M') 0 0 (inA ad) := by
  refine met_of (Eq.refl true) (Nat.le_of_ble_eq_true rfl) hinj [some (.ref (ad 338)), none, none, none, none, none, none, none] rfl ?_
  intro p e s m below meth c F
  replace F : Fx G ad cs zk zv p m meth c cX9_parts 8 (some .int) s _ RX9 := F
  obtain ⟨n, hn⟩ := run_ex h
  exact (wX9_parts F n).1  M hn 
noncomputable def fX9_isRing (x0 : Int32) (M : Mm) : Option Rst := cl (fX9_in (x0).toInt64 (0 : Int64) (2 : Int64) M) (fun r1 M1 => gd (okZ r1) (some (r1, M1)))
def rmX9_isRing : Room := { frames := 1, cells := 0, slots := 0, locals := 25 }
theorem kn_X9_isRing : yX9_isRing.cls ≠ "java/lang/invoke/MethodHandle" ∧ yX9_isRing.cls ≠ "java/lang/invoke/VarHandle" ∧ (parseMethodDescriptor yX9_isRing.desc).map (fun d => d.parameters.length) = some 1 := by decide +kernel
set_option maxRecDepth 100000 in
set_option maxHeartbeats 4000000 in
theorem tX9_isRing {l : Launch} {G : va_G} {ad : Nat → Nat} {cs : Nat → ClassId} {zk zv : Nat → Nat} (hinj : inj ad) (x0 : Int32)  (M : Mm) (r : Int32) (M' : Mm) (h : fX9_isRing x0 M = some (r, M')) : Met l yX9_isRing (tgW yX9_isRing cX9_isRing 1 (some .boolean)) rmX9_isRing (APre G ad cs zk zv [.int x0] M) (AQi G ad cs r M') 0 0 (inA ad) := by
  refine met_of (Eq.refl true) (Nat.le_of_ble_eq_true rfl) hinj [some (.int x0)] rfl ?_
  intro p e s m below meth c F
  replace F : Fx G ad cs zk zv p m meth c cX9_isRing 1 (some .boolean) s _ RX9 := F
  unfold fX9_isRing at h
  refine ax_iload_n F dX9_isRing_0 rfl ?_
  refine ax_i2l F dX9_isRing_1 ?_
  refine ax_lconst (v := (0 : Int64)) F dX9_isRing_2 (by decide) ?_
  refine ax_ldc2 (v := (2 : Int64)) F kk_X9_224 dX9_isRing_3 ?_
  obtain ⟨r1, M1, hq1, h⟩ := cq_some0 h
  refine ax_callSi (As := [.long (x0).toInt64, .long (0 : Int64), .long (2 : Int64)]) (st := []) F (tX9_in F.2.2.2.2.2.2.1 _ _ _  _ _ _ hq1) kc_X9_in kz_X9 kt_X9_in km_X9_66 ⟨kn_X9_in, rfl, rfl, Nat.le_of_ble_eq_true rfl, Nat.le_of_ble_eq_true rfl⟩ rfl (Nat.le_of_ble_eq_true rfl) dX9_isRing_6 ?_
  obtain ⟨hz, h⟩ := gd_some0 h
  obtain ⟨h1, h2⟩ := rt_some0 h
  subst h1; subst h2
  exact ax_zret F hz dX9_isRing_9
noncomputable def fX9_ring (x1 : Int32) (M : Mm) : Option Rst := cl (fX9_isRing x1 M) (fun r1 M1 => if r1 = 0 then (some ((-2 : Int32), M1)) else (gd (okI x1 3) (some ((0 : Int32), (up2 M1 342 (ix x1) (0 : Int32))))))
def rmX9_ring : Room := { frames := 2, cells := 0, slots := 0, locals := 45 }
theorem kn_X9_ring : yX9_ring.cls ≠ "java/lang/invoke/MethodHandle" ∧ yX9_ring.cls ≠ "java/lang/invoke/VarHandle" ∧ (parseMethodDescriptor yX9_ring.desc).map (fun d => d.parameters.length) = some 1 := by decide +kernel
set_option maxRecDepth 100000 in
set_option maxHeartbeats 4000000 in
theorem tX9_ring {l : Launch} {G : va_G} {ad : Nat → Nat} {cs : Nat → ClassId} {zk zv : Nat → Nat} (hinj : inj ad) (x1 : Int32)  (M : Mm) (r : Int32) (M' : Mm) (h : fX9_ring x1 M = some (r, M')) : Met l yX9_ring (tgW yX9_ring cX9_ring 2 (some .int)) rmX9_ring (APre G ad cs zk zv [.ref (ad 338), .int x1] M) (AQi G ad cs r M') 0 0 (inA ad) := by
  refine met_of (Eq.refl true) (Nat.le_of_ble_eq_true rfl) hinj [some (.ref (ad 338)), some (.int x1)] rfl ?_
  intro p e s m below meth c F
  replace F : Fx G ad cs zk zv p m meth c cX9_ring 2 (some .int) s _ RX9 := F
  unfold fX9_ring at h
  refine ax_iload_n F dX9_ring_0 rfl ?_
  obtain ⟨r1, M1, hq1, h⟩ := cq_some0 h
  refine ax_callSi (As := [.int x1]) (st := []) F (tX9_isRing F.2.2.2.2.2.2.1 _  _ _ _ hq1) kc_X9_isRing kz_X9 kt_X9_isRing km_X9_226 ⟨kn_X9_isRing, rfl, rfl, Nat.le_of_ble_eq_true rfl, Nat.le_of_ble_eq_true rfl⟩ rfl (Nat.le_of_ble_eq_true rfl) dX9_ring_1 ?_
  refine ax_if_ne (t := 10) F dX9_ring_4 (by decide) (fun hc => ?_) (fun hc => ?_)
  · have h := it_neg0 h hc
    refine ax_aload_n F dX9_ring_10 rfl ?_
    refine ax_get (v := .ref (ad 342)) F ob_338 rfl inGX9 9 (by decide) rfl kf_X9_20 rfl dX9_ring_11 ?_
    refine ax_iload_n F dX9_ring_14 rfl ?_
    refine ax_iconst (v := (0 : Int32)) F dX9_ring_15 (by decide) ?_
    obtain ⟨hg, h⟩ := gd_some0 h
    refine ax_iast F ar_342 hg dX9_ring_16 ?_
    refine ax_iconst (v := (0 : Int32)) F dX9_ring_17 (by decide) ?_
    obtain ⟨h1, h2⟩ := rt_some0 h
    subst h1; subst h2
    exact ax_iret F dX9_ring_18
  · have h := it_pos0 h hc
    refine ax_bipush (v := (-2 : Int32)) F dX9_ring_7 (by decide) ?_
    obtain ⟨h1, h2⟩ := rt_some0 h
    subst h1; subst h2
    exact ax_iret F dX9_ring_9
def rmX9_add : Room := { frames := 2, cells := 0, slots := 0, locals := 45 }
theorem kn_X9_add : yX9_add.cls ≠ "java/lang/invoke/MethodHandle" ∧ yX9_add.cls ≠ "java/lang/invoke/VarHandle" ∧ (parseMethodDescriptor yX9_add.desc).map (fun d => d.parameters.length) = some 2 := by decide +kernel
noncomputable def bX9_add_0 (x1 : Int32) (x2 : Int32) (M : Mm) : Option (Sst ⊕ Rst) := cl (fX9_isRing x1 M) (fun r1 M1 => if r1 = 0 then (some (.inr ((-2 : Int32), M1))) else (cl (fX9_in (x2).toInt64 (-999 : Int64) (999 : Int64) M1) (fun r2 M2 => if r2 = 0 then (some (.inr ((-3 : Int32), M2))) else (gd (okI x1 3) (if 0 ≤ (M2 342 (ix x1)) then (gd (okI x1 3) (if (M2 342 (ix x1)) = (8 : Int32) then (some (.inr ((-13 : Int32), M2))) else (gd (okI x1 3) (some (.inl (1, [], [x1, x2, (M2 342 (ix x1))], M2)))))) else (some (.inr ((-11 : Int32), M2))))))))
noncomputable def bX9_add_1 (x1 : Int32) (x2 : Int32) (x3 : Int32) (M : Mm) : Option (Sst ⊕ Rst) := if x3 ≤ (1 : Int32) then (gd (okI x1 3) (if (M 342 (ix x1)) ≤ 0 then (some (.inl (2, [], [x1, x2, (0 : Int32), ((8 : Int32) * x1)], M))) else (some (.inl (2, [], [x1, x2, (1 : Int32), ((8 : Int32) * x1)], M))))) else (gd (okI ((((8 : Int32) * x1) + x3) - (1 : Int32)) 24) (gd (okI (((8 : Int32) * x1) + x3) 24) (some (.inl (1, [], [x1, x2, (x3 + (-1 : Int32))], (up2 M 343 (ix (((8 : Int32) * x1) + x3)) (M 343 (ix ((((8 : Int32) * x1) + x3) - (1 : Int32))))))))))
noncomputable def bX9_add_2 (x1 : Int32) (x2 : Int32) (s0 : Int32) (s1 : Int32) (M : Mm) : Option (Sst ⊕ Rst) := gd (okI (s1 + s0) 24) (gd (okI x1 3) (gd (okI x1 3) (gd (okI x1 3) (some (.inr (((up2 (up2 M 343 (ix (s1 + s0)) x2) 342 (ix x1) (((up2 M 343 (ix (s1 + s0)) x2) 342 (ix x1)) + (1 : Int32))) 342 (ix x1)), (up2 (up2 M 343 (ix (s1 + s0)) x2) 342 (ix x1) (((up2 M 343 (ix (s1 + s0)) x2) 342 (ix x1)) + (1 : Int32)))))))))
noncomputable def stX9_add : Sst → Option (Sst ⊕ Rst) := fun q => match q.1 with
  | 0 => bX9_add_0 (q.2.2.1.getD 0 0) (q.2.2.1.getD 1 0) q.2.2.2
  | 1 => bX9_add_1 (q.2.2.1.getD 0 0) (q.2.2.1.getD 1 0) (q.2.2.1.getD 2 0) q.2.2.2
  | 2 => bX9_add_2 (q.2.2.1.getD 0 0) (q.2.2.1.getD 1 0) (q.2.2.1.getD 2 0) (q.2.2.1.getD 3 0) q.2.2.2
  | _ => none
noncomputable def fX9_add (x1 : Int32) (x2 : Int32) (M : Mm) : Option Rst := run stX9_add (0, [], [x1, x2], M)
def PX9_add (p : Program) (l : Launch) (e : Env) (s : State) (m : MethodId) (args : Array Value) (below : List Frame) (meth : Method) (c : Code) (G : va_G) (ad : Nat → Nat) (cs : Nat → ClassId) (zk : Nat → Nat) (r : Int32) (M' : Mm) (n : Nat) : Prop := (∀ (x1 : Int32) (x2 : Int32) (M : Mm), itr stX9_add n (0, [], [x1, x2], M) = some (r, M') → AW p l e rmX9_add s m args below meth c (MQ below (AQi G ad cs r M') args s 0 0 (inA ad)) G ad cs 4 0 [some (.ref (ad 338)), some (.int x1), some (.int x2), none] [] M) ∧ (∀ (x1 : Int32) (x2 : Int32) (x3 : Int32) (M : Mm), itr stX9_add n (1, [], [x1, x2, x3], M) = some (r, M') → AW p l e rmX9_add s m args below meth c (MQ below (AQi G ad cs r M') args s 0 0 (inA ad)) G ad cs 4 60 [some (.ref (ad 338)), some (.int x1), some (.int x2), some (.int x3)] [] M) ∧ (∀ (x1 : Int32) (x2 : Int32) (s0 : Int32) (s1 : Int32) (M : Mm), itr stX9_add n (2, [], [x1, x2, s0, s1], M) = some (r, M') → AW p l e rmX9_add s m args below meth c (MQ below (AQi G ad cs r M') args s 0 0 (inA ad)) G ad cs 4 117 [some (.ref (ad 338)), some (.int x1), some (.int x2), none] [.int s0, .int s1, .ref (ad 343)] M)
set_option maxRecDepth 100000 in
set_option maxHeartbeats 4000000 in
theorem wX9_add_0 {p : Program} {l : Launch} {e : Env} {s : State} {m : MethodId} {args : Array Value} {below : List Frame} {meth : Method} {c : Code} {G : va_G} {ad : Nat → Nat} {cs : Nat → ClassId} {zk zv : Nat → Nat} {r : Int32} {M' : Mm} {n : Nat} (F : Fx G ad cs zk zv p m meth c cX9_add 4 (some .int) s args RX9) (IH : PX9_add p l e s m args below meth c G ad cs zk r M' n) (x1 : Int32) (x2 : Int32) (M : Mm) (h : (bX9_add_0 x1 x2 M).bind (fun q => match q with | .inl s' => itr stX9_add n s' | .inr r => some r) = some (r, M'))  : AW p l e rmX9_add s m args below meth c (MQ below (AQi G ad cs r M') args s 0 0 (inA ad)) G ad cs 4 0 [some (.ref (ad 338)), some (.int x1), some (.int x2), none] [] M := by
  unfold bX9_add_0 at h
  refine ax_iload_n F dX9_add_0 rfl ?_
  obtain ⟨r1, M1, hq1, h⟩ := cq_some h
  refine ax_callSi (As := [.int x1]) (st := []) F (tX9_isRing F.2.2.2.2.2.2.1 _  _ _ _ hq1) kc_X9_isRing kz_X9 kt_X9_isRing km_X9_226 ⟨kn_X9_isRing, rfl, rfl, Nat.le_of_ble_eq_true rfl, Nat.le_of_ble_eq_true rfl⟩ rfl (Nat.le_of_ble_eq_true rfl) dX9_add_1 ?_
  refine ax_if_ne (t := 10) F dX9_add_4 (by decide) (fun hc => ?_) (fun hc => ?_)
  · have h := it_neg h hc
    refine ax_iload_n F dX9_add_10 rfl ?_
    refine ax_i2l F dX9_add_11 ?_
    refine ax_ldc2 (v := (-999 : Int64)) F kk_X9_229 dX9_add_12 ?_
    refine ax_ldc2 (v := (999 : Int64)) F kk_X9_231 dX9_add_15 ?_
    obtain ⟨r2, M2, hq2, h⟩ := cq_some h
    refine ax_callSi (As := [.long (x2).toInt64, .long (-999 : Int64), .long (999 : Int64)]) (st := []) F (tX9_in F.2.2.2.2.2.2.1 _ _ _  _ _ _ hq2) kc_X9_in kz_X9 kt_X9_in km_X9_66 ⟨kn_X9_in, rfl, rfl, Nat.le_of_ble_eq_true rfl, Nat.le_of_ble_eq_true rfl⟩ rfl (Nat.le_of_ble_eq_true rfl) dX9_add_18 ?_
    refine ax_if_ne (t := 27) F dX9_add_21 (by decide) (fun hc => ?_) (fun hc => ?_)
    · have h := it_neg h hc
      refine ax_aload_n F dX9_add_27 rfl ?_
      refine ax_get (v := .ref (ad 342)) F ob_338 rfl inGX9 9 (by decide) rfl kf_X9_20 rfl dX9_add_28 ?_
      refine ax_iload_n F dX9_add_31 rfl ?_
      obtain ⟨hg, h⟩ := gd_some h
      refine ax_iald F ar_342 hg dX9_add_32 ?_
      refine ax_if_ge (t := 39) F dX9_add_33 (by decide) (fun hc => ?_) (fun hc => ?_)
      · have h := it_pos h hc
        refine ax_aload_n F dX9_add_39 rfl ?_
        refine ax_get (v := .ref (ad 342)) F ob_338 rfl inGX9 9 (by decide) rfl kf_X9_20 rfl dX9_add_40 ?_
        refine ax_iload_n F dX9_add_43 rfl ?_
        obtain ⟨hg, h⟩ := gd_some h
        refine ax_iald F ar_342 hg dX9_add_44 ?_
        refine ax_bipush (v := (8 : Int32)) F dX9_add_45 (by decide) ?_
        refine ax_icmp_ne (t := 53) F dX9_add_47 (by decide) (fun hc => ?_) (fun hc => ?_)
        · have h := it_neg h hc
          refine ax_aload_n F dX9_add_53 rfl ?_
          refine ax_get (v := .ref (ad 342)) F ob_338 rfl inGX9 9 (by decide) rfl kf_X9_20 rfl dX9_add_54 ?_
          refine ax_iload_n F dX9_add_57 rfl ?_
          obtain ⟨hg, h⟩ := gd_some h
          refine ax_iald F ar_342 hg dX9_add_58 ?_
          refine ax_istore_n F dX9_add_59 (by decide) rfl ?_
          exact IH.2.1 _ _ _ _ h 
        · have h := it_pos h hc
          refine ax_bipush (v := (-13 : Int32)) F dX9_add_50 (by decide) ?_
          obtain ⟨h1, h2⟩ := rt_some h
          subst h1; subst h2
          exact ax_iret F dX9_add_52
      · have h := it_neg h hc
        refine ax_bipush (v := (-11 : Int32)) F dX9_add_36 (by decide) ?_
        obtain ⟨h1, h2⟩ := rt_some h
        subst h1; subst h2
        exact ax_iret F dX9_add_38
    · have h := it_pos h hc
      refine ax_bipush (v := (-3 : Int32)) F dX9_add_24 (by decide) ?_
      obtain ⟨h1, h2⟩ := rt_some h
      subst h1; subst h2
      exact ax_iret F dX9_add_26
  · have h := it_pos h hc
    refine ax_bipush (v := (-2 : Int32)) F dX9_add_7 (by decide) ?_
    obtain ⟨h1, h2⟩ := rt_some h
    subst h1; subst h2
    exact ax_iret F dX9_add_9
set_option maxRecDepth 100000 in
set_option maxHeartbeats 4000000 in
theorem wX9_add_1 {p : Program} {l : Launch} {e : Env} {s : State} {m : MethodId} {args : Array Value} {below : List Frame} {meth : Method} {c : Code} {G : va_G} {ad : Nat → Nat} {cs : Nat → ClassId} {zk zv : Nat → Nat} {r : Int32} {M' : Mm} {n : Nat} (F : Fx G ad cs zk zv p m meth c cX9_add 4 (some .int) s args RX9) (IH : PX9_add p l e s m args below meth c G ad cs zk r M' n) (x1 : Int32) (x2 : Int32) (x3 : Int32) (M : Mm) (h : (bX9_add_1 x1 x2 x3 M).bind (fun q => match q with | .inl s' => itr stX9_add n s' | .inr r => some r) = some (r, M'))  : AW p l e rmX9_add s m args below meth c (MQ below (AQi G ad cs r M') args s 0 0 (inA ad)) G ad cs 4 60 [some (.ref (ad 338)), some (.int x1), some (.int x2), some (.int x3)] [] M := by
  unfold bX9_add_1 at h
  refine ax_iload_n F dX9_add_60 rfl ?_
  refine ax_iconst (v := (1 : Int32)) F dX9_add_61 (by decide) ?_
  refine ax_icmp_le (t := 95) F dX9_add_62 (by decide) (fun hc => ?_) (fun hc => ?_)
  · have h := it_pos h hc
    refine ax_aload_n F dX9_add_95 rfl ?_
    refine ax_get (v := .ref (ad 343)) F ob_338 rfl inGX9 10 (by decide) rfl kf_X9_23 rfl dX9_add_96 ?_
    refine ax_bipush (v := (8 : Int32)) F dX9_add_99 (by decide) ?_
    refine ax_iload_n F dX9_add_101 rfl ?_
    refine ax_imul F dX9_add_102 ?_
    refine ax_aload_n F dX9_add_103 rfl ?_
    refine ax_get (v := .ref (ad 342)) F ob_338 rfl inGX9 9 (by decide) rfl kf_X9_20 rfl dX9_add_104 ?_
    refine ax_iload_n F dX9_add_107 rfl ?_
    obtain ⟨hg, h⟩ := gd_some h
    refine ax_iald F ar_342 hg dX9_add_108 ?_
    refine ax_if_le (t := 116) F dX9_add_109 (by decide) (fun hc => ?_) (fun hc => ?_)
    · have h := it_pos h hc
      refine ax_iconst (v := (0 : Int32)) F dX9_add_116 (by decide) ?_
      refine ax_mask [true, true, true, false] ?_
      exact IH.2.2 _ _ _ _ _ h 
    · have h := it_neg h hc
      refine ax_iconst (v := (1 : Int32)) F dX9_add_112 (by decide) ?_
      refine ax_goto (t := 117) F dX9_add_113 (by decide) ?_
      refine ax_mask [true, true, true, false] ?_
      exact IH.2.2 _ _ _ _ _ h 
  · have h := it_neg h hc
    refine ax_aload_n F dX9_add_65 rfl ?_
    refine ax_get (v := .ref (ad 343)) F ob_338 rfl inGX9 10 (by decide) rfl kf_X9_23 rfl dX9_add_66 ?_
    refine ax_bipush (v := (8 : Int32)) F dX9_add_69 (by decide) ?_
    refine ax_iload_n F dX9_add_71 rfl ?_
    refine ax_imul F dX9_add_72 ?_
    refine ax_iload_n F dX9_add_73 rfl ?_
    refine ax_iadd F dX9_add_74 ?_
    refine ax_aload_n F dX9_add_75 rfl ?_
    refine ax_get (v := .ref (ad 343)) F ob_338 rfl inGX9 10 (by decide) rfl kf_X9_23 rfl dX9_add_76 ?_
    refine ax_bipush (v := (8 : Int32)) F dX9_add_79 (by decide) ?_
    refine ax_iload_n F dX9_add_81 rfl ?_
    refine ax_imul F dX9_add_82 ?_
    refine ax_iload_n F dX9_add_83 rfl ?_
    refine ax_iadd F dX9_add_84 ?_
    refine ax_iconst (v := (1 : Int32)) F dX9_add_85 (by decide) ?_
    refine ax_isub F dX9_add_86 ?_
    obtain ⟨hg, h⟩ := gd_some h
    refine ax_iald F ar_343 hg dX9_add_87 ?_
    obtain ⟨hg, h⟩ := gd_some h
    refine ax_iast F ar_343 hg dX9_add_88 ?_
    refine ax_iinc (v := (-1 : Int32)) F dX9_add_89 rfl (by decide) (by decide) rfl ?_
    refine ax_goto (t := 60) F dX9_add_92 (by decide) ?_
    exact IH.2.1 _ _ _ _ h 
set_option maxRecDepth 100000 in
set_option maxHeartbeats 4000000 in
theorem wX9_add_2 {p : Program} {l : Launch} {e : Env} {s : State} {m : MethodId} {args : Array Value} {below : List Frame} {meth : Method} {c : Code} {G : va_G} {ad : Nat → Nat} {cs : Nat → ClassId} {zk zv : Nat → Nat} {r : Int32} {M' : Mm} {n : Nat} (F : Fx G ad cs zk zv p m meth c cX9_add 4 (some .int) s args RX9) (IH : PX9_add p l e s m args below meth c G ad cs zk r M' n) (x1 : Int32) (x2 : Int32) (s0 : Int32) (s1 : Int32) (M : Mm) (h : (bX9_add_2 x1 x2 s0 s1 M).bind (fun q => match q with | .inl s' => itr stX9_add n s' | .inr r => some r) = some (r, M'))  : AW p l e rmX9_add s m args below meth c (MQ below (AQi G ad cs r M') args s 0 0 (inA ad)) G ad cs 4 117 [some (.ref (ad 338)), some (.int x1), some (.int x2), none] [.int s0, .int s1, .ref (ad 343)] M := by
  unfold bX9_add_2 at h
  refine ax_iadd F dX9_add_117 ?_
  refine ax_iload_n F dX9_add_118 rfl ?_
  obtain ⟨hg, h⟩ := gd_some h
  refine ax_iast F ar_343 hg dX9_add_119 ?_
  refine ax_aload_n F dX9_add_120 rfl ?_
  refine ax_get (v := .ref (ad 342)) F ob_338 rfl inGX9 9 (by decide) rfl kf_X9_20 rfl dX9_add_121 ?_
  refine ax_iload_n F dX9_add_124 rfl ?_
  refine ax_dup2 F dX9_add_125 rfl rfl ?_
  obtain ⟨hg, h⟩ := gd_some h
  refine ax_iald F ar_342 hg dX9_add_126 ?_
  refine ax_iconst (v := (1 : Int32)) F dX9_add_127 (by decide) ?_
  refine ax_iadd F dX9_add_128 ?_
  obtain ⟨hg, h⟩ := gd_some h
  refine ax_iast F ar_342 hg dX9_add_129 ?_
  refine ax_aload_n F dX9_add_130 rfl ?_
  refine ax_get (v := .ref (ad 342)) F ob_338 rfl inGX9 9 (by decide) rfl kf_X9_20 rfl dX9_add_131 ?_
  refine ax_iload_n F dX9_add_134 rfl ?_
  obtain ⟨hg, h⟩ := gd_some h
  refine ax_iald F ar_342 hg dX9_add_135 ?_
  obtain ⟨h1, h2⟩ := rt_some h
  subst h1; subst h2
  exact ax_iret F dX9_add_136
set_option maxRecDepth 100000 in
set_option maxHeartbeats 4000000 in
theorem wX9_add {p : Program} {l : Launch} {e : Env} {s : State} {m : MethodId} {args : Array Value} {below : List Frame} {meth : Method} {c : Code} {G : va_G} {ad : Nat → Nat} {cs : Nat → ClassId} {zk zv : Nat → Nat} {r : Int32} {M' : Mm} (F : Fx G ad cs zk zv p m meth c cX9_add 4 (some .int) s args RX9) (n : Nat) : PX9_add p l e s m args below meth c G ad cs zk r M' n := by
  induction n with
  | zero => exact ⟨(fun x1 x2 M h => by cases h), (fun x1 x2 x3 M h => by cases h), (fun x1 x2 s0 s1 M h => by cases h)⟩
  | succ n ih =>
    exact ⟨fun x1 x2 M h  => wX9_add_0 F ih x1 x2 M h ,
      fun x1 x2 x3 M h  => wX9_add_1 F ih x1 x2 x3 M h ,
      fun x1 x2 s0 s1 M h  => wX9_add_2 F ih x1 x2 s0 s1 M h ⟩
set_option maxRecDepth 100000 in
set_option maxHeartbeats 4000000 in
theorem tX9_add {l : Launch} {G : va_G} {ad : Nat → Nat} {cs : Nat → ClassId} {zk zv : Nat → Nat} (hinj : inj ad) (x1 : Int32) (x2 : Int32)  (M : Mm) (r : Int32) (M' : Mm) (h : fX9_add x1 x2 M = some (r, M')) : Met l yX9_add (tgW yX9_add cX9_add 4 (some .int)) rmX9_add (APre G ad cs zk zv [.ref (ad 338), .int x1, .int x2] M) (AQi G ad cs r M') 0 0 (inA ad) := by
  refine met_of (Eq.refl true) (Nat.le_of_ble_eq_true rfl) hinj [some (.ref (ad 338)), some (.int x1), some (.int x2), none] rfl ?_
  intro p e s m below meth c F
  replace F : Fx G ad cs zk zv p m meth c cX9_add 4 (some .int) s _ RX9 := F
  obtain ⟨n, hn⟩ := run_ex h
  exact (wX9_add F n).1 x1 x2 M hn 
def rmX9_goesOn : Room := { frames := 0, cells := 0, slots := 0, locals := 0 }
theorem kn_X9_goesOn : yX9_goesOn.cls ≠ "java/lang/invoke/MethodHandle" ∧ yX9_goesOn.cls ≠ "java/lang/invoke/VarHandle" ∧ (parseMethodDescriptor yX9_goesOn.desc).map (fun d => d.parameters.length) = some 1 := by decide +kernel
noncomputable def bX9_goesOn_0 (x1 : Int32) (M : Mm) : Option (Sst ⊕ Rst) := gd (okI ((8 : Int32) * x1) 24) (some (.inl (1, [], [x1, (M 343 (ix ((8 : Int32) * x1))), (1 : Int32)], M)))
noncomputable def bX9_goesOn_1 (x1 : Int32) (x2 : Int32) (x3 : Int32) (M : Mm) : Option (Sst ⊕ Rst) := gd (okI x1 3) (if (M 342 (ix x1)) ≤ x3 then (gd (okI x1 3) (gd (okI ((((8 : Int32) * x1) + (M 342 (ix x1))) - (1 : Int32)) 24) (some (.inr ((0 : Int32), (up2 M 343 (ix ((((8 : Int32) * x1) + (M 342 (ix x1))) - (1 : Int32))) x2)))))) else (gd (okI (((8 : Int32) * x1) + x3) 24) (gd (okI ((((8 : Int32) * x1) + x3) - (1 : Int32)) 24) (some (.inl (1, [], [x1, x2, (x3 + (1 : Int32))], (up2 M 343 (ix ((((8 : Int32) * x1) + x3) - (1 : Int32))) (M 343 (ix (((8 : Int32) * x1) + x3))))))))))
noncomputable def stX9_goesOn : Sst → Option (Sst ⊕ Rst) := fun q => match q.1 with
  | 0 => bX9_goesOn_0 (q.2.2.1.getD 0 0) q.2.2.2
  | 1 => bX9_goesOn_1 (q.2.2.1.getD 0 0) (q.2.2.1.getD 1 0) (q.2.2.1.getD 2 0) q.2.2.2
  | _ => none
noncomputable def fX9_goesOn (x1 : Int32) (M : Mm) : Option Rst := run stX9_goesOn (0, [], [x1], M)
def PX9_goesOn (p : Program) (l : Launch) (e : Env) (s : State) (m : MethodId) (args : Array Value) (below : List Frame) (meth : Method) (c : Code) (G : va_G) (ad : Nat → Nat) (cs : Nat → ClassId) (zk : Nat → Nat) (r : Int32) (M' : Mm) (n : Nat) : Prop := (∀ (x1 : Int32) (M : Mm), itr stX9_goesOn n (0, [], [x1], M) = some (r, M') → AW p l e rmX9_goesOn s m args below meth c (MQ below (AQv G ad cs M') args s 0 0 (inA ad)) G ad cs 4 0 [some (.ref (ad 338)), some (.int x1), none, none] [] M) ∧ (∀ (x1 : Int32) (x2 : Int32) (x3 : Int32) (M : Mm), itr stX9_goesOn n (1, [], [x1, x2, x3], M) = some (r, M') → AW p l e rmX9_goesOn s m args below meth c (MQ below (AQv G ad cs M') args s 0 0 (inA ad)) G ad cs 4 12 [some (.ref (ad 338)), some (.int x1), some (.int x2), some (.int x3)] [] M)
set_option maxRecDepth 100000 in
set_option maxHeartbeats 4000000 in
theorem wX9_goesOn_0 {p : Program} {l : Launch} {e : Env} {s : State} {m : MethodId} {args : Array Value} {below : List Frame} {meth : Method} {c : Code} {G : va_G} {ad : Nat → Nat} {cs : Nat → ClassId} {zk zv : Nat → Nat} {r : Int32} {M' : Mm} {n : Nat} (F : Fx G ad cs zk zv p m meth c cX9_goesOn 4 none s args RX9) (IH : PX9_goesOn p l e s m args below meth c G ad cs zk r M' n) (x1 : Int32) (M : Mm) (h : (bX9_goesOn_0 x1 M).bind (fun q => match q with | .inl s' => itr stX9_goesOn n s' | .inr r => some r) = some (r, M'))  : AW p l e rmX9_goesOn s m args below meth c (MQ below (AQv G ad cs M') args s 0 0 (inA ad)) G ad cs 4 0 [some (.ref (ad 338)), some (.int x1), none, none] [] M := by
  unfold bX9_goesOn_0 at h
  refine ax_aload_n F dX9_goesOn_0 rfl ?_
  refine ax_get (v := .ref (ad 343)) F ob_338 rfl inGX9 10 (by decide) rfl kf_X9_23 rfl dX9_goesOn_1 ?_
  refine ax_bipush (v := (8 : Int32)) F dX9_goesOn_4 (by decide) ?_
  refine ax_iload_n F dX9_goesOn_6 rfl ?_
  refine ax_imul F dX9_goesOn_7 ?_
  obtain ⟨hg, h⟩ := gd_some h
  refine ax_iald F ar_343 hg dX9_goesOn_8 ?_
  refine ax_istore_n F dX9_goesOn_9 (by decide) rfl ?_
  refine ax_iconst (v := (1 : Int32)) F dX9_goesOn_10 (by decide) ?_
  refine ax_istore_n F dX9_goesOn_11 (by decide) rfl ?_
  exact IH.2 _ _ _ _ h 
set_option maxRecDepth 100000 in
set_option maxHeartbeats 4000000 in
theorem wX9_goesOn_1 {p : Program} {l : Launch} {e : Env} {s : State} {m : MethodId} {args : Array Value} {below : List Frame} {meth : Method} {c : Code} {G : va_G} {ad : Nat → Nat} {cs : Nat → ClassId} {zk zv : Nat → Nat} {r : Int32} {M' : Mm} {n : Nat} (F : Fx G ad cs zk zv p m meth c cX9_goesOn 4 none s args RX9) (IH : PX9_goesOn p l e s m args below meth c G ad cs zk r M' n) (x1 : Int32) (x2 : Int32) (x3 : Int32) (M : Mm) (h : (bX9_goesOn_1 x1 x2 x3 M).bind (fun q => match q with | .inl s' => itr stX9_goesOn n s' | .inr r => some r) = some (r, M'))  : AW p l e rmX9_goesOn s m args below meth c (MQ below (AQv G ad cs M') args s 0 0 (inA ad)) G ad cs 4 12 [some (.ref (ad 338)), some (.int x1), some (.int x2), some (.int x3)] [] M := by
  unfold bX9_goesOn_1 at h
  refine ax_iload_n F dX9_goesOn_12 rfl ?_
  refine ax_aload_n F dX9_goesOn_13 rfl ?_
  refine ax_get (v := .ref (ad 342)) F ob_338 rfl inGX9 9 (by decide) rfl kf_X9_20 rfl dX9_goesOn_14 ?_
  refine ax_iload_n F dX9_goesOn_17 rfl ?_
  obtain ⟨hg, h⟩ := gd_some h
  refine ax_iald F ar_342 hg dX9_goesOn_18 ?_
  refine ax_icmp_ge (t := 52) F dX9_goesOn_19 (by decide) (fun hc => ?_) (fun hc => ?_)
  · have h := it_pos h hc
    refine ax_aload_n F dX9_goesOn_52 rfl ?_
    refine ax_get (v := .ref (ad 343)) F ob_338 rfl inGX9 10 (by decide) rfl kf_X9_23 rfl dX9_goesOn_53 ?_
    refine ax_bipush (v := (8 : Int32)) F dX9_goesOn_56 (by decide) ?_
    refine ax_iload_n F dX9_goesOn_58 rfl ?_
    refine ax_imul F dX9_goesOn_59 ?_
    refine ax_aload_n F dX9_goesOn_60 rfl ?_
    refine ax_get (v := .ref (ad 342)) F ob_338 rfl inGX9 9 (by decide) rfl kf_X9_20 rfl dX9_goesOn_61 ?_
    refine ax_iload_n F dX9_goesOn_64 rfl ?_
    obtain ⟨hg, h⟩ := gd_some h
    refine ax_iald F ar_342 hg dX9_goesOn_65 ?_
    refine ax_iadd F dX9_goesOn_66 ?_
    refine ax_iconst (v := (1 : Int32)) F dX9_goesOn_67 (by decide) ?_
    refine ax_isub F dX9_goesOn_68 ?_
    refine ax_iload_n F dX9_goesOn_69 rfl ?_
    obtain ⟨hg, h⟩ := gd_some h
    refine ax_iast F ar_343 hg dX9_goesOn_70 ?_
    obtain ⟨h1, h2⟩ := rt_some h
    subst h2
    exact ax_vret F dX9_goesOn_71
  · have h := it_neg h hc
    refine ax_aload_n F dX9_goesOn_22 rfl ?_
    refine ax_get (v := .ref (ad 343)) F ob_338 rfl inGX9 10 (by decide) rfl kf_X9_23 rfl dX9_goesOn_23 ?_
    refine ax_bipush (v := (8 : Int32)) F dX9_goesOn_26 (by decide) ?_
    refine ax_iload_n F dX9_goesOn_28 rfl ?_
    refine ax_imul F dX9_goesOn_29 ?_
    refine ax_iload_n F dX9_goesOn_30 rfl ?_
    refine ax_iadd F dX9_goesOn_31 ?_
    refine ax_iconst (v := (1 : Int32)) F dX9_goesOn_32 (by decide) ?_
    refine ax_isub F dX9_goesOn_33 ?_
    refine ax_aload_n F dX9_goesOn_34 rfl ?_
    refine ax_get (v := .ref (ad 343)) F ob_338 rfl inGX9 10 (by decide) rfl kf_X9_23 rfl dX9_goesOn_35 ?_
    refine ax_bipush (v := (8 : Int32)) F dX9_goesOn_38 (by decide) ?_
    refine ax_iload_n F dX9_goesOn_40 rfl ?_
    refine ax_imul F dX9_goesOn_41 ?_
    refine ax_iload_n F dX9_goesOn_42 rfl ?_
    refine ax_iadd F dX9_goesOn_43 ?_
    obtain ⟨hg, h⟩ := gd_some h
    refine ax_iald F ar_343 hg dX9_goesOn_44 ?_
    obtain ⟨hg, h⟩ := gd_some h
    refine ax_iast F ar_343 hg dX9_goesOn_45 ?_
    refine ax_iinc (v := (1 : Int32)) F dX9_goesOn_46 rfl (by decide) (by decide) rfl ?_
    refine ax_goto (t := 12) F dX9_goesOn_49 (by decide) ?_
    exact IH.2 _ _ _ _ h 
set_option maxRecDepth 100000 in
set_option maxHeartbeats 4000000 in
theorem wX9_goesOn {p : Program} {l : Launch} {e : Env} {s : State} {m : MethodId} {args : Array Value} {below : List Frame} {meth : Method} {c : Code} {G : va_G} {ad : Nat → Nat} {cs : Nat → ClassId} {zk zv : Nat → Nat} {r : Int32} {M' : Mm} (F : Fx G ad cs zk zv p m meth c cX9_goesOn 4 none s args RX9) (n : Nat) : PX9_goesOn p l e s m args below meth c G ad cs zk r M' n := by
  induction n with
  | zero => exact ⟨(fun x1 M h => by cases h), (fun x1 x2 x3 M h => by cases h)⟩
  | succ n ih =>
    exact ⟨fun x1 M h  => wX9_goesOn_0 F ih x1 M h ,
      fun x1 x2 x3 M h  => wX9_goesOn_1 F ih x1 x2 x3 M h ⟩
set_option maxRecDepth 100000 in
set_option maxHeartbeats 4000000 in
theorem tX9_goesOn {l : Launch} {G : va_G} {ad : Nat → Nat} {cs : Nat → ClassId} {zk zv : Nat → Nat} (hinj : inj ad) (x1 : Int32)  (M : Mm) (r : Int32) (M' : Mm) (h : fX9_goesOn x1 M = some (r, M')) : Met l yX9_goesOn (tgW yX9_goesOn cX9_goesOn 4 none) rmX9_goesOn (APre G ad cs zk zv [.ref (ad 338), .int x1] M) (AQv G ad cs M') 0 0 (inA ad) := by
  refine met_of (Eq.refl true) (Nat.le_of_ble_eq_true rfl) hinj [some (.ref (ad 338)), some (.int x1), none, none] rfl ?_
  intro p e s m below meth c F
  replace F : Fx G ad cs zk zv p m meth c cX9_goesOn 4 none s _ RX9 := F
  obtain ⟨n, hn⟩ := run_ex h
  exact (wX9_goesOn F n).1 x1 M hn 
noncomputable def fX9_takesOne (x1 : Int32) (M : Mm) : Option Rst := gd (okI ((8 : Int32) * x1) 24) (cl (fX9_goesOn x1 M) (fun r1 M1 => gd (okI x1 3) (gd (okI x1 3) (some ((M 343 (ix ((8 : Int32) * x1))), (up2 M1 342 (ix x1) ((M1 342 (ix x1)) - (1 : Int32))))))))
def rmX9_takesOne : Room := { frames := 1, cells := 0, slots := 0, locals := 23 }
theorem kn_X9_takesOne : yX9_takesOne.cls ≠ "java/lang/invoke/MethodHandle" ∧ yX9_takesOne.cls ≠ "java/lang/invoke/VarHandle" ∧ (parseMethodDescriptor yX9_takesOne.desc).map (fun d => d.parameters.length) = some 1 := by decide +kernel
set_option maxRecDepth 100000 in
set_option maxHeartbeats 4000000 in
theorem tX9_takesOne {l : Launch} {G : va_G} {ad : Nat → Nat} {cs : Nat → ClassId} {zk zv : Nat → Nat} (hinj : inj ad) (x1 : Int32)  (M : Mm) (r : Int32) (M' : Mm) (h : fX9_takesOne x1 M = some (r, M')) : Met l yX9_takesOne (tgW yX9_takesOne cX9_takesOne 3 (some .int)) rmX9_takesOne (APre G ad cs zk zv [.ref (ad 338), .int x1] M) (AQi G ad cs r M') 0 0 (inA ad) := by
  refine met_of (Eq.refl true) (Nat.le_of_ble_eq_true rfl) hinj [some (.ref (ad 338)), some (.int x1), none] rfl ?_
  intro p e s m below meth c F
  replace F : Fx G ad cs zk zv p m meth c cX9_takesOne 3 (some .int) s _ RX9 := F
  unfold fX9_takesOne at h
  refine ax_aload_n F dX9_takesOne_0 rfl ?_
  refine ax_get (v := .ref (ad 343)) F ob_338 rfl inGX9 10 (by decide) rfl kf_X9_23 rfl dX9_takesOne_1 ?_
  refine ax_bipush (v := (8 : Int32)) F dX9_takesOne_4 (by decide) ?_
  refine ax_iload_n F dX9_takesOne_6 rfl ?_
  refine ax_imul F dX9_takesOne_7 ?_
  obtain ⟨hg, h⟩ := gd_some0 h
  refine ax_iald F ar_343 hg dX9_takesOne_8 ?_
  refine ax_istore_n F dX9_takesOne_9 (by decide) rfl ?_
  refine ax_aload_n F dX9_takesOne_10 rfl ?_
  refine ax_iload_n F dX9_takesOne_11 rfl ?_
  obtain ⟨r1, M1, hq1, h⟩ := cq_some0 h
  refine ax_callVv (As := [.int x1]) (st := []) F (tX9_goesOn F.2.2.2.2.2.2.1 _  _ _ _ hq1) ob_338 rfl kc_X9_goesOn kz_X9 ki_X9_goesOn ks_X9_goesOn km_X9_233 ⟨kn_X9_goesOn, rfl, rfl, Nat.le_of_ble_eq_true rfl, Nat.le_of_ble_eq_true rfl⟩ rfl (Nat.le_of_ble_eq_true rfl) dX9_takesOne_12 ?_
  refine ax_aload_n F dX9_takesOne_15 rfl ?_
  refine ax_get (v := .ref (ad 342)) F ob_338 rfl inGX9 9 (by decide) rfl kf_X9_20 rfl dX9_takesOne_16 ?_
  refine ax_iload_n F dX9_takesOne_19 rfl ?_
  refine ax_dup2 F dX9_takesOne_20 rfl rfl ?_
  obtain ⟨hg, h⟩ := gd_some0 h
  refine ax_iald F ar_342 hg dX9_takesOne_21 ?_
  refine ax_iconst (v := (1 : Int32)) F dX9_takesOne_22 (by decide) ?_
  refine ax_isub F dX9_takesOne_23 ?_
  obtain ⟨hg, h⟩ := gd_some0 h
  refine ax_iast F ar_342 hg dX9_takesOne_24 ?_
  refine ax_iload_n F dX9_takesOne_25 rfl ?_
  obtain ⟨h1, h2⟩ := rt_some0 h
  subst h1; subst h2
  exact ax_iret F dX9_takesOne_26
