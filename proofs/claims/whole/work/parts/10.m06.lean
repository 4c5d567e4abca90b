noncomputable def fX8_keep (x1 : Int32) (M : Mm) : Option Rst := if x1 < 0 then (some ((-2 : Int32), M)) else (if x1 < (2 : Int32) then (gd (okI x1 2) (cl (fX1_copyFrom (286 + 26 * ix (x1)) 26 M) (fun r1 M1 => gd (okI x1 2) (cl (fX1_entries 26 (up2 M1 18 (ix x1) (1 : Int32))) (fun r2 M2 => some (r2, M2)))))) else (some ((-2 : Int32), M)))
def rmX8_keep : Room := { frames := 2, cells := 0, slots := 0, locals := 44 }
theorem kn_X8_keep : yX8_keep.cls ≠ "java/lang/invoke/MethodHandle" ∧ yX8_keep.cls ≠ "java/lang/invoke/VarHandle" ∧ (parseMethodDescriptor yX8_keep.desc).map (fun d => d.parameters.length) = some 1 := by decide +kernel
set_option maxRecDepth 100000 in
set_option maxHeartbeats 4000000 in
theorem tX8_keep {l : Launch} {G : va_G} {L : List Nat} {ad : Nat → Nat} {cs : Nat → ClassId} {z : Bool} {zk zv : Nat → Nat} (hinj : inj L ad) (hx : isX L) (x1 : Int32)  (M : Mm) (r : Int32) (M' : Mm) (h : fX8_keep x1 M = some (r, M')) : Met l yX8_keep (tgW yX8_keep cX8_keep 2 (some .int)) rmX8_keep (APre G L ad cs z zk zv [.ref (ad 0), .int x1] M) (AQi G L ad cs r M') 0 0 (inA L ad) := by
  refine met_of (Eq.refl true) (Nat.le_of_ble_eq_true rfl) hinj [some (.ref (ad 0)), some (.int x1)] rfl ?_
  intro p e s m below meth c F
  replace F : Fx G L ad cs z zk zv p m meth c cX8_keep 2 (some .int) s _ RX8 := F
  unfold fX8_keep at h
  refine ax_iload_n F dX8_keep_0 rfl ?_
  refine ax_if_lt (t := 9) F dX8_keep_1 (by decide) (fun hc => ?_) (fun hc => ?_)
  · have h := it_pos0 h hc
    refine ax_bipush (v := (-2 : Int32)) F dX8_keep_9 (by decide) ?_
    obtain ⟨h1, h2⟩ := rt_some0 h
    subst h1; subst h2
    exact ax_iret F dX8_keep_11
  · have h := it_neg0 h hc
    refine ax_iload_n F dX8_keep_4 rfl ?_
    refine ax_iconst (v := (2 : Int32)) F dX8_keep_5 (by decide) ?_
    refine ax_icmp_lt (t := 12) F dX8_keep_6 (by decide) (fun hc => ?_) (fun hc => ?_)
    · have h := it_pos0 h hc
      refine ax_aload_n F dX8_keep_12 rfl ?_
      refine ax_get (v := .ref (ad 17)) F (ob_0 hx) rfl inGX8 6 (by decide) rfl kf_X8_47 rfl dX8_keep_13 ?_
      refine ax_iload_n F dX8_keep_16 rfl ?_
      obtain ⟨hi1, h⟩ := gd_some0 h
      refine ax_aald F (rf_17 hx) rfl hi1 dX8_keep_17 ?_
      refine ax_aload_n F dX8_keep_18 rfl ?_
      refine ax_get (v := .ref (ad 26)) F (ob_0 hx) rfl inGX8 2 (by decide) rfl kf_X8_26 rfl dX8_keep_19 ?_
      obtain ⟨r1, M1, hq1, h⟩ := cq_some0 h
      refine ax_callVv (As := [.ref (ad 26)]) (st := []) F (tX1_copyFrom F.2.2.2.2.2.2.1 _ _ (isN_kept hx (okI_lt hi1)) (isN_26 hx) _ _ _ hq1) (ob_N (isN_kept hx (okI_lt hi1))) rfl kc_X1_copyFrom kz_X1 ki_X1_copyFrom ks_X1_copyFrom km_X8_165 ⟨kn_X1_copyFrom, rfl, rfl, Nat.le_of_ble_eq_true rfl, Nat.le_of_ble_eq_true rfl⟩ rfl (Nat.le_of_ble_eq_true rfl) dX8_keep_22 ?_
      refine ax_aload_n F dX8_keep_25 rfl ?_
      refine ax_get (v := .ref (ad 18)) F (ob_0 hx) rfl inGX8 7 (by decide) rfl kf_X8_51 rfl dX8_keep_26 ?_
      refine ax_iload_n F dX8_keep_29 rfl ?_
      refine ax_iconst (v := (1 : Int32)) F dX8_keep_30 (by decide) ?_
      obtain ⟨hg, h⟩ := gd_some0 h
      refine ax_zast F (ar_18 hx) hg (by decide) dX8_keep_31 ?_
      refine ax_aload_n F dX8_keep_32 rfl ?_
      refine ax_get (v := .ref (ad 26)) F (ob_0 hx) rfl inGX8 2 (by decide) rfl kf_X8_26 rfl dX8_keep_33 ?_
      obtain ⟨r2, M2, hq2, h⟩ := cq_some0 h
      refine ax_callVi (As := []) (st := []) F (tX1_entries F.2.2.2.2.2.2.1 _ (isN_26 hx) _ _ _ hq2) (ob_N (isN_26 hx)) rfl kc_X1_entries kz_X1 ki_X1_entries ks_X1_entries km_X8_133 ⟨kn_X1_entries, rfl, rfl, Nat.le_of_ble_eq_true rfl, Nat.le_of_ble_eq_true rfl⟩ rfl (Nat.le_of_ble_eq_true rfl) dX8_keep_36 ?_
      obtain ⟨h1, h2⟩ := rt_some0 h
      subst h1; subst h2
      exact ax_iret F dX8_keep_39
    · have h := it_neg0 h hc
      refine ax_bipush (v := (-2 : Int32)) F dX8_keep_9 (by decide) ?_
      obtain ⟨h1, h2⟩ := rt_some0 h
      subst h1; subst h2
      exact ax_iret F dX8_keep_11
noncomputable def fX8_back (x1 : Int32) (M : Mm) : Option Rst := if x1 < 0 then (some ((-2 : Int32), M)) else (if x1 < (2 : Int32) then (gd (okI x1 2) (if (M 18 (ix x1)) = 0 then (some ((-4 : Int32), M)) else (gd (okI x1 2) (cl (fX1_copyFrom 26 (286 + 26 * ix (x1)) M) (fun r1 M1 => cl (fX2_clear M1) (fun r2 M2 => cl (fX1_entries 26 M2) (fun r3 M3 => some (r3, M3)))))))) else (some ((-2 : Int32), M)))
def rmX8_back : Room := { frames := 2, cells := 0, slots := 0, locals := 44 }
theorem kn_X8_back : yX8_back.cls ≠ "java/lang/invoke/MethodHandle" ∧ yX8_back.cls ≠ "java/lang/invoke/VarHandle" ∧ (parseMethodDescriptor yX8_back.desc).map (fun d => d.parameters.length) = some 1 := by decide +kernel
set_option maxRecDepth 100000 in
set_option maxHeartbeats 4000000 in
theorem tX8_back {l : Launch} {G : va_G} {L : List Nat} {ad : Nat → Nat} {cs : Nat → ClassId} {z : Bool} {zk zv : Nat → Nat} (hinj : inj L ad) (hx : isX L) (x1 : Int32)  (M : Mm) (r : Int32) (M' : Mm) (h : fX8_back x1 M = some (r, M')) : Met l yX8_back (tgW yX8_back cX8_back 2 (some .int)) rmX8_back (APre G L ad cs z zk zv [.ref (ad 0), .int x1] M) (AQi G L ad cs r M') 0 0 (inA L ad) := by
  refine met_of (Eq.refl true) (Nat.le_of_ble_eq_true rfl) hinj [some (.ref (ad 0)), some (.int x1)] rfl ?_
  intro p e s m below meth c F
  replace F : Fx G L ad cs z zk zv p m meth c cX8_back 2 (some .int) s _ RX8 := F
  unfold fX8_back at h
  refine ax_iload_n F dX8_back_0 rfl ?_
  refine ax_if_lt (t := 9) F dX8_back_1 (by decide) (fun hc => ?_) (fun hc => ?_)
  · have h := it_pos0 h hc
    refine ax_bipush (v := (-2 : Int32)) F dX8_back_9 (by decide) ?_
    obtain ⟨h1, h2⟩ := rt_some0 h
    subst h1; subst h2
    exact ax_iret F dX8_back_11
  · have h := it_neg0 h hc
    refine ax_iload_n F dX8_back_4 rfl ?_
    refine ax_iconst (v := (2 : Int32)) F dX8_back_5 (by decide) ?_
    refine ax_icmp_lt (t := 12) F dX8_back_6 (by decide) (fun hc => ?_) (fun hc => ?_)
    · have h := it_pos0 h hc
      refine ax_aload_n F dX8_back_12 rfl ?_
      refine ax_get (v := .ref (ad 18)) F (ob_0 hx) rfl inGX8 7 (by decide) rfl kf_X8_51 rfl dX8_back_13 ?_
      refine ax_iload_n F dX8_back_16 rfl ?_
      obtain ⟨hg, h⟩ := gd_some0 h
      refine ax_zald F (ar_18 hx) hg dX8_back_17 ?_
      refine ax_if_ne (t := 24) F dX8_back_18 (by decide) (fun hc => ?_) (fun hc => ?_)
      · have h := it_neg0 h hc
        refine ax_aload_n F dX8_back_24 rfl ?_
        refine ax_get (v := .ref (ad 26)) F (ob_0 hx) rfl inGX8 2 (by decide) rfl kf_X8_26 rfl dX8_back_25 ?_
        refine ax_aload_n F dX8_back_28 rfl ?_
        refine ax_get (v := .ref (ad 17)) F (ob_0 hx) rfl inGX8 6 (by decide) rfl kf_X8_47 rfl dX8_back_29 ?_
        refine ax_iload_n F dX8_back_32 rfl ?_
        obtain ⟨hi1, h⟩ := gd_some0 h
        refine ax_aald F (rf_17 hx) rfl hi1 dX8_back_33 ?_
        obtain ⟨r1, M1, hq1, h⟩ := cq_some0 h
        refine ax_callVv (As := [.ref (ad (286 + 26 * ix (x1)))]) (st := []) F (tX1_copyFrom F.2.2.2.2.2.2.1 _ _ (isN_26 hx) (isN_kept hx (okI_lt hi1)) _ _ _ hq1) (ob_N (isN_26 hx)) rfl kc_X1_copyFrom kz_X1 ki_X1_copyFrom ks_X1_copyFrom km_X8_165 ⟨kn_X1_copyFrom, rfl, rfl, Nat.le_of_ble_eq_true rfl, Nat.le_of_ble_eq_true rfl⟩ rfl (Nat.le_of_ble_eq_true rfl) dX8_back_34 ?_
        refine ax_aload_n F dX8_back_37 rfl ?_
        refine ax_get (v := .ref (ad 15)) F (ob_0 hx) rfl inGX8 5 (by decide) rfl kf_X8_43 rfl dX8_back_38 ?_
        obtain ⟨r2, M2, hq2, h⟩ := cq_some0 h
        refine ax_callVv (As := []) (st := []) F (tX2_clear F.2.2.2.2.2.2.1 hx   _ _ _ hq2) (ob_15 hx) rfl kc_X2_clear kz_X2 ki_X2_clear ks_X2_clear km_X8_84 ⟨kn_X2_clear, rfl, rfl, Nat.le_of_ble_eq_true rfl, Nat.le_of_ble_eq_true rfl⟩ rfl (Nat.le_of_ble_eq_true rfl) dX8_back_41 ?_
        refine ax_aload_n F dX8_back_44 rfl ?_
        refine ax_get (v := .ref (ad 26)) F (ob_0 hx) rfl inGX8 2 (by decide) rfl kf_X8_26 rfl dX8_back_45 ?_
        obtain ⟨r3, M3, hq3, h⟩ := cq_some0 h
        refine ax_callVi (As := []) (st := []) F (tX1_entries F.2.2.2.2.2.2.1 _ (isN_26 hx) _ _ _ hq3) (ob_N (isN_26 hx)) rfl kc_X1_entries kz_X1 ki_X1_entries ks_X1_entries km_X8_133 ⟨kn_X1_entries, rfl, rfl, Nat.le_of_ble_eq_true rfl, Nat.le_of_ble_eq_true rfl⟩ rfl (Nat.le_of_ble_eq_true rfl) dX8_back_48 ?_
        obtain ⟨h1, h2⟩ := rt_some0 h
        subst h1; subst h2
        exact ax_iret F dX8_back_51
      · have h := it_pos0 h hc
        refine ax_bipush (v := (-4 : Int32)) F dX8_back_21 (by decide) ?_
        obtain ⟨h1, h2⟩ := rt_some0 h
        subst h1; subst h2
        exact ax_iret F dX8_back_23
    · have h := it_neg0 h hc
      refine ax_bipush (v := (-2 : Int32)) F dX8_back_9 (by decide) ?_
      obtain ⟨h1, h2⟩ := rt_some0 h
      subst h1; subst h2
      exact ax_iret F dX8_back_11
def rmX8_forgotten : Room := { frames := 6, cells := 0, slots := 0, locals := 141 }
theorem kn_X8_forgotten : yX8_forgotten.cls ≠ "java/lang/invoke/MethodHandle" ∧ yX8_forgotten.cls ≠ "java/lang/invoke/VarHandle" ∧ (parseMethodDescriptor yX8_forgotten.desc).map (fun d => d.parameters.length) = some 1 := by decide +kernel
noncomputable def bX8_forgotten_0 (x1 : Int32) (M : Mm) : Option (Sst ⊕ Rst) := cl (fX1_has 26 x1 M) (fun r1 M1 => if r1 = 0 then (some (.inr ((-2 : Int32), M1))) else (cl (fX1_isAlive 26 x1 M1) (fun r2 M2 => if r2 = 0 then (cl (fX1_copyFrom 52 26 M2) (fun r3 M3 => some (.inl (1, [], [x1, (0 : Int32)], M3)))) else (some (.inr ((-4 : Int32), M2))))))
noncomputable def bX8_forgotten_1 (x1 : Int32) (x2 : Int32) (M : Mm) : Option (Sst ⊕ Rst) := if (60 : Int32) < x2 then (some (.inr ((-1 : Int32), M))) else (cl (fX1_known 52 x1 M) (fun r1 M1 => if r1 = 0 then (some (.inr (x2, M1))) else (cl (fX5_cyclesOf 52 (1 : Int32) M1) (fun r2 M2 => some (.inl (1, [], [x1, (x2 + (1 : Int32))], M2))))))
noncomputable def stX8_forgotten : Sst → Option (Sst ⊕ Rst) := fun q => match q.1 with
  | 0 => bX8_forgotten_0 (q.2.2.1.getD 0 0) q.2.2.2
  | 1 => bX8_forgotten_1 (q.2.2.1.getD 0 0) (q.2.2.1.getD 1 0) q.2.2.2
  | _ => none
noncomputable def fX8_forgotten (x1 : Int32) (M : Mm) : Option Rst := run stX8_forgotten (0, [], [x1], M)
def PX8_forgotten (p : Program) (l : Launch) (e : Env) (s : State) (m : MethodId) (args : Array Value) (below : List Frame) (meth : Method) (c : Code) (G : va_G) (L : List Nat) (ad : Nat → Nat) (cs : Nat → ClassId) (zk : Nat → Nat) (r : Int32) (M' : Mm) (n : Nat) : Prop := (∀ (x1 : Int32) (M : Mm), itr stX8_forgotten n (0, [], [x1], M) = some (r, M') → AW p l e rmX8_forgotten s m args below meth c (MQ below (AQi G L ad cs r M') args s 0 0 (inA L ad)) G L ad cs 3 0 [some (.ref (ad 0)), some (.int x1), none] [] M) ∧ (∀ (x1 : Int32) (x2 : Int32) (M : Mm), itr stX8_forgotten n (1, [], [x1, x2], M) = some (r, M') → AW p l e rmX8_forgotten s m args below meth c (MQ below (AQi G L ad cs r M') args s 0 0 (inA L ad)) G L ad cs 3 41 [some (.ref (ad 0)), some (.int x1), some (.int x2)] [] M)
set_option maxRecDepth 100000 in
set_option maxHeartbeats 4000000 in
theorem wX8_forgotten_0 {p : Program} {l : Launch} {e : Env} {s : State} {m : MethodId} {args : Array Value} {below : List Frame} {meth : Method} {c : Code} {G : va_G} {L : List Nat} {ad : Nat → Nat} {cs : Nat → ClassId} {z : Bool} {zk zv : Nat → Nat} {r : Int32} {M' : Mm} {n : Nat} (F : Fx G L ad cs z zk zv p m meth c cX8_forgotten 3 (some .int) s args RX8) (hx : isX L) (IH : PX8_forgotten p l e s m args below meth c G L ad cs zk r M' n) (x1 : Int32) (M : Mm) (h : (bX8_forgotten_0 x1 M).bind (fun q => match q with | .inl s' => itr stX8_forgotten n s' | .inr r => some r) = some (r, M'))  : AW p l e rmX8_forgotten s m args below meth c (MQ below (AQi G L ad cs r M') args s 0 0 (inA L ad)) G L ad cs 3 0 [some (.ref (ad 0)), some (.int x1), none] [] M := by
  unfold bX8_forgotten_0 at h
  refine ax_aload_n F dX8_forgotten_0 rfl ?_
  refine ax_get (v := .ref (ad 26)) F (ob_0 hx) rfl inGX8 2 (by decide) rfl kf_X8_26 rfl dX8_forgotten_1 ?_
  refine ax_iload_n F dX8_forgotten_4 rfl ?_
  obtain ⟨r1, M1, hq1, h⟩ := cq_some h
  refine ax_callVi (As := [.int x1]) (st := []) F (tX1_has F.2.2.2.2.2.2.1 _ _ (isN_26 hx) _ _ _ hq1) (ob_N (isN_26 hx)) rfl kc_X1_has kz_X1 ki_X1_has ks_X1_has km_X8_91 ⟨kn_X1_has, rfl, rfl, Nat.le_of_ble_eq_true rfl, Nat.le_of_ble_eq_true rfl⟩ rfl (Nat.le_of_ble_eq_true rfl) dX8_forgotten_5 ?_
  refine ax_if_ne (t := 14) F dX8_forgotten_8 (by decide) (fun hc => ?_) (fun hc => ?_)
  · have h := it_neg h hc
    refine ax_aload_n F dX8_forgotten_14 rfl ?_
    refine ax_get (v := .ref (ad 26)) F (ob_0 hx) rfl inGX8 2 (by decide) rfl kf_X8_26 rfl dX8_forgotten_15 ?_
    refine ax_iload_n F dX8_forgotten_18 rfl ?_
    obtain ⟨r2, M2, hq2, h⟩ := cq_some h
    refine ax_callVi (As := [.int x1]) (st := []) F (tX1_isAlive F.2.2.2.2.2.2.1 _ _ (isN_26 hx) _ _ _ hq2) (ob_N (isN_26 hx)) rfl kc_X1_isAlive kz_X1 ki_X1_isAlive ks_X1_isAlive km_X8_95 ⟨kn_X1_isAlive, rfl, rfl, Nat.le_of_ble_eq_true rfl, Nat.le_of_ble_eq_true rfl⟩ rfl (Nat.le_of_ble_eq_true rfl) dX8_forgotten_19 ?_
    refine ax_if_eq (t := 28) F dX8_forgotten_22 (by decide) (fun hc => ?_) (fun hc => ?_)
    · have h := it_pos h hc
      refine ax_aload_n F dX8_forgotten_28 rfl ?_
      refine ax_get (v := .ref (ad 52)) F (ob_0 hx) rfl inGX8 3 (by decide) rfl kf_X8_30 rfl dX8_forgotten_29 ?_
      refine ax_aload_n F dX8_forgotten_32 rfl ?_
      refine ax_get (v := .ref (ad 26)) F (ob_0 hx) rfl inGX8 2 (by decide) rfl kf_X8_26 rfl dX8_forgotten_33 ?_
      obtain ⟨r3, M3, hq3, h⟩ := cq_some h
      refine ax_callVv (As := [.ref (ad 26)]) (st := []) F (tX1_copyFrom F.2.2.2.2.2.2.1 _ _ (isN_52 hx) (isN_26 hx) _ _ _ hq3) (ob_N (isN_52 hx)) rfl kc_X1_copyFrom kz_X1 ki_X1_copyFrom ks_X1_copyFrom km_X8_165 ⟨kn_X1_copyFrom, rfl, rfl, Nat.le_of_ble_eq_true rfl, Nat.le_of_ble_eq_true rfl⟩ rfl (Nat.le_of_ble_eq_true rfl) dX8_forgotten_36 ?_
      refine ax_iconst (v := (0 : Int32)) F dX8_forgotten_39 (by decide) ?_
      refine ax_istore_n F dX8_forgotten_40 (by decide) rfl ?_
      exact IH.2 _ _ _ h 
    · have h := it_neg h hc
      refine ax_bipush (v := (-4 : Int32)) F dX8_forgotten_25 (by decide) ?_
      obtain ⟨h1, h2⟩ := rt_some h
      subst h1; subst h2
      exact ax_iret F dX8_forgotten_27
  · have h := it_pos h hc
    refine ax_bipush (v := (-2 : Int32)) F dX8_forgotten_11 (by decide) ?_
    obtain ⟨h1, h2⟩ := rt_some h
    subst h1; subst h2
    exact ax_iret F dX8_forgotten_13
set_option maxRecDepth 100000 in
set_option maxHeartbeats 4000000 in
theorem wX8_forgotten_1 {p : Program} {l : Launch} {e : Env} {s : State} {m : MethodId} {args : Array Value} {below : List Frame} {meth : Method} {c : Code} {G : va_G} {L : List Nat} {ad : Nat → Nat} {cs : Nat → ClassId} {z : Bool} {zk zv : Nat → Nat} {r : Int32} {M' : Mm} {n : Nat} (F : Fx G L ad cs z zk zv p m meth c cX8_forgotten 3 (some .int) s args RX8) (hx : isX L) (IH : PX8_forgotten p l e s m args below meth c G L ad cs zk r M' n) (x1 : Int32) (x2 : Int32) (M : Mm) (h : (bX8_forgotten_1 x1 x2 M).bind (fun q => match q with | .inl s' => itr stX8_forgotten n s' | .inr r => some r) = some (r, M'))  : AW p l e rmX8_forgotten s m args below meth c (MQ below (AQi G L ad cs r M') args s 0 0 (inA L ad)) G L ad cs 3 41 [some (.ref (ad 0)), some (.int x1), some (.int x2)] [] M := by
  unfold bX8_forgotten_1 at h
  refine ax_iload_n F dX8_forgotten_41 rfl ?_
  refine ax_bipush (v := (60 : Int32)) F dX8_forgotten_42 (by decide) ?_
  refine ax_icmp_gt (t := 78) F dX8_forgotten_44 (by decide) (fun hc => ?_) (fun hc => ?_)
  · have h := it_pos h hc
    refine ax_iconst (v := (-1 : Int32)) F dX8_forgotten_78 (by decide) ?_
    obtain ⟨h1, h2⟩ := rt_some h
    subst h1; subst h2
    exact ax_iret F dX8_forgotten_79
  · have h := it_neg h hc
    refine ax_aload_n F dX8_forgotten_47 rfl ?_
    refine ax_get (v := .ref (ad 52)) F (ob_0 hx) rfl inGX8 3 (by decide) rfl kf_X8_30 rfl dX8_forgotten_48 ?_
    refine ax_iload_n F dX8_forgotten_51 rfl ?_
    obtain ⟨r1, M1, hq1, h⟩ := cq_some h
    refine ax_callVi (As := [.int x1]) (st := []) F (tX1_known F.2.2.2.2.2.2.1 _ _ (isN_52 hx) _ _ _ hq1) (ob_N (isN_52 hx)) rfl kc_X1_known kz_X1 ki_X1_known ks_X1_known km_X8_108 ⟨kn_X1_known, rfl, rfl, Nat.le_of_ble_eq_true rfl, Nat.le_of_ble_eq_true rfl⟩ rfl (Nat.le_of_ble_eq_true rfl) dX8_forgotten_52 ?_
    refine ax_if_ne (t := 60) F dX8_forgotten_55 (by decide) (fun hc => ?_) (fun hc => ?_)
    · have h := it_neg h hc
      refine ax_aload_n F dX8_forgotten_60 rfl ?_
      refine ax_get (v := .ref (ad 6)) F (ob_0 hx) rfl inGX8 4 (by decide) rfl kf_X8_36 rfl dX8_forgotten_61 ?_
      refine ax_aload_n F dX8_forgotten_64 rfl ?_
      refine ax_get (v := .ref (ad 52)) F (ob_0 hx) rfl inGX8 3 (by decide) rfl kf_X8_30 rfl dX8_forgotten_65 ?_
      refine ax_iconst (v := (1 : Int32)) F dX8_forgotten_68 (by decide) ?_
      obtain ⟨r2, M2, hq2, h⟩ := cq_some h
      refine ax_callVv (As := [.ref (ad 52), .int (1 : Int32)]) (st := []) F (tX5_cyclesOf F.2.2.2.2.2.2.1 hx _ _ (isN_52 hx) _ _ _ hq2) (ob_6 hx) rfl kc_X5_cyclesOf kz_X5 ki_X5_cyclesOf ks_X5_cyclesOf km_X8_129 ⟨kn_X5_cyclesOf, rfl, rfl, Nat.le_of_ble_eq_true rfl, Nat.le_of_ble_eq_true rfl⟩ rfl (Nat.le_of_ble_eq_true rfl) dX8_forgotten_69 ?_
      refine ax_iinc (v := (1 : Int32)) F dX8_forgotten_72 rfl (by decide) (by decide) rfl ?_
      refine ax_goto (t := 41) F dX8_forgotten_75 (by decide) ?_
      exact IH.2 _ _ _ h 
    · have h := it_pos h hc
      refine ax_iload_n F dX8_forgotten_58 rfl ?_
      obtain ⟨h1, h2⟩ := rt_some h
      subst h1; subst h2
      exact ax_iret F dX8_forgotten_59
set_option maxRecDepth 100000 in
set_option maxHeartbeats 4000000 in
theorem wX8_forgotten {p : Program} {l : Launch} {e : Env} {s : State} {m : MethodId} {args : Array Value} {below : List Frame} {meth : Method} {c : Code} {G : va_G} {L : List Nat} {ad : Nat → Nat} {cs : Nat → ClassId} {z : Bool} {zk zv : Nat → Nat} {r : Int32} {M' : Mm} (F : Fx G L ad cs z zk zv p m meth c cX8_forgotten 3 (some .int) s args RX8) (hx : isX L) (n : Nat) : PX8_forgotten p l e s m args below meth c G L ad cs zk r M' n := by
  induction n with
  | zero => exact ⟨(fun x1 M h => by cases h), (fun x1 x2 M h => by cases h)⟩
  | succ n ih =>
    exact ⟨fun x1 M h  => wX8_forgotten_0 F hx ih x1 M h ,
      fun x1 x2 M h  => wX8_forgotten_1 F hx ih x1 x2 M h ⟩
set_option maxRecDepth 100000 in
set_option maxHeartbeats 4000000 in
theorem tX8_forgotten {l : Launch} {G : va_G} {L : List Nat} {ad : Nat → Nat} {cs : Nat → ClassId} {z : Bool} {zk zv : Nat → Nat} (hinj : inj L ad) (hx : isX L) (x1 : Int32)  (M : Mm) (r : Int32) (M' : Mm) (h : fX8_forgotten x1 M = some (r, M')) : Met l yX8_forgotten (tgW yX8_forgotten cX8_forgotten 3 (some .int)) rmX8_forgotten (APre G L ad cs z zk zv [.ref (ad 0), .int x1] M) (AQi G L ad cs r M') 0 0 (inA L ad) := by
  refine met_of (Eq.refl true) (Nat.le_of_ble_eq_true rfl) hinj [some (.ref (ad 0)), some (.int x1), none] rfl ?_
  intro p e s m below meth c F
  replace F : Fx G L ad cs z zk zv p m meth c cX8_forgotten 3 (some .int) s _ RX8 := F
  obtain ⟨n, hn⟩ := run_ex h
  exact (wX8_forgotten F hx n).1 x1 M hn 
noncomputable def fX8_next (x1 : Int32) (M : Mm) : Option Rst := cl (fX1_has 26 x1 M) (fun r1 M1 => if r1 = 0 then (some ((-2 : Int32), M1)) else (cl (fX1_isAlive 26 x1 M1) (fun r2 M2 => if r2 = 0 then (some ((-4 : Int32), M2)) else (cl (fX1_copyFrom 52 26 M2) (fun r3 M3 => cl (fX5_roundOf 52 x1 M3) (fun r4 M4 => some (r4, M4)))))))
def rmX8_next : Room := { frames := 5, cells := 0, slots := 0, locals := 117 }
theorem kn_X8_next : yX8_next.cls ≠ "java/lang/invoke/MethodHandle" ∧ yX8_next.cls ≠ "java/lang/invoke/VarHandle" ∧ (parseMethodDescriptor yX8_next.desc).map (fun d => d.parameters.length) = some 1 := by decide +kernel
set_option maxRecDepth 100000 in
set_option maxHeartbeats 4000000 in
theorem tX8_next {l : Launch} {G : va_G} {L : List Nat} {ad : Nat → Nat} {cs : Nat → ClassId} {z : Bool} {zk zv : Nat → Nat} (hinj : inj L ad) (hx : isX L) (x1 : Int32)  (M : Mm) (r : Int32) (M' : Mm) (h : fX8_next x1 M = some (r, M')) : Met l yX8_next (tgW yX8_next cX8_next 2 (some .int)) rmX8_next (APre G L ad cs z zk zv [.ref (ad 0), .int x1] M) (AQi G L ad cs r M') 0 0 (inA L ad) := by
  refine met_of (Eq.refl true) (Nat.le_of_ble_eq_true rfl) hinj [some (.ref (ad 0)), some (.int x1)] rfl ?_
  intro p e s m below meth c F
  replace F : Fx G L ad cs z zk zv p m meth c cX8_next 2 (some .int) s _ RX8 := F
  unfold fX8_next at h
  refine ax_aload_n F dX8_next_0 rfl ?_
  refine ax_get (v := .ref (ad 26)) F (ob_0 hx) rfl inGX8 2 (by decide) rfl kf_X8_26 rfl dX8_next_1 ?_
  refine ax_iload_n F dX8_next_4 rfl ?_
  obtain ⟨r1, M1, hq1, h⟩ := cq_some0 h
  refine ax_callVi (As := [.int x1]) (st := []) F (tX1_has F.2.2.2.2.2.2.1 _ _ (isN_26 hx) _ _ _ hq1) (ob_N (isN_26 hx)) rfl kc_X1_has kz_X1 ki_X1_has ks_X1_has km_X8_91 ⟨kn_X1_has, rfl, rfl, Nat.le_of_ble_eq_true rfl, Nat.le_of_ble_eq_true rfl⟩ rfl (Nat.le_of_ble_eq_true rfl) dX8_next_5 ?_
  refine ax_if_ne (t := 14) F dX8_next_8 (by decide) (fun hc => ?_) (fun hc => ?_)
  · have h := it_neg0 h hc
    refine ax_aload_n F dX8_next_14 rfl ?_
    refine ax_get (v := .ref (ad 26)) F (ob_0 hx) rfl inGX8 2 (by decide) rfl kf_X8_26 rfl dX8_next_15 ?_
    refine ax_iload_n F dX8_next_18 rfl ?_
    obtain ⟨r2, M2, hq2, h⟩ := cq_some0 h
    refine ax_callVi (As := [.int x1]) (st := []) F (tX1_isAlive F.2.2.2.2.2.2.1 _ _ (isN_26 hx) _ _ _ hq2) (ob_N (isN_26 hx)) rfl kc_X1_isAlive kz_X1 ki_X1_isAlive ks_X1_isAlive km_X8_95 ⟨kn_X1_isAlive, rfl, rfl, Nat.le_of_ble_eq_true rfl, Nat.le_of_ble_eq_true rfl⟩ rfl (Nat.le_of_ble_eq_true rfl) dX8_next_19 ?_
    refine ax_if_ne (t := 28) F dX8_next_22 (by decide) (fun hc => ?_) (fun hc => ?_)
    · have h := it_neg0 h hc
      refine ax_aload_n F dX8_next_28 rfl ?_
      refine ax_get (v := .ref (ad 52)) F (ob_0 hx) rfl inGX8 3 (by decide) rfl kf_X8_30 rfl dX8_next_29 ?_
      refine ax_aload_n F dX8_next_32 rfl ?_
      refine ax_get (v := .ref (ad 26)) F (ob_0 hx) rfl inGX8 2 (by decide) rfl kf_X8_26 rfl dX8_next_33 ?_
      obtain ⟨r3, M3, hq3, h⟩ := cq_some0 h
      refine ax_callVv (As := [.ref (ad 26)]) (st := []) F (tX1_copyFrom F.2.2.2.2.2.2.1 _ _ (isN_52 hx) (isN_26 hx) _ _ _ hq3) (ob_N (isN_52 hx)) rfl kc_X1_copyFrom kz_X1 ki_X1_copyFrom ks_X1_copyFrom km_X8_165 ⟨kn_X1_copyFrom, rfl, rfl, Nat.le_of_ble_eq_true rfl, Nat.le_of_ble_eq_true rfl⟩ rfl (Nat.le_of_ble_eq_true rfl) dX8_next_36 ?_
      refine ax_aload_n F dX8_next_39 rfl ?_
      refine ax_get (v := .ref (ad 6)) F (ob_0 hx) rfl inGX8 4 (by decide) rfl kf_X8_36 rfl dX8_next_40 ?_
      refine ax_aload_n F dX8_next_43 rfl ?_
      refine ax_get (v := .ref (ad 52)) F (ob_0 hx) rfl inGX8 3 (by decide) rfl kf_X8_30 rfl dX8_next_44 ?_
      refine ax_iload_n F dX8_next_47 rfl ?_
      obtain ⟨r4, M4, hq4, h⟩ := cq_some0 h
      refine ax_callVi (As := [.ref (ad 52), .int x1]) (st := []) F (tX5_roundOf F.2.2.2.2.2.2.1 hx _ _ (isN_52 hx) _ _ _ hq4) (ob_6 hx) rfl kc_X5_roundOf kz_X5 ki_X5_roundOf ks_X5_roundOf km_X8_125 ⟨kn_X5_roundOf, rfl, rfl, Nat.le_of_ble_eq_true rfl, Nat.le_of_ble_eq_true rfl⟩ rfl (Nat.le_of_ble_eq_true rfl) dX8_next_48 ?_
      obtain ⟨h1, h2⟩ := rt_some0 h
      subst h1; subst h2
      exact ax_iret F dX8_next_51
    · have h := it_pos0 h hc
      refine ax_bipush (v := (-4 : Int32)) F dX8_next_25 (by decide) ?_
      obtain ⟨h1, h2⟩ := rt_some0 h
      subst h1; subst h2
      exact ax_iret F dX8_next_27
  · have h := it_pos0 h hc
    refine ax_bipush (v := (-2 : Int32)) F dX8_next_11 (by decide) ?_
    obtain ⟨h1, h2⟩ := rt_some0 h
    subst h1; subst h2
    exact ax_iret F dX8_next_13
noncomputable def fX8_spread (x1 : Int32) (M : Mm) : Option Rst := if x1 < 0 then (some ((-3 : Int32), M)) else (if x1 ≤ (60 : Int32) then (if (M 26 5) = 0 then (some ((-4 : Int32), M)) else (cl (fX1_copyFrom 52 26 M) (fun r1 M1 => cl (fX5_cyclesOf 52 x1 M1) (fun r2 M2 => cl (fX1_mostKnown 52 M2) (fun r3 M3 => cl (fX1_leastKnown 52 M3) (fun r4 M4 => some ((r3 - r4), M4))))))) else (some ((-3 : Int32), M)))
def rmX8_spread : Room := { frames := 6, cells := 0, slots := 0, locals := 141 }
theorem kn_X8_spread : yX8_spread.cls ≠ "java/lang/invoke/MethodHandle" ∧ yX8_spread.cls ≠ "java/lang/invoke/VarHandle" ∧ (parseMethodDescriptor yX8_spread.desc).map (fun d => d.parameters.length) = some 1 := by decide +kernel
set_option maxRecDepth 100000 in
set_option maxHeartbeats 4000000 in
theorem tX8_spread {l : Launch} {G : va_G} {L : List Nat} {ad : Nat → Nat} {cs : Nat → ClassId} {z : Bool} {zk zv : Nat → Nat} (hinj : inj L ad) (hx : isX L) (x1 : Int32)  (M : Mm) (r : Int32) (M' : Mm) (h : fX8_spread x1 M = some (r, M')) : Met l yX8_spread (tgW yX8_spread cX8_spread 2 (some .int)) rmX8_spread (APre G L ad cs z zk zv [.ref (ad 0), .int x1] M) (AQi G L ad cs r M') 0 0 (inA L ad) := by
  refine met_of (Eq.refl true) (Nat.le_of_ble_eq_true rfl) hinj [some (.ref (ad 0)), some (.int x1)] rfl ?_
  intro p e s m below meth c F
  replace F : Fx G L ad cs z zk zv p m meth c cX8_spread 2 (some .int) s _ RX8 := F
  unfold fX8_spread at h
  refine ax_iload_n F dX8_spread_0 rfl ?_
  refine ax_if_lt (t := 10) F dX8_spread_1 (by decide) (fun hc => ?_) (fun hc => ?_)
  · have h := it_pos0 h hc
    refine ax_bipush (v := (-3 : Int32)) F dX8_spread_10 (by decide) ?_
    obtain ⟨h1, h2⟩ := rt_some0 h
    subst h1; subst h2
    exact ax_iret F dX8_spread_12
  · have h := it_neg0 h hc
    refine ax_iload_n F dX8_spread_4 rfl ?_
    refine ax_bipush (v := (60 : Int32)) F dX8_spread_5 (by decide) ?_
    refine ax_icmp_le (t := 13) F dX8_spread_7 (by decide) (fun hc => ?_) (fun hc => ?_)
    · have h := it_pos0 h hc
      refine ax_aload_n F dX8_spread_13 rfl ?_
      refine ax_get (v := .ref (ad 26)) F (ob_0 hx) rfl inGX8 2 (by decide) rfl kf_X8_26 rfl dX8_spread_14 ?_
      refine ax_get (v := .int (M 26 5)) F (ob_N (isN_26 hx)) rfl inGX1 5 (by decide) rfl kf_X8_140 rfl dX8_spread_17 ?_
      refine ax_if_ne (t := 26) F dX8_spread_20 (by decide) (fun hc => ?_) (fun hc => ?_)
      · have h := it_neg0 h hc
        refine ax_aload_n F dX8_spread_26 rfl ?_
        refine ax_get (v := .ref (ad 52)) F (ob_0 hx) rfl inGX8 3 (by decide) rfl kf_X8_30 rfl dX8_spread_27 ?_
        refine ax_aload_n F dX8_spread_30 rfl ?_
        refine ax_get (v := .ref (ad 26)) F (ob_0 hx) rfl inGX8 2 (by decide) rfl kf_X8_26 rfl dX8_spread_31 ?_
        obtain ⟨r1, M1, hq1, h⟩ := cq_some0 h
        refine ax_callVv (As := [.ref (ad 26)]) (st := []) F (tX1_copyFrom F.2.2.2.2.2.2.1 _ _ (isN_52 hx) (isN_26 hx) _ _ _ hq1) (ob_N (isN_52 hx)) rfl kc_X1_copyFrom kz_X1 ki_X1_copyFrom ks_X1_copyFrom km_X8_165 ⟨kn_X1_copyFrom, rfl, rfl, Nat.le_of_ble_eq_true rfl, Nat.le_of_ble_eq_true rfl⟩ rfl (Nat.le_of_ble_eq_true rfl) dX8_spread_34 ?_
        refine ax_aload_n F dX8_spread_37 rfl ?_
        refine ax_get (v := .ref (ad 6)) F (ob_0 hx) rfl inGX8 4 (by decide) rfl kf_X8_36 rfl dX8_spread_38 ?_
        refine ax_aload_n F dX8_spread_41 rfl ?_
        refine ax_get (v := .ref (ad 52)) F (ob_0 hx) rfl inGX8 3 (by decide) rfl kf_X8_30 rfl dX8_spread_42 ?_
        refine ax_iload_n F dX8_spread_45 rfl ?_
        obtain ⟨r2, M2, hq2, h⟩ := cq_some0 h
        refine ax_callVv (As := [.ref (ad 52), .int x1]) (st := []) F (tX5_cyclesOf F.2.2.2.2.2.2.1 hx _ _ (isN_52 hx) _ _ _ hq2) (ob_6 hx) rfl kc_X5_cyclesOf kz_X5 ki_X5_cyclesOf ks_X5_cyclesOf km_X8_129 ⟨kn_X5_cyclesOf, rfl, rfl, Nat.le_of_ble_eq_true rfl, Nat.le_of_ble_eq_true rfl⟩ rfl (Nat.le_of_ble_eq_true rfl) dX8_spread_46 ?_
        refine ax_aload_n F dX8_spread_49 rfl ?_
        refine ax_get (v := .ref (ad 52)) F (ob_0 hx) rfl inGX8 3 (by decide) rfl kf_X8_30 rfl dX8_spread_50 ?_
        obtain ⟨r3, M3, hq3, h⟩ := cq_some0 h
        refine ax_callVi (As := []) (st := []) F (tX1_mostKnown F.2.2.2.2.2.2.1 _ (isN_52 hx) _ _ _ hq3) (ob_N (isN_52 hx)) rfl kc_X1_mostKnown kz_X1 ki_X1_mostKnown ks_X1_mostKnown km_X8_168 ⟨kn_X1_mostKnown, rfl, rfl, Nat.le_of_ble_eq_true rfl, Nat.le_of_ble_eq_true rfl⟩ rfl (Nat.le_of_ble_eq_true rfl) dX8_spread_53 ?_
        refine ax_aload_n F dX8_spread_56 rfl ?_
        refine ax_get (v := .ref (ad 52)) F (ob_0 hx) rfl inGX8 3 (by decide) rfl kf_X8_30 rfl dX8_spread_57 ?_
        obtain ⟨r4, M4, hq4, h⟩ := cq_some0 h
        refine ax_callVi (As := []) (st := [.int r3]) F (tX1_leastKnown F.2.2.2.2.2.2.1 _ (isN_52 hx) _ _ _ hq4) (ob_N (isN_52 hx)) rfl kc_X1_leastKnown kz_X1 ki_X1_leastKnown ks_X1_leastKnown km_X8_171 ⟨kn_X1_leastKnown, rfl, rfl, Nat.le_of_ble_eq_true rfl, Nat.le_of_ble_eq_true rfl⟩ rfl (Nat.le_of_ble_eq_true rfl) dX8_spread_60 ?_
        refine ax_isub F dX8_spread_63 ?_
        obtain ⟨h1, h2⟩ := rt_some0 h
        subst h1; subst h2
        exact ax_iret F dX8_spread_64
      · have h := it_pos0 h hc
        refine ax_bipush (v := (-4 : Int32)) F dX8_spread_23 (by decide) ?_
        obtain ⟨h1, h2⟩ := rt_some0 h
        subst h1; subst h2
        exact ax_iret F dX8_spread_25
    · have h := it_neg0 h hc
      refine ax_bipush (v := (-3 : Int32)) F dX8_spread_10 (by decide) ?_
      obtain ⟨h1, h2⟩ := rt_some0 h
      subst h1; subst h2
      exact ax_iret F dX8_spread_12
noncomputable def fX8_far (x1 : Int32) (x2 : Int32) (M : Mm) : Option Rst := cl (fX1_hasTwo 26 x1 x2 M) (fun r1 M1 => if r1 = 0 then (some ((-2 : Int32), M1)) else (cl (fX1_isAlive 26 x1 M1) (fun r2 M2 => if r2 = 0 then (some ((-4 : Int32), M2)) else (cl (fX1_isAlive 26 x2 M2) (fun r3 M3 => if r3 = 0 then (some ((-4 : Int32), M3)) else (cl (fX1_fewestWays 26 x1 x2 M3) (fun r4 M4 => some (r4, M4))))))))
def rmX8_far : Room := { frames := 4, cells := 0, slots := 0, locals := 89 }
theorem kn_X8_far : yX8_far.cls ≠ "java/lang/invoke/MethodHandle" ∧ yX8_far.cls ≠ "java/lang/invoke/VarHandle" ∧ (parseMethodDescriptor yX8_far.desc).map (fun d => d.parameters.length) = some 2 := by decide +kernel
set_option maxRecDepth 100000 in
set_option maxHeartbeats 4000000 in
theorem tX8_far {l : Launch} {G : va_G} {L : List Nat} {ad : Nat → Nat} {cs : Nat → ClassId} {z : Bool} {zk zv : Nat → Nat} (hinj : inj L ad) (hx : isX L) (x1 : Int32) (x2 : Int32)  (M : Mm) (r : Int32) (M' : Mm) (h : fX8_far x1 x2 M = some (r, M')) : Met l yX8_far (tgW yX8_far cX8_far 3 (some .int)) rmX8_far (APre G L ad cs z zk zv [.ref (ad 0), .int x1, .int x2] M) (AQi G L ad cs r M') 0 0 (inA L ad) := by
  refine met_of (Eq.refl true) (Nat.le_of_ble_eq_true rfl) hinj [some (.ref (ad 0)), some (.int x1), some (.int x2)] rfl ?_
  intro p e s m below meth c F
  replace F : Fx G L ad cs z zk zv p m meth c cX8_far 3 (some .int) s _ RX8 := F
  unfold fX8_far at h
  refine ax_aload_n F dX8_far_0 rfl ?_
  refine ax_get (v := .ref (ad 26)) F (ob_0 hx) rfl inGX8 2 (by decide) rfl kf_X8_26 rfl dX8_far_1 ?_
  refine ax_iload_n F dX8_far_4 rfl ?_
  refine ax_iload_n F dX8_far_5 rfl ?_
  obtain ⟨r1, M1, hq1, h⟩ := cq_some0 h
  refine ax_callVi (As := [.int x1, .int x2]) (st := []) F (tX1_hasTwo F.2.2.2.2.2.2.1 _ _ _ (isN_26 hx) _ _ _ hq1) (ob_N (isN_26 hx)) rfl kc_X1_hasTwo kz_X1 ki_X1_hasTwo ks_X1_hasTwo km_X8_148 ⟨kn_X1_hasTwo, rfl, rfl, Nat.le_of_ble_eq_true rfl, Nat.le_of_ble_eq_true rfl⟩ rfl (Nat.le_of_ble_eq_true rfl) dX8_far_6 ?_
  refine ax_if_ne (t := 15) F dX8_far_9 (by decide) (fun hc => ?_) (fun hc => ?_)
  · have h := it_neg0 h hc
    refine ax_aload_n F dX8_far_15 rfl ?_
    refine ax_get (v := .ref (ad 26)) F (ob_0 hx) rfl inGX8 2 (by decide) rfl kf_X8_26 rfl dX8_far_16 ?_
    refine ax_iload_n F dX8_far_19 rfl ?_
    obtain ⟨r2, M2, hq2, h⟩ := cq_some0 h
    refine ax_callVi (As := [.int x1]) (st := []) F (tX1_isAlive F.2.2.2.2.2.2.1 _ _ (isN_26 hx) _ _ _ hq2) (ob_N (isN_26 hx)) rfl kc_X1_isAlive kz_X1 ki_X1_isAlive ks_X1_isAlive km_X8_95 ⟨kn_X1_isAlive, rfl, rfl, Nat.le_of_ble_eq_true rfl, Nat.le_of_ble_eq_true rfl⟩ rfl (Nat.le_of_ble_eq_true rfl) dX8_far_20 ?_
    refine ax_if_eq (t := 37) F dX8_far_23 (by decide) (fun hc => ?_) (fun hc => ?_)
    · have h := it_pos0 h hc
      refine ax_bipush (v := (-4 : Int32)) F dX8_far_37 (by decide) ?_
      obtain ⟨h1, h2⟩ := rt_some0 h
      subst h1; subst h2
      exact ax_iret F dX8_far_39
    · have h := it_neg0 h hc
      refine ax_aload_n F dX8_far_26 rfl ?_
      refine ax_get (v := .ref (ad 26)) F (ob_0 hx) rfl inGX8 2 (by decide) rfl kf_X8_26 rfl dX8_far_27 ?_
      refine ax_iload_n F dX8_far_30 rfl ?_
      obtain ⟨r3, M3, hq3, h⟩ := cq_some0 h
      refine ax_callVi (As := [.int x2]) (st := []) F (tX1_isAlive F.2.2.2.2.2.2.1 _ _ (isN_26 hx) _ _ _ hq3) (ob_N (isN_26 hx)) rfl kc_X1_isAlive kz_X1 ki_X1_isAlive ks_X1_isAlive km_X8_95 ⟨kn_X1_isAlive, rfl, rfl, Nat.le_of_ble_eq_true rfl, Nat.le_of_ble_eq_true rfl⟩ rfl (Nat.le_of_ble_eq_true rfl) dX8_far_31 ?_
      refine ax_if_ne (t := 40) F dX8_far_34 (by decide) (fun hc => ?_) (fun hc => ?_)
      · have h := it_neg0 h hc
        refine ax_aload_n F dX8_far_40 rfl ?_
        refine ax_get (v := .ref (ad 26)) F (ob_0 hx) rfl inGX8 2 (by decide) rfl kf_X8_26 rfl dX8_far_41 ?_
        refine ax_iload_n F dX8_far_44 rfl ?_
        refine ax_iload_n F dX8_far_45 rfl ?_
        obtain ⟨r4, M4, hq4, h⟩ := cq_some0 h
        refine ax_callVi (As := [.int x1, .int x2]) (st := []) F (tX1_fewestWays F.2.2.2.2.2.2.1 _ _ _ (isN_26 hx) _ _ _ hq4) (ob_N (isN_26 hx)) rfl kc_X1_fewestWays kz_X1 ki_X1_fewestWays ks_X1_fewestWays km_X8_174 ⟨kn_X1_fewestWays, rfl, rfl, Nat.le_of_ble_eq_true rfl, Nat.le_of_ble_eq_true rfl⟩ rfl (Nat.le_of_ble_eq_true rfl) dX8_far_46 ?_
        obtain ⟨h1, h2⟩ := rt_some0 h
        subst h1; subst h2
        exact ax_iret F dX8_far_49
      · have h := it_pos0 h hc
        refine ax_bipush (v := (-4 : Int32)) F dX8_far_37 (by decide) ?_
        obtain ⟨h1, h2⟩ := rt_some0 h
        subst h1; subst h2
        exact ax_iret F dX8_far_39
  · have h := it_pos0 h hc
    refine ax_bipush (v := (-2 : Int32)) F dX8_far_12 (by decide) ?_
    obtain ⟨h1, h2⟩ := rt_some0 h
    subst h1; subst h2
    exact ax_iret F dX8_far_14
noncomputable def fX8_isRing (x0 : Int32) (M : Mm) : Option Rst := if x0 < 0 then (some ((0 : Int32), M)) else (if (3 : Int32) ≤ x0 then (some ((0 : Int32), M)) else (some ((1 : Int32), M)))
def rmX8_isRing : Room := { frames := 0, cells := 0, slots := 0, locals := 0 }
theorem kn_X8_isRing : yX8_isRing.cls ≠ "java/lang/invoke/MethodHandle" ∧ yX8_isRing.cls ≠ "java/lang/invoke/VarHandle" ∧ (parseMethodDescriptor yX8_isRing.desc).map (fun d => d.parameters.length) = some 1 := by decide +kernel
set_option maxRecDepth 100000 in
set_option maxHeartbeats 4000000 in
theorem tX8_isRing {l : Launch} {G : va_G} {L : List Nat} {ad : Nat → Nat} {cs : Nat → ClassId} {z : Bool} {zk zv : Nat → Nat} (hinj : inj L ad) (hx : isX L) (x0 : Int32)  (M : Mm) (r : Int32) (M' : Mm) (h : fX8_isRing x0 M = some (r, M')) : Met l yX8_isRing (tgW yX8_isRing cX8_isRing 1 (some .boolean)) rmX8_isRing (APre G L ad cs z zk zv [.int x0] M) (AQi G L ad cs r M') 0 0 (inA L ad) := by
  refine met_of (Eq.refl true) (Nat.le_of_ble_eq_true rfl) hinj [some (.int x0)] rfl ?_
  intro p e s m below meth c F
  replace F : Fx G L ad cs z zk zv p m meth c cX8_isRing 1 (some .boolean) s _ RX8 := F
  unfold fX8_isRing at h
  refine ax_iload_n F dX8_isRing_0 rfl ?_
  refine ax_if_lt (t := 13) F dX8_isRing_1 (by decide) (fun hc => ?_) (fun hc => ?_)
  · have h := it_pos0 h hc
    refine ax_iconst (v := (0 : Int32)) F dX8_isRing_13 (by decide) ?_
    obtain ⟨h1, h2⟩ := rt_some0 h
    subst h1; subst h2
    exact ax_zret F (by decide) dX8_isRing_14
  · have h := it_neg0 h hc
    refine ax_iload_n F dX8_isRing_4 rfl ?_
    refine ax_iconst (v := (3 : Int32)) F dX8_isRing_5 (by decide) ?_
    refine ax_icmp_ge (t := 13) F dX8_isRing_6 (by decide) (fun hc => ?_) (fun hc => ?_)
    · have h := it_pos0 h hc
      refine ax_iconst (v := (0 : Int32)) F dX8_isRing_13 (by decide) ?_
      obtain ⟨h1, h2⟩ := rt_some0 h
      subst h1; subst h2
      exact ax_zret F (by decide) dX8_isRing_14
    · have h := it_neg0 h hc
      refine ax_iconst (v := (1 : Int32)) F dX8_isRing_9 (by decide) ?_
      refine ax_goto (t := 14) F dX8_isRing_10 (by decide) ?_
      obtain ⟨h1, h2⟩ := rt_some0 h
      subst h1; subst h2
      exact ax_zret F (by decide) dX8_isRing_14
noncomputable def fX8_ring (x1 : Int32) (M : Mm) : Option Rst := cl (fX8_isRing x1 M) (fun r1 M1 => if r1 = 0 then (some ((-2 : Int32), M1)) else (gd (okI x1 3) (cl (fX3_renew (20 + 2 * ix (x1)) M1) (fun r2 M2 => some ((0 : Int32), M2)))))
def rmX8_ring : Room := { frames := 1, cells := 0, slots := 0, locals := 20 }
theorem kn_X8_ring : yX8_ring.cls ≠ "java/lang/invoke/MethodHandle" ∧ yX8_ring.cls ≠ "java/lang/invoke/VarHandle" ∧ (parseMethodDescriptor yX8_ring.desc).map (fun d => d.parameters.length) = some 1 := by decide +kernel
set_option maxRecDepth 100000 in
set_option maxHeartbeats 4000000 in
theorem tX8_ring {l : Launch} {G : va_G} {L : List Nat} {ad : Nat → Nat} {cs : Nat → ClassId} {z : Bool} {zk zv : Nat → Nat} (hinj : inj L ad) (hx : isX L) (x1 : Int32)  (M : Mm) (r : Int32) (M' : Mm) (h : fX8_ring x1 M = some (r, M')) : Met l yX8_ring (tgW yX8_ring cX8_ring 2 (some .int)) rmX8_ring (APre G L ad cs z zk zv [.ref (ad 0), .int x1] M) (AQi G L ad cs r M') 0 0 (inA L ad) := by
  refine met_of (Eq.refl true) (Nat.le_of_ble_eq_true rfl) hinj [some (.ref (ad 0)), some (.int x1)] rfl ?_
  intro p e s m below meth c F
  replace F : Fx G L ad cs z zk zv p m meth c cX8_ring 2 (some .int) s _ RX8 := F
  unfold fX8_ring at h
  refine ax_iload_n F dX8_ring_0 rfl ?_
  obtain ⟨r1, M1, hq1, h⟩ := cq_some0 h
  refine ax_callSi (As := [.int x1]) (st := []) F (tX8_isRing F.2.2.2.2.2.2.1 hx _  _ _ _ hq1) kc_X8_isRing kz_X8 kt_X8_isRing km_X8_178 ⟨kn_X8_isRing, rfl, rfl, Nat.le_of_ble_eq_true rfl, Nat.le_of_ble_eq_true rfl⟩ rfl (Nat.le_of_ble_eq_true rfl) dX8_ring_1 ?_
  refine ax_if_ne (t := 10) F dX8_ring_4 (by decide) (fun hc => ?_) (fun hc => ?_)
  · have h := it_neg0 h hc
    refine ax_aload_n F dX8_ring_10 rfl ?_
    refine ax_get (v := .ref (ad 19)) F (ob_0 hx) rfl inGX8 8 (by decide) rfl kf_X8_57 rfl dX8_ring_11 ?_
    refine ax_iload_n F dX8_ring_14 rfl ?_
    obtain ⟨hi1, h⟩ := gd_some0 h
    refine ax_aald F (rf_19 hx) rfl hi1 dX8_ring_15 ?_
    obtain ⟨r2, M2, hq2, h⟩ := cq_some0 h
    refine ax_callVv (As := []) (st := []) F (tX3_renew F.2.2.2.2.2.2.1 _ (isG_of hx (okI_lt hi1)) _ _ _ hq2) (ob_G (isG_of hx (okI_lt hi1))) rfl kc_X3_renew kz_X3 ki_X3_renew ks_X3_renew km_X8_181 ⟨kn_X3_renew, rfl, rfl, Nat.le_of_ble_eq_true rfl, Nat.le_of_ble_eq_true rfl⟩ rfl (Nat.le_of_ble_eq_true rfl) dX8_ring_16 ?_
    refine ax_iconst (v := (0 : Int32)) F dX8_ring_19 (by decide) ?_
    obtain ⟨h1, h2⟩ := rt_some0 h
    subst h1; subst h2
    exact ax_iret F dX8_ring_20
  · have h := it_pos0 h hc
    refine ax_bipush (v := (-2 : Int32)) F dX8_ring_7 (by decide) ?_
    obtain ⟨h1, h2⟩ := rt_some0 h
    subst h1; subst h2
    exact ax_iret F dX8_ring_9
noncomputable def fX8_add (x1 : Int32) (x2 : Int32) (M : Mm) : Option Rst := cl (fX8_isRing x1 M) (fun r1 M1 => if r1 = 0 then (some ((-2 : Int32), M1)) else (if x2 < (-999 : Int32) then (some ((-3 : Int32), M1)) else (if x2 ≤ (999 : Int32) then (gd (okI x1 3) (if (M1 (20 + 2 * ix (x1)) 3) = 0 then (if (M1 (20 + 2 * ix (x1)) 1) < (8 : Int32) then (cl (fX3_insert (20 + 2 * ix (x1)) x2 M1) (fun r2 M2 => some ((M2 (20 + 2 * ix (x1)) 1), M2))) else (some ((-13 : Int32), M1))) else (some ((-11 : Int32), M1)))) else (some ((-3 : Int32), M1)))))
def rmX8_add : Room := { frames := 1, cells := 0, slots := 0, locals := 23 }
theorem kn_X8_add : yX8_add.cls ≠ "java/lang/invoke/MethodHandle" ∧ yX8_add.cls ≠ "java/lang/invoke/VarHandle" ∧ (parseMethodDescriptor yX8_add.desc).map (fun d => d.parameters.length) = some 2 := by decide +kernel
set_option maxRecDepth 100000 in
set_option maxHeartbeats 4000000 in
theorem tX8_add {l : Launch} {G : va_G} {L : List Nat} {ad : Nat → Nat} {cs : Nat → ClassId} {z : Bool} {zk zv : Nat → Nat} (hinj : inj L ad) (hx : isX L) (x1 : Int32) (x2 : Int32)  (M : Mm) (r : Int32) (M' : Mm) (h : fX8_add x1 x2 M = some (r, M')) : Met l yX8_add (tgW yX8_add cX8_add 4 (some .int)) rmX8_add (APre G L ad cs z zk zv [.ref (ad 0), .int x1, .int x2] M) (AQi G L ad cs r M') 0 0 (inA L ad) := by
  refine met_of (Eq.refl true) (Nat.le_of_ble_eq_true rfl) hinj [some (.ref (ad 0)), some (.int x1), some (.int x2), none] rfl ?_
  intro p e s m below meth c F
  replace F : Fx G L ad cs z zk zv p m meth c cX8_add 4 (some .int) s _ RX8 := F
  unfold fX8_add at h
  refine ax_iload_n F dX8_add_0 rfl ?_
  obtain ⟨r1, M1, hq1, h⟩ := cq_some0 h
  refine ax_callSi (As := [.int x1]) (st := []) F (tX8_isRing F.2.2.2.2.2.2.1 hx _  _ _ _ hq1) kc_X8_isRing kz_X8 kt_X8_isRing km_X8_178 ⟨kn_X8_isRing, rfl, rfl, Nat.le_of_ble_eq_true rfl, Nat.le_of_ble_eq_true rfl⟩ rfl (Nat.le_of_ble_eq_true rfl) dX8_add_1 ?_
  refine ax_if_ne (t := 10) F dX8_add_4 (by decide) (fun hc => ?_) (fun hc => ?_)
  · have h := it_neg0 h hc
    refine ax_iload_n F dX8_add_10 rfl ?_
    refine ax_sipush (v := (-999 : Int32)) F dX8_add_11 (by decide) ?_
    refine ax_icmp_lt (t := 24) F dX8_add_14 (by decide) (fun hc => ?_) (fun hc => ?_)
    · have h := it_pos0 h hc
      refine ax_bipush (v := (-3 : Int32)) F dX8_add_24 (by decide) ?_
      obtain ⟨h1, h2⟩ := rt_some0 h
      subst h1; subst h2
      exact ax_iret F dX8_add_26
    · have h := it_neg0 h hc
      refine ax_iload_n F dX8_add_17 rfl ?_
      refine ax_sipush (v := (999 : Int32)) F dX8_add_18 (by decide) ?_
      refine ax_icmp_le (t := 27) F dX8_add_21 (by decide) (fun hc => ?_) (fun hc => ?_)
      · have h := it_pos0 h hc
        refine ax_aload_n F dX8_add_27 rfl ?_
        refine ax_get (v := .ref (ad 19)) F (ob_0 hx) rfl inGX8 8 (by decide) rfl kf_X8_57 rfl dX8_add_28 ?_
        refine ax_iload_n F dX8_add_31 rfl ?_
        obtain ⟨hi1, h⟩ := gd_some0 h
        refine ax_aald F (rf_19 hx) rfl hi1 dX8_add_32 ?_
        refine ax_astore_n F dX8_add_33 (by decide) rfl ?_
        refine ax_aload_n F dX8_add_34 rfl ?_
        refine ax_get (v := .int (M1 (20 + 2 * ix (x1)) 3)) F (ob_G (isG_of hx (okI_lt hi1))) rfl inGX3 3 (by decide) rfl kf_X8_184 rfl dX8_add_35 ?_
        refine ax_if_eq (t := 44) F dX8_add_38 (by decide) (fun hc => ?_) (fun hc => ?_)
        · have h := it_pos0 h hc
          refine ax_aload_n F dX8_add_44 rfl ?_
          refine ax_get (v := .int (M1 (20 + 2 * ix (x1)) 1)) F (ob_G (isG_of hx (okI_lt hi1))) rfl inGX3 1 (by decide) rfl kf_X8_188 rfl dX8_add_45 ?_
          refine ax_bipush (v := (8 : Int32)) F dX8_add_48 (by decide) ?_
          refine ax_icmp_lt (t := 56) F dX8_add_50 (by decide) (fun hc => ?_) (fun hc => ?_)
          · have h := it_pos0 h hc
            refine ax_aload_n F dX8_add_56 rfl ?_
            refine ax_iload_n F dX8_add_57 rfl ?_
            obtain ⟨r2, M2, hq2, h⟩ := cq_some0 h
            refine ax_callVv (As := [.int x2]) (st := []) F (tX3_insert F.2.2.2.2.2.2.1 _ _ (isG_of hx (okI_lt hi1)) _ _ _ hq2) (ob_G (isG_of hx (okI_lt hi1))) rfl kc_X3_insert kz_X3 ki_X3_insert ks_X3_insert km_X8_189 ⟨kn_X3_insert, rfl, rfl, Nat.le_of_ble_eq_true rfl, Nat.le_of_ble_eq_true rfl⟩ rfl (Nat.le_of_ble_eq_true rfl) dX8_add_58 ?_
            refine ax_aload_n F dX8_add_61 rfl ?_
            refine ax_get (v := .int (M2 (20 + 2 * ix (x1)) 1)) F (ob_G (isG_of hx (okI_lt hi1))) rfl inGX3 1 (by decide) rfl kf_X8_188 rfl dX8_add_62 ?_
            obtain ⟨h1, h2⟩ := rt_some0 h
            subst h1; subst h2
            exact ax_iret F dX8_add_65
          · have h := it_neg0 h hc
            refine ax_bipush (v := (-13 : Int32)) F dX8_add_53 (by decide) ?_
            obtain ⟨h1, h2⟩ := rt_some0 h
            subst h1; subst h2
            exact ax_iret F dX8_add_55
        · have h := it_neg0 h hc
          refine ax_bipush (v := (-11 : Int32)) F dX8_add_41 (by decide) ?_
          obtain ⟨h1, h2⟩ := rt_some0 h
          subst h1; subst h2
          exact ax_iret F dX8_add_43
      · have h := it_neg0 h hc
        refine ax_bipush (v := (-3 : Int32)) F dX8_add_24 (by decide) ?_
        obtain ⟨h1, h2⟩ := rt_some0 h
        subst h1; subst h2
        exact ax_iret F dX8_add_26
  · have h := it_pos0 h hc
    refine ax_bipush (v := (-2 : Int32)) F dX8_add_7 (by decide) ?_
    obtain ⟨h1, h2⟩ := rt_some0 h
    subst h1; subst h2
    exact ax_iret F dX8_add_9
noncomputable def fX8_step (x1 : Int32) (x2 : Int32) (M : Mm) : Option Rst := cl (fX8_isRing x1 M) (fun r1 M1 => if r1 = 0 then (some ((-2 : Int32), M1)) else (if x2 < 0 then (some ((-3 : Int32), M1)) else (if x2 ≤ (99 : Int32) then (gd (okI x1 3) (if (M1 (20 + 2 * ix (x1)) 1) = 0 then (cl (fX3_lack (20 + 2 * ix (x1)) M1) (fun r4 M4 => some (r4, M4))) else (cl (fX3_moveHand (20 + 2 * ix (x1)) x2 M1) (fun r2 M2 => cl (fX3_atHand (20 + 2 * ix (x1)) M2) (fun r3 M3 => some ((r3 + (5000 : Int32)), M3)))))) else (some ((-3 : Int32), M1)))))
def rmX8_step : Room := { frames := 1, cells := 0, slots := 0, locals := 21 }
theorem kn_X8_step : yX8_step.cls ≠ "java/lang/invoke/MethodHandle" ∧ yX8_step.cls ≠ "java/lang/invoke/VarHandle" ∧ (parseMethodDescriptor yX8_step.desc).map (fun d => d.parameters.length) = some 2 := by decide +kernel
set_option maxRecDepth 100000 in
set_option maxHeartbeats 4000000 in
theorem tX8_step {l : Launch} {G : va_G} {L : List Nat} {ad : Nat → Nat} {cs : Nat → ClassId} {z : Bool} {zk zv : Nat → Nat} (hinj : inj L ad) (hx : isX L) (x1 : Int32) (x2 : Int32)  (M : Mm) (r : Int32) (M' : Mm) (h : fX8_step x1 x2 M = some (r, M')) : Met l yX8_step (tgW yX8_step cX8_step 4 (some .int)) rmX8_step (APre G L ad cs z zk zv [.ref (ad 0), .int x1, .int x2] M) (AQi G L ad cs r M') 0 0 (inA L ad) := by
  refine met_of (Eq.refl true) (Nat.le_of_ble_eq_true rfl) hinj [some (.ref (ad 0)), some (.int x1), some (.int x2), none] rfl ?_
  intro p e s m below meth c F
  replace F : Fx G L ad cs z zk zv p m meth c cX8_step 4 (some .int) s _ RX8 := F
  unfold fX8_step at h
  refine ax_iload_n F dX8_step_0 rfl ?_
  obtain ⟨r1, M1, hq1, h⟩ := cq_some0 h
  refine ax_callSi (As := [.int x1]) (st := []) F (tX8_isRing F.2.2.2.2.2.2.1 hx _  _ _ _ hq1) kc_X8_isRing kz_X8 kt_X8_isRing km_X8_178 ⟨kn_X8_isRing, rfl, rfl, Nat.le_of_ble_eq_true rfl, Nat.le_of_ble_eq_true rfl⟩ rfl (Nat.le_of_ble_eq_true rfl) dX8_step_1 ?_
  refine ax_if_ne (t := 10) F dX8_step_4 (by decide) (fun hc => ?_) (fun hc => ?_)
  · have h := it_neg0 h hc
    refine ax_iload_n F dX8_step_10 rfl ?_
    refine ax_if_lt (t := 20) F dX8_step_11 (by decide) (fun hc => ?_) (fun hc => ?_)
    · have h := it_pos0 h hc
      refine ax_bipush (v := (-3 : Int32)) F dX8_step_20 (by decide) ?_
      obtain ⟨h1, h2⟩ := rt_some0 h
      subst h1; subst h2
      exact ax_iret F dX8_step_22
    · have h := it_neg0 h hc
      refine ax_iload_n F dX8_step_14 rfl ?_
      refine ax_bipush (v := (99 : Int32)) F dX8_step_15 (by decide) ?_
      refine ax_icmp_le (t := 23) F dX8_step_17 (by decide) (fun hc => ?_) (fun hc => ?_)
      · have h := it_pos0 h hc
        refine ax_aload_n F dX8_step_23 rfl ?_
        refine ax_get (v := .ref (ad 19)) F (ob_0 hx) rfl inGX8 8 (by decide) rfl kf_X8_57 rfl dX8_step_24 ?_
        refine ax_iload_n F dX8_step_27 rfl ?_
        obtain ⟨hi1, h⟩ := gd_some0 h
        refine ax_aald F (rf_19 hx) rfl hi1 dX8_step_28 ?_
        refine ax_astore_n F dX8_step_29 (by decide) rfl ?_
        refine ax_aload_n F dX8_step_30 rfl ?_
        refine ax_get (v := .int (M1 (20 + 2 * ix (x1)) 1)) F (ob_G (isG_of hx (okI_lt hi1))) rfl inGX3 1 (by decide) rfl kf_X8_188 rfl dX8_step_31 ?_
        refine ax_if_ne (t := 42) F dX8_step_34 (by decide) (fun hc => ?_) (fun hc => ?_)
        · have h := it_neg0 h hc
          refine ax_aload_n F dX8_step_42 rfl ?_
          refine ax_iload_n F dX8_step_43 rfl ?_
          obtain ⟨r2, M2, hq2, h⟩ := cq_some0 h
          refine ax_callVv (As := [.int x2]) (st := []) F (tX3_moveHand F.2.2.2.2.2.2.1 _ _ (isG_of hx (okI_lt hi1)) _ _ _ hq2) (ob_G (isG_of hx (okI_lt hi1))) rfl kc_X3_moveHand kz_X3 ki_X3_moveHand ks_X3_moveHand km_X8_195 ⟨kn_X3_moveHand, rfl, rfl, Nat.le_of_ble_eq_true rfl, Nat.le_of_ble_eq_true rfl⟩ rfl (Nat.le_of_ble_eq_true rfl) dX8_step_44 ?_
          refine ax_aload_n F dX8_step_47 rfl ?_
          obtain ⟨r3, M3, hq3, h⟩ := cq_some0 h
          refine ax_callVi (As := []) (st := []) F (tX3_atHand F.2.2.2.2.2.2.1 _ (isG_of hx (okI_lt hi1)) _ _ _ hq3) (ob_G (isG_of hx (okI_lt hi1))) rfl kc_X3_atHand kz_X3 ki_X3_atHand ks_X3_atHand km_X8_198 ⟨kn_X3_atHand, rfl, rfl, Nat.le_of_ble_eq_true rfl, Nat.le_of_ble_eq_true rfl⟩ rfl (Nat.le_of_ble_eq_true rfl) dX8_step_48 ?_
          refine ax_sipush (v := (5000 : Int32)) F dX8_step_51 (by decide) ?_
          refine ax_iadd F dX8_step_54 ?_
          obtain ⟨h1, h2⟩ := rt_some0 h
          subst h1; subst h2
          exact ax_iret F dX8_step_55
        · have h := it_pos0 h hc
          refine ax_aload_n F dX8_step_37 rfl ?_
          obtain ⟨r4, M4, hq4, h⟩ := cq_some0 h
          refine ax_callVi (As := []) (st := []) F (tX3_lack F.2.2.2.2.2.2.1 _ (isG_of hx (okI_lt hi1)) _ _ _ hq4) (ob_G (isG_of hx (okI_lt hi1))) rfl kc_X3_lack kz_X3 ki_X3_lack ks_X3_lack km_X8_192 ⟨kn_X3_lack, rfl, rfl, Nat.le_of_ble_eq_true rfl, Nat.le_of_ble_eq_true rfl⟩ rfl (Nat.le_of_ble_eq_true rfl) dX8_step_38 ?_
          obtain ⟨h1, h2⟩ := rt_some0 h
          subst h1; subst h2
          exact ax_iret F dX8_step_41
      · have h := it_neg0 h hc
        refine ax_bipush (v := (-3 : Int32)) F dX8_step_20 (by decide) ?_
        obtain ⟨h1, h2⟩ := rt_some0 h
        subst h1; subst h2
        exact ax_iret F dX8_step_22
  · have h := it_pos0 h hc
    refine ax_bipush (v := (-2 : Int32)) F dX8_step_7 (by decide) ?_
    obtain ⟨h1, h2⟩ := rt_some0 h
    subst h1; subst h2
    exact ax_iret F dX8_step_9
noncomputable def fX8_take (x1 : Int32) (M : Mm) : Option Rst := cl (fX8_isRing x1 M) (fun r1 M1 => if r1 = 0 then (some ((-2 : Int32), M1)) else (gd (okI x1 3) (if (M1 (20 + 2 * ix (x1)) 1) = 0 then (cl (fX3_lack (20 + 2 * ix (x1)) M1) (fun r4 M4 => some (r4, M4))) else (cl (fX3_atHand (20 + 2 * ix (x1)) M1) (fun r2 M2 => cl (fX3_removeAtHand (20 + 2 * ix (x1)) M2) (fun r3 M3 => some ((r2 + (5000 : Int32)), M3)))))))
def rmX8_take : Room := { frames := 1, cells := 0, slots := 0, locals := 21 }
theorem kn_X8_take : yX8_take.cls ≠ "java/lang/invoke/MethodHandle" ∧ yX8_take.cls ≠ "java/lang/invoke/VarHandle" ∧ (parseMethodDescriptor yX8_take.desc).map (fun d => d.parameters.length) = some 1 := by decide +kernel
set_option maxRecDepth 100000 in
set_option maxHeartbeats 4000000 in
theorem tX8_take {l : Launch} {G : va_G} {L : List Nat} {ad : Nat → Nat} {cs : Nat → ClassId} {z : Bool} {zk zv : Nat → Nat} (hinj : inj L ad) (hx : isX L) (x1 : Int32)  (M : Mm) (r : Int32) (M' : Mm) (h : fX8_take x1 M = some (r, M')) : Met l yX8_take (tgW yX8_take cX8_take 4 (some .int)) rmX8_take (APre G L ad cs z zk zv [.ref (ad 0), .int x1] M) (AQi G L ad cs r M') 0 0 (inA L ad) := by
  refine met_of (Eq.refl true) (Nat.le_of_ble_eq_true rfl) hinj [some (.ref (ad 0)), some (.int x1), none, none] rfl ?_
  intro p e s m below meth c F
  replace F : Fx G L ad cs z zk zv p m meth c cX8_take 4 (some .int) s _ RX8 := F
  unfold fX8_take at h
  refine ax_iload_n F dX8_take_0 rfl ?_
  obtain ⟨r1, M1, hq1, h⟩ := cq_some0 h
  refine ax_callSi (As := [.int x1]) (st := []) F (tX8_isRing F.2.2.2.2.2.2.1 hx _  _ _ _ hq1) kc_X8_isRing kz_X8 kt_X8_isRing km_X8_178 ⟨kn_X8_isRing, rfl, rfl, Nat.le_of_ble_eq_true rfl, Nat.le_of_ble_eq_true rfl⟩ rfl (Nat.le_of_ble_eq_true rfl) dX8_take_1 ?_
  refine ax_if_ne (t := 10) F dX8_take_4 (by decide) (fun hc => ?_) (fun hc => ?_)
  · have h := it_neg0 h hc
    refine ax_aload_n F dX8_take_10 rfl ?_
    refine ax_get (v := .ref (ad 19)) F (ob_0 hx) rfl inGX8 8 (by decide) rfl kf_X8_57 rfl dX8_take_11 ?_
    refine ax_iload_n F dX8_take_14 rfl ?_
    obtain ⟨hi1, h⟩ := gd_some0 h
    refine ax_aald F (rf_19 hx) rfl hi1 dX8_take_15 ?_
    refine ax_astore_n F dX8_take_16 (by decide) rfl ?_
    refine ax_aload_n F dX8_take_17 rfl ?_
    refine ax_get (v := .int (M1 (20 + 2 * ix (x1)) 1)) F (ob_G (isG_of hx (okI_lt hi1))) rfl inGX3 1 (by decide) rfl kf_X8_188 rfl dX8_take_18 ?_
    refine ax_if_ne (t := 29) F dX8_take_21 (by decide) (fun hc => ?_) (fun hc => ?_)
    · have h := it_neg0 h hc
      refine ax_aload_n F dX8_take_29 rfl ?_
      obtain ⟨r2, M2, hq2, h⟩ := cq_some0 h
      refine ax_callVi (As := []) (st := []) F (tX3_atHand F.2.2.2.2.2.2.1 _ (isG_of hx (okI_lt hi1)) _ _ _ hq2) (ob_G (isG_of hx (okI_lt hi1))) rfl kc_X3_atHand kz_X3 ki_X3_atHand ks_X3_atHand km_X8_198 ⟨kn_X3_atHand, rfl, rfl, Nat.le_of_ble_eq_true rfl, Nat.le_of_ble_eq_true rfl⟩ rfl (Nat.le_of_ble_eq_true rfl) dX8_take_30 ?_
      refine ax_istore_n F dX8_take_33 (by decide) rfl ?_
      refine ax_aload_n F dX8_take_34 rfl ?_
      obtain ⟨r3, M3, hq3, h⟩ := cq_some0 h
      refine ax_callVv (As := []) (st := []) F (tX3_removeAtHand F.2.2.2.2.2.2.1 _ (isG_of hx (okI_lt hi1)) _ _ _ hq3) (ob_G (isG_of hx (okI_lt hi1))) rfl kc_X3_removeAtHand kz_X3 ki_X3_removeAtHand ks_X3_removeAtHand km_X8_201 ⟨kn_X3_removeAtHand, rfl, rfl, Nat.le_of_ble_eq_true rfl, Nat.le_of_ble_eq_true rfl⟩ rfl (Nat.le_of_ble_eq_true rfl) dX8_take_35 ?_
      refine ax_iload_n F dX8_take_38 rfl ?_
      refine ax_sipush (v := (5000 : Int32)) F dX8_take_39 (by decide) ?_
      refine ax_iadd F dX8_take_42 ?_
      obtain ⟨h1, h2⟩ := rt_some0 h
      subst h1; subst h2
      exact ax_iret F dX8_take_43
    · have h := it_pos0 h hc
      refine ax_aload_n F dX8_take_24 rfl ?_
      obtain ⟨r4, M4, hq4, h⟩ := cq_some0 h
      refine ax_callVi (As := []) (st := []) F (tX3_lack F.2.2.2.2.2.2.1 _ (isG_of hx (okI_lt hi1)) _ _ _ hq4) (ob_G (isG_of hx (okI_lt hi1))) rfl kc_X3_lack kz_X3 ki_X3_lack ks_X3_lack km_X8_192 ⟨kn_X3_lack, rfl, rfl, Nat.le_of_ble_eq_true rfl, Nat.le_of_ble_eq_true rfl⟩ rfl (Nat.le_of_ble_eq_true rfl) dX8_take_25 ?_
      obtain ⟨h1, h2⟩ := rt_some0 h
      subst h1; subst h2
      exact ax_iret F dX8_take_28
  · have h := it_pos0 h hc
    refine ax_bipush (v := (-2 : Int32)) F dX8_take_7 (by decide) ?_
    obtain ⟨h1, h2⟩ := rt_some0 h
    subst h1; subst h2
    exact ax_iret F dX8_take_9
noncomputable def fX8_count (x1 : Int32) (x2 : Int32) (M : Mm) : Option Rst := cl (fX8_isRing x1 M) (fun r1 M1 => if r1 = 0 then (some ((-2 : Int32), M1)) else (if x2 < (1 : Int32) then (some ((-3 : Int32), M1)) else (if x2 ≤ (9 : Int32) then (gd (okI x1 3) (if (M1 (20 + 2 * ix (x1)) 1) = 0 then (cl (fX3_lack (20 + 2 * ix (x1)) M1) (fun r4 M4 => some (r4, M4))) else (cl (fX3_countOut (20 + 2 * ix (x1)) x2 M1) (fun r2 M2 => cl (fX3_atHand (20 + 2 * ix (x1)) M2) (fun r3 M3 => some ((r3 + (5000 : Int32)), M3)))))) else (some ((-3 : Int32), M1)))))
def rmX8_count : Room := { frames := 2, cells := 0, slots := 0, locals := 43 }
theorem kn_X8_count : yX8_count.cls ≠ "java/lang/invoke/MethodHandle" ∧ yX8_count.cls ≠ "java/lang/invoke/VarHandle" ∧ (parseMethodDescriptor yX8_count.desc).map (fun d => d.parameters.length) = some 2 := by decide +kernel
set_option maxRecDepth 100000 in
set_option maxHeartbeats 4000000 in
theorem tX8_count {l : Launch} {G : va_G} {L : List Nat} {ad : Nat → Nat} {cs : Nat → ClassId} {z : Bool} {zk zv : Nat → Nat} (hinj : inj L ad) (hx : isX L) (x1 : Int32) (x2 : Int32)  (M : Mm) (r : Int32) (M' : Mm) (h : fX8_count x1 x2 M = some (r, M')) : Met l yX8_count (tgW yX8_count cX8_count 4 (some .int)) rmX8_count (APre G L ad cs z zk zv [.ref (ad 0), .int x1, .int x2] M) (AQi G L ad cs r M') 0 0 (inA L ad) := by
  refine met_of (Eq.refl true) (Nat.le_of_ble_eq_true rfl) hinj [some (.ref (ad 0)), some (.int x1), some (.int x2), none] rfl ?_
  intro p e s m below meth c F
  replace F : Fx G L ad cs z zk zv p m meth c cX8_count 4 (some .int) s _ RX8 := F
  unfold fX8_count at h
  refine ax_iload_n F dX8_count_0 rfl ?_
  obtain ⟨r1, M1, hq1, h⟩ := cq_some0 h
  refine ax_callSi (As := [.int x1]) (st := []) F (tX8_isRing F.2.2.2.2.2.2.1 hx _  _ _ _ hq1) kc_X8_isRing kz_X8 kt_X8_isRing km_X8_178 ⟨kn_X8_isRing, rfl, rfl, Nat.le_of_ble_eq_true rfl, Nat.le_of_ble_eq_true rfl⟩ rfl (Nat.le_of_ble_eq_true rfl) dX8_count_1 ?_
  refine ax_if_ne (t := 10) F dX8_count_4 (by decide) (fun hc => ?_) (fun hc => ?_)
  · have h := it_neg0 h hc
    refine ax_iload_n F dX8_count_10 rfl ?_
    refine ax_iconst (v := (1 : Int32)) F dX8_count_11 (by decide) ?_
    refine ax_icmp_lt (t := 21) F dX8_count_12 (by decide) (fun hc => ?_) (fun hc => ?_)
    · have h := it_pos0 h hc
      refine ax_bipush (v := (-3 : Int32)) F dX8_count_21 (by decide) ?_
      obtain ⟨h1, h2⟩ := rt_some0 h
      subst h1; subst h2
      exact ax_iret F dX8_count_23
    · have h := it_neg0 h hc
      refine ax_iload_n F dX8_count_15 rfl ?_
      refine ax_bipush (v := (9 : Int32)) F dX8_count_16 (by decide) ?_
      refine ax_icmp_le (t := 24) F dX8_count_18 (by decide) (fun hc => ?_) (fun hc => ?_)
      · have h := it_pos0 h hc
        refine ax_aload_n F dX8_count_24 rfl ?_
        refine ax_get (v := .ref (ad 19)) F (ob_0 hx) rfl inGX8 8 (by decide) rfl kf_X8_57 rfl dX8_count_25 ?_
        refine ax_iload_n F dX8_count_28 rfl ?_
        obtain ⟨hi1, h⟩ := gd_some0 h
        refine ax_aald F (rf_19 hx) rfl hi1 dX8_count_29 ?_
        refine ax_astore_n F dX8_count_30 (by decide) rfl ?_
        refine ax_aload_n F dX8_count_31 rfl ?_
        refine ax_get (v := .int (M1 (20 + 2 * ix (x1)) 1)) F (ob_G (isG_of hx (okI_lt hi1))) rfl inGX3 1 (by decide) rfl kf_X8_188 rfl dX8_count_32 ?_
        refine ax_if_ne (t := 43) F dX8_count_35 (by decide) (fun hc => ?_) (fun hc => ?_)
        · have h := it_neg0 h hc
          refine ax_aload_n F dX8_count_43 rfl ?_
          refine ax_iload_n F dX8_count_44 rfl ?_
          obtain ⟨r2, M2, hq2, h⟩ := cq_some0 h
          refine ax_callVv (As := [.int x2]) (st := []) F (tX3_countOut F.2.2.2.2.2.2.1 _ _ (isG_of hx (okI_lt hi1)) _ _ _ hq2) (ob_G (isG_of hx (okI_lt hi1))) rfl kc_X3_countOut kz_X3 ki_X3_countOut ks_X3_countOut km_X8_204 ⟨kn_X3_countOut, rfl, rfl, Nat.le_of_ble_eq_true rfl, Nat.le_of_ble_eq_true rfl⟩ rfl (Nat.le_of_ble_eq_true rfl) dX8_count_45 ?_
          refine ax_aload_n F dX8_count_48 rfl ?_
          obtain ⟨r3, M3, hq3, h⟩ := cq_some0 h
          refine ax_callVi (As := []) (st := []) F (tX3_atHand F.2.2.2.2.2.2.1 _ (isG_of hx (okI_lt hi1)) _ _ _ hq3) (ob_G (isG_of hx (okI_lt hi1))) rfl kc_X3_atHand kz_X3 ki_X3_atHand ks_X3_atHand km_X8_198 ⟨kn_X3_atHand, rfl, rfl, Nat.le_of_ble_eq_true rfl, Nat.le_of_ble_eq_true rfl⟩ rfl (Nat.le_of_ble_eq_true rfl) dX8_count_49 ?_
          refine ax_sipush (v := (5000 : Int32)) F dX8_count_52 (by decide) ?_
          refine ax_iadd F dX8_count_55 ?_
          obtain ⟨h1, h2⟩ := rt_some0 h
          subst h1; subst h2
          exact ax_iret F dX8_count_56
        · have h := it_pos0 h hc
          refine ax_aload_n F dX8_count_38 rfl ?_
          obtain ⟨r4, M4, hq4, h⟩ := cq_some0 h
          refine ax_callVi (As := []) (st := []) F (tX3_lack F.2.2.2.2.2.2.1 _ (isG_of hx (okI_lt hi1)) _ _ _ hq4) (ob_G (isG_of hx (okI_lt hi1))) rfl kc_X3_lack kz_X3 ki_X3_lack ks_X3_lack km_X8_192 ⟨kn_X3_lack, rfl, rfl, Nat.le_of_ble_eq_true rfl, Nat.le_of_ble_eq_true rfl⟩ rfl (Nat.le_of_ble_eq_true rfl) dX8_count_39 ?_
          obtain ⟨h1, h2⟩ := rt_some0 h
          subst h1; subst h2
          exact ax_iret F dX8_count_42
      · have h := it_neg0 h hc
        refine ax_bipush (v := (-3 : Int32)) F dX8_count_21 (by decide) ?_
        obtain ⟨h1, h2⟩ := rt_some0 h
        subst h1; subst h2
        exact ax_iret F dX8_count_23
  · have h := it_pos0 h hc
    refine ax_bipush (v := (-2 : Int32)) F dX8_count_7 (by decide) ?_
    obtain ⟨h1, h2⟩ := rt_some0 h
    subst h1; subst h2
    exact ax_iret F dX8_count_9
noncomputable def fX8_sum (x1 : Int32) (M : Mm) : Option Rst := cl (fX8_isRing x1 M) (fun r1 M1 => if r1 = 0 then (some ((-2 : Int32), M1)) else (gd (okI x1 3) (if (M1 (20 + 2 * ix (x1)) 3) = 0 then (cl (fX3_total (20 + 2 * ix (x1)) M1) (fun r2 M2 => some ((r2 + (50000 : Int32)), M2))) else (some ((-11 : Int32), M1)))))
def rmX8_sum : Room := { frames := 1, cells := 0, slots := 0, locals := 22 }
theorem kn_X8_sum : yX8_sum.cls ≠ "java/lang/invoke/MethodHandle" ∧ yX8_sum.cls ≠ "java/lang/invoke/VarHandle" ∧ (parseMethodDescriptor yX8_sum.desc).map (fun d => d.parameters.length) = some 1 := by decide +kernel
set_option maxRecDepth 100000 in
set_option maxHeartbeats 4000000 in
theorem tX8_sum {l : Launch} {G : va_G} {L : List Nat} {ad : Nat → Nat} {cs : Nat → ClassId} {z : Bool} {zk zv : Nat → Nat} (hinj : inj L ad) (hx : isX L) (x1 : Int32)  (M : Mm) (r : Int32) (M' : Mm) (h : fX8_sum x1 M = some (r, M')) : Met l yX8_sum (tgW yX8_sum cX8_sum 3 (some .int)) rmX8_sum (APre G L ad cs z zk zv [.ref (ad 0), .int x1] M) (AQi G L ad cs r M') 0 0 (inA L ad) := by
  refine met_of (Eq.refl true) (Nat.le_of_ble_eq_true rfl) hinj [some (.ref (ad 0)), some (.int x1), none] rfl ?_
  intro p e s m below meth c F
  replace F : Fx G L ad cs z zk zv p m meth c cX8_sum 3 (some .int) s _ RX8 := F
  unfold fX8_sum at h
  refine ax_iload_n F dX8_sum_0 rfl ?_
  obtain ⟨r1, M1, hq1, h⟩ := cq_some0 h
  refine ax_callSi (As := [.int x1]) (st := []) F (tX8_isRing F.2.2.2.2.2.2.1 hx _  _ _ _ hq1) kc_X8_isRing kz_X8 kt_X8_isRing km_X8_178 ⟨kn_X8_isRing, rfl, rfl, Nat.le_of_ble_eq_true rfl, Nat.le_of_ble_eq_true rfl⟩ rfl (Nat.le_of_ble_eq_true rfl) dX8_sum_1 ?_
  refine ax_if_ne (t := 10) F dX8_sum_4 (by decide) (fun hc => ?_) (fun hc => ?_)
  · have h := it_neg0 h hc
    refine ax_aload_n F dX8_sum_10 rfl ?_
    refine ax_get (v := .ref (ad 19)) F (ob_0 hx) rfl inGX8 8 (by decide) rfl kf_X8_57 rfl dX8_sum_11 ?_
    refine ax_iload_n F dX8_sum_14 rfl ?_
    obtain ⟨hi1, h⟩ := gd_some0 h
    refine ax_aald F (rf_19 hx) rfl hi1 dX8_sum_15 ?_
    refine ax_astore_n F dX8_sum_16 (by decide) rfl ?_
    refine ax_aload_n F dX8_sum_17 rfl ?_
    refine ax_get (v := .int (M1 (20 + 2 * ix (x1)) 3)) F (ob_G (isG_of hx (okI_lt hi1))) rfl inGX3 3 (by decide) rfl kf_X8_184 rfl dX8_sum_18 ?_
    refine ax_if_eq (t := 27) F dX8_sum_21 (by decide) (fun hc => ?_) (fun hc => ?_)
    · have h := it_pos0 h hc
      refine ax_aload_n F dX8_sum_27 rfl ?_
      obtain ⟨r2, M2, hq2, h⟩ := cq_some0 h
      refine ax_callVi (As := []) (st := []) F (tX3_total F.2.2.2.2.2.2.1 _ (isG_of hx (okI_lt hi1)) _ _ _ hq2) (ob_G (isG_of hx (okI_lt hi1))) rfl kc_X3_total kz_X3 ki_X3_total ks_X3_total km_X8_207 ⟨kn_X3_total, rfl, rfl, Nat.le_of_ble_eq_true rfl, Nat.le_of_ble_eq_true rfl⟩ rfl (Nat.le_of_ble_eq_true rfl) dX8_sum_28 ?_
      refine ax_ldc (v := (50000 : Int32)) F kk_X8_210 dX8_sum_31 ?_
      refine ax_iadd F dX8_sum_33 ?_
      obtain ⟨h1, h2⟩ := rt_some0 h
      subst h1; subst h2
      exact ax_iret F dX8_sum_34
    · have h := it_neg0 h hc
      refine ax_bipush (v := (-11 : Int32)) F dX8_sum_24 (by decide) ?_
      obtain ⟨h1, h2⟩ := rt_some0 h
      subst h1; subst h2
      exact ax_iret F dX8_sum_26
  · have h := it_pos0 h hc
    refine ax_bipush (v := (-2 : Int32)) F dX8_sum_7 (by decide) ?_
    obtain ⟨h1, h2⟩ := rt_some0 h
    subst h1; subst h2
    exact ax_iret F dX8_sum_9
noncomputable def fX8_drop (x1 : Int32) (M : Mm) : Option Rst := cl (fX8_isRing x1 M) (fun r1 M1 => if r1 = 0 then (some ((-2 : Int32), M1)) else (gd (okI x1 3) (if (M1 (20 + 2 * ix (x1)) 3) = 0 then (cl (fX3_lose (20 + 2 * ix (x1)) M1) (fun r2 M2 => some ((M1 (20 + 2 * ix (x1)) 1), M2))) else (some ((-11 : Int32), M1)))))
def rmX8_drop : Room := { frames := 1, cells := 0, slots := 0, locals := 20 }
theorem kn_X8_drop : yX8_drop.cls ≠ "java/lang/invoke/MethodHandle" ∧ yX8_drop.cls ≠ "java/lang/invoke/VarHandle" ∧ (parseMethodDescriptor yX8_drop.desc).map (fun d => d.parameters.length) = some 1 := by decide +kernel
set_option maxRecDepth 100000 in
set_option maxHeartbeats 4000000 in
theorem tX8_drop {l : Launch} {G : va_G} {L : List Nat} {ad : Nat → Nat} {cs : Nat → ClassId} {z : Bool} {zk zv : Nat → Nat} (hinj : inj L ad) (hx : isX L) (x1 : Int32)  (M : Mm) (r : Int32) (M' : Mm) (h : fX8_drop x1 M = some (r, M')) : Met l yX8_drop (tgW yX8_drop cX8_drop 4 (some .int)) rmX8_drop (APre G L ad cs z zk zv [.ref (ad 0), .int x1] M) (AQi G L ad cs r M') 0 0 (inA L ad) := by
  refine met_of (Eq.refl true) (Nat.le_of_ble_eq_true rfl) hinj [some (.ref (ad 0)), some (.int x1), none, none] rfl ?_
  intro p e s m below meth c F
  replace F : Fx G L ad cs z zk zv p m meth c cX8_drop 4 (some .int) s _ RX8 := F
  unfold fX8_drop at h
  refine ax_iload_n F dX8_drop_0 rfl ?_
  obtain ⟨r1, M1, hq1, h⟩ := cq_some0 h
  refine ax_callSi (As := [.int x1]) (st := []) F (tX8_isRing F.2.2.2.2.2.2.1 hx _  _ _ _ hq1) kc_X8_isRing kz_X8 kt_X8_isRing km_X8_178 ⟨kn_X8_isRing, rfl, rfl, Nat.le_of_ble_eq_true rfl, Nat.le_of_ble_eq_true rfl⟩ rfl (Nat.le_of_ble_eq_true rfl) dX8_drop_1 ?_
  refine ax_if_ne (t := 10) F dX8_drop_4 (by decide) (fun hc => ?_) (fun hc => ?_)
  · have h := it_neg0 h hc
    refine ax_aload_n F dX8_drop_10 rfl ?_
    refine ax_get (v := .ref (ad 19)) F (ob_0 hx) rfl inGX8 8 (by decide) rfl kf_X8_57 rfl dX8_drop_11 ?_
    refine ax_iload_n F dX8_drop_14 rfl ?_
    obtain ⟨hi1, h⟩ := gd_some0 h
    refine ax_aald F (rf_19 hx) rfl hi1 dX8_drop_15 ?_
    refine ax_astore_n F dX8_drop_16 (by decide) rfl ?_
    refine ax_aload_n F dX8_drop_17 rfl ?_
    refine ax_get (v := .int (M1 (20 + 2 * ix (x1)) 3)) F (ob_G (isG_of hx (okI_lt hi1))) rfl inGX3 3 (by decide) rfl kf_X8_184 rfl dX8_drop_18 ?_
    refine ax_if_eq (t := 27) F dX8_drop_21 (by decide) (fun hc => ?_) (fun hc => ?_)
    · have h := it_pos0 h hc
      refine ax_aload_n F dX8_drop_27 rfl ?_
      refine ax_get (v := .int (M1 (20 + 2 * ix (x1)) 1)) F (ob_G (isG_of hx (okI_lt hi1))) rfl inGX3 1 (by decide) rfl kf_X8_188 rfl dX8_drop_28 ?_
      refine ax_istore_n F dX8_drop_31 (by decide) rfl ?_
      refine ax_aload_n F dX8_drop_32 rfl ?_
      obtain ⟨r2, M2, hq2, h⟩ := cq_some0 h
      refine ax_callVv (As := []) (st := []) F (tX3_lose F.2.2.2.2.2.2.1 _ (isG_of hx (okI_lt hi1)) _ _ _ hq2) (ob_G (isG_of hx (okI_lt hi1))) rfl kc_X3_lose kz_X3 ki_X3_lose ks_X3_lose km_X8_85 ⟨kn_X3_lose, rfl, rfl, Nat.le_of_ble_eq_true rfl, Nat.le_of_ble_eq_true rfl⟩ rfl (Nat.le_of_ble_eq_true rfl) dX8_drop_33 ?_
      refine ax_iload_n F dX8_drop_36 rfl ?_
      obtain ⟨h1, h2⟩ := rt_some0 h
      subst h1; subst h2
      exact ax_iret F dX8_drop_37
    · have h := it_neg0 h hc
      refine ax_bipush (v := (-11 : Int32)) F dX8_drop_24 (by decide) ?_
      obtain ⟨h1, h2⟩ := rt_some0 h
      subst h1; subst h2
      exact ax_iret F dX8_drop_26
  · have h := it_pos0 h hc
    refine ax_bipush (v := (-2 : Int32)) F dX8_drop_7 (by decide) ?_
    obtain ⟨h1, h2⟩ := rt_some0 h
    subst h1; subst h2
    exact ax_iret F dX8_drop_9
def rmX8_ringNumbers : Room := { frames := 0, cells := 0, slots := 0, locals := 0 }
theorem kn_X8_ringNumbers : yX8_ringNumbers.cls ≠ "java/lang/invoke/MethodHandle" ∧ yX8_ringNumbers.cls ≠ "java/lang/invoke/VarHandle" ∧ (parseMethodDescriptor yX8_ringNumbers.desc).map (fun d => d.parameters.length) = some 0 := by decide +kernel
noncomputable def bX8_ringNumbers_0  (M : Mm) : Option (Sst ⊕ Rst) := some (.inl (1, [], [(0 : Int32), (0 : Int32)], M))
noncomputable def bX8_ringNumbers_1 (x1 : Int32) (x2 : Int32) (M : Mm) : Option (Sst ⊕ Rst) := if (3 : Int32) ≤ x2 then (some (.inr (x1, M))) else (gd (okI x2 3) (some (.inl (1, [], [(x1 + (M (20 + 2 * ix (x2)) 1)), (x2 + (1 : Int32))], M))))
noncomputable def stX8_ringNumbers : Sst → Option (Sst ⊕ Rst) := fun q => match q.1 with
  | 0 => bX8_ringNumbers_0  q.2.2.2
  | 1 => bX8_ringNumbers_1 (q.2.2.1.getD 0 0) (q.2.2.1.getD 1 0) q.2.2.2
  | _ => none
noncomputable def fX8_ringNumbers  (M : Mm) : Option Rst := run stX8_ringNumbers (0, [], [], M)
def PX8_ringNumbers (p : Program) (l : Launch) (e : Env) (s : State) (m : MethodId) (args : Array Value) (below : List Frame) (meth : Method) (c : Code) (G : va_G) (L : List Nat) (ad : Nat → Nat) (cs : Nat → ClassId) (zk : Nat → Nat) (r : Int32) (M' : Mm) (n : Nat) : Prop := (∀  (M : Mm), itr stX8_ringNumbers n (0, [], [], M) = some (r, M') → AW p l e rmX8_ringNumbers s m args below meth c (MQ below (AQi G L ad cs r M') args s 0 0 (inA L ad)) G L ad cs 3 0 [some (.ref (ad 0)), none, none] [] M) ∧ (∀ (x1 : Int32) (x2 : Int32) (M : Mm), itr stX8_ringNumbers n (1, [], [x1, x2], M) = some (r, M') → AW p l e rmX8_ringNumbers s m args below meth c (MQ below (AQi G L ad cs r M') args s 0 0 (inA L ad)) G L ad cs 3 4 [some (.ref (ad 0)), some (.int x1), some (.int x2)] [] M)
set_option maxRecDepth 100000 in
set_option maxHeartbeats 4000000 in
theorem wX8_ringNumbers_0 {p : Program} {l : Launch} {e : Env} {s : State} {m : MethodId} {args : Array Value} {below : List Frame} {meth : Method} {c : Code} {G : va_G} {L : List Nat} {ad : Nat → Nat} {cs : Nat → ClassId} {z : Bool} {zk zv : Nat → Nat} {r : Int32} {M' : Mm} {n : Nat} (F : Fx G L ad cs z zk zv p m meth c cX8_ringNumbers 3 (some .int) s args RX8) (hx : isX L) (IH : PX8_ringNumbers p l e s m args below meth c G L ad cs zk r M' n)  (M : Mm) (h : (bX8_ringNumbers_0  M).bind (fun q => match q with | .inl s' => itr stX8_ringNumbers n s' | .inr r => some r) = some (r, M'))  : AW p l e rmX8_ringNumbers s m args below meth c (MQ below (AQi G L ad cs r M') args s 0 0 (inA L ad)) G L ad cs 3 0 [some (.ref (ad 0)), none, none] [] M := by
  unfold bX8_ringNumbers_0 at h
  refine ax_iconst (v := (0 : Int32)) F dX8_ringNumbers_0 (by decide) ?_
  refine ax_istore_n F dX8_ringNumbers_1 (by decide) rfl ?_
  refine ax_iconst (v := (0 : Int32)) F dX8_ringNumbers_2 (by decide) ?_
  refine ax_istore_n F dX8_ringNumbers_3 (by decide) rfl ?_
  exact IH.2 _ _ _ h 
set_option maxRecDepth 100000 in
set_option maxHeartbeats 4000000 in
theorem wX8_ringNumbers_1 {p : Program} {l : Launch} {e : Env} {s : State} {m : MethodId} {args : Array Value} {below : List Frame} {meth : Method} {c : Code} {G : va_G} {L : List Nat} {ad : Nat → Nat} {cs : Nat → ClassId} {z : Bool} {zk zv : Nat → Nat} {r : Int32} {M' : Mm} {n : Nat} (F : Fx G L ad cs z zk zv p m meth c cX8_ringNumbers 3 (some .int) s args RX8) (hx : isX L) (IH : PX8_ringNumbers p l e s m args below meth c G L ad cs zk r M' n) (x1 : Int32) (x2 : Int32) (M : Mm) (h : (bX8_ringNumbers_1 x1 x2 M).bind (fun q => match q with | .inl s' => itr stX8_ringNumbers n s' | .inr r => some r) = some (r, M'))  : AW p l e rmX8_ringNumbers s m args below meth c (MQ below (AQi G L ad cs r M') args s 0 0 (inA L ad)) G L ad cs 3 4 [some (.ref (ad 0)), some (.int x1), some (.int x2)] [] M := by
  unfold bX8_ringNumbers_1 at h
  refine ax_iload_n F dX8_ringNumbers_4 rfl ?_
  refine ax_iconst (v := (3 : Int32)) F dX8_ringNumbers_5 (by decide) ?_
  refine ax_icmp_ge (t := 27) F dX8_ringNumbers_6 (by decide) (fun hc => ?_) (fun hc => ?_)
  · have h := it_pos h hc
    refine ax_iload_n F dX8_ringNumbers_27 rfl ?_
    obtain ⟨h1, h2⟩ := rt_some h
    subst h1; subst h2
    exact ax_iret F dX8_ringNumbers_28
  · have h := it_neg h hc
    refine ax_iload_n F dX8_ringNumbers_9 rfl ?_
    refine ax_aload_n F dX8_ringNumbers_10 rfl ?_
    refine ax_get (v := .ref (ad 19)) F (ob_0 hx) rfl inGX8 8 (by decide) rfl kf_X8_57 rfl dX8_ringNumbers_11 ?_
    refine ax_iload_n F dX8_ringNumbers_14 rfl ?_
    obtain ⟨hi1, h⟩ := gd_some h
    refine ax_aald F (rf_19 hx) rfl hi1 dX8_ringNumbers_15 ?_
    refine ax_get (v := .int (M (20 + 2 * ix (x2)) 1)) F (ob_G (isG_of hx (okI_lt hi1))) rfl inGX3 1 (by decide) rfl kf_X8_188 rfl dX8_ringNumbers_16 ?_
    refine ax_iadd F dX8_ringNumbers_19 ?_
    refine ax_istore_n F dX8_ringNumbers_20 (by decide) rfl ?_
    refine ax_iinc (v := (1 : Int32)) F dX8_ringNumbers_21 rfl (by decide) (by decide) rfl ?_
    refine ax_goto (t := 4) F dX8_ringNumbers_24 (by decide) ?_
    exact IH.2 _ _ _ h 
set_option maxRecDepth 100000 in
set_option maxHeartbeats 4000000 in
theorem wX8_ringNumbers {p : Program} {l : Launch} {e : Env} {s : State} {m : MethodId} {args : Array Value} {below : List Frame} {meth : Method} {c : Code} {G : va_G} {L : List Nat} {ad : Nat → Nat} {cs : Nat → ClassId} {z : Bool} {zk zv : Nat → Nat} {r : Int32} {M' : Mm} (F : Fx G L ad cs z zk zv p m meth c cX8_ringNumbers 3 (some .int) s args RX8) (hx : isX L) (n : Nat) : PX8_ringNumbers p l e s m args below meth c G L ad cs zk r M' n := by
  induction n with
  | zero => exact ⟨(fun  M h => by cases h), (fun x1 x2 M h => by cases h)⟩
  | succ n ih =>
    exact ⟨fun  M h  => wX8_ringNumbers_0 F hx ih  M h ,
      fun x1 x2 M h  => wX8_ringNumbers_1 F hx ih x1 x2 M h ⟩
set_option maxRecDepth 100000 in
set_option maxHeartbeats 4000000 in
theorem tX8_ringNumbers {l : Launch} {G : va_G} {L : List Nat} {ad : Nat → Nat} {cs : Nat → ClassId} {z : Bool} {zk zv : Nat → Nat} (hinj : inj L ad) (hx : isX L)   (M : Mm) (r : Int32) (M' : Mm) (h : fX8_ringNumbers  M = some (r, M')) : Met l yX8_ringNumbers (tgW yX8_ringNumbers cX8_ringNumbers 3 (some .int)) rmX8_ringNumbers (APre G L ad cs z zk zv [.ref (ad 0)] M) (AQi G L ad cs r M') 0 0 (inA L ad) := by
  refine met_of (Eq.refl true) (Nat.le_of_ble_eq_true rfl) hinj [some (.ref (ad 0)), none, none] rfl ?_
  intro p e s m below meth c F
  replace F : Fx G L ad cs z zk zv p m meth c cX8_ringNumbers 3 (some .int) s _ RX8 := F
  obtain ⟨n, hn⟩ := run_ex h
  exact (wX8_ringNumbers F hx n).1  M hn 
noncomputable def fX8_told (x1 : Int32) (M : Mm) : Option Rst := if x1 = (0 : Int32) then (some ((M 26 1), M)) else if x1 = (1 : Int32) then (some ((M 26 2), M)) else if x1 = (2 : Int32) then (some ((M 26 3), M)) else if x1 = (3 : Int32) then (some ((M 26 5), M)) else if x1 = (4 : Int32) then (cl (fX1_entries 26 M) (fun r1 M1 => some (r1, M1))) else if x1 = (5 : Int32) then (cl (fX1_mostKnown 26 M) (fun r2 M2 => some (r2, M2))) else if x1 = (6 : Int32) then (cl (fX1_leastKnown 26 M) (fun r3 M3 => some (r3, M3))) else if x1 = (7 : Int32) then (cl (fX1_parts 26 M) (fun r4 M4 => some (r4, M4))) else if x1 = (8 : Int32) then (some ((M 26 4), M)) else if x1 = (9 : Int32) then (cl (fX8_ringNumbers M) (fun r5 M5 => some (r5, M5))) else if x1 = (10 : Int32) then (some ((M 15 2), M)) else if x1 = (11 : Int32) then (some ((M 1 1), M)) else (some ((-3 : Int32), M))
def rmX8_told : Room := { frames := 5, cells := 0, slots := 0, locals := 111 }
theorem kn_X8_told : yX8_told.cls ≠ "java/lang/invoke/MethodHandle" ∧ yX8_told.cls ≠ "java/lang/invoke/VarHandle" ∧ (parseMethodDescriptor yX8_told.desc).map (fun d => d.parameters.length) = some 1 := by decide +kernel
set_option maxRecDepth 100000 in
set_option maxHeartbeats 4000000 in
theorem tX8_told {l : Launch} {G : va_G} {L : List Nat} {ad : Nat → Nat} {cs : Nat → ClassId} {z : Bool} {zk zv : Nat → Nat} (hinj : inj L ad) (hx : isX L) (x1 : Int32)  (M : Mm) (r : Int32) (M' : Mm) (h : fX8_told x1 M = some (r, M')) : Met l yX8_told (tgW yX8_told cX8_told 2 (some .int)) rmX8_told (APre G L ad cs z zk zv [.ref (ad 0), .int x1] M) (AQi G L ad cs r M') 0 0 (inA L ad) := by
  refine met_of (Eq.refl true) (Nat.le_of_ble_eq_true rfl) hinj [some (.ref (ad 0)), some (.int x1)] rfl ?_
  intro p e s m below meth c F
  replace F : Fx G L ad cs z zk zv p m meth c cX8_told 2 (some .int) s _ RX8 := F
  unfold fX8_told at h
  refine ax_iload_n F dX8_told_0 rfl ?_
  by_cases hc0 : x1 = (0 : Int32)
  · have h := it_pos0 h hc0
    refine ax_swK (v := (0 : Int32)) (t := 64) F dX8_told_1 hc0 (by decide) (by decide) rfl (by decide) ?_
    refine ax_aload_n F dX8_told_64 rfl ?_
    refine ax_get (v := .ref (ad 26)) F (ob_0 hx) rfl inGX8 2 (by decide) rfl kf_X8_26 rfl dX8_told_65 ?_
    refine ax_get (v := .int (M 26 1)) F (ob_N (isN_26 hx)) rfl inGX1 1 (by decide) rfl kf_X8_73 rfl dX8_told_68 ?_
    obtain ⟨h1, h2⟩ := rt_some0 h
    subst h1; subst h2
    exact ax_iret F dX8_told_71
  replace h := it_neg0 h hc0
  by_cases hc1 : x1 = (1 : Int32)
  · have h := it_pos0 h hc1
    refine ax_swK (v := (1 : Int32)) (t := 72) F dX8_told_1 hc1 (by decide) (by decide) rfl (by decide) ?_
    refine ax_aload_n F dX8_told_72 rfl ?_
    refine ax_get (v := .ref (ad 26)) F (ob_0 hx) rfl inGX8 2 (by decide) rfl kf_X8_26 rfl dX8_told_73 ?_
    refine ax_get (v := .int (M 26 2)) F (ob_N (isN_26 hx)) rfl inGX1 2 (by decide) rfl kf_X8_155 rfl dX8_told_76 ?_
    obtain ⟨h1, h2⟩ := rt_some0 h
    subst h1; subst h2
    exact ax_iret F dX8_told_79
  replace h := it_neg0 h hc1
  by_cases hc2 : x1 = (2 : Int32)
  · have h := it_pos0 h hc2
    refine ax_swK (v := (2 : Int32)) (t := 80) F dX8_told_1 hc2 (by decide) (by decide) rfl (by decide) ?_
    refine ax_aload_n F dX8_told_80 rfl ?_
    refine ax_get (v := .ref (ad 26)) F (ob_0 hx) rfl inGX8 2 (by decide) rfl kf_X8_26 rfl dX8_told_81 ?_
    refine ax_get (v := .int (M 26 3)) F (ob_N (isN_26 hx)) rfl inGX1 3 (by decide) rfl kf_X8_211 rfl dX8_told_84 ?_
    obtain ⟨h1, h2⟩ := rt_some0 h
    subst h1; subst h2
    exact ax_iret F dX8_told_87
  replace h := it_neg0 h hc2
  by_cases hc3 : x1 = (3 : Int32)
  · have h := it_pos0 h hc3
    refine ax_swK (v := (3 : Int32)) (t := 88) F dX8_told_1 hc3 (by decide) (by decide) rfl (by decide) ?_
    refine ax_aload_n F dX8_told_88 rfl ?_
    refine ax_get (v := .ref (ad 26)) F (ob_0 hx) rfl inGX8 2 (by decide) rfl kf_X8_26 rfl dX8_told_89 ?_
    refine ax_get (v := .int (M 26 5)) F (ob_N (isN_26 hx)) rfl inGX1 5 (by decide) rfl kf_X8_140 rfl dX8_told_92 ?_
    obtain ⟨h1, h2⟩ := rt_some0 h
    subst h1; subst h2
    exact ax_iret F dX8_told_95
  replace h := it_neg0 h hc3
  by_cases hc4 : x1 = (4 : Int32)
  · have h := it_pos0 h hc4
    refine ax_swK (v := (4 : Int32)) (t := 96) F dX8_told_1 hc4 (by decide) (by decide) rfl (by decide) ?_
    refine ax_aload_n F dX8_told_96 rfl ?_
    refine ax_get (v := .ref (ad 26)) F (ob_0 hx) rfl inGX8 2 (by decide) rfl kf_X8_26 rfl dX8_told_97 ?_
    obtain ⟨r1, M1, hq1, h⟩ := cq_some0 h
    refine ax_callVi (As := []) (st := []) F (tX1_entries F.2.2.2.2.2.2.1 _ (isN_26 hx) _ _ _ hq1) (ob_N (isN_26 hx)) rfl kc_X1_entries kz_X1 ki_X1_entries ks_X1_entries km_X8_133 ⟨kn_X1_entries, rfl, rfl, Nat.le_of_ble_eq_true rfl, Nat.le_of_ble_eq_true rfl⟩ rfl (Nat.le_of_ble_eq_true rfl) dX8_told_100 ?_
    obtain ⟨h1, h2⟩ := rt_some0 h
    subst h1; subst h2
    exact ax_iret F dX8_told_103
  replace h := it_neg0 h hc4
  by_cases hc5 : x1 = (5 : Int32)
  · have h := it_pos0 h hc5
    refine ax_swK (v := (5 : Int32)) (t := 104) F dX8_told_1 hc5 (by decide) (by decide) rfl (by decide) ?_
    refine ax_aload_n F dX8_told_104 rfl ?_
    refine ax_get (v := .ref (ad 26)) F (ob_0 hx) rfl inGX8 2 (by decide) rfl kf_X8_26 rfl dX8_told_105 ?_
    obtain ⟨r2, M2, hq2, h⟩ := cq_some0 h
    refine ax_callVi (As := []) (st := []) F (tX1_mostKnown F.2.2.2.2.2.2.1 _ (isN_26 hx) _ _ _ hq2) (ob_N (isN_26 hx)) rfl kc_X1_mostKnown kz_X1 ki_X1_mostKnown ks_X1_mostKnown km_X8_168 ⟨kn_X1_mostKnown, rfl, rfl, Nat.le_of_ble_eq_true rfl, Nat.le_of_ble_eq_true rfl⟩ rfl (Nat.le_of_ble_eq_true rfl) dX8_told_108 ?_
    obtain ⟨h1, h2⟩ := rt_some0 h
    subst h1; subst h2
    exact ax_iret F dX8_told_111
  replace h := it_neg0 h hc5
  by_cases hc6 : x1 = (6 : Int32)
  · have h := it_pos0 h hc6
    refine ax_swK (v := (6 : Int32)) (t := 112) F dX8_told_1 hc6 (by decide) (by decide) rfl (by decide) ?_
    refine ax_aload_n F dX8_told_112 rfl ?_
    refine ax_get (v := .ref (ad 26)) F (ob_0 hx) rfl inGX8 2 (by decide) rfl kf_X8_26 rfl dX8_told_113 ?_
    obtain ⟨r3, M3, hq3, h⟩ := cq_some0 h
    refine ax_callVi (As := []) (st := []) F (tX1_leastKnown F.2.2.2.2.2.2.1 _ (isN_26 hx) _ _ _ hq3) (ob_N (isN_26 hx)) rfl kc_X1_leastKnown kz_X1 ki_X1_leastKnown ks_X1_leastKnown km_X8_171 ⟨kn_X1_leastKnown, rfl, rfl, Nat.le_of_ble_eq_true rfl, Nat.le_of_ble_eq_true rfl⟩ rfl (Nat.le_of_ble_eq_true rfl) dX8_told_116 ?_
    obtain ⟨h1, h2⟩ := rt_some0 h
    subst h1; subst h2
    exact ax_iret F dX8_told_119
  replace h := it_neg0 h hc6
  by_cases hc7 : x1 = (7 : Int32)
  · have h := it_pos0 h hc7
    refine ax_swK (v := (7 : Int32)) (t := 120) F dX8_told_1 hc7 (by decide) (by decide) rfl (by decide) ?_
    refine ax_aload_n F dX8_told_120 rfl ?_
    refine ax_get (v := .ref (ad 26)) F (ob_0 hx) rfl inGX8 2 (by decide) rfl kf_X8_26 rfl dX8_told_121 ?_
    obtain ⟨r4, M4, hq4, h⟩ := cq_some0 h
    refine ax_callVi (As := []) (st := []) F (tX1_parts F.2.2.2.2.2.2.1 _ (isN_26 hx) _ _ _ hq4) (ob_N (isN_26 hx)) rfl kc_X1_parts kz_X1 ki_X1_parts ks_X1_parts km_X8_214 ⟨kn_X1_parts, rfl, rfl, Nat.le_of_ble_eq_true rfl, Nat.le_of_ble_eq_true rfl⟩ rfl (Nat.le_of_ble_eq_true rfl) dX8_told_124 ?_
    obtain ⟨h1, h2⟩ := rt_some0 h
    subst h1; subst h2
    exact ax_iret F dX8_told_127
  replace h := it_neg0 h hc7
  by_cases hc8 : x1 = (8 : Int32)
  · have h := it_pos0 h hc8
    refine ax_swK (v := (8 : Int32)) (t := 128) F dX8_told_1 hc8 (by decide) (by decide) rfl (by decide) ?_
    refine ax_aload_n F dX8_told_128 rfl ?_
    refine ax_get (v := .ref (ad 26)) F (ob_0 hx) rfl inGX8 2 (by decide) rfl kf_X8_26 rfl dX8_told_129 ?_
    refine ax_get (v := .int (M 26 4)) F (ob_N (isN_26 hx)) rfl inGX1 4 (by decide) rfl kf_X8_217 rfl dX8_told_132 ?_
    obtain ⟨h1, h2⟩ := rt_some0 h
    subst h1; subst h2
    exact ax_iret F dX8_told_135
  replace h := it_neg0 h hc8
  by_cases hc9 : x1 = (9 : Int32)
  · have h := it_pos0 h hc9
    refine ax_swK (v := (9 : Int32)) (t := 136) F dX8_told_1 hc9 (by decide) (by decide) rfl (by decide) ?_
    refine ax_aload_n F dX8_told_136 rfl ?_
    obtain ⟨r5, M5, hq5, h⟩ := cq_some0 h
    refine ax_callVi (As := []) (st := []) F (tX8_ringNumbers F.2.2.2.2.2.2.1 hx   _ _ _ hq5) (ob_0 hx) rfl kc_X8_ringNumbers kz_X8 ki_X8_ringNumbers ks_X8_ringNumbers km_X8_220 ⟨kn_X8_ringNumbers, rfl, rfl, Nat.le_of_ble_eq_true rfl, Nat.le_of_ble_eq_true rfl⟩ rfl (Nat.le_of_ble_eq_true rfl) dX8_told_137 ?_
    obtain ⟨h1, h2⟩ := rt_some0 h
    subst h1; subst h2
    exact ax_iret F dX8_told_140
  replace h := it_neg0 h hc9
  by_cases hc10 : x1 = (10 : Int32)
  · have h := it_pos0 h hc10
    refine ax_swK (v := (10 : Int32)) (t := 141) F dX8_told_1 hc10 (by decide) (by decide) rfl (by decide) ?_
    refine ax_aload_n F dX8_told_141 rfl ?_
    refine ax_get (v := .ref (ad 15)) F (ob_0 hx) rfl inGX8 5 (by decide) rfl kf_X8_43 rfl dX8_told_142 ?_
    refine ax_get (v := .int (M 15 2)) F (ob_15 hx) rfl inGX2 2 (by decide) rfl kf_X8_161 rfl dX8_told_145 ?_
    obtain ⟨h1, h2⟩ := rt_some0 h
    subst h1; subst h2
    exact ax_iret F dX8_told_148
  replace h := it_neg0 h hc10
  by_cases hc11 : x1 = (11 : Int32)
  · have h := it_pos0 h hc11
    refine ax_swK (v := (11 : Int32)) (t := 149) F dX8_told_1 hc11 (by decide) (by decide) rfl (by decide) ?_
    refine ax_aload_n F dX8_told_149 rfl ?_
    refine ax_get (v := .ref (ad 1)) F (ob_0 hx) rfl inGX8 0 (by decide) rfl kf_X8_10 rfl dX8_told_150 ?_
    refine ax_get (v := .int (M 1 1)) F (ob_1 hx) rfl inGX6 1 (by decide) rfl kf_X8_62 rfl dX8_told_153 ?_
    obtain ⟨h1, h2⟩ := rt_some0 h
    subst h1; subst h2
    exact ax_iret F dX8_told_156
  replace h := it_neg0 h hc11
  have hd0 : (x1).toInt ≠ 0 := fun e => hc0 (Int32.toInt_inj.mp (by rw [e]; rfl))
  have hd1 : (x1).toInt ≠ 1 := fun e => hc1 (Int32.toInt_inj.mp (by rw [e]; rfl))
  have hd2 : (x1).toInt ≠ 2 := fun e => hc2 (Int32.toInt_inj.mp (by rw [e]; rfl))
  have hd3 : (x1).toInt ≠ 3 := fun e => hc3 (Int32.toInt_inj.mp (by rw [e]; rfl))
  have hd4 : (x1).toInt ≠ 4 := fun e => hc4 (Int32.toInt_inj.mp (by rw [e]; rfl))
  have hd5 : (x1).toInt ≠ 5 := fun e => hc5 (Int32.toInt_inj.mp (by rw [e]; rfl))
  have hd6 : (x1).toInt ≠ 6 := fun e => hc6 (Int32.toInt_inj.mp (by rw [e]; rfl))
  have hd7 : (x1).toInt ≠ 7 := fun e => hc7 (Int32.toInt_inj.mp (by rw [e]; rfl))
  have hd8 : (x1).toInt ≠ 8 := fun e => hc8 (Int32.toInt_inj.mp (by rw [e]; rfl))
  have hd9 : (x1).toInt ≠ 9 := fun e => hc9 (Int32.toInt_inj.mp (by rw [e]; rfl))
  have hd10 : (x1).toInt ≠ 10 := fun e => hc10 (Int32.toInt_inj.mp (by rw [e]; rfl))
  have hd11 : (x1).toInt ≠ 11 := fun e => hc11 (Int32.toInt_inj.mp (by rw [e]; rfl))
  refine ax_swOut (t := 157) F dX8_told_1 (by omega) (by decide) ?_
  refine ax_bipush (v := (-3 : Int32)) F dX8_told_157 (by decide) ?_
  obtain ⟨h1, h2⟩ := rt_some0 h
  subst h1; subst h2
  exact ax_iret F dX8_told_159
noncomputable def fX9_in (x0 : Int64) (x2 : Int64) (x4 : Int64) (M : Mm) : Option Rst := if (lg_cmp x0 x2) < 0 then (some ((0 : Int32), M)) else (if 0 < (lg_cmp x0 x4) then (some ((0 : Int32), M)) else (some ((1 : Int32), M)))
def rmX9_in : Room := { frames := 0, cells := 0, slots := 0, locals := 0 }
theorem kn_X9_in : yX9_in.cls ≠ "java/lang/invoke/MethodHandle" ∧ yX9_in.cls ≠ "java/lang/invoke/VarHandle" ∧ (parseMethodDescriptor yX9_in.desc).map (fun d => d.parameters.length) = some 3 := by decide +kernel
set_option maxRecDepth 100000 in
set_option maxHeartbeats 4000000 in
theorem tX9_in {l : Launch} {G : va_G} {L : List Nat} {ad : Nat → Nat} {cs : Nat → ClassId} {z : Bool} {zk zv : Nat → Nat} (hinj : inj L ad) (hm : isM L) (x0 : Int64) (x2 : Int64) (x4 : Int64)  (M : Mm) (r : Int32) (M' : Mm) (h : fX9_in x0 x2 x4 M = some (r, M')) : Met l yX9_in (tgW yX9_in cX9_in 6 (some .boolean)) rmX9_in (APre G L ad cs z zk zv [.long x0, .long x2, .long x4] M) (AQi G L ad cs r M') 0 0 (inA L ad) := by
  refine met_of (Eq.refl true) (Nat.le_of_ble_eq_true rfl) hinj [some (.long x0), none, some (.long x2), none, some (.long x4), none] rfl ?_
  intro p e s m below meth c F
  replace F : Fx G L ad cs z zk zv p m meth c cX9_in 6 (some .boolean) s _ RX9 := F
  unfold fX9_in at h
  refine ax_lload_n F dX9_in_0 rfl ?_
  refine ax_lload_n F dX9_in_1 rfl ?_
  refine ax_lcmp F dX9_in_2 ?_
  refine ax_if_lt (t := 17) F dX9_in_3 (by decide) (fun hc => ?_) (fun hc => ?_)
  · have h := it_pos0 h hc
    refine ax_iconst (v := (0 : Int32)) F dX9_in_17 (by decide) ?_
    obtain ⟨h1, h2⟩ := rt_some0 h
    subst h1; subst h2
    exact ax_zret F (by decide) dX9_in_18
  · have h := it_neg0 h hc
    refine ax_lload_n F dX9_in_6 rfl ?_
    refine ax_lload F dX9_in_7 rfl ?_
    refine ax_lcmp F dX9_in_9 ?_
    refine ax_if_gt (t := 17) F dX9_in_10 (by decide) (fun hc => ?_) (fun hc => ?_)
    · have h := it_pos0 h hc
      refine ax_iconst (v := (0 : Int32)) F dX9_in_17 (by decide) ?_
      obtain ⟨h1, h2⟩ := rt_some0 h
      subst h1; subst h2
      exact ax_zret F (by decide) dX9_in_18
    · have h := it_neg0 h hc
      refine ax_iconst (v := (1 : Int32)) F dX9_in_13 (by decide) ?_
      refine ax_goto (t := 18) F dX9_in_14 (by decide) ?_
      obtain ⟨h1, h2⟩ := rt_some0 h
      subst h1; subst h2
      exact ax_zret F (by decide) dX9_in_18
noncomputable def fX9_has (x0 : Int32) (x1 : Int32) (M : Mm) : Option Rst := if ((isr x0 x1) &&& (1 : Int32)) = (1 : Int32) then (some ((1 : Int32), M)) else (some ((0 : Int32), M))
def rmX9_has : Room := { frames := 0, cells := 0, slots := 0, locals := 0 }
theorem kn_X9_has : yX9_has.cls ≠ "java/lang/invoke/MethodHandle" ∧ yX9_has.cls ≠ "java/lang/invoke/VarHandle" ∧ (parseMethodDescriptor yX9_has.desc).map (fun d => d.parameters.length) = some 2 := by decide +kernel
set_option maxRecDepth 100000 in
set_option maxHeartbeats 4000000 in
theorem tX9_has {l : Launch} {G : va_G} {L : List Nat} {ad : Nat → Nat} {cs : Nat → ClassId} {z : Bool} {zk zv : Nat → Nat} (hinj : inj L ad) (hm : isM L) (x0 : Int32) (x1 : Int32)  (M : Mm) (r : Int32) (M' : Mm) (h : fX9_has x0 x1 M = some (r, M')) : Met l yX9_has (tgW yX9_has cX9_has 2 (some .boolean)) rmX9_has (APre G L ad cs z zk zv [.int x0, .int x1] M) (AQi G L ad cs r M') 0 0 (inA L ad) := by
  refine met_of (Eq.refl true) (Nat.le_of_ble_eq_true rfl) hinj [some (.int x0), some (.int x1)] rfl ?_
  intro p e s m below meth c F
  replace F : Fx G L ad cs z zk zv p m meth c cX9_has 2 (some .boolean) s _ RX9 := F
  unfold fX9_has at h
  refine ax_iload_n F dX9_has_0 rfl ?_
  refine ax_iload_n F dX9_has_1 rfl ?_
  refine ax_ishr F dX9_has_2 ?_
  refine ax_iconst (v := (1 : Int32)) F dX9_has_3 (by decide) ?_
  refine ax_iand F dX9_has_4 ?_
  refine ax_iconst (v := (1 : Int32)) F dX9_has_5 (by decide) ?_
  refine ax_icmp_ne (t := 13) F dX9_has_6 (by decide) (fun hc => ?_) (fun hc => ?_)
  · have h := it_neg0 h hc
    refine ax_iconst (v := (0 : Int32)) F dX9_has_13 (by decide) ?_
    obtain ⟨h1, h2⟩ := rt_some0 h
    subst h1; subst h2
    exact ax_zret F (by decide) dX9_has_14
  · have h := it_pos0 h hc
    refine ax_iconst (v := (1 : Int32)) F dX9_has_9 (by decide) ?_
    refine ax_goto (t := 14) F dX9_has_10 (by decide) ?_
    obtain ⟨h1, h2⟩ := rt_some0 h
    subst h1; subst h2
    exact ax_zret F (by decide) dX9_has_14
def rmX9_copyRow : Room := { frames := 0, cells := 0, slots := 0, locals := 0 }
theorem kn_X9_copyRow : yX9_copyRow.cls ≠ "java/lang/invoke/MethodHandle" ∧ yX9_copyRow.cls ≠ "java/lang/invoke/VarHandle" ∧ (parseMethodDescriptor yX9_copyRow.desc).map (fun d => d.parameters.length) = some 2 := by decide +kernel
noncomputable def bX9_copyRow_0 (x1 : Int32) (x2 : Int32) (M : Mm) : Option (Sst ⊕ Rst) := some (.inl (1, [], [x1, x2, (0 : Int32)], M))
noncomputable def bX9_copyRow_1 (x1 : Int32) (x2 : Int32) (x3 : Int32) (M : Mm) : Option (Sst ⊕ Rst) := if (90 : Int32) ≤ x3 then (some (.inr ((0 : Int32), M))) else (gd (okI (x1 + x3) 1080) (gd (okI (x2 + x3) 1080) (some (.inl (1, [], [x1, x2, (x3 + (1 : Int32))], (up2 M 339 (ix (x2 + x3)) (M 339 (ix (x1 + x3)))))))))
noncomputable def stX9_copyRow : Sst → Option (Sst ⊕ Rst) := fun q => match q.1 with
  | 0 => bX9_copyRow_0 (q.2.2.1.getD 0 0) (q.2.2.1.getD 1 0) q.2.2.2
  | 1 => bX9_copyRow_1 (q.2.2.1.getD 0 0) (q.2.2.1.getD 1 0) (q.2.2.1.getD 2 0) q.2.2.2
  | _ => none
noncomputable def fX9_copyRow (x1 : Int32) (x2 : Int32) (M : Mm) : Option Rst := run stX9_copyRow (0, [], [x1, x2], M)
def PX9_copyRow (p : Program) (l : Launch) (e : Env) (s : State) (m : MethodId) (args : Array Value) (below : List Frame) (meth : Method) (c : Code) (G : va_G) (L : List Nat) (ad : Nat → Nat) (cs : Nat → ClassId) (zk : Nat → Nat) (r : Int32) (M' : Mm) (n : Nat) : Prop := (∀ (x1 : Int32) (x2 : Int32) (M : Mm), itr stX9_copyRow n (0, [], [x1, x2], M) = some (r, M') → AW p l e rmX9_copyRow s m args below meth c (MQ below (AQv G L ad cs M') args s 0 0 (inA L ad)) G L ad cs 4 0 [some (.ref (ad 338)), some (.int x1), some (.int x2), none] [] M) ∧ (∀ (x1 : Int32) (x2 : Int32) (x3 : Int32) (M : Mm), itr stX9_copyRow n (1, [], [x1, x2, x3], M) = some (r, M') → AW p l e rmX9_copyRow s m args below meth c (MQ below (AQv G L ad cs M') args s 0 0 (inA L ad)) G L ad cs 4 2 [some (.ref (ad 338)), some (.int x1), some (.int x2), some (.int x3)] [] M)
set_option maxRecDepth 100000 in
set_option maxHeartbeats 4000000 in
theorem wX9_copyRow_0 {p : Program} {l : Launch} {e : Env} {s : State} {m : MethodId} {args : Array Value} {below : List Frame} {meth : Method} {c : Code} {G : va_G} {L : List Nat} {ad : Nat → Nat} {cs : Nat → ClassId} {z : Bool} {zk zv : Nat → Nat} {r : Int32} {M' : Mm} {n : Nat} (F : Fx G L ad cs z zk zv p m meth c cX9_copyRow 4 none s args RX9) (hm : isM L) (IH : PX9_copyRow p l e s m args below meth c G L ad cs zk r M' n) (x1 : Int32) (x2 : Int32) (M : Mm) (h : (bX9_copyRow_0 x1 x2 M).bind (fun q => match q with | .inl s' => itr stX9_copyRow n s' | .inr r => some r) = some (r, M'))  : AW p l e rmX9_copyRow s m args below meth c (MQ below (AQv G L ad cs M') args s 0 0 (inA L ad)) G L ad cs 4 0 [some (.ref (ad 338)), some (.int x1), some (.int x2), none] [] M := by
  unfold bX9_copyRow_0 at h
  refine ax_iconst (v := (0 : Int32)) F dX9_copyRow_0 (by decide) ?_
  refine ax_istore_n F dX9_copyRow_1 (by decide) rfl ?_
  exact IH.2 _ _ _ _ h 
set_option maxRecDepth 100000 in
set_option maxHeartbeats 4000000 in
theorem wX9_copyRow_1 {p : Program} {l : Launch} {e : Env} {s : State} {m : MethodId} {args : Array Value} {below : List Frame} {meth : Method} {c : Code} {G : va_G} {L : List Nat} {ad : Nat → Nat} {cs : Nat → ClassId} {z : Bool} {zk zv : Nat → Nat} {r : Int32} {M' : Mm} {n : Nat} (F : Fx G L ad cs z zk zv p m meth c cX9_copyRow 4 none s args RX9) (hm : isM L) (IH : PX9_copyRow p l e s m args below meth c G L ad cs zk r M' n) (x1 : Int32) (x2 : Int32) (x3 : Int32) (M : Mm) (h : (bX9_copyRow_1 x1 x2 x3 M).bind (fun q => match q with | .inl s' => itr stX9_copyRow n s' | .inr r => some r) = some (r, M'))  : AW p l e rmX9_copyRow s m args below meth c (MQ below (AQv G L ad cs M') args s 0 0 (inA L ad)) G L ad cs 4 2 [some (.ref (ad 338)), some (.int x1), some (.int x2), some (.int x3)] [] M := by
  unfold bX9_copyRow_1 at h
  refine ax_iload_n F dX9_copyRow_2 rfl ?_
  refine ax_bipush (v := (90 : Int32)) F dX9_copyRow_3 (by decide) ?_
  refine ax_icmp_ge (t := 30) F dX9_copyRow_5 (by decide) (fun hc => ?_) (fun hc => ?_)
  · have h := it_pos h hc
    obtain ⟨h1, h2⟩ := rt_some h
    subst h2
    exact ax_vret F dX9_copyRow_30
  · have h := it_neg h hc
    refine ax_aload_n F dX9_copyRow_8 rfl ?_
    refine ax_get (v := .ref (ad 339)) F (ob_338 hm) rfl inGX9 0 (by decide) rfl kf_X9_7 rfl dX9_copyRow_9 ?_
    refine ax_iload_n F dX9_copyRow_12 rfl ?_
    refine ax_iload_n F dX9_copyRow_13 rfl ?_
    refine ax_iadd F dX9_copyRow_14 ?_
    refine ax_aload_n F dX9_copyRow_15 rfl ?_
    refine ax_get (v := .ref (ad 339)) F (ob_338 hm) rfl inGX9 0 (by decide) rfl kf_X9_7 rfl dX9_copyRow_16 ?_
    refine ax_iload_n F dX9_copyRow_19 rfl ?_
    refine ax_iload_n F dX9_copyRow_20 rfl ?_
    refine ax_iadd F dX9_copyRow_21 ?_
    obtain ⟨hg, h⟩ := gd_some h
    refine ax_iald F (ar_339 hm) hg dX9_copyRow_22 ?_
    obtain ⟨hg, h⟩ := gd_some h
    refine ax_iast F (ar_339 hm) hg dX9_copyRow_23 ?_
    refine ax_iinc (v := (1 : Int32)) F dX9_copyRow_24 rfl (by decide) (by decide) rfl ?_
    refine ax_goto (t := 2) F dX9_copyRow_27 (by decide) ?_
    exact IH.2 _ _ _ _ h 
set_option maxRecDepth 100000 in
set_option maxHeartbeats 4000000 in
theorem wX9_copyRow {p : Program} {l : Launch} {e : Env} {s : State} {m : MethodId} {args : Array Value} {below : List Frame} {meth : Method} {c : Code} {G : va_G} {L : List Nat} {ad : Nat → Nat} {cs : Nat → ClassId} {z : Bool} {zk zv : Nat → Nat} {r : Int32} {M' : Mm} (F : Fx G L ad cs z zk zv p m meth c cX9_copyRow 4 none s args RX9) (hm : isM L) (n : Nat) : PX9_copyRow p l e s m args below meth c G L ad cs zk r M' n := by
  induction n with
  | zero => exact ⟨(fun x1 x2 M h => by cases h), (fun x1 x2 x3 M h => by cases h)⟩
  | succ n ih =>
    exact ⟨fun x1 x2 M h  => wX9_copyRow_0 F hm ih x1 x2 M h ,
      fun x1 x2 x3 M h  => wX9_copyRow_1 F hm ih x1 x2 x3 M h ⟩
set_option maxRecDepth 100000 in
set_option maxHeartbeats 4000000 in
theorem tX9_copyRow {l : Launch} {G : va_G} {L : List Nat} {ad : Nat → Nat} {cs : Nat → ClassId} {z : Bool} {zk zv : Nat → Nat} (hinj : inj L ad) (hm : isM L) (x1 : Int32) (x2 : Int32)  (M : Mm) (r : Int32) (M' : Mm) (h : fX9_copyRow x1 x2 M = some (r, M')) : Met l yX9_copyRow (tgW yX9_copyRow cX9_copyRow 4 none) rmX9_copyRow (APre G L ad cs z zk zv [.ref (ad 338), .int x1, .int x2] M) (AQv G L ad cs M') 0 0 (inA L ad) := by
  refine met_of (Eq.refl true) (Nat.le_of_ble_eq_true rfl) hinj [some (.ref (ad 338)), some (.int x1), some (.int x2), none] rfl ?_
  intro p e s m below meth c F
  replace F : Fx G L ad cs z zk zv p m meth c cX9_copyRow 4 none s _ RX9 := F
  obtain ⟨n, hn⟩ := run_ex h
  exact (wX9_copyRow F hm n).1 x1 x2 M hn 
noncomputable def fX9_put (x1 : Int32) (x2 : Int32) (x3 : Int32) (x4 : Int32) (M : Mm) : Option Rst := gd (okI ((x1 + (2 : Int32)) + x2) 1080) (gd (okI (((x1 + (10 : Int32)) + ((5 : Int32) * x2)) + (M 339 (ix ((x1 + (2 : Int32)) + x2)))) 1080) (gd (okI (((x1 + (50 : Int32)) + ((5 : Int32) * x2)) + (M 339 (ix ((x1 + (2 : Int32)) + x2)))) 1080) (gd (okI ((x1 + (2 : Int32)) + x2) 1080) (gd (okI ((x1 + (2 : Int32)) + x2) 1080) (some ((0 : Int32), (up2 (up2 (up2 M 339 (ix (((x1 + (10 : Int32)) + ((5 : Int32) * x2)) + (M 339 (ix ((x1 + (2 : Int32)) + x2))))) x3) 339 (ix (((x1 + (50 : Int32)) + ((5 : Int32) * x2)) + (M 339 (ix ((x1 + (2 : Int32)) + x2))))) x4) 339 (ix ((x1 + (2 : Int32)) + x2)) (((up2 (up2 M 339 (ix (((x1 + (10 : Int32)) + ((5 : Int32) * x2)) + (M 339 (ix ((x1 + (2 : Int32)) + x2))))) x3) 339 (ix (((x1 + (50 : Int32)) + ((5 : Int32) * x2)) + (M 339 (ix ((x1 + (2 : Int32)) + x2))))) x4) 339 (ix ((x1 + (2 : Int32)) + x2))) + (1 : Int32)))))))))
def rmX9_put : Room := { frames := 0, cells := 0, slots := 0, locals := 0 }
theorem kn_X9_put : yX9_put.cls ≠ "java/lang/invoke/MethodHandle" ∧ yX9_put.cls ≠ "java/lang/invoke/VarHandle" ∧ (parseMethodDescriptor yX9_put.desc).map (fun d => d.parameters.length) = some 4 := by decide +kernel
set_option maxRecDepth 100000 in
set_option maxHeartbeats 4000000 in
theorem tX9_put {l : Launch} {G : va_G} {L : List Nat} {ad : Nat → Nat} {cs : Nat → ClassId} {z : Bool} {zk zv : Nat → Nat} (hinj : inj L ad) (hm : isM L) (x1 : Int32) (x2 : Int32) (x3 : Int32) (x4 : Int32)  (M : Mm) (r : Int32) (M' : Mm) (h : fX9_put x1 x2 x3 x4 M = some (r, M')) : Met l yX9_put (tgW yX9_put cX9_put 6 none) rmX9_put (APre G L ad cs z zk zv [.ref (ad 338), .int x1, .int x2, .int x3, .int x4] M) (AQv G L ad cs M') 0 0 (inA L ad) := by
  refine met_of (Eq.refl true) (Nat.le_of_ble_eq_true rfl) hinj [some (.ref (ad 338)), some (.int x1), some (.int x2), some (.int x3), some (.int x4), none] rfl ?_
  intro p e s m below meth c F
  replace F : Fx G L ad cs z zk zv p m meth c cX9_put 6 none s _ RX9 := F
  unfold fX9_put at h
  refine ax_aload_n F dX9_put_0 rfl ?_
  refine ax_get (v := .ref (ad 339)) F (ob_338 hm) rfl inGX9 0 (by decide) rfl kf_X9_7 rfl dX9_put_1 ?_
  refine ax_iload_n F dX9_put_4 rfl ?_
  refine ax_iconst (v := (2 : Int32)) F dX9_put_5 (by decide) ?_
  refine ax_iadd F dX9_put_6 ?_
  refine ax_iload_n F dX9_put_7 rfl ?_
  refine ax_iadd F dX9_put_8 ?_
  obtain ⟨hg, h⟩ := gd_some0 h
  refine ax_iald F (ar_339 hm) hg dX9_put_9 ?_
  refine ax_istore F dX9_put_10 (by decide) rfl ?_
  refine ax_aload_n F dX9_put_12 rfl ?_
  refine ax_get (v := .ref (ad 339)) F (ob_338 hm) rfl inGX9 0 (by decide) rfl kf_X9_7 rfl dX9_put_13 ?_
  refine ax_iload_n F dX9_put_16 rfl ?_
  refine ax_bipush (v := (10 : Int32)) F dX9_put_17 (by decide) ?_
  refine ax_iadd F dX9_put_19 ?_
  refine ax_iconst (v := (5 : Int32)) F dX9_put_20 (by decide) ?_
  refine ax_iload_n F dX9_put_21 rfl ?_
  refine ax_imul F dX9_put_22 ?_
  refine ax_iadd F dX9_put_23 ?_
  refine ax_iload F dX9_put_24 rfl ?_
  refine ax_iadd F dX9_put_26 ?_
  refine ax_iload_n F dX9_put_27 rfl ?_
  obtain ⟨hg, h⟩ := gd_some0 h
  refine ax_iast F (ar_339 hm) hg dX9_put_28 ?_
  refine ax_aload_n F dX9_put_29 rfl ?_
  refine ax_get (v := .ref (ad 339)) F (ob_338 hm) rfl inGX9 0 (by decide) rfl kf_X9_7 rfl dX9_put_30 ?_
  refine ax_iload_n F dX9_put_33 rfl ?_
  refine ax_bipush (v := (50 : Int32)) F dX9_put_34 (by decide) ?_
  refine ax_iadd F dX9_put_36 ?_
  refine ax_iconst (v := (5 : Int32)) F dX9_put_37 (by decide) ?_
  refine ax_iload_n F dX9_put_38 rfl ?_
  refine ax_imul F dX9_put_39 ?_
  refine ax_iadd F dX9_put_40 ?_
  refine ax_iload F dX9_put_41 rfl ?_
  refine ax_iadd F dX9_put_43 ?_
  refine ax_iload F dX9_put_44 rfl ?_
  obtain ⟨hg, h⟩ := gd_some0 h
  refine ax_iast F (ar_339 hm) hg dX9_put_46 ?_
  refine ax_aload_n F dX9_put_47 rfl ?_
  refine ax_get (v := .ref (ad 339)) F (ob_338 hm) rfl inGX9 0 (by decide) rfl kf_X9_7 rfl dX9_put_48 ?_
  refine ax_iload_n F dX9_put_51 rfl ?_
  refine ax_iconst (v := (2 : Int32)) F dX9_put_52 (by decide) ?_
  refine ax_iadd F dX9_put_53 ?_
  refine ax_iload_n F dX9_put_54 rfl ?_
  refine ax_iadd F dX9_put_55 ?_
  refine ax_dup2 F dX9_put_56 rfl rfl ?_
  obtain ⟨hg, h⟩ := gd_some0 h
  refine ax_iald F (ar_339 hm) hg dX9_put_57 ?_
  refine ax_iconst (v := (1 : Int32)) F dX9_put_58 (by decide) ?_
  refine ax_iadd F dX9_put_59 ?_
  obtain ⟨hg, h⟩ := gd_some0 h
  refine ax_iast F (ar_339 hm) hg dX9_put_60 ?_
  obtain ⟨h1, h2⟩ := rt_some0 h
  subst h2
  exact ax_vret F dX9_put_61
