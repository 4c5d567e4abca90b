/-! the last cell of a piece -/
theorem root_tr {G : va_G} {A : Nat → Prop} {X : va_W} {L : List Nat} {ad : Nat → Nat} {cs : Nat → ClassId} {M : Mm} {a h : Nat} {e : va_E} {R : Nat → Int32} (hc : clo L) (ha : a ∉ L) (he : ∀ H : Heap, va_at G vwCl (h, e) H → va_at G vwCl (h, cel (va_up ad a h) cs R a) H) : ∀ H : Heap, va_P G vwCl (X ++ (h, e) :: wsO L ad cs M) H → va_D A (X ++ (h, e) :: wsO L ad cs M) → va_P G vwCl (X ++ wsO (a :: L) (va_up ad a h) cs (upR M a R)) H ∧ va_D A (X ++ wsO (a :: L) (va_up ad a h) cs (upR M a R)) := by
  intro H hP hD
  have hne : ∀ i ∈ L, i ≠ a := fun i hi z => ha (z ▸ hi)
  constructor
  · rw [va_P_app] at hP ⊢
    refine ⟨hP.1, ?_⟩
    have h2 := (va_P_app (w1 := [(h, e)])).mp hP.2
    rw [wsO_P]
    intro i hi
    rcases List.mem_cons.mp hi with rfl | hi
    · have := he H (h2.1 0 _ rfl)
      rw [va_up_self]
      have e1 : upR M i R i = R := by simp [upR]
      rw [e1]; exact this
    · have := wsO_P.mp (wsO_tr (M' := upR M a R) (ad' := va_up ad a h) hc (fun i hi => (va_up_ne _ _ (hne i hi)).symm) (fun i hi => by simp [upR, hne i hi]) h2.2)
      exact this i hi
  · refine va_D_fst ?_ hD
    rw [List.map_append, List.map_append, wsO_fst, List.map_cons, wsO_fst, List.map_cons, va_up_self]
    congr 2
    apply List.map_congr_left
    intro i hi
    exact (va_up_ne _ _ (hne i hi)).symm
/-! leaf constructors -/
abbrev Rf (f : Nat → Option Nat) : (Nat → Int32) ⊕ (Nat → Int64) ⊕ (Nat → UInt32) ⊕ (Nat → UInt64) ⊕ (Nat → Option Nat) := .inr (.inr (.inr (.inr f)))
def zM : Mm := fun _ _ => 0
theorem kn_X0_init : yX0_init.cls ≠ "java/lang/invoke/MethodHandle" ∧ yX0_init.cls ≠ "java/lang/invoke/VarHandle" ∧ (parseMethodDescriptor yX0_init.desc).map (fun d => d.parameters.length) = some 0 := by decide +kernel
theorem kn_X1_init : yX1_init.cls ≠ "java/lang/invoke/MethodHandle" ∧ yX1_init.cls ≠ "java/lang/invoke/VarHandle" ∧ (parseMethodDescriptor yX1_init.desc).map (fun d => d.parameters.length) = some 0 := by decide +kernel
theorem kn_X2_init : yX2_init.cls ≠ "java/lang/invoke/MethodHandle" ∧ yX2_init.cls ≠ "java/lang/invoke/VarHandle" ∧ (parseMethodDescriptor yX2_init.desc).map (fun d => d.parameters.length) = some 0 := by decide +kernel
theorem kn_X3_init : yX3_init.cls ≠ "java/lang/invoke/MethodHandle" ∧ yX3_init.cls ≠ "java/lang/invoke/VarHandle" ∧ (parseMethodDescriptor yX3_init.desc).map (fun d => d.parameters.length) = some 0 := by decide +kernel
theorem kn_X4_init : yX4_init.cls ≠ "java/lang/invoke/MethodHandle" ∧ yX4_init.cls ≠ "java/lang/invoke/VarHandle" ∧ (parseMethodDescriptor yX4_init.desc).map (fun d => d.parameters.length) = some 0 := by decide +kernel
theorem kn_X5_init : yX5_init.cls ≠ "java/lang/invoke/MethodHandle" ∧ yX5_init.cls ≠ "java/lang/invoke/VarHandle" ∧ (parseMethodDescriptor yX5_init.desc).map (fun d => d.parameters.length) = some 0 := by decide +kernel
theorem kn_X6_init : yX6_init.cls ≠ "java/lang/invoke/MethodHandle" ∧ yX6_init.cls ≠ "java/lang/invoke/VarHandle" ∧ (parseMethodDescriptor yX6_init.desc).map (fun d => d.parameters.length) = some 0 := by decide +kernel
theorem kn_X7_init : yX7_init.cls ≠ "java/lang/invoke/MethodHandle" ∧ yX7_init.cls ≠ "java/lang/invoke/VarHandle" ∧ (parseMethodDescriptor yX7_init.desc).map (fun d => d.parameters.length) = some 0 := by decide +kernel
theorem kn_X8_init : yX8_init.cls ≠ "java/lang/invoke/MethodHandle" ∧ yX8_init.cls ≠ "java/lang/invoke/VarHandle" ∧ (parseMethodDescriptor yX8_init.desc).map (fun d => d.parameters.length) = some 0 := by decide +kernel
theorem kn_X9_init : yX9_init.cls ≠ "java/lang/invoke/MethodHandle" ∧ yX9_init.cls ≠ "java/lang/invoke/VarHandle" ∧ (parseMethodDescriptor yX9_init.desc).map (fun d => d.parameters.length) = some 0 := by decide +kernel
def rmX7_init : Room := { frames := 1, cells := 2, slots := 10, locals := 12 }
theorem w_V {ad : Nat → Nat} {cs : Nat → ClassId} {M : Mm} {a : Nat} (ha : isV [a, a + 1, a + 2] a) : wsO [a, a + 1, a + 2] ad cs M = [(ad a, .inr (7, [.ref (ad (a + 1)), .ref (ad (a + 2)), .int (M a 2)])), (ad (a + 1), .inl (cs 0, 5, .inl (M (a + 1)))), (ad (a + 2), .inl (cs 0, 5, .inl (M (a + 2))))] := by
  show [(ad a, cel ad cs (M a) a), (ad (a + 1), cel ad cs (M (a + 1)) (a + 1)), (ad (a + 2), cel ad cs (M (a + 2)) (a + 2))] = _
  rw [(ob_V (ad := ad) (cs := cs) ha).2, (ar_V1 (ad := ad) (cs := cs) ha).2, (ar_V2 (ad := ad) (cs := cs) ha).2]
set_option maxRecDepth 100000 in
set_option maxHeartbeats 4000000 in
theorem iX7 {l : Launch} {G : va_G} {cs : Nat → ClassId} {a : Nat} (ha : isV [a, a + 1, a + 2] a) : Ctor l yX7_init cX7_init 1 rmX7_init G cs 7 [.null, .null, .int 0] [a, a + 1, a + 2] a (fun _ => True) 2 10 := by
  refine ctor_of (Eq.refl true) rfl (by decide) (fun h0 => [some (.ref h0)]) (fun h0 => rfl) ?_
  intro h0 p e s m below meth c A B
  replace B : Bx G cs p m meth c cX7_init 1 s [Value.ref h0].toArray RX7 A := B
  refine gx_aload_n B dX7_init_0 rfl ?_
  refine gx_obj B km_X7_3 (by decide) (by decide) dX7_init_1 ?_
  refine gx_aload_n B dX7_init_4 rfl ?_
  refine gx_iconst (v := 5) B dX7_init_5 (by decide) ?_
  refine gx_newI B 5 (by decide) (by decide) (by decide) (by decide) (by decide) dX7_init_6 (fun q1 => ?_)
  refine gx_putF (C := RX7) (T := TX7) (N := 3) (ty := .array .int) (fs' := [.ref q1, .null, .int 0]) B rfl inGX7 tyX7 tyX7_ok nmX7 0 (by decide) rfl rfl kf_X7_9 (by decide +kernel) rfl rfl (Nat.le_of_ble_eq_true rfl) rfl dX7_init_8 ?_
  refine gx_aload_n B dX7_init_11 rfl ?_
  refine gx_iconst (v := 5) B dX7_init_12 (by decide) ?_
  refine gx_newI B 5 (by decide) (by decide) (by decide) (by decide) (by decide) dX7_init_13 (fun q2 => ?_)
  refine gx_putF (C := RX7) (T := TX7) (N := 3) (ty := .array .int) (fs' := [.ref q1, .ref q2, .int 0]) B rfl inGX7 tyX7 tyX7_ok nmX7 1 (by decide) rfl rfl kf_X7_15 (by decide +kernel) rfl rfl (Nat.le_of_ble_eq_true rfl) rfl dX7_init_15 ?_
  obtain ⟨ad, e0, e1, e2⟩ : ∃ ad : Nat → Nat, ad a = h0 ∧ ad (a + 1) = q1 ∧ ad (a + 2) = q2 := ⟨fun i => if i = a then h0 else if i = a + 1 then q1 else q2, by simp, by simp, by simp⟩
  refine gx_tr (ws' := wsO [a, a + 1, a + 2] ad cs zM) (fun H hP hD => by rw [w_V ha, e0, e1, e2]; exact ⟨hP, hD⟩) ?_
  exact gx_ret B e0 trivial dX7_init_18
def rmX6_init : Room := { frames := 1, cells := 1, slots := 200, locals := 12 }
set_option maxRecDepth 100000 in
set_option maxHeartbeats 4000000 in
theorem iX6 {l : Launch} {G : va_G} {cs : Nat → ClassId} : Ctor l yX6_init cX6_init 1 rmX6_init G cs 6 [.null, .int 0, .int 0, .int 0, .int 0] [1, 2] 1 (fun M => M 1 1 = 0) 1 200 := by
  refine ctor_of (Eq.refl true) rfl (by decide) (fun h0 => [some (.ref h0)]) (fun h0 => rfl) ?_
  intro h0 p e s m below meth c A B
  replace B : Bx G cs p m meth c cX6_init 1 s [Value.ref h0].toArray RX6 A := B
  refine gx_aload_n B dX6_init_0 rfl ?_
  refine gx_obj B km_X6_3 (by decide) (by decide) dX6_init_1 ?_
  refine gx_aload_n B dX6_init_4 rfl ?_
  refine gx_sipush (v := 200) B dX6_init_5 (by decide) ?_
  refine gx_newI B 200 (by decide) (by decide) (by decide) (by decide) (by decide) dX6_init_8 (fun q1 => ?_)
  refine gx_putF (C := RX6) (T := TX6) (N := 5) (ty := .array .int) (fs' := [.ref q1, .int 0, .int 0, .int 0, .int 0]) B rfl inGX6 tyX6 tyX6_ok nmX6 0 (by decide) rfl rfl kf_X6_9 (by decide +kernel) rfl rfl (Nat.le_of_ble_eq_true rfl) rfl dX6_init_10 ?_
  refine gx_tr (ws' := wsO [1, 2] (fun i => if i = 1 then h0 else q1) cs zM) (fun H hP hD => ⟨hP, hD⟩) ?_
  exact gx_ret B rfl rfl dX6_init_13
def rmX0_init : Room := { frames := 1, cells := 2, slots := 120, locals := 12 }
set_option maxRecDepth 100000 in
set_option maxHeartbeats 4000000 in
theorem iX0 {l : Launch} {G : va_G} {cs : Nat → ClassId} : Ctor l yX0_init cX0_init 1 rmX0_init G cs 0 [.null, .null, .int 0, .int 0] [3, 4, 5] 3 (fun _ => True) 2 120 := by
  refine ctor_of (Eq.refl true) rfl (by decide) (fun h0 => [some (.ref h0)]) (fun h0 => rfl) ?_
  intro h0 p e s m below meth c A B
  replace B : Bx G cs p m meth c cX0_init 1 s [Value.ref h0].toArray RX0 A := B
  refine gx_aload_n B dX0_init_0 rfl ?_
  refine gx_obj B km_X0_3 (by decide) (by decide) dX0_init_1 ?_
  refine gx_aload_n B dX0_init_4 rfl ?_
  refine gx_bipush (v := 24) B dX0_init_5 (by decide) ?_
  refine gx_newI B 24 (by decide) (by decide) (by decide) (by decide) (by decide) dX0_init_7 (fun q1 => ?_)
  refine gx_putF (C := RX0) (T := TX0) (N := 4) (ty := .array .int) (fs' := [.ref q1, .null, .int 0, .int 0]) B rfl inGX0 tyX0 tyX0_ok nmX0 0 (by decide) rfl rfl kf_X0_9 (by decide +kernel) rfl rfl (Nat.le_of_ble_eq_true rfl) rfl dX0_init_9 ?_
  refine gx_aload_n B dX0_init_12 rfl ?_
  refine gx_bipush (v := 96) B dX0_init_13 (by decide) ?_
  refine gx_newI B 96 (by decide) (by decide) (by decide) (by decide) (by decide) dX0_init_15 (fun q2 => ?_)
  refine gx_putF (C := RX0) (T := TX0) (N := 4) (ty := .array .int) (fs' := [.ref q1, .ref q2, .int 0, .int 0]) B rfl inGX0 tyX0 tyX0_ok nmX0 1 (by decide) rfl rfl kf_X0_15 (by decide +kernel) rfl rfl (Nat.le_of_ble_eq_true rfl) rfl dX0_init_17 ?_
  refine gx_tr (ws' := wsO [3, 4, 5] (fun i => if i = 3 then h0 else if i = 4 then q1 else q2) cs zM) (fun H hP hD => ⟨hP, hD⟩) ?_
  exact gx_ret B rfl trivial dX0_init_20
def rmX4_init : Room := { frames := 1, cells := 3, slots := 15, locals := 12 }
set_option maxRecDepth 100000 in
set_option maxHeartbeats 4000000 in
theorem iX4_7 {l : Launch} {G : va_G} {cs : Nat → ClassId} : Ctor l yX4_init cX4_init 1 rmX4_init G cs 4 [.null, .null, .null, .int 0] [7, 8, 9, 10] 7 (fun _ => True) 3 15 := by
  refine ctor_of (Eq.refl true) rfl (by decide) (fun h0 => [some (.ref h0)]) (fun h0 => rfl) ?_
  intro h0 p e s m below meth c A B
  replace B : Bx G cs p m meth c cX4_init 1 s [Value.ref h0].toArray RX4 A := B
  refine gx_aload_n B dX4_init_0 rfl ?_
  refine gx_obj B km_X4_3 (by decide) (by decide) dX4_init_1 ?_
  refine gx_aload_n B dX4_init_4 rfl ?_
  refine gx_iconst (v := 5) B dX4_init_5 (by decide) ?_
  refine gx_newI B 5 (by decide) (by decide) (by decide) (by decide) (by decide) dX4_init_6 (fun q1 => ?_)
  refine gx_putF (C := RX4) (T := TX4) (N := 4) (ty := .array .int) (fs' := [.ref q1, .null, .null, .int 0]) B rfl inGX4 tyX4 tyX4_ok nmX4 0 (by decide) rfl rfl kf_X4_9 (by decide +kernel) rfl rfl (Nat.le_of_ble_eq_true rfl) rfl dX4_init_8 ?_
  refine gx_aload_n B dX4_init_11 rfl ?_
  refine gx_iconst (v := 5) B dX4_init_12 (by decide) ?_
  refine gx_newI B 5 (by decide) (by decide) (by decide) (by decide) (by decide) dX4_init_13 (fun q2 => ?_)
  refine gx_putF (C := RX4) (T := TX4) (N := 4) (ty := .array .int) (fs' := [.ref q1, .ref q2, .null, .int 0]) B rfl inGX4 tyX4 tyX4_ok nmX4 1 (by decide) rfl rfl kf_X4_15 (by decide +kernel) rfl rfl (Nat.le_of_ble_eq_true rfl) rfl dX4_init_15 ?_
  refine gx_aload_n B dX4_init_18 rfl ?_
  refine gx_iconst (v := 5) B dX4_init_19 (by decide) ?_
  refine gx_newI B 5 (by decide) (by decide) (by decide) (by decide) (by decide) dX4_init_20 (fun q3 => ?_)
  refine gx_putF (C := RX4) (T := TX4) (N := 4) (ty := .array .int) (fs' := [.ref q1, .ref q2, .ref q3, .int 0]) B rfl inGX4 tyX4 tyX4_ok nmX4 2 (by decide) rfl rfl kf_X4_18 (by decide +kernel) rfl rfl (Nat.le_of_ble_eq_true rfl) rfl dX4_init_22 ?_
  refine gx_tr (ws' := wsO [7, 8, 9, 10] (fun i => if i = 7 then h0 else if i = 8 then q1 else if i = 9 then q2 else q3) cs zM) (fun H hP hD => ⟨hP, hD⟩) ?_
  exact gx_ret B rfl trivial dX4_init_25
set_option maxRecDepth 100000 in
set_option maxHeartbeats 4000000 in
theorem iX4_11 {l : Launch} {G : va_G} {cs : Nat → ClassId} : Ctor l yX4_init cX4_init 1 rmX4_init G cs 4 [.null, .null, .null, .int 0] [11, 12, 13, 14] 11 (fun _ => True) 3 15 := by
  refine ctor_of (Eq.refl true) rfl (by decide) (fun h0 => [some (.ref h0)]) (fun h0 => rfl) ?_
  intro h0 p e s m below meth c A B
  replace B : Bx G cs p m meth c cX4_init 1 s [Value.ref h0].toArray RX4 A := B
  refine gx_aload_n B dX4_init_0 rfl ?_
  refine gx_obj B km_X4_3 (by decide) (by decide) dX4_init_1 ?_
  refine gx_aload_n B dX4_init_4 rfl ?_
  refine gx_iconst (v := 5) B dX4_init_5 (by decide) ?_
  refine gx_newI B 5 (by decide) (by decide) (by decide) (by decide) (by decide) dX4_init_6 (fun q1 => ?_)
  refine gx_putF (C := RX4) (T := TX4) (N := 4) (ty := .array .int) (fs' := [.ref q1, .null, .null, .int 0]) B rfl inGX4 tyX4 tyX4_ok nmX4 0 (by decide) rfl rfl kf_X4_9 (by decide +kernel) rfl rfl (Nat.le_of_ble_eq_true rfl) rfl dX4_init_8 ?_
  refine gx_aload_n B dX4_init_11 rfl ?_
  refine gx_iconst (v := 5) B dX4_init_12 (by decide) ?_
  refine gx_newI B 5 (by decide) (by decide) (by decide) (by decide) (by decide) dX4_init_13 (fun q2 => ?_)
  refine gx_putF (C := RX4) (T := TX4) (N := 4) (ty := .array .int) (fs' := [.ref q1, .ref q2, .null, .int 0]) B rfl inGX4 tyX4 tyX4_ok nmX4 1 (by decide) rfl rfl kf_X4_15 (by decide +kernel) rfl rfl (Nat.le_of_ble_eq_true rfl) rfl dX4_init_15 ?_
  refine gx_aload_n B dX4_init_18 rfl ?_
  refine gx_iconst (v := 5) B dX4_init_19 (by decide) ?_
  refine gx_newI B 5 (by decide) (by decide) (by decide) (by decide) (by decide) dX4_init_20 (fun q3 => ?_)
  refine gx_putF (C := RX4) (T := TX4) (N := 4) (ty := .array .int) (fs' := [.ref q1, .ref q2, .ref q3, .int 0]) B rfl inGX4 tyX4 tyX4_ok nmX4 2 (by decide) rfl rfl kf_X4_18 (by decide +kernel) rfl rfl (Nat.le_of_ble_eq_true rfl) rfl dX4_init_22 ?_
  refine gx_tr (ws' := wsO [11, 12, 13, 14] (fun i => if i = 11 then h0 else if i = 12 then q1 else if i = 13 then q2 else q3) cs zM) (fun H hP hD => ⟨hP, hD⟩) ?_
  exact gx_ret B rfl trivial dX4_init_25
def rmX3_init : Room := { frames := 1, cells := 1, slots := 8, locals := 12 }
theorem w_G {ad : Nat → Nat} {cs : Nat → ClassId} {M : Mm} {a : Nat} (ha : isG [a, a + 1] a) : wsO [a, a + 1] ad cs M = [(ad a, .inr (3, [.ref (ad (a + 1)), .int (M a 1), .int (M a 2), .int (M a 3)])), (ad (a + 1), .inl (cs 0, 8, .inl (M (a + 1))))] := by
  show [(ad a, cel ad cs (M a) a), (ad (a + 1), cel ad cs (M (a + 1)) (a + 1))] = _
  rw [(ob_G (ad := ad) (cs := cs) ha).2, (ar_G1 (ad := ad) (cs := cs) ha).2]
set_option maxRecDepth 100000 in
set_option maxHeartbeats 4000000 in
theorem iX3 {l : Launch} {G : va_G} {cs : Nat → ClassId} {a : Nat} (ha : isG [a, a + 1] a) : Ctor l yX3_init cX3_init 1 rmX3_init G cs 3 [.null, .int 0, .int 0, .int 0] [a, a + 1] a (fun M => M a 1 = 0 ∧ M a 3 = 1) 1 8 := by
  refine ctor_of (Eq.refl true) rfl (by decide) (fun h0 => [some (.ref h0)]) (fun h0 => rfl) ?_
  intro h0 p e s m below meth c A B
  replace B : Bx G cs p m meth c cX3_init 1 s [Value.ref h0].toArray RX3 A := B
  refine gx_aload_n B dX3_init_0 rfl ?_
  refine gx_obj B km_X3_3 (by decide) (by decide) dX3_init_1 ?_
  refine gx_aload_n B dX3_init_4 rfl ?_
  refine gx_bipush (v := 8) B dX3_init_5 (by decide) ?_
  refine gx_newI B 8 (by decide) (by decide) (by decide) (by decide) (by decide) dX3_init_7 (fun q1 => ?_)
  refine gx_putF (C := RX3) (T := TX3) (N := 4) (ty := .array .int) (fs' := [.ref q1, .int 0, .int 0, .int 0]) B rfl inGX3 tyX3 tyX3_ok nmX3 0 (by decide) rfl rfl kf_X3_9 (by decide +kernel) rfl rfl (Nat.le_of_ble_eq_true rfl) rfl dX3_init_9 ?_
  refine gx_aload_n B dX3_init_12 rfl ?_
  refine gx_iconst (v := 1) B dX3_init_13 (by decide) ?_
  refine gx_putI (C := RX3) (T := TX3) (N := 4) (ty := .boolean) (fs' := [.ref q1, .int 0, .int 0, .int 1]) B rfl inGX3 tyX3 tyX3_ok nmX3 3 (by decide) rfl kf_X3_15 (by decide +kernel) (by decide) (by decide) (Nat.le_of_ble_eq_true rfl) rfl dX3_init_14 ?_
  obtain ⟨ad, e0, e1⟩ : ∃ ad : Nat → Nat, ad a = h0 ∧ ad (a + 1) = q1 := ⟨fun i => if i = a then h0 else q1, by simp, by simp⟩
  have m1 : up2 zM a 3 1 a 1 = 0 := rd_j (by decide)
  have m2 : up2 zM a 3 1 a 2 = 0 := rd_j (by decide)
  have m3 : up2 zM a 3 1 a 3 = 1 := up2_s _ _ _ _
  have m4 : up2 zM a 3 1 (a + 1) = fun _ => 0 := up2_c (by omega)
  refine gx_tr (ws' := wsO [a, a + 1] ad cs (up2 zM a 3 1)) (fun H hP hD => by rw [w_G ha, e0, e1, m1, m2, m3, m4]; exact ⟨hP, hD⟩) ?_
  exact gx_ret B e0 ⟨m1, m3⟩ dX3_init_17
def rmX5_init : Room := { frames := 2, cells := 8, slots := 38, locals := 32 }
set_option maxRecDepth 100000 in
set_option maxHeartbeats 4000000 in
theorem iX5 {l : Launch} {G : va_G} {cs : Nat → ClassId} : Ctor l yX5_init cX5_init 1 rmX5_init G cs 5 [.null, .null] (6 :: ([7, 8, 9, 10] ++ [11, 12, 13, 14])) 6 (fun _ => True) 8 38 := by
  refine ctor_of (Eq.refl true) rfl (by decide) (fun h0 => [some (.ref h0)]) (fun h0 => rfl) ?_
  intro h0 p e s m below meth c A B
  replace B : Bx G cs p m meth c cX5_init 1 s [Value.ref h0].toArray RX5 A := B
  refine gx_aload_n B dX5_init_0 rfl ?_
  refine gx_obj B km_X5_3 (by decide) (by decide) dX5_init_1 ?_
  refine gx_aload_n B dX5_init_4 rfl ?_
  refine gx_new (ci := 4) (C := RX4) (T := TX4) (N := 4) B [.null, .null, .null, .int 0] inGX4 tyX4 tyX4_ok kl_X5_9 kq_X4 kz_X4 rfl (by decide) (by decide) (by decide) dX5_init_5 (fun q1 => ?_)
  refine gx_dup B dX5_init_8 rfl ?_
  refine gx_initN B iX4_7 kc_X4_init kz_X4 ki_X4_init B.X.2.2.2.2.1 ⟨kn_X4_init, rfl, rfl, rfl, ⟨by decide, by decide⟩, by decide, by decide⟩ (Nat.le_of_ble_eq_true rfl) dX5_init_9 (fun ad1 M1 a1 _ => ?_)
  refine gx_putF (C := RX5) (T := TX5) (N := 2) (ty := .object "ShuffledViews$Sent") (fs' := [.ref q1, .null]) B rfl inGX5 tyX5 tyX5_ok nmX5 0 (by decide) rfl rfl kf_X5_12 (by decide +kernel) rfl rfl (Nat.le_of_ble_eq_true rfl) rfl dX5_init_12 ?_
  refine gx_aload_n B dX5_init_15 rfl ?_
  refine gx_new (ci := 4) (C := RX4) (T := TX4) (N := 4) B [.null, .null, .null, .int 0] inGX4 tyX4 tyX4_ok kl_X5_9 kq_X4 kz_X4 rfl (by decide) (by decide) (by decide) dX5_init_16 (fun q2 => ?_)
  refine gx_dup B dX5_init_19 rfl ?_
  refine gx_initN B iX4_11 kc_X4_init kz_X4 ki_X4_init B.X.2.2.2.2.1 ⟨kn_X4_init, rfl, rfl, rfl, ⟨by decide, by decide⟩, by decide, by decide⟩ (Nat.le_of_ble_eq_true rfl) dX5_init_20 (fun ad2 M2 a2 _ => ?_)
  refine gx_mrg (X := [(h0, .inr (5, [.ref q1, .null]))]) (by unfold clo; decide) (by unfold clo; decide) (by decide) (fun ad M h1 h2 => ?_)
  refine gx_putF (C := RX5) (T := TX5) (N := 2) (ty := .object "ShuffledViews$Sent") (fs' := [.ref q1, .ref q2]) B rfl inGX5 tyX5 tyX5_ok nmX5 1 (by decide) rfl rfl kf_X5_18 (by decide +kernel) rfl rfl (Nat.le_of_ble_eq_true rfl) rfl dX5_init_23 ?_
  have c1 : ad 7 = q1 := (h1 7 (by decide)).1.trans a1
  have c2 : ad 11 = q2 := (h2 11 (by decide)).1.trans a2
  refine gx_tr (root_tr (X := []) (a := 6) (R := fun _ => 0) (by unfold clo; decide) (by decide) (fun H hq => ?_)) ?_
  · have e1 : va_up ad 6 h0 7 = q1 := by rw [va_up_ne _ _ (by decide)]; exact c1
    have e2 : va_up ad 6 h0 11 = q2 := by rw [va_up_ne _ _ (by decide)]; exact c2
    show va_at G vwCl (h0, .inr (5, [.ref (va_up ad 6 h0 7), .ref (va_up ad 6 h0 11)])) H
    rw [e1, e2]; exact hq
  · exact gx_ret B (va_up_self _ _ _) trivial dX5_init_26
