/-! the class: its constructor -/
theorem va_D_nd {A : Nat → Prop} {ws : va_W} : va_D A ws ↔ (ws.map (fun q => q.1)).Nodup ∧ ∀ q ∈ ws, A q.1 := by
  constructor
  · intro h
    refine ⟨List.pairwise_iff_getElem.mpr (fun i j hi hj hij e => ?_), fun q hq => ?_⟩
    · rw [List.length_map] at hi hj
      rw [List.getElem_map, List.getElem_map] at e
      have := h.1 i j _ _ (List.getElem?_eq_getElem hi) (List.getElem?_eq_getElem hj) e
      omega
    · obtain ⟨k, hk⟩ := List.getElem?_of_mem hq
      exact h.2 k q hk
  · rintro ⟨h1, h2⟩
    refine ⟨fun i j p q hi hj e => ?_, fun k q hk => h2 q (List.mem_of_getElem? hk)⟩
    refine nd_get h1 (i := p.1) ?_ ?_
    · rw [List.getElem?_map, hi]; rfl
    · rw [List.getElem?_map, hj, e]; rfl
theorem va_D_perm {A : Nat → Prop} {ws ws' : va_W} (h : ws.Perm ws') (hD : va_D A ws) : va_D A ws' := by
  rw [va_D_nd] at hD ⊢
  exact ⟨(h.map (fun q => q.1)).nodup_iff.mp hD.1, fun q hq => hD.2 q (h.mem_iff.mpr hq)⟩
theorem va_P_perm {G : va_G} {ws ws' : va_W} {H : Heap} (h : ws.Perm ws') (hP : va_P G vwCl ws H) : va_P G vwCl ws' H := by
  intro k q hk
  obtain ⟨j, hj⟩ := List.getElem?_of_mem (h.mem_iff.mpr (List.mem_of_getElem? hk))
  exact hP j q hj
theorem gx_perm {p : Program} {l : Launch} {e : Env} {R : Room} {s : State} {m : MethodId} {args : Array Value} {below : List Frame} {meth : Method} {c : Code} {Q : State → Prop} {G : va_G} {A : Nat → Prop} {nL pc : Nat} {lv : List (Option Value)} {st : List Value} {ws ws' : va_W} {ce sl : Nat} (h : ws.Perm ws') (k : BW p l e R s m args below meth c Q G A nL pc lv st ws' ce sl) : BW p l e R s m args below meth c Q G A nL pc lv st ws ce sl :=
  gx_tr (fun _ hP hD => ⟨va_P_perm h hP, va_D_perm h hD⟩) k
theorem tr2 {a b e : Nat} {c d f : Nat → Int32} (h1 : a = b ∧ c = d) (h2 : b = e ∧ d = f) : a = e ∧ c = f := ⟨h1.1.trans h2.1, h1.2.trans h2.2⟩
theorem mem_G {adc : Nat → Nat} {cs : Nat → ClassId} {Mc : Mm} {a q : Nat} (ha : isG [a, a + 1] a) (hq : adc a = q) : (q, (.inr (3, [.ref (adc (a + 1)), .int (Mc a 1), .int (Mc a 2), .int (Mc a 3)]) : va_E)) ∈ wsO [a, a + 1] adc cs Mc := by
  rw [w_G ha, hq]; exact List.mem_cons_self
theorem isG_2 {a : Nat} (h : a = 20 ∨ a = 22 ∨ a = 24) : isG [a, a + 1] a := ⟨h, List.mem_cons_self, List.mem_cons_of_mem _ List.mem_cons_self⟩
def rmX8_init : Room := { frames := 4, cells := 337, slots := 1851, locals := 90 }
abbrev LC1 : List Nat := [1, 2]
abbrev LC2 : List Nat := LC1 ++ [3, 4, 5]
abbrev LC3 : List Nat := LC2 ++ (Rg 26 26)
abbrev LC4 : List Nat := LC3 ++ (Rg 52 26)
abbrev LC5 : List Nat := LC4 ++ (6 :: ([7, 8, 9, 10] ++ [11, 12, 13, 14]))
abbrev LC6 : List Nat := LC5 ++ (15 :: 16 :: Rg 78 208)
abbrev LC7 : List Nat := LC6 ++ [18]
abbrev LC8 : List Nat := LC7 ++ (Rg 286 26)
abbrev LC9 : List Nat := LC8 ++ (Rg 312 26)
abbrev LC10 : List Nat := LC9 ++ [20, 21]
abbrev LC11 : List Nat := LC10 ++ [22, 23]
abbrev LC12 : List Nat := LC11 ++ [24, 25]
theorem cLC1 : clo LC1 := by unfold clo; decide
theorem cLC2 : clo LC2 := clo_app cLC1 (by unfold clo; decide)
theorem cLC3 : clo LC3 := clo_app cLC2 (clo_N (t := 0) (k := 1) (by omega))
theorem cLC4 : clo LC4 := clo_app cLC3 (clo_N (t := 1) (k := 1) (by omega))
theorem cLC5 : clo LC5 := clo_app cLC4 (by unfold clo; decide)
theorem cLC6 : clo LC6 := clo_app cLC5 clo_15
theorem cLC7 : clo LC7 := clo_app cLC6 (by unfold clo; decide)
theorem cLC8 : clo LC8 := clo_app cLC7 (clo_N (t := 10) (k := 1) (by omega))
theorem cLC9 : clo LC9 := clo_app cLC8 (clo_N (t := 11) (k := 1) (by omega))
theorem cLC10 : clo LC10 := clo_app cLC9 (by unfold clo; decide)
theorem cLC11 : clo LC11 := clo_app cLC10 (by unfold clo; decide)
theorem cLC12 : clo LC12 := clo_app cLC11 (by unfold clo; decide)
theorem dLC1 : ∀ i ∈ LC1, i ∉ [3, 4, 5] := by
  intro i hi hj
  simp only [LC1, LC2, LC3, LC4, LC5, LC6, LC7, LC8, LC9, LC10, LC11, List.mem_append, List.mem_cons, List.not_mem_nil, or_false, mem_Rg] at hi hj
  omega
theorem dLC2 : ∀ i ∈ LC2, i ∉ (Rg 26 26) := by
  intro i hi hj
  simp only [LC1, LC2, LC3, LC4, LC5, LC6, LC7, LC8, LC9, LC10, LC11, List.mem_append, List.mem_cons, List.not_mem_nil, or_false, mem_Rg] at hi hj
  omega
theorem dLC3 : ∀ i ∈ LC3, i ∉ (Rg 52 26) := by
  intro i hi hj
  simp only [LC1, LC2, LC3, LC4, LC5, LC6, LC7, LC8, LC9, LC10, LC11, List.mem_append, List.mem_cons, List.not_mem_nil, or_false, mem_Rg] at hi hj
  omega
theorem dLC4 : ∀ i ∈ LC4, i ∉ (6 :: ([7, 8, 9, 10] ++ [11, 12, 13, 14])) := by
  intro i hi hj
  simp only [LC1, LC2, LC3, LC4, LC5, LC6, LC7, LC8, LC9, LC10, LC11, List.mem_append, List.mem_cons, List.not_mem_nil, or_false, mem_Rg] at hi hj
  omega
theorem dLC5 : ∀ i ∈ LC5, i ∉ (15 :: 16 :: Rg 78 208) := by
  intro i hi hj
  simp only [LC1, LC2, LC3, LC4, LC5, LC6, LC7, LC8, LC9, LC10, LC11, List.mem_append, List.mem_cons, List.not_mem_nil, or_false, mem_Rg] at hi hj
  omega
theorem dLC6 : ∀ i ∈ LC6, i ∉ [18] := by
  intro i hi hj
  simp only [LC1, LC2, LC3, LC4, LC5, LC6, LC7, LC8, LC9, LC10, LC11, List.mem_append, List.mem_cons, List.not_mem_nil, or_false, mem_Rg] at hi hj
  omega
theorem dLC7 : ∀ i ∈ LC7, i ∉ (Rg 286 26) := by
  intro i hi hj
  simp only [LC1, LC2, LC3, LC4, LC5, LC6, LC7, LC8, LC9, LC10, LC11, List.mem_append, List.mem_cons, List.not_mem_nil, or_false, mem_Rg] at hi hj
  omega
theorem dLC8 : ∀ i ∈ LC8, i ∉ (Rg 312 26) := by
  intro i hi hj
  simp only [LC1, LC2, LC3, LC4, LC5, LC6, LC7, LC8, LC9, LC10, LC11, List.mem_append, List.mem_cons, List.not_mem_nil, or_false, mem_Rg] at hi hj
  omega
theorem dLC9 : ∀ i ∈ LC9, i ∉ [20, 21] := by
  intro i hi hj
  simp only [LC1, LC2, LC3, LC4, LC5, LC6, LC7, LC8, LC9, LC10, LC11, List.mem_append, List.mem_cons, List.not_mem_nil, or_false, mem_Rg] at hi hj
  omega
theorem dLC10 : ∀ i ∈ LC10, i ∉ [22, 23] := by
  intro i hi hj
  simp only [LC1, LC2, LC3, LC4, LC5, LC6, LC7, LC8, LC9, LC10, LC11, List.mem_append, List.mem_cons, List.not_mem_nil, or_false, mem_Rg] at hi hj
  omega
theorem dLC11 : ∀ i ∈ LC11, i ∉ [24, 25] := by
  intro i hi hj
  simp only [LC1, LC2, LC3, LC4, LC5, LC6, LC7, LC8, LC9, LC10, LC11, List.mem_append, List.mem_cons, List.not_mem_nil, or_false, mem_Rg] at hi hj
  omega
abbrev LX8 : List Nat := 0 :: 17 :: 19 :: LC12
theorem isX_LX8 : ∀ j, j < 338 → j ∈ LX8 := by
  intro j hj
  simp only [LX8, LC1, LC2, LC3, LC4, LC5, LC6, LC7, LC8, LC9, LC10, LC11, LC12, List.mem_append, List.mem_cons, List.not_mem_nil, or_false, mem_Rg]
  omega
theorem lt_LC12 : ∀ j ∈ LC12, 0 < j ∧ j ≠ 17 ∧ j ≠ 19 ∧ j < 338 := by
  intro j hj
  simp only [LC1, LC2, LC3, LC4, LC5, LC6, LC7, LC8, LC9, LC10, LC11, LC12, List.mem_append, List.mem_cons, List.not_mem_nil, or_false, mem_Rg] at hj
  omega
def PhX (M : Mm) : Prop := hasN M 26 P0 N0 ∧ M 15 = (fun _ => 0) ∧ M 18 = (fun _ => 0) ∧ M 1 1 = 0 ∧ (M 20 1 = 0 ∧ M 20 3 = 1) ∧ (M 22 1 = 0 ∧ M 22 3 = 1) ∧ M 24 1 = 0 ∧ M 24 3 = 1
set_option maxRecDepth 100000 in
set_option maxHeartbeats 40000000 in
theorem iX8 {l : Launch} {G : va_G} {cs : Nat → ClassId} : Ctor l yX8_init cX8_init 2 rmX8_init G cs 8 [.null, .null, .null, .null, .null, .null, .null, .null, .null] LX8 0 PhX 337 1851 := by
  refine ctor_of (Eq.refl true) rfl (by decide) (fun h0 => [some (.ref h0), none]) (fun h0 => rfl) ?_
  intro h0 p e s m below meth c A B
  replace B : Bx G cs p m meth c cX8_init 2 s [Value.ref h0].toArray RX8 A := B
  refine gx_aload_n B dX8_init_0 rfl ?_
  refine gx_obj B km_X8_1 (by decide) (by decide) dX8_init_1 ?_
  refine gx_aload_n B dX8_init_4 rfl ?_
  refine gx_new (ci := 6) (C := RX6) (T := TX6) (N := 5) B [.null, .int 0, .int 0, .int 0, .int 0] inGX6 tyX6 tyX6_ok kl_X8_7 kq_X6 kz_X6 rfl (by decide) (Nat.le_of_ble_eq_true rfl) (Nat.le_of_ble_eq_true rfl) dX8_init_5 (fun q1 => ?_)
  refine gx_dup B dX8_init_8 rfl ?_
  refine gx_initN B iX6 kc_X6_init kz_X6 ki_X6_init B.X.1 ⟨kn_X6_init, rfl, rfl, rfl, ⟨Nat.le_of_ble_eq_true rfl, Nat.le_of_ble_eq_true rfl⟩, Nat.le_of_ble_eq_true rfl, Nat.le_of_ble_eq_true rfl⟩ (Nat.le_of_ble_eq_true rfl) dX8_init_9 (fun a1 m1 e1 f1 => ?_)
  obtain ⟨A1, M1, u1, v1⟩ : ∃ (A1 : Nat → Nat) (M1 : Mm), A1 = a1 ∧ M1 = m1 := ⟨a1, m1, rfl, rfl⟩
  rw [← u1, ← v1]
  have p1_1 : ∀ i ∈ [1, 2], A1 i = a1 i ∧ M1 i = m1 i := fun i _ => by rw [u1, v1]; exact ⟨rfl, rfl⟩
  refine gx_putF (C := RX8) (T := TX8) (N := 9) (ty := .object "ShuffledViews$Text") (fs' := [.ref q1, .null, .null, .null, .null, .null, .null, .null, .null]) B rfl inGX8 tyX8 tyX8_ok nmX8 0 (by decide) rfl rfl kf_X8_10 (by decide +kernel) rfl rfl (Nat.le_of_ble_eq_true rfl) rfl dX8_init_12 ?_
  refine gx_aload_n B dX8_init_15 rfl ?_
  refine gx_new (ci := 0) (C := RX0) (T := TX0) (N := 4) B [.null, .null, .int 0, .int 0] inGX0 tyX0 tyX0_ok kl_X8_16 kq_X0 kz_X0 rfl (by decide) (Nat.le_of_ble_eq_true rfl) (Nat.le_of_ble_eq_true rfl) dX8_init_16 (fun q2 => ?_)
  refine gx_dup B dX8_init_19 rfl ?_
  refine gx_initN B iX0 kc_X0_init kz_X0 ki_X0_init B.X.2.1 ⟨kn_X0_init, rfl, rfl, rfl, ⟨Nat.le_of_ble_eq_true rfl, Nat.le_of_ble_eq_true rfl⟩, Nat.le_of_ble_eq_true rfl, Nat.le_of_ble_eq_true rfl⟩ (Nat.le_of_ble_eq_true rfl) dX8_init_20 (fun a2 m2 e2 f2 => ?_)
  refine gx_mrg (X := [(h0, .inr (8, [.ref q1, .null, .null, .null, .null, .null, .null, .null, .null]))]) (L := LC1) (Lc := [3, 4, 5]) (ad := A1) (M := M1) (adc := a2) (Mc := m2) cLC1 (by unfold clo; decide) dLC1 (fun A2 M2 g2 k2 => ?_)
  have p1_2 : ∀ i ∈ [1, 2], A2 i = a1 i ∧ M2 i = m1 i := fun i hi => tr2 (g2 i (hi)) (p1_1 i hi)
  have p2_2 : ∀ i ∈ [3, 4, 5], A2 i = a2 i ∧ M2 i = m2 i := k2
  refine gx_putF (C := RX8) (T := TX8) (N := 9) (ty := .object "ShuffledViews$Clauses") (fs' := [.ref q1, .ref q2, .null, .null, .null, .null, .null, .null, .null]) B rfl inGX8 tyX8 tyX8_ok nmX8 1 (by decide) rfl rfl kf_X8_19 (by decide +kernel) rfl rfl (Nat.le_of_ble_eq_true rfl) rfl dX8_init_23 ?_
  refine gx_aload_n B dX8_init_26 rfl ?_
  refine gx_new (ci := 1) (C := RX1) (T := TX1) (N := 7) B [.null, .int 0, .int 0, .int 0, .int 0, .int 0, .int 0] inGX1 tyX1 tyX1_ok kl_X8_23 kq_X1 kz_X1 rfl (by decide) (Nat.le_of_ble_eq_true rfl) (Nat.le_of_ble_eq_true rfl) dX8_init_27 (fun q3 => ?_)
  refine gx_dup B dX8_init_30 rfl ?_
  refine gx_init B (iX1 (t := 0) (by decide)) kc_X1_init kz_X1 ki_X1_init km_X8_25 ⟨kn_X1_init, rfl, rfl, rfl, ⟨Nat.le_of_ble_eq_true rfl, Nat.le_of_ble_eq_true rfl⟩, Nat.le_of_ble_eq_true rfl, Nat.le_of_ble_eq_true rfl⟩ (Nat.le_of_ble_eq_true rfl) dX8_init_31 (fun a3 m3 e3 f3 => ?_)
  refine gx_mrg (X := [(h0, .inr (8, [.ref q1, .ref q2, .null, .null, .null, .null, .null, .null, .null]))]) (L := LC2) (Lc := (Rg 26 26)) (ad := A2) (M := M2) (adc := a3) (Mc := m3) cLC2 (clo_N (t := 0) (k := 1) (by omega)) dLC2 (fun A3 M3 g3 k3 => ?_)
  have p1_3 : ∀ i ∈ [1, 2], A3 i = a1 i ∧ M3 i = m1 i := fun i hi => tr2 (g3 i (List.mem_append_left _ (hi))) (p1_2 i hi)
  have p2_3 : ∀ i ∈ [3, 4, 5], A3 i = a2 i ∧ M3 i = m2 i := fun i hi => tr2 (g3 i (List.mem_append_right _ hi)) (p2_2 i hi)
  have p3_3 : ∀ i ∈ (Rg 26 26), A3 i = a3 i ∧ M3 i = m3 i := k3
  clear p1_2 p2_2 g3 k3
  refine gx_putF (C := RX8) (T := TX8) (N := 9) (ty := .object "ShuffledViews$Net") (fs' := [.ref q1, .ref q2, .ref q3, .null, .null, .null, .null, .null, .null]) B rfl inGX8 tyX8 tyX8_ok nmX8 2 (by decide) rfl rfl kf_X8_26 (by decide +kernel) rfl rfl (Nat.le_of_ble_eq_true rfl) rfl dX8_init_34 ?_
  refine gx_aload_n B dX8_init_37 rfl ?_
  refine gx_new (ci := 1) (C := RX1) (T := TX1) (N := 7) B [.null, .int 0, .int 0, .int 0, .int 0, .int 0, .int 0] inGX1 tyX1 tyX1_ok kl_X8_23 kq_X1 kz_X1 rfl (by decide) (Nat.le_of_ble_eq_true rfl) (Nat.le_of_ble_eq_true rfl) dX8_init_38 (fun q4 => ?_)
  refine gx_dup B dX8_init_41 rfl ?_
  refine gx_init B (iX1 (t := 1) (by decide)) kc_X1_init kz_X1 ki_X1_init km_X8_25 ⟨kn_X1_init, rfl, rfl, rfl, ⟨Nat.le_of_ble_eq_true rfl, Nat.le_of_ble_eq_true rfl⟩, Nat.le_of_ble_eq_true rfl, Nat.le_of_ble_eq_true rfl⟩ (Nat.le_of_ble_eq_true rfl) dX8_init_42 (fun a4 m4 e4 f4 => ?_)
  refine gx_mrg (X := [(h0, .inr (8, [.ref q1, .ref q2, .ref q3, .null, .null, .null, .null, .null, .null]))]) (L := LC3) (Lc := (Rg 52 26)) (ad := A3) (M := M3) (adc := a4) (Mc := m4) cLC3 (clo_N (t := 1) (k := 1) (by omega)) dLC3 (fun A4 M4 g4 k4 => ?_)
  have p1_4 : ∀ i ∈ [1, 2], A4 i = a1 i ∧ M4 i = m1 i := fun i hi => tr2 (g4 i (List.mem_append_left _ (List.mem_append_left _ (hi)))) (p1_3 i hi)
  have p2_4 : ∀ i ∈ [3, 4, 5], A4 i = a2 i ∧ M4 i = m2 i := fun i hi => tr2 (g4 i (List.mem_append_left _ (List.mem_append_right _ hi))) (p2_3 i hi)
  have p3_4 : ∀ i ∈ (Rg 26 26), A4 i = a3 i ∧ M4 i = m3 i := fun i hi => tr2 (g4 i (List.mem_append_right _ hi)) (p3_3 i hi)
  have p4_4 : ∀ i ∈ (Rg 52 26), A4 i = a4 i ∧ M4 i = m4 i := k4
  clear p1_3 p2_3 p3_3 g4 k4
  refine gx_putF (C := RX8) (T := TX8) (N := 9) (ty := .object "ShuffledViews$Net") (fs' := [.ref q1, .ref q2, .ref q3, .ref q4, .null, .null, .null, .null, .null]) B rfl inGX8 tyX8 tyX8_ok nmX8 3 (by decide) rfl rfl kf_X8_30 (by decide +kernel) rfl rfl (Nat.le_of_ble_eq_true rfl) rfl dX8_init_45 ?_
  refine gx_aload_n B dX8_init_48 rfl ?_
  refine gx_new (ci := 5) (C := RX5) (T := TX5) (N := 2) B [.null, .null] inGX5 tyX5 tyX5_ok kl_X8_33 kq_X5 kz_X5 rfl (by decide) (Nat.le_of_ble_eq_true rfl) (Nat.le_of_ble_eq_true rfl) dX8_init_49 (fun q5 => ?_)
  refine gx_dup B dX8_init_52 rfl ?_
  refine gx_initN B iX5 kc_X5_init kz_X5 ki_X5_init B.X.2.2.2.1 ⟨kn_X5_init, rfl, rfl, rfl, ⟨Nat.le_of_ble_eq_true rfl, Nat.le_of_ble_eq_true rfl⟩, Nat.le_of_ble_eq_true rfl, Nat.le_of_ble_eq_true rfl⟩ (Nat.le_of_ble_eq_true rfl) dX8_init_53 (fun a5 m5 e5 f5 => ?_)
  refine gx_mrg (X := [(h0, .inr (8, [.ref q1, .ref q2, .ref q3, .ref q4, .null, .null, .null, .null, .null]))]) (L := LC4) (Lc := (6 :: ([7, 8, 9, 10] ++ [11, 12, 13, 14]))) (ad := A4) (M := M4) (adc := a5) (Mc := m5) cLC4 (by unfold clo; decide) dLC4 (fun A5 M5 g5 k5 => ?_)
  have p1_5 : ∀ i ∈ [1, 2], A5 i = a1 i ∧ M5 i = m1 i := fun i hi => tr2 (g5 i (List.mem_append_left _ (List.mem_append_left _ (List.mem_append_left _ (hi))))) (p1_4 i hi)
  have p2_5 : ∀ i ∈ [3, 4, 5], A5 i = a2 i ∧ M5 i = m2 i := fun i hi => tr2 (g5 i (List.mem_append_left _ (List.mem_append_left _ (List.mem_append_right _ hi)))) (p2_4 i hi)
  have p3_5 : ∀ i ∈ (Rg 26 26), A5 i = a3 i ∧ M5 i = m3 i := fun i hi => tr2 (g5 i (List.mem_append_left _ (List.mem_append_right _ hi))) (p3_4 i hi)
  have p4_5 : ∀ i ∈ (Rg 52 26), A5 i = a4 i ∧ M5 i = m4 i := fun i hi => tr2 (g5 i (List.mem_append_right _ hi)) (p4_4 i hi)
  have p5_5 : ∀ i ∈ (6 :: ([7, 8, 9, 10] ++ [11, 12, 13, 14])), A5 i = a5 i ∧ M5 i = m5 i := k5
  clear p1_4 p2_4 p3_4 p4_4 g5 k5
  refine gx_putF (C := RX8) (T := TX8) (N := 9) (ty := .object "ShuffledViews$Shuffle") (fs' := [.ref q1, .ref q2, .ref q3, .ref q4, .ref q5, .null, .null, .null, .null]) B rfl inGX8 tyX8 tyX8_ok nmX8 4 (by decide) rfl rfl kf_X8_36 (by decide +kernel) rfl rfl (Nat.le_of_ble_eq_true rfl) rfl dX8_init_56 ?_
  refine gx_aload_n B dX8_init_59 rfl ?_
  refine gx_new (ci := 2) (C := RX2) (T := TX2) (N := 3) B [.null, .int 0, .int 0] inGX2 tyX2 tyX2_ok kl_X8_40 kq_X2 kz_X2 rfl (by decide) (Nat.le_of_ble_eq_true rfl) (Nat.le_of_ble_eq_true rfl) dX8_init_60 (fun q6 => ?_)
  refine gx_dup B dX8_init_63 rfl ?_
  refine gx_init B iX2 kc_X2_init kz_X2 ki_X2_init km_X8_42 ⟨kn_X2_init, rfl, rfl, rfl, ⟨Nat.le_of_ble_eq_true rfl, Nat.le_of_ble_eq_true rfl⟩, Nat.le_of_ble_eq_true rfl, Nat.le_of_ble_eq_true rfl⟩ (Nat.le_of_ble_eq_true rfl) dX8_init_64 (fun a6 m6 e6 f6 => ?_)
  refine gx_mrg (X := [(h0, .inr (8, [.ref q1, .ref q2, .ref q3, .ref q4, .ref q5, .null, .null, .null, .null]))]) (L := LC5) (Lc := (15 :: 16 :: Rg 78 208)) (ad := A5) (M := M5) (adc := a6) (Mc := m6) cLC5 clo_15 dLC5 (fun A6 M6 g6 k6 => ?_)
  have p1_6 : ∀ i ∈ [1, 2], A6 i = a1 i ∧ M6 i = m1 i := fun i hi => tr2 (g6 i (List.mem_append_left _ (List.mem_append_left _ (List.mem_append_left _ (List.mem_append_left _ (hi)))))) (p1_5 i hi)
  have p2_6 : ∀ i ∈ [3, 4, 5], A6 i = a2 i ∧ M6 i = m2 i := fun i hi => tr2 (g6 i (List.mem_append_left _ (List.mem_append_left _ (List.mem_append_left _ (List.mem_append_right _ hi))))) (p2_5 i hi)
  have p3_6 : ∀ i ∈ (Rg 26 26), A6 i = a3 i ∧ M6 i = m3 i := fun i hi => tr2 (g6 i (List.mem_append_left _ (List.mem_append_left _ (List.mem_append_right _ hi)))) (p3_5 i hi)
  have p4_6 : ∀ i ∈ (Rg 52 26), A6 i = a4 i ∧ M6 i = m4 i := fun i hi => tr2 (g6 i (List.mem_append_left _ (List.mem_append_right _ hi))) (p4_5 i hi)
  have p5_6 : ∀ i ∈ (6 :: ([7, 8, 9, 10] ++ [11, 12, 13, 14])), A6 i = a5 i ∧ M6 i = m5 i := fun i hi => tr2 (g6 i (List.mem_append_right _ hi)) (p5_5 i hi)
  have p6_6 : ∀ i ∈ (15 :: 16 :: Rg 78 208), A6 i = a6 i ∧ M6 i = m6 i := k6
  clear p1_5 p2_5 p3_5 p4_5 p5_5 g6 k6
  refine gx_putF (C := RX8) (T := TX8) (N := 9) (ty := .object "ShuffledViews$Past") (fs' := [.ref q1, .ref q2, .ref q3, .ref q4, .ref q5, .ref q6, .null, .null, .null]) B rfl inGX8 tyX8 tyX8_ok nmX8 5 (by decide) rfl rfl kf_X8_43 (by decide +kernel) rfl rfl (Nat.le_of_ble_eq_true rfl) rfl dX8_init_67 ?_
  refine gx_aload_n B dX8_init_70 rfl ?_
  refine gx_iconst (v := 2) B dX8_init_71 (by decide) ?_
  refine gx_newQ B 3 2 kl_X8_23 B.X.2.2.2.2.2.2.2.1 rfl (by decide) (by decide) (by decide) (Nat.le_of_ble_eq_true rfl) (Nat.le_of_ble_eq_true rfl) dX8_init_72 (fun q17 => ?_)
  refine gx_putF (C := RX8) (T := TX8) (N := 9) (ty := .array (.object "ShuffledViews$Net")) (fs' := [.ref q1, .ref q2, .ref q3, .ref q4, .ref q5, .ref q6, .ref q17, .null, .null]) B rfl inGX8 tyX8 tyX8_ok nmX8 6 (by decide) rfl rfl kf_X8_47 (by decide +kernel) rfl rfl (Nat.le_of_ble_eq_true rfl) rfl dX8_init_75 ?_
  refine gx_perm (ws := (h0, .inr (8, [.ref q1, .ref q2, .ref q3, .ref q4, .ref q5, .ref q6, .ref q17, .null, .null])) :: (wsO LC6 A6 cs M6 ++ [(q17, .inl (cs 3, 2, Rf (fun _ => none)))])) (ws' := (h0, .inr (8, [.ref q1, .ref q2, .ref q3, .ref q4, .ref q5, .ref q6, .ref q17, .null, .null])) :: (q17, .inl (cs 3, 2, Rf (fun _ => none))) :: wsO LC6 A6 cs M6) (List.Perm.cons _ (List.perm_append_comm)) ?_
  refine gx_aload_n B dX8_init_78 rfl ?_
  refine gx_iconst (v := 2) B dX8_init_79 (by decide) ?_
  refine gx_newZ B 2 (by decide) (by decide) (by decide) (Nat.le_of_ble_eq_true rfl) (Nat.le_of_ble_eq_true rfl) dX8_init_80 (fun q18 => ?_)
  refine gx_putF (C := RX8) (T := TX8) (N := 9) (ty := .array .boolean) (fs' := [.ref q1, .ref q2, .ref q3, .ref q4, .ref q5, .ref q6, .ref q17, .ref q18, .null]) B rfl inGX8 tyX8 tyX8_ok nmX8 7 (by decide) rfl rfl kf_X8_51 (by decide +kernel) rfl rfl (Nat.le_of_ble_eq_true rfl) rfl dX8_init_82 ?_
  obtain ⟨a7, m7, e7, f7, z7⟩ : ∃ (a7 : Nat → Nat) (m7 : Mm), a7 18 = q18 ∧ m7 18 = (fun _ => 0) ∧ wsO [18] a7 cs m7 = [(q18, .inl (cs 1, 2, .inl (fun _ => 0)))] := ⟨fun _ => q18, zM, rfl, rfl, rfl⟩
  refine gx_tr (ws' := ([(h0, .inr (8, [.ref q1, .ref q2, .ref q3, .ref q4, .ref q5, .ref q6, .ref q17, .ref q18, .null])), (q17, .inl (cs 3, 2, Rf (fun _ => none)))] ++ wsO LC6 A6 cs M6) ++ wsO [18] a7 cs m7) (fun H hP hD => by rw [z7]; exact ⟨hP, hD⟩) ?_
  refine gx_mrg (X := [(h0, .inr (8, [.ref q1, .ref q2, .ref q3, .ref q4, .ref q5, .ref q6, .ref q17, .ref q18, .null])), (q17, .inl (cs 3, 2, Rf (fun _ => none)))]) (L := LC6) (Lc := [18]) (ad := A6) (M := M6) (adc := a7) (Mc := m7) cLC6 (by unfold clo; decide) dLC6 (fun A7 M7 g7 k7 => ?_)
  have p1_7 : ∀ i ∈ [1, 2], A7 i = a1 i ∧ M7 i = m1 i := fun i hi => tr2 (g7 i (List.mem_append_left _ (List.mem_append_left _ (List.mem_append_left _ (List.mem_append_left _ (List.mem_append_left _ (hi))))))) (p1_6 i hi)
  have p2_7 : ∀ i ∈ [3, 4, 5], A7 i = a2 i ∧ M7 i = m2 i := fun i hi => tr2 (g7 i (List.mem_append_left _ (List.mem_append_left _ (List.mem_append_left _ (List.mem_append_left _ (List.mem_append_right _ hi)))))) (p2_6 i hi)
  have p3_7 : ∀ i ∈ (Rg 26 26), A7 i = a3 i ∧ M7 i = m3 i := fun i hi => tr2 (g7 i (List.mem_append_left _ (List.mem_append_left _ (List.mem_append_left _ (List.mem_append_right _ hi))))) (p3_6 i hi)
  have p4_7 : ∀ i ∈ (Rg 52 26), A7 i = a4 i ∧ M7 i = m4 i := fun i hi => tr2 (g7 i (List.mem_append_left _ (List.mem_append_left _ (List.mem_append_right _ hi)))) (p4_6 i hi)
  have p5_7 : ∀ i ∈ (6 :: ([7, 8, 9, 10] ++ [11, 12, 13, 14])), A7 i = a5 i ∧ M7 i = m5 i := fun i hi => tr2 (g7 i (List.mem_append_left _ (List.mem_append_right _ hi))) (p5_6 i hi)
  have p6_7 : ∀ i ∈ (15 :: 16 :: Rg 78 208), A7 i = a6 i ∧ M7 i = m6 i := fun i hi => tr2 (g7 i (List.mem_append_right _ hi)) (p6_6 i hi)
  have p7_7 : ∀ i ∈ [18], A7 i = a7 i ∧ M7 i = m7 i := k7
  clear p1_6 p2_6 p3_6 p4_6 p5_6 p6_6 g7 k7
  refine gx_aload_n B dX8_init_85 rfl ?_
  refine gx_iconst (v := 3) B dX8_init_86 (by decide) ?_
  refine gx_newQ B 4 3 kl_X8_55 B.X.2.2.2.2.2.2.2.2 rfl (by decide) (by decide) (by decide) (Nat.le_of_ble_eq_true rfl) (Nat.le_of_ble_eq_true rfl) dX8_init_87 (fun q19 => ?_)
  refine gx_putF (C := RX8) (T := TX8) (N := 9) (ty := .array (.object "ShuffledViews$Ring")) (fs' := [.ref q1, .ref q2, .ref q3, .ref q4, .ref q5, .ref q6, .ref q17, .ref q18, .ref q19]) B rfl inGX8 tyX8 tyX8_ok nmX8 8 (by decide) rfl rfl kf_X8_57 (by decide +kernel) rfl rfl (Nat.le_of_ble_eq_true rfl) rfl dX8_init_90 ?_
  refine gx_perm (ws := (h0, .inr (8, [.ref q1, .ref q2, .ref q3, .ref q4, .ref q5, .ref q6, .ref q17, .ref q18, .ref q19])) :: (q17, .inl (cs 3, 2, Rf (fun _ => none))) :: (wsO LC7 A7 cs M7 ++ [(q19, .inl (cs 4, 3, Rf (fun _ => none)))])) (ws' := (h0, .inr (8, [.ref q1, .ref q2, .ref q3, .ref q4, .ref q5, .ref q6, .ref q17, .ref q18, .ref q19])) :: (q17, .inl (cs 3, 2, Rf (fun _ => none))) :: (q19, .inl (cs 4, 3, Rf (fun _ => none))) :: wsO LC7 A7 cs M7) (List.Perm.cons _ (List.Perm.cons _ (List.perm_append_comm))) ?_
  refine gx_iconst (v := 0) B dX8_init_93 (by decide) ?_
  refine gx_istore_n B dX8_init_94 (by decide) rfl ?_
  refine gx_iload_n B dX8_init_95 rfl ?_
  refine gx_iconst (v := 2) B dX8_init_96 (by decide) ?_
  refine gx_icmp_ge (t := 119) B dX8_init_97 rfl (fun h => absurd h (by decide)) (fun _ => ?_)
  refine gx_aload_n B dX8_init_100 rfl ?_
  refine gx_get (C := RX8) (T := TX8) (N := 9) B rfl inGX8 6 (by decide) rfl kf_X8_47 rfl dX8_init_101 ?_
  refine gx_iload_n B dX8_init_104 rfl ?_
  refine gx_new (ci := 1) (C := RX1) (T := TX1) (N := 7) B [.null, .int 0, .int 0, .int 0, .int 0, .int 0, .int 0] inGX1 tyX1 tyX1_ok kl_X8_23 kq_X1 kz_X1 rfl (by decide) (Nat.le_of_ble_eq_true rfl) (Nat.le_of_ble_eq_true rfl) dX8_init_105 (fun q8 => ?_)
  refine gx_dup B dX8_init_108 rfl ?_
  refine gx_init B (iX1 (t := 10) (by decide)) kc_X1_init kz_X1 ki_X1_init km_X8_25 ⟨kn_X1_init, rfl, rfl, rfl, ⟨Nat.le_of_ble_eq_true rfl, Nat.le_of_ble_eq_true rfl⟩, Nat.le_of_ble_eq_true rfl, Nat.le_of_ble_eq_true rfl⟩ (Nat.le_of_ble_eq_true rfl) dX8_init_109 (fun a8 m8 e8 f8 => ?_)
  refine gx_aast (q := q17) (n := 2) (v := q8) (ci := 1) (C := RX1) (T := TX1) (N := 7) (f := (fun _ => none)) (ws' := ([(h0, .inr (8, [.ref q1, .ref q2, .ref q3, .ref q4, .ref q5, .ref q6, .ref q17, .ref q18, .ref q19])), (q17, .inl (cs 3, 2, Rf (va_up (fun _ => none) (ix 0) (some q8)))), (q19, .inl (cs 4, 3, Rf (fun _ => none)))] ++ wsO LC7 A7 cs M7) ++ wsO (Rg 286 26) a8 cs m8) B 1 3 rfl rfl (List.mem_append_right _ (mem_N (t := 10) (by decide) e8)) rfl (by decide) rfl dX8_init_112 ?_
  refine gx_iinc (v := 1) B dX8_init_113 rfl (by decide) (by decide) rfl ?_
  refine gx_goto (t := 95) B dX8_init_116 rfl ?_
  refine gx_mrg (X := [(h0, .inr (8, [.ref q1, .ref q2, .ref q3, .ref q4, .ref q5, .ref q6, .ref q17, .ref q18, .ref q19])), (q17, .inl (cs 3, 2, Rf (va_up (fun _ => none) (ix 0) (some q8)))), (q19, .inl (cs 4, 3, Rf (fun _ => none)))]) (L := LC7) (Lc := (Rg 286 26)) (ad := A7) (M := M7) (adc := a8) (Mc := m8) cLC7 (clo_N (t := 10) (k := 1) (by omega)) dLC7 (fun A8 M8 g8 k8 => ?_)
  have p1_8 : ∀ i ∈ [1, 2], A8 i = a1 i ∧ M8 i = m1 i := fun i hi => tr2 (g8 i (List.mem_append_left _ (List.mem_append_left _ (List.mem_append_left _ (List.mem_append_left _ (List.mem_append_left _ (List.mem_append_left _ (hi)))))))) (p1_7 i hi)
  have p2_8 : ∀ i ∈ [3, 4, 5], A8 i = a2 i ∧ M8 i = m2 i := fun i hi => tr2 (g8 i (List.mem_append_left _ (List.mem_append_left _ (List.mem_append_left _ (List.mem_append_left _ (List.mem_append_left _ (List.mem_append_right _ hi))))))) (p2_7 i hi)
  have p3_8 : ∀ i ∈ (Rg 26 26), A8 i = a3 i ∧ M8 i = m3 i := fun i hi => tr2 (g8 i (List.mem_append_left _ (List.mem_append_left _ (List.mem_append_left _ (List.mem_append_left _ (List.mem_append_right _ hi)))))) (p3_7 i hi)
  have p4_8 : ∀ i ∈ (Rg 52 26), A8 i = a4 i ∧ M8 i = m4 i := fun i hi => tr2 (g8 i (List.mem_append_left _ (List.mem_append_left _ (List.mem_append_left _ (List.mem_append_right _ hi))))) (p4_7 i hi)
  have p5_8 : ∀ i ∈ (6 :: ([7, 8, 9, 10] ++ [11, 12, 13, 14])), A8 i = a5 i ∧ M8 i = m5 i := fun i hi => tr2 (g8 i (List.mem_append_left _ (List.mem_append_left _ (List.mem_append_right _ hi)))) (p5_7 i hi)
  have p6_8 : ∀ i ∈ (15 :: 16 :: Rg 78 208), A8 i = a6 i ∧ M8 i = m6 i := fun i hi => tr2 (g8 i (List.mem_append_left _ (List.mem_append_right _ hi))) (p6_7 i hi)
  have p7_8 : ∀ i ∈ [18], A8 i = a7 i ∧ M8 i = m7 i := fun i hi => tr2 (g8 i (List.mem_append_right _ hi)) (p7_7 i hi)
  have p8_8 : ∀ i ∈ (Rg 286 26), A8 i = a8 i ∧ M8 i = m8 i := k8
  clear p1_7 p2_7 p3_7 p4_7 p5_7 p6_7 p7_7 g8 k8
  refine gx_iload_n B dX8_init_95 rfl ?_
  refine gx_iconst (v := 2) B dX8_init_96 (by decide) ?_
  refine gx_icmp_ge (t := 119) B dX8_init_97 rfl (fun h => absurd h (by decide)) (fun _ => ?_)
  refine gx_aload_n B dX8_init_100 rfl ?_
  refine gx_get (C := RX8) (T := TX8) (N := 9) B rfl inGX8 6 (by decide) rfl kf_X8_47 rfl dX8_init_101 ?_
  refine gx_iload_n B dX8_init_104 rfl ?_
  refine gx_new (ci := 1) (C := RX1) (T := TX1) (N := 7) B [.null, .int 0, .int 0, .int 0, .int 0, .int 0, .int 0] inGX1 tyX1 tyX1_ok kl_X8_23 kq_X1 kz_X1 rfl (by decide) (Nat.le_of_ble_eq_true rfl) (Nat.le_of_ble_eq_true rfl) dX8_init_105 (fun q9 => ?_)
  refine gx_dup B dX8_init_108 rfl ?_
  refine gx_init B (iX1 (t := 11) (by decide)) kc_X1_init kz_X1 ki_X1_init km_X8_25 ⟨kn_X1_init, rfl, rfl, rfl, ⟨Nat.le_of_ble_eq_true rfl, Nat.le_of_ble_eq_true rfl⟩, Nat.le_of_ble_eq_true rfl, Nat.le_of_ble_eq_true rfl⟩ (Nat.le_of_ble_eq_true rfl) dX8_init_109 (fun a9 m9 e9 f9 => ?_)
  refine gx_aast (q := q17) (n := 2) (v := q9) (ci := 1) (C := RX1) (T := TX1) (N := 7) (f := (va_up (fun _ => none) (ix 0) (some q8))) (ws' := ([(h0, .inr (8, [.ref q1, .ref q2, .ref q3, .ref q4, .ref q5, .ref q6, .ref q17, .ref q18, .ref q19])), (q17, .inl (cs 3, 2, Rf (va_up (va_up (fun _ => none) (ix 0) (some q8)) (ix (0 + 1)) (some q9)))), (q19, .inl (cs 4, 3, Rf (fun _ => none)))] ++ wsO LC8 A8 cs M8) ++ wsO (Rg 312 26) a9 cs m9) B 1 3 rfl rfl (List.mem_append_right _ (mem_N (t := 11) (by decide) e9)) rfl (by decide) rfl dX8_init_112 ?_
  refine gx_iinc (v := 1) B dX8_init_113 rfl (by decide) (by decide) rfl ?_
  refine gx_goto (t := 95) B dX8_init_116 rfl ?_
  refine gx_mrg (X := [(h0, .inr (8, [.ref q1, .ref q2, .ref q3, .ref q4, .ref q5, .ref q6, .ref q17, .ref q18, .ref q19])), (q17, .inl (cs 3, 2, Rf (va_up (va_up (fun _ => none) (ix 0) (some q8)) (ix (0 + 1)) (some q9)))), (q19, .inl (cs 4, 3, Rf (fun _ => none)))]) (L := LC8) (Lc := (Rg 312 26)) (ad := A8) (M := M8) (adc := a9) (Mc := m9) cLC8 (clo_N (t := 11) (k := 1) (by omega)) dLC8 (fun A9 M9 g9 k9 => ?_)
  have p1_9 : ∀ i ∈ [1, 2], A9 i = a1 i ∧ M9 i = m1 i := fun i hi => tr2 (g9 i (List.mem_append_left _ (List.mem_append_left _ (List.mem_append_left _ (List.mem_append_left _ (List.mem_append_left _ (List.mem_append_left _ (List.mem_append_left _ (hi))))))))) (p1_8 i hi)
  have p2_9 : ∀ i ∈ [3, 4, 5], A9 i = a2 i ∧ M9 i = m2 i := fun i hi => tr2 (g9 i (List.mem_append_left _ (List.mem_append_left _ (List.mem_append_left _ (List.mem_append_left _ (List.mem_append_left _ (List.mem_append_left _ (List.mem_append_right _ hi)))))))) (p2_8 i hi)
  have p3_9 : ∀ i ∈ (Rg 26 26), A9 i = a3 i ∧ M9 i = m3 i := fun i hi => tr2 (g9 i (List.mem_append_left _ (List.mem_append_left _ (List.mem_append_left _ (List.mem_append_left _ (List.mem_append_left _ (List.mem_append_right _ hi))))))) (p3_8 i hi)
  have p4_9 : ∀ i ∈ (Rg 52 26), A9 i = a4 i ∧ M9 i = m4 i := fun i hi => tr2 (g9 i (List.mem_append_left _ (List.mem_append_left _ (List.mem_append_left _ (List.mem_append_left _ (List.mem_append_right _ hi)))))) (p4_8 i hi)
  have p5_9 : ∀ i ∈ (6 :: ([7, 8, 9, 10] ++ [11, 12, 13, 14])), A9 i = a5 i ∧ M9 i = m5 i := fun i hi => tr2 (g9 i (List.mem_append_left _ (List.mem_append_left _ (List.mem_append_left _ (List.mem_append_right _ hi))))) (p5_8 i hi)
  have p6_9 : ∀ i ∈ (15 :: 16 :: Rg 78 208), A9 i = a6 i ∧ M9 i = m6 i := fun i hi => tr2 (g9 i (List.mem_append_left _ (List.mem_append_left _ (List.mem_append_right _ hi)))) (p6_8 i hi)
  have p7_9 : ∀ i ∈ [18], A9 i = a7 i ∧ M9 i = m7 i := fun i hi => tr2 (g9 i (List.mem_append_left _ (List.mem_append_right _ hi))) (p7_8 i hi)
  have p8_9 : ∀ i ∈ (Rg 286 26), A9 i = a8 i ∧ M9 i = m8 i := fun i hi => tr2 (g9 i (List.mem_append_right _ hi)) (p8_8 i hi)
  have p9_9 : ∀ i ∈ (Rg 312 26), A9 i = a9 i ∧ M9 i = m9 i := k9
  clear p1_8 p2_8 p3_8 p4_8 p5_8 p6_8 p7_8 p8_8 g9 k9
  refine gx_iload_n B dX8_init_95 rfl ?_
  refine gx_iconst (v := 2) B dX8_init_96 (by decide) ?_
  refine gx_icmp_ge (t := 119) B dX8_init_97 rfl (fun _ => ?_) (fun h => absurd (by decide) h)
  refine gx_iconst (v := 0) B dX8_init_119 (by decide) ?_
  refine gx_istore_n B dX8_init_120 (by decide) rfl ?_
  refine gx_iload_n B dX8_init_121 rfl ?_
  refine gx_iconst (v := 3) B dX8_init_122 (by decide) ?_
  refine gx_icmp_ge (t := 145) B dX8_init_123 rfl (fun h => absurd h (by decide)) (fun _ => ?_)
  refine gx_aload_n B dX8_init_126 rfl ?_
  refine gx_get (C := RX8) (T := TX8) (N := 9) B rfl inGX8 8 (by decide) rfl kf_X8_57 rfl dX8_init_127 ?_
  refine gx_iload_n B dX8_init_130 rfl ?_
  refine gx_new (ci := 3) (C := RX3) (T := TX3) (N := 4) B [.null, .int 0, .int 0, .int 0] inGX3 tyX3 tyX3_ok kl_X8_55 kq_X3 kz_X3 rfl (by decide) (Nat.le_of_ble_eq_true rfl) (Nat.le_of_ble_eq_true rfl) dX8_init_131 (fun q10 => ?_)
  refine gx_dup B dX8_init_134 rfl ?_
  refine gx_initN B (iX3 (a := 20) (isG_2 (by decide))) kc_X3_init kz_X3 ki_X3_init B.X.2.2.2.2.2.1 ⟨kn_X3_init, rfl, rfl, rfl, ⟨Nat.le_of_ble_eq_true rfl, Nat.le_of_ble_eq_true rfl⟩, Nat.le_of_ble_eq_true rfl, Nat.le_of_ble_eq_true rfl⟩ (Nat.le_of_ble_eq_true rfl) dX8_init_135 (fun a10 m10 e10 f10 => ?_)
  refine gx_aast (q := q19) (n := 3) (v := q10) (ci := 3) (C := RX3) (T := TX3) (N := 4) (f := (fun _ => none)) (ws' := ([(h0, .inr (8, [.ref q1, .ref q2, .ref q3, .ref q4, .ref q5, .ref q6, .ref q17, .ref q18, .ref q19])), (q17, .inl (cs 3, 2, Rf (va_up (va_up (fun _ => none) (ix 0) (some q8)) (ix (0 + 1)) (some q9)))), (q19, .inl (cs 4, 3, Rf (va_up (fun _ => none) (ix 0) (some q10))))] ++ wsO LC9 A9 cs M9) ++ wsO [20, 21] a10 cs m10) B 2 4 rfl rfl (List.mem_append_right _ (mem_G (isG_2 (by decide)) e10)) rfl (by decide) rfl dX8_init_138 ?_
  refine gx_iinc (v := 1) B dX8_init_139 rfl (by decide) (by decide) rfl ?_
  refine gx_goto (t := 121) B dX8_init_142 rfl ?_
  refine gx_mrg (X := [(h0, .inr (8, [.ref q1, .ref q2, .ref q3, .ref q4, .ref q5, .ref q6, .ref q17, .ref q18, .ref q19])), (q17, .inl (cs 3, 2, Rf (va_up (va_up (fun _ => none) (ix 0) (some q8)) (ix (0 + 1)) (some q9)))), (q19, .inl (cs 4, 3, Rf (va_up (fun _ => none) (ix 0) (some q10))))]) (L := LC9) (Lc := [20, 21]) (ad := A9) (M := M9) (adc := a10) (Mc := m10) cLC9 (by unfold clo; decide) dLC9 (fun A10 M10 g10 k10 => ?_)
  have p1_10 : ∀ i ∈ [1, 2], A10 i = a1 i ∧ M10 i = m1 i := fun i hi => tr2 (g10 i (List.mem_append_left _ (List.mem_append_left _ (List.mem_append_left _ (List.mem_append_left _ (List.mem_append_left _ (List.mem_append_left _ (List.mem_append_left _ (List.mem_append_left _ (hi)))))))))) (p1_9 i hi)
  have p2_10 : ∀ i ∈ [3, 4, 5], A10 i = a2 i ∧ M10 i = m2 i := fun i hi => tr2 (g10 i (List.mem_append_left _ (List.mem_append_left _ (List.mem_append_left _ (List.mem_append_left _ (List.mem_append_left _ (List.mem_append_left _ (List.mem_append_left _ (List.mem_append_right _ hi))))))))) (p2_9 i hi)
  have p3_10 : ∀ i ∈ (Rg 26 26), A10 i = a3 i ∧ M10 i = m3 i := fun i hi => tr2 (g10 i (List.mem_append_left _ (List.mem_append_left _ (List.mem_append_left _ (List.mem_append_left _ (List.mem_append_left _ (List.mem_append_left _ (List.mem_append_right _ hi)))))))) (p3_9 i hi)
  have p4_10 : ∀ i ∈ (Rg 52 26), A10 i = a4 i ∧ M10 i = m4 i := fun i hi => tr2 (g10 i (List.mem_append_left _ (List.mem_append_left _ (List.mem_append_left _ (List.mem_append_left _ (List.mem_append_left _ (List.mem_append_right _ hi))))))) (p4_9 i hi)
  have p5_10 : ∀ i ∈ (6 :: ([7, 8, 9, 10] ++ [11, 12, 13, 14])), A10 i = a5 i ∧ M10 i = m5 i := fun i hi => tr2 (g10 i (List.mem_append_left _ (List.mem_append_left _ (List.mem_append_left _ (List.mem_append_left _ (List.mem_append_right _ hi)))))) (p5_9 i hi)
  have p6_10 : ∀ i ∈ (15 :: 16 :: Rg 78 208), A10 i = a6 i ∧ M10 i = m6 i := fun i hi => tr2 (g10 i (List.mem_append_left _ (List.mem_append_left _ (List.mem_append_left _ (List.mem_append_right _ hi))))) (p6_9 i hi)
  have p7_10 : ∀ i ∈ [18], A10 i = a7 i ∧ M10 i = m7 i := fun i hi => tr2 (g10 i (List.mem_append_left _ (List.mem_append_left _ (List.mem_append_right _ hi)))) (p7_9 i hi)
  have p8_10 : ∀ i ∈ (Rg 286 26), A10 i = a8 i ∧ M10 i = m8 i := fun i hi => tr2 (g10 i (List.mem_append_left _ (List.mem_append_right _ hi))) (p8_9 i hi)
  have p9_10 : ∀ i ∈ (Rg 312 26), A10 i = a9 i ∧ M10 i = m9 i := fun i hi => tr2 (g10 i (List.mem_append_right _ hi)) (p9_9 i hi)
  have p10_10 : ∀ i ∈ [20, 21], A10 i = a10 i ∧ M10 i = m10 i := k10
  clear p1_9 p2_9 p3_9 p4_9 p5_9 p6_9 p7_9 p8_9 p9_9 g10 k10
  refine gx_iload_n B dX8_init_121 rfl ?_
  refine gx_iconst (v := 3) B dX8_init_122 (by decide) ?_
  refine gx_icmp_ge (t := 145) B dX8_init_123 rfl (fun h => absurd h (by decide)) (fun _ => ?_)
  refine gx_aload_n B dX8_init_126 rfl ?_
  refine gx_get (C := RX8) (T := TX8) (N := 9) B rfl inGX8 8 (by decide) rfl kf_X8_57 rfl dX8_init_127 ?_
  refine gx_iload_n B dX8_init_130 rfl ?_
  refine gx_new (ci := 3) (C := RX3) (T := TX3) (N := 4) B [.null, .int 0, .int 0, .int 0] inGX3 tyX3 tyX3_ok kl_X8_55 kq_X3 kz_X3 rfl (by decide) (Nat.le_of_ble_eq_true rfl) (Nat.le_of_ble_eq_true rfl) dX8_init_131 (fun q11 => ?_)
  refine gx_dup B dX8_init_134 rfl ?_
  refine gx_initN B (iX3 (a := 22) (isG_2 (by decide))) kc_X3_init kz_X3 ki_X3_init B.X.2.2.2.2.2.1 ⟨kn_X3_init, rfl, rfl, rfl, ⟨Nat.le_of_ble_eq_true rfl, Nat.le_of_ble_eq_true rfl⟩, Nat.le_of_ble_eq_true rfl, Nat.le_of_ble_eq_true rfl⟩ (Nat.le_of_ble_eq_true rfl) dX8_init_135 (fun a11 m11 e11 f11 => ?_)
  refine gx_aast (q := q19) (n := 3) (v := q11) (ci := 3) (C := RX3) (T := TX3) (N := 4) (f := (va_up (fun _ => none) (ix 0) (some q10))) (ws' := ([(h0, .inr (8, [.ref q1, .ref q2, .ref q3, .ref q4, .ref q5, .ref q6, .ref q17, .ref q18, .ref q19])), (q17, .inl (cs 3, 2, Rf (va_up (va_up (fun _ => none) (ix 0) (some q8)) (ix (0 + 1)) (some q9)))), (q19, .inl (cs 4, 3, Rf (va_up (va_up (fun _ => none) (ix 0) (some q10)) (ix (0 + 1)) (some q11))))] ++ wsO LC10 A10 cs M10) ++ wsO [22, 23] a11 cs m11) B 2 4 rfl rfl (List.mem_append_right _ (mem_G (isG_2 (by decide)) e11)) rfl (by decide) rfl dX8_init_138 ?_
  refine gx_iinc (v := 1) B dX8_init_139 rfl (by decide) (by decide) rfl ?_
  refine gx_goto (t := 121) B dX8_init_142 rfl ?_
  refine gx_mrg (X := [(h0, .inr (8, [.ref q1, .ref q2, .ref q3, .ref q4, .ref q5, .ref q6, .ref q17, .ref q18, .ref q19])), (q17, .inl (cs 3, 2, Rf (va_up (va_up (fun _ => none) (ix 0) (some q8)) (ix (0 + 1)) (some q9)))), (q19, .inl (cs 4, 3, Rf (va_up (va_up (fun _ => none) (ix 0) (some q10)) (ix (0 + 1)) (some q11))))]) (L := LC10) (Lc := [22, 23]) (ad := A10) (M := M10) (adc := a11) (Mc := m11) cLC10 (by unfold clo; decide) dLC10 (fun A11 M11 g11 k11 => ?_)
  have p1_11 : ∀ i ∈ [1, 2], A11 i = a1 i ∧ M11 i = m1 i := fun i hi => tr2 (g11 i (List.mem_append_left _ (List.mem_append_left _ (List.mem_append_left _ (List.mem_append_left _ (List.mem_append_left _ (List.mem_append_left _ (List.mem_append_left _ (List.mem_append_left _ (List.mem_append_left _ (hi))))))))))) (p1_10 i hi)
  have p2_11 : ∀ i ∈ [3, 4, 5], A11 i = a2 i ∧ M11 i = m2 i := fun i hi => tr2 (g11 i (List.mem_append_left _ (List.mem_append_left _ (List.mem_append_left _ (List.mem_append_left _ (List.mem_append_left _ (List.mem_append_left _ (List.mem_append_left _ (List.mem_append_left _ (List.mem_append_right _ hi)))))))))) (p2_10 i hi)
  have p3_11 : ∀ i ∈ (Rg 26 26), A11 i = a3 i ∧ M11 i = m3 i := fun i hi => tr2 (g11 i (List.mem_append_left _ (List.mem_append_left _ (List.mem_append_left _ (List.mem_append_left _ (List.mem_append_left _ (List.mem_append_left _ (List.mem_append_left _ (List.mem_append_right _ hi))))))))) (p3_10 i hi)
  have p4_11 : ∀ i ∈ (Rg 52 26), A11 i = a4 i ∧ M11 i = m4 i := fun i hi => tr2 (g11 i (List.mem_append_left _ (List.mem_append_left _ (List.mem_append_left _ (List.mem_append_left _ (List.mem_append_left _ (List.mem_append_left _ (List.mem_append_right _ hi)))))))) (p4_10 i hi)
  have p5_11 : ∀ i ∈ (6 :: ([7, 8, 9, 10] ++ [11, 12, 13, 14])), A11 i = a5 i ∧ M11 i = m5 i := fun i hi => tr2 (g11 i (List.mem_append_left _ (List.mem_append_left _ (List.mem_append_left _ (List.mem_append_left _ (List.mem_append_left _ (List.mem_append_right _ hi))))))) (p5_10 i hi)
  have p6_11 : ∀ i ∈ (15 :: 16 :: Rg 78 208), A11 i = a6 i ∧ M11 i = m6 i := fun i hi => tr2 (g11 i (List.mem_append_left _ (List.mem_append_left _ (List.mem_append_left _ (List.mem_append_left _ (List.mem_append_right _ hi)))))) (p6_10 i hi)
  have p7_11 : ∀ i ∈ [18], A11 i = a7 i ∧ M11 i = m7 i := fun i hi => tr2 (g11 i (List.mem_append_left _ (List.mem_append_left _ (List.mem_append_left _ (List.mem_append_right _ hi))))) (p7_10 i hi)
  have p8_11 : ∀ i ∈ (Rg 286 26), A11 i = a8 i ∧ M11 i = m8 i := fun i hi => tr2 (g11 i (List.mem_append_left _ (List.mem_append_left _ (List.mem_append_right _ hi)))) (p8_10 i hi)
  have p9_11 : ∀ i ∈ (Rg 312 26), A11 i = a9 i ∧ M11 i = m9 i := fun i hi => tr2 (g11 i (List.mem_append_left _ (List.mem_append_right _ hi))) (p9_10 i hi)
  have p10_11 : ∀ i ∈ [20, 21], A11 i = a10 i ∧ M11 i = m10 i := fun i hi => tr2 (g11 i (List.mem_append_right _ hi)) (p10_10 i hi)
  have p11_11 : ∀ i ∈ [22, 23], A11 i = a11 i ∧ M11 i = m11 i := k11
  clear p1_10 p2_10 p3_10 p4_10 p5_10 p6_10 p7_10 p8_10 p9_10 p10_10 g11 k11
  refine gx_iload_n B dX8_init_121 rfl ?_
  refine gx_iconst (v := 3) B dX8_init_122 (by decide) ?_
  refine gx_icmp_ge (t := 145) B dX8_init_123 rfl (fun h => absurd h (by decide)) (fun _ => ?_)
  refine gx_aload_n B dX8_init_126 rfl ?_
  refine gx_get (C := RX8) (T := TX8) (N := 9) B rfl inGX8 8 (by decide) rfl kf_X8_57 rfl dX8_init_127 ?_
  refine gx_iload_n B dX8_init_130 rfl ?_
  refine gx_new (ci := 3) (C := RX3) (T := TX3) (N := 4) B [.null, .int 0, .int 0, .int 0] inGX3 tyX3 tyX3_ok kl_X8_55 kq_X3 kz_X3 rfl (by decide) (Nat.le_of_ble_eq_true rfl) (Nat.le_of_ble_eq_true rfl) dX8_init_131 (fun q12 => ?_)
  refine gx_dup B dX8_init_134 rfl ?_
  refine gx_initN B (iX3 (a := 24) (isG_2 (by decide))) kc_X3_init kz_X3 ki_X3_init B.X.2.2.2.2.2.1 ⟨kn_X3_init, rfl, rfl, rfl, ⟨Nat.le_of_ble_eq_true rfl, Nat.le_of_ble_eq_true rfl⟩, Nat.le_of_ble_eq_true rfl, Nat.le_of_ble_eq_true rfl⟩ (Nat.le_of_ble_eq_true rfl) dX8_init_135 (fun a12 m12 e12 f12 => ?_)
  refine gx_aast (q := q19) (n := 3) (v := q12) (ci := 3) (C := RX3) (T := TX3) (N := 4) (f := (va_up (va_up (fun _ => none) (ix 0) (some q10)) (ix (0 + 1)) (some q11))) (ws' := ([(h0, .inr (8, [.ref q1, .ref q2, .ref q3, .ref q4, .ref q5, .ref q6, .ref q17, .ref q18, .ref q19])), (q17, .inl (cs 3, 2, Rf (va_up (va_up (fun _ => none) (ix 0) (some q8)) (ix (0 + 1)) (some q9)))), (q19, .inl (cs 4, 3, Rf (va_up (va_up (va_up (fun _ => none) (ix 0) (some q10)) (ix (0 + 1)) (some q11)) (ix (0 + 1 + 1)) (some q12))))] ++ wsO LC11 A11 cs M11) ++ wsO [24, 25] a12 cs m12) B 2 4 rfl rfl (List.mem_append_right _ (mem_G (isG_2 (by decide)) e12)) rfl (by decide) rfl dX8_init_138 ?_
  refine gx_iinc (v := 1) B dX8_init_139 rfl (by decide) (by decide) rfl ?_
  refine gx_goto (t := 121) B dX8_init_142 rfl ?_
  refine gx_mrg (X := [(h0, .inr (8, [.ref q1, .ref q2, .ref q3, .ref q4, .ref q5, .ref q6, .ref q17, .ref q18, .ref q19])), (q17, .inl (cs 3, 2, Rf (va_up (va_up (fun _ => none) (ix 0) (some q8)) (ix (0 + 1)) (some q9)))), (q19, .inl (cs 4, 3, Rf (va_up (va_up (va_up (fun _ => none) (ix 0) (some q10)) (ix (0 + 1)) (some q11)) (ix (0 + 1 + 1)) (some q12))))]) (L := LC11) (Lc := [24, 25]) (ad := A11) (M := M11) (adc := a12) (Mc := m12) cLC11 (by unfold clo; decide) dLC11 (fun A12 M12 g12 k12 => ?_)
  have p1_12 : ∀ i ∈ [1, 2], A12 i = a1 i ∧ M12 i = m1 i := fun i hi => tr2 (g12 i (List.mem_append_left _ (List.mem_append_left _ (List.mem_append_left _ (List.mem_append_left _ (List.mem_append_left _ (List.mem_append_left _ (List.mem_append_left _ (List.mem_append_left _ (List.mem_append_left _ (List.mem_append_left _ (hi)))))))))))) (p1_11 i hi)
  have p2_12 : ∀ i ∈ [3, 4, 5], A12 i = a2 i ∧ M12 i = m2 i := fun i hi => tr2 (g12 i (List.mem_append_left _ (List.mem_append_left _ (List.mem_append_left _ (List.mem_append_left _ (List.mem_append_left _ (List.mem_append_left _ (List.mem_append_left _ (List.mem_append_left _ (List.mem_append_left _ (List.mem_append_right _ hi))))))))))) (p2_11 i hi)
  have p3_12 : ∀ i ∈ (Rg 26 26), A12 i = a3 i ∧ M12 i = m3 i := fun i hi => tr2 (g12 i (List.mem_append_left _ (List.mem_append_left _ (List.mem_append_left _ (List.mem_append_left _ (List.mem_append_left _ (List.mem_append_left _ (List.mem_append_left _ (List.mem_append_left _ (List.mem_append_right _ hi)))))))))) (p3_11 i hi)
  have p4_12 : ∀ i ∈ (Rg 52 26), A12 i = a4 i ∧ M12 i = m4 i := fun i hi => tr2 (g12 i (List.mem_append_left _ (List.mem_append_left _ (List.mem_append_left _ (List.mem_append_left _ (List.mem_append_left _ (List.mem_append_left _ (List.mem_append_left _ (List.mem_append_right _ hi))))))))) (p4_11 i hi)
  have p5_12 : ∀ i ∈ (6 :: ([7, 8, 9, 10] ++ [11, 12, 13, 14])), A12 i = a5 i ∧ M12 i = m5 i := fun i hi => tr2 (g12 i (List.mem_append_left _ (List.mem_append_left _ (List.mem_append_left _ (List.mem_append_left _ (List.mem_append_left _ (List.mem_append_left _ (List.mem_append_right _ hi)))))))) (p5_11 i hi)
  have p6_12 : ∀ i ∈ (15 :: 16 :: Rg 78 208), A12 i = a6 i ∧ M12 i = m6 i := fun i hi => tr2 (g12 i (List.mem_append_left _ (List.mem_append_left _ (List.mem_append_left _ (List.mem_append_left _ (List.mem_append_left _ (List.mem_append_right _ hi))))))) (p6_11 i hi)
  have p7_12 : ∀ i ∈ [18], A12 i = a7 i ∧ M12 i = m7 i := fun i hi => tr2 (g12 i (List.mem_append_left _ (List.mem_append_left _ (List.mem_append_left _ (List.mem_append_left _ (List.mem_append_right _ hi)))))) (p7_11 i hi)
  have p8_12 : ∀ i ∈ (Rg 286 26), A12 i = a8 i ∧ M12 i = m8 i := fun i hi => tr2 (g12 i (List.mem_append_left _ (List.mem_append_left _ (List.mem_append_left _ (List.mem_append_right _ hi))))) (p8_11 i hi)
  have p9_12 : ∀ i ∈ (Rg 312 26), A12 i = a9 i ∧ M12 i = m9 i := fun i hi => tr2 (g12 i (List.mem_append_left _ (List.mem_append_left _ (List.mem_append_right _ hi)))) (p9_11 i hi)
  have p10_12 : ∀ i ∈ [20, 21], A12 i = a10 i ∧ M12 i = m10 i := fun i hi => tr2 (g12 i (List.mem_append_left _ (List.mem_append_right _ hi))) (p10_11 i hi)
  have p11_12 : ∀ i ∈ [22, 23], A12 i = a11 i ∧ M12 i = m11 i := fun i hi => tr2 (g12 i (List.mem_append_right _ hi)) (p11_11 i hi)
  have p12_12 : ∀ i ∈ [24, 25], A12 i = a12 i ∧ M12 i = m12 i := k12
  clear p1_11 p2_11 p3_11 p4_11 p5_11 p6_11 p7_11 p8_11 p9_11 p10_11 p11_11 g12 k12
  refine gx_iload_n B dX8_init_121 rfl ?_
  refine gx_iconst (v := 3) B dX8_init_122 (by decide) ?_
  refine gx_icmp_ge (t := 145) B dX8_init_123 rfl (fun _ => ?_) (fun h => absurd (by decide) h)
  have c1 : A12 1 = q1 := (p1_12 1 (List.mem_cons_self)).1.trans e1
  have c3 : A12 3 = q2 := (p2_12 3 (List.mem_cons_self)).1.trans e2
  have c26 : A12 26 = q3 := (p3_12 26 (mem_Rg.mpr (by omega))).1.trans e3
  have c52 : A12 52 = q4 := (p4_12 52 (mem_Rg.mpr (by omega))).1.trans e4
  have c6 : A12 6 = q5 := (p5_12 6 (List.mem_cons_self)).1.trans e5
  have c15 : A12 15 = q6 := (p6_12 15 (List.mem_cons_self)).1.trans e6
  have c18 : A12 18 = q18 := (p7_12 18 (List.mem_cons_self)).1.trans e7
  have c286 : A12 286 = q8 := (p8_12 286 (mem_Rg.mpr (by omega))).1.trans e8
  have c312 : A12 312 = q9 := (p9_12 312 (mem_Rg.mpr (by omega))).1.trans e9
  have c20 : A12 20 = q10 := (p10_12 20 (List.mem_cons_self)).1.trans e10
  have c22 : A12 22 = q11 := (p11_12 22 (List.mem_cons_self)).1.trans e11
  have c24 : A12 24 = q12 := (p12_12 24 (List.mem_cons_self)).1.trans e12
  refine gx_tr (root_tr (X := [(h0, .inr (8, [.ref q1, .ref q2, .ref q3, .ref q4, .ref q5, .ref q6, .ref q17, .ref q18, .ref q19])), (q17, .inl (cs 3, 2, Rf (va_up (va_up (fun _ => none) (ix 0) (some q8)) (ix (0 + 1)) (some q9))))]) (a := 19) (R := fun _ => 0) cLC12 (fun h => (lt_LC12 _ h).2.2.1 rfl) (fun H hq => ?_)) ?_
  · show va_at G vwCl (q19, .inl (cs 4, 3, rfs (fun j => va_up A12 19 q19 (20 + 2 * j)))) H
    refine at_rf (fun j hj => ?_) hq
    rcases (by omega : j = 0 ∨ j = 1 ∨ j = 2) with rfl | rfl | rfl
    · show some q10 = some (va_up A12 19 q19 20)
      rw [va_up_ne _ _ (by decide), c20]
    · show some q11 = some (va_up A12 19 q19 22)
      rw [va_up_ne _ _ (by decide), c22]
    · show some q12 = some (va_up A12 19 q19 24)
      rw [va_up_ne _ _ (by decide), c24]
  have cl19 : clo (19 :: LC12) := clo_cons cLC12 (by decide) (fun r hr => by
    have hr : r ∈ [20, 22, 24] := hr
    simp only [LC12, LC11, LC10, List.mem_append, List.mem_cons, List.not_mem_nil, or_false] at hr ⊢
    omega)
  have cl17 : clo (17 :: 19 :: LC12) := clo_cons cl19 (by decide) (fun r hr => by
    have hr : r ∈ [286, 312] := hr
    simp only [LC12, LC11, LC10, LC9, LC8, List.mem_append, List.mem_cons, List.not_mem_nil, or_false, mem_Rg] at hr ⊢
    omega)
  refine gx_tr (root_tr (X := [(h0, .inr (8, [.ref q1, .ref q2, .ref q3, .ref q4, .ref q5, .ref q6, .ref q17, .ref q18, .ref q19]))]) (a := 17) (R := fun _ => 0) cl19 (fun h => by rcases List.mem_cons.mp h with h | h; exact absurd h (by decide); exact (lt_LC12 _ h).2.1 rfl) (fun H hq => ?_)) ?_
  · show va_at G vwCl (q17, .inl (cs 3, 2, rfs (fun j => va_up (va_up A12 19 q19) 17 q17 (286 + 26 * j)))) H
    refine at_rf (fun j hj => ?_) hq
    rcases (by omega : j = 0 ∨ j = 1) with rfl | rfl
    · show some q8 = some (va_up (va_up A12 19 q19) 17 q17 286)
      rw [va_up_ne _ _ (by decide), va_up_ne _ _ (by decide), c286]
    · show some q9 = some (va_up (va_up A12 19 q19) 17 q17 312)
      rw [va_up_ne _ _ (by decide), va_up_ne _ _ (by decide), c312]
  refine gx_tr (root_tr (X := []) (a := 0) (R := fun _ => 0) cl17 (fun h => by rcases List.mem_cons.mp h with h | h; exact absurd h (by decide); rcases List.mem_cons.mp h with h | h; exact absurd h (by decide); exact absurd (lt_LC12 _ h).1 (by decide)) (fun H hq => ?_)) ?_
  · obtain ⟨ad, hA⟩ : ∃ ad, ad = va_up (va_up (va_up A12 19 q19) 17 q17) 0 h0 := ⟨_, rfl⟩
    rw [← hA]
    have d1 : ∀ i, i ≠ 0 → i ≠ 17 → i ≠ 19 → ad i = A12 i := fun i i1 i2 i3 => by rw [hA, va_up_ne _ _ i1, va_up_ne _ _ i2, va_up_ne _ _ i3]
    have d17 : ad 17 = q17 := by rw [hA, va_up_ne _ _ (by decide), va_up_self]
    have d19 : ad 19 = q19 := by rw [hA, va_up_ne _ _ (by decide), va_up_ne _ _ (by decide), va_up_self]
    show va_at G vwCl (h0, .inr (8, [.ref (ad 1), .ref (ad 3), .ref (ad 26), .ref (ad 52), .ref (ad 6), .ref (ad 15), .ref (ad 17), .ref (ad 18), .ref (ad 19)])) H
    rw [d1 1 (by decide) (by decide) (by decide), c1, d1 3 (by decide) (by decide) (by decide), c3, d1 26 (by decide) (by decide) (by decide), c26, d1 52 (by decide) (by decide) (by decide), c52, d1 6 (by decide) (by decide) (by decide), c6, d1 15 (by decide) (by decide) (by decide), c15, d17, d1 18 (by decide) (by decide) (by decide), c18, d19]
    exact hq
  obtain ⟨M, hM⟩ : ∃ M, M = upR (upR (upR M12 19 (fun _ => 0)) 17 (fun _ => 0)) 0 (fun _ => 0) := ⟨_, rfl⟩
  rw [← hM]
  have dM : ∀ i, i ≠ 0 → i ≠ 17 → i ≠ 19 → M i = M12 i := fun i i1 i2 i3 => by rw [hM]; simp only [upR, if_neg i1, if_neg i2, if_neg i3]
  have b1 : M 1 1 = 0 := by rw [dM 1 (by decide) (by decide) (by decide), (p1_12 1 List.mem_cons_self).2]; exact f1
  have b26 : hasN M 26 P0 N0 := hasN_fr (C := m3) f3 (fun z z1 z2 => by rw [dM z (by omega) (by omega) (by omega), (p3_12 z (mem_Rg.mpr (by omega))).2])
  have b15 : M 15 = fun _ => 0 := by rw [dM 15 (by decide) (by decide) (by decide), (p6_12 15 List.mem_cons_self).2]; exact f6
  have b18 : M 18 = fun _ => 0 := by rw [dM 18 (by decide) (by decide) (by decide), (p7_12 18 List.mem_cons_self).2]; exact f7
  have b20 : M 20 1 = 0 ∧ M 20 3 = 1 := by rw [dM 20 (by decide) (by decide) (by decide), (p10_12 20 List.mem_cons_self).2]; exact f10
  have b22 : M 22 1 = 0 ∧ M 22 3 = 1 := by rw [dM 22 (by decide) (by decide) (by decide), (p11_12 22 List.mem_cons_self).2]; exact f11
  have b24 : M 24 1 = 0 ∧ M 24 3 = 1 := by rw [dM 24 (by decide) (by decide) (by decide), (p12_12 24 List.mem_cons_self).2]; exact f12
  exact gx_ret B (va_up_self _ _ _) ⟨b26, b15, b18, b1, b20, b22, b24⟩ dX8_init_145
