/-! a new net -/
def inF (n i k : Nat) : Vw := (List.range k).map (fun d => (nI ((i + (d + 1)) % n), 0))
def ini (n c i : Nat) : Vw := if i < n then inF n i (min c (n - 1)) else []
theorem inF_len (n i k : Nat) : (inF n i k).length = k := by simp [inF]
theorem inF_s (n i k : Nat) : inF n i (k + 1) = inF n i k ++ [(nI ((i + (k + 1)) % n), 0)] := by simp [inF, List.range_succ]
theorem inF_get {n i k j : Nat} (h : j < k) : (inF n i k).getD j d0 = (nI ((i + (j + 1)) % n), 0) := by
  simp [inF, List.getD_eq_getElem?_getD, h]
theorem begin2_c {a n c i : Nat} (hn : 2 ≤ n) (hn8 : n ≤ 8) (hc : c ≤ 5) (hi : i < n) : ∀ d k (C : Mm), k + d = min c (n - 1) → C a 1 = nI n → C a 2 = nI c → hasV C (a + 2 + 3 * i) (inF n i k) →
    ∃ C', run stX1_begin (2, [a], [nI i, nI (k + 1)], C) = run stX1_begin (1, [a], [nI (i + 1)], C') ∧ hasV C' (a + 2 + 3 * i) (inF n i (min c (n - 1))) ∧ frV C C' (a + 2 + 3 * i) := by
  intro d
  induction d with
  | zero =>
    intro k C hk h1 h2 hV
    refine ⟨C, ?_, by rw [← hk]; exact hV, frV.rf⟩
    rw [eX1_begin_2, h1, h2, if_neg (nI_ge hi (by omega)), nI_1]
    by_cases h3 : n ≤ k + 1
    · rw [if_pos (nI_le h3 (by omega))]
    · rw [if_neg (nI_ge (by omega) (by omega)), if_pos (nI_lt (by omega) (by omega))]
  | succ d ih =>
    intro k C hk h1 h2 hV
    have hl := inF_len n i k
    obtain ⟨C1, r1, v1, f1⟩ := append_c (x := nI ((i + (k + 1)) % n)) (g := 0) hV (by omega)
    have e1 : C1 a = C a := f1 a (by omega) (by omega) (by omega)
    obtain ⟨C2, r2, v2, f2⟩ := ih (k + 1) C1 (by omega) (by rw [e1]; exact h1) (by rw [e1]; exact h2) (by rw [inF_s]; exact v1)
    refine ⟨C2, ?_, v2, f1.tr f2⟩
    rw [eX1_begin_2, h1, h2, if_neg (nI_ge hi (by omega)), if_neg (nI_ge (by omega) (by omega)), if_neg (nI_nlt (by omega) (by omega)), gd_ok (by omega) (by decide), gd_t (decide_eq_true (nI_ne0 (by omega) (by omega))), nI_add, rem_n (by omega) (by omega) (by omega), ix_nI (by omega), r1, cl_s, nI_1, r2]
theorem begin1_c {a n c : Nat} (hn : 2 ≤ n) (hn8 : n ≤ 8) (hc : c ≤ 5) : ∀ d i (C : Mm), i + d = 8 → C a 1 = nI n → C a 2 = nI c → (∀ j, j < i → hasV C (a + 2 + 3 * j) (ini n c j)) →
    ∃ C', run stX1_begin (1, [a], [nI i], C) = some (0, C') ∧ (∀ j, j < 8 → hasV C' (a + 2 + 3 * j) (ini n c j)) ∧ C' a = C a ∧ ∀ z, z < a ∨ a + 26 ≤ z → C' z = C z := by
  intro d
  induction d with
  | zero =>
    intro i C hi h1 h2 hV
    refine ⟨C, ?_, fun j hj => hV j (by omega), rfl, fun _ _ => rfl⟩
    rw [eX1_begin_1, n8, if_pos (nI_le (by omega) (by omega))]
  | succ d ih =>
    intro i C hi h1 h2 hV
    obtain ⟨C1, r1, v1, f1⟩ := clear_c (C := C) (a := a + 2 + 3 * i)
    have e1 : C1 a = C a := f1 a (by omega) (by omega) (by omega)
    have hst : ∃ C2, run stX1_begin (2, [a], [nI i, nI 1], C1) = run stX1_begin (1, [a], [nI (i + 1)], C2) ∧ hasV C2 (a + 2 + 3 * i) (ini n c i) ∧ frV C1 C2 (a + 2 + 3 * i) := by
      by_cases hin : i < n
      · obtain ⟨C2, r2, v2, f2⟩ := begin2_c hn hn8 hc hin (min c (n - 1)) 0 C1 (by omega) (by rw [e1]; exact h1) (by rw [e1]; exact h2) v1
        exact ⟨C2, r2, by rw [ini, if_pos hin]; exact v2, f2⟩
      · refine ⟨C1, ?_, by rw [ini, if_neg hin]; exact v1, frV.rf⟩
        rw [eX1_begin_2, e1, h1, if_pos (nI_le (by omega) (by omega)), nI_1]
    obtain ⟨C2, r2, v2, f2⟩ := hst
    have f12 := f1.tr f2
    have e2 : C2 a = C a := f12 a (by omega) (by omega) (by omega)
    obtain ⟨C3, r3, v3, e3, f3⟩ := ih (i + 1) C2 (by omega) (by rw [e2]; exact h1) (by rw [e2]; exact h2) (fun j hj => by
      by_cases hj2 : j = i
      · rw [hj2]; exact v2
      · exact hasV_fr (hV j (by omega)) (f12 _ (by omega) (by omega) (by omega)) (f12 _ (by omega) (by omega) (by omega)) (f12 _ (by omega) (by omega) (by omega)))
    refine ⟨C3, ?_, v3, e3.trans e2, fun z hz => (f3 z hz).trans (f12 z (by omega) (by omega) (by omega))⟩
    rw [eX1_begin_1, n8, if_neg (nI_ge (by omega) (by omega)), gd_ok (by omega) (by decide), ix_nI (by omega), r1, cl_s, n1, r2, r3]
theorem full_m : ∀ n, n < 9 → ish 1 (nI n) - 1 = nI (msk (fun _ => true) n) := by decide +kernel
theorem msk_0 : ∀ n, msk (fun _ => false) n = 0 := by
  intro n
  induction n with
  | zero => rfl
  | succ n ih => rw [msk, ih]; rfl
theorem begin_c {C : Mm} {a n c l sd : Nat} (hn : 2 ≤ n) (hn8 : n ≤ 8) (hc : c ≤ 5) : ∃ C', fX1_begin a (nI n) (nI c) (nI l) (nI sd) C = some (0, C') ∧ hasN C' a (n, c, l, fun _ => false) (sd, fun _ => false, ini n c) ∧ ∀ z, z < a ∨ a + 26 ≤ z → C' z = C z := by
  unfold fX1_begin
  rw [eX1_begin_0, show (2 : Int32) = nI 2 from rfl, n8, imin_n (by omega) (by omega), imax_n (by omega) (by omega), show max 2 (min n 8) = n by omega, rd_j (by decide), rd_j (by decide), rd_j (by decide), up2_s, full_m n (by omega), n0]
  obtain ⟨C', r, v, e, f⟩ := begin1_c (a := a) hn hn8 hc 8 0 (up2 (up2 (up2 (up2 (up2 (up2 C a 1 (nI n)) a 2 (nI c)) a 3 (nI l)) a 4 (nI sd)) a 5 (nI (msk (fun _ => true) n))) a 6 (nI 0)) (by omega) (by simp (disch := decide) only [rd_j, up2_s]) (by simp (disch := decide) only [rd_j, up2_s]) (fun j hj => by omega)
  refine ⟨C', r, ⟨?_, ?_, ?_, ?_, ?_, ?_, v⟩, fun z hz => ?_⟩
  · rw [e]; simp (disch := decide) only [rd_j, up2_s]
  · rw [e]; simp (disch := decide) only [rd_j, up2_s]
  · rw [e]; simp (disch := decide) only [rd_j, up2_s]
  · rw [e]; simp (disch := decide) only [rd_j, up2_s]
  · rw [e]; simp (disch := decide) only [rd_j, up2_s]; rfl
  · rw [e]; simp (disch := decide) only [rd_j, up2_s]; rw [msk_0]
  · rw [f z hz, up2_c (by omega), up2_c (by omega), up2_c (by omega), up2_c (by omega), up2_c (by omega), up2_c (by omega)]
theorem anew2_r {n c i : Nat} (hn : 2 ≤ n) (hn8 : n ≤ 8) (hc : c ≤ 5) (hi : i < n) : ∀ d x (D : Mm), x + d = n → 1 ≤ x → hasR D 0 i (inF n i (min c (x - 1))) →
    ∃ D', run stX9_anew (2, [], [nI n, nI c, nI i, nI x], D) = run stX9_anew (1, [], [nI n, nI c, nI (i + 1)], D') ∧ hasR D' 0 i (inF n i (min c (n - 1))) ∧ frR D D' 0 i := by
  intro d
  induction d with
  | zero =>
    intro x D hx h1 hV
    refine ⟨D, ?_, by rw [show x = n by omega] at hV; exact hV, frR.rf⟩
    rw [eX9_anew_2, if_pos (nI_le (by omega) (by omega)), nI_1]
  | succ d ih =>
    intro x D hx h1 hV
    have hl := inF_len n i (min c (x - 1))
    have e0 : D 339 (2 + i) = nI (min c (x - 1)) := by
      have := hV.2.1
      rw [hl, Nat.zero_add] at this
      exact this
    rw [eX9_anew_2, if_neg (nI_ge (by omega) (by omega)), if_neg (nI_ge hi (by omega)), n2, nI_add, gd_ok (by omega) (by decide), ix_nI (by omega), e0, nI_1]
    by_cases h2 : c ≤ x - 1
    · rw [if_pos (nI_le (by omega) (by omega))]
      exact ih (x + 1) D (by omega) (by omega) (by rw [show min c (x + 1 - 1) = min c (x - 1) by omega]; exact hV)
    · obtain ⟨D1, r1, v1, f1⟩ := put_r (x := nI ((i + x) % n)) (g := 0) (by omega) (by omega) hV (by omega)
      obtain ⟨D2, r2, v2, f2⟩ := ih (x + 1) D1 (by omega) (by omega) (by
        rw [show min c (x + 1 - 1) = min c (x - 1) + 1 by omega, inF_s, show i + (min c (x - 1) + 1) = i + x by omega]; exact v1)
      refine ⟨D2, ?_, v2, f1.tr f2⟩
      rw [if_neg (nI_ge (by omega) (by omega)), gd_t (decide_eq_true (nI_ne0 (by omega) (by omega))), nI_add, rem_n (by omega) (by omega) (by omega), show fX9_put 0 (nI i) (nI ((i + x) % n)) 0 D = _ from r1, cl_s, r2]
theorem anew1_r {n c : Nat} (hn : 2 ≤ n) (hn8 : n ≤ 8) (hc : c ≤ 5) : ∀ d i (D : Mm), i + d = 8 → (∀ j, j < i → hasR D 0 j (ini n c j)) →
    ∃ D', run stX9_anew (1, [], [nI n, nI c, nI i], D) = some (0, D') ∧ (∀ j, j < 8 → hasR D' 0 j (ini n c j)) ∧ (∀ z, z ≠ 339 → D' z = D z) ∧ ∀ j, j < 2 ∨ 90 ≤ j → D' 339 j = D 339 j := by
  intro d
  induction d with
  | zero =>
    intro i D hi hV
    refine ⟨D, ?_, fun j hj => hV j (by omega), fun _ _ => rfl, fun _ _ => rfl⟩
    rw [eX9_anew_1, n8, if_pos (nI_le (by omega) (by omega))]
  | succ d ih =>
    intro i D hi hV
    have v1 : hasR (up2 D 339 (2 + i) (nI 0)) 0 i [] := ⟨by simp, by rw [show 0 + 2 + i = 2 + i by omega, up2_s]; rfl, fun k hk => absurd hk (by simp)⟩
    have f1 : frR D (up2 D 339 (2 + i) (nI 0)) 0 i := ⟨fun c hc => up2_c hc, fun j hj => rd_j (fun z => hj (Or.inl (by omega)))⟩
    have hst : ∃ D2, run stX9_anew (2, [], [nI n, nI c, nI i, nI 1], up2 D 339 (2 + i) (nI 0)) = run stX9_anew (1, [], [nI n, nI c, nI (i + 1)], D2) ∧ hasR D2 0 i (ini n c i) ∧ frR (up2 D 339 (2 + i) (nI 0)) D2 0 i := by
      by_cases hin : i < n
      · obtain ⟨D2, r2, v2, f2⟩ := anew2_r hn hn8 hc hin (n - 1) 1 (up2 D 339 (2 + i) (nI 0)) (by omega) (by omega) (by rw [show min c (1 - 1) = 0 by omega]; exact v1)
        exact ⟨D2, r2, by rw [ini, if_pos hin]; exact v2, f2⟩
      · refine ⟨_, ?_, by rw [ini, if_neg hin]; exact v1, frR.rf⟩
        rw [eX9_anew_2, if_neg (nI_ge (by omega) (by omega)), if_pos (nI_le (by omega) (by omega)), nI_1]
    obtain ⟨D2, r2, v2, f2⟩ := hst
    have f12 := f1.tr f2
    obtain ⟨D3, r3, v3, f3, g3⟩ := ih (i + 1) D2 (by omega) (fun j hj => by
      by_cases hj2 : j = i
      · rw [hj2]; exact v2
      · exact hasR_off (hV j (by omega)) (fun k hk => f12.2 k (fun z => by unfold ofV at z hk; omega)))
    refine ⟨D3, ?_, v3, fun z hz => (f3 z hz).trans (f12.1 z hz), fun j hj => (g3 j hj).trans (f12.2 j (fun z => by unfold ofV at z; omega))⟩
    rw [eX9_anew_1, n8, if_neg (nI_ge (by omega) (by omega)), n2, nI_add, gd_ok (by omega) (by decide), ix_nI (by omega), n0, n1, r2, r3]; rfl
def frA (D D' : Mm) : Prop := (∀ z, z ≠ 338 → z ≠ 339 → D' z = D z) ∧ (∀ j, j = 0 ∨ 5 ≤ j → D' 338 j = D 338 j) ∧ ∀ j, 90 ≤ j → D' 339 j = D 339 j
theorem frA.rf {D : Mm} : frA D D := ⟨fun _ _ _ => rfl, fun _ _ => rfl, fun _ _ => rfl⟩
theorem frA.tr {D D1 D2 : Mm} (h : frA D D1) (g : frA D1 D2) : frA D D2 := ⟨fun z x y => (g.1 z x y).trans (h.1 z x y), fun j x => (g.2.1 j x).trans (h.2.1 j x), fun j x => (g.2.2 j x).trans (h.2.2 j x)⟩
theorem anew_r {D : Mm} {n c l sd : Nat} (hn : 2 ≤ n) (hn8 : n ≤ 8) (hc : c ≤ 5) : ∃ D', fX9_anew (nI n) (nI c) (nI l) (nI sd) D = some (0, D') ∧ hasB D' 0 (n, c, l, fun _ => false) (sd, fun _ => false, ini n c) ∧ hasP D' (n, c, l, fun _ => false) ∧ frA D D' := by
  unfold fX9_anew
  rw [eX9_anew_0, n0]
  obtain ⟨D', r, v, e, f⟩ := anew1_r hn hn8 hc 8 0 (up2 (up2 (up2 (up2 (up2 (up2 D 338 1 (nI n)) 338 2 (nI c)) 338 3 (nI l)) 338 4 (nI 0)) 339 (ix (nI 0)) (nI sd)) 339 (ix (1 : Int32)) (nI 0)) (by omega) (fun j hj => by omega)
  have i0 : ix (nI 0) = 0 := rfl
  have i1 : ix (1 : Int32) = 1 := rfl
  rw [i0, i1] at r e f
  refine ⟨D', by rw [i0, i1]; exact r, ⟨?_, ?_, v⟩, ⟨?_, ?_, ?_, ?_⟩, fun z h1 h2 => ?_, fun j hj => ?_, fun j hj => ?_⟩
  · rw [f 0 (by omega), rd_j (by decide), up2_s]
  · rw [f 1 (by omega), up2_s, msk_0]
  · rw [e 338 (by decide), rd_c (by decide), rd_c (by decide)]; simp (disch := decide) only [rd_j, up2_s]
  · rw [e 338 (by decide), rd_c (by decide), rd_c (by decide)]; simp (disch := decide) only [rd_j, up2_s]
  · rw [e 338 (by decide), rd_c (by decide), rd_c (by decide)]; simp (disch := decide) only [rd_j, up2_s]
  · rw [e 338 (by decide), rd_c (by decide), rd_c (by decide)]; simp (disch := decide) only [rd_j, up2_s]; rw [msk_0]
  · rw [e z h2, up2_c h2, up2_c h2, up2_c h1, up2_c h1, up2_c h1, up2_c h1]
  · rw [e 338 (by decide), rd_c (by decide), rd_c (by decide), rd_j (by omega), rd_j (by omega), rd_j (by omega), rd_j (by omega)]
  · rw [f j (Or.inr hj), rd_j (by omega), rd_j (by omega), rd_c (by decide), rd_c (by decide), rd_c (by decide), rd_c (by decide)]
