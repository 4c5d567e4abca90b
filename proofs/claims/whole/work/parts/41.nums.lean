/-! numbers of a clause -/
theorem txD_c {D : Mm} {T : Nat → Nat} {n a k : Nat} {v : Int32} (h : txD D T n) (h1 : a ≠ 338) (h2 : a ≠ 341) : txD (up2 D a k v) T n := by
  refine ⟨h.1, h.2.1, ?_, fun j hj => ?_⟩
  · rw [rd_c (fun e => h1 e.symm)]; exact h.2.2.1
  · rw [rd_c (fun e => h2 e.symm)]; exact h.2.2.2 j hj
theorem tkR_tkD {D : Mm} {T : Nat → Nat} {n e : Nat} (h : txD D T n) (he : e ≤ n) : tkR (tkD D T n e) T n e := by
  refine ⟨txD_up (txD_up h (by decide)) (by decide), he, ?_, ?_⟩
  · rw [tkD, rd_j (by decide), up2_s]
  · rw [tkD, up2_s]
theorem tkH_tkC {C : Mm} {T : Nat → Nat} {n e : Nat} (h : txC C T n) (he : e ≤ n) : tkH (tkC C T n e) T n e := by
  refine ⟨txC_up (txC_up (txC_up h (by decide)) (by decide)) (by decide), he, ?_, ?_, ?_⟩
  · rw [tkC, rd_j (by decide), rd_j (by decide), up2_s]
  · rw [tkC, rd_j (by decide), up2_s]
  · rw [tkC, up2_s]
theorem nmr_run {D : Mm} {T : Nat → Nat} {n e : Nat} {x1 x2 x3 x4 : Int32} (hT : txD D T n) (h12 : D 338 12 = nI e) (he : e ≤ n) : ∀ d p a, p + d = e → (∀ j, p ≤ j → j < e → 48 ≤ T j) → run stX9_number (1, [], [x1, x2, x3, x4, nI a, nI p], D) = run stX9_number (1, [], [x1, x2, x3, x4, nI (val T d p a), nI e], D) := by
  have h1 := hT.1
  intro d
  induction d with
  | zero =>
    intro p a hp _
    rw [show p = e by omega]; rfl
  | succ d ih =>
    intro p a hp h
    have h2 := h p (by omega) (by omega)
    rw [eX9_number_1, h12, if_neg (nI_ge (by omega) (by omega)), gd_ok (by omega) (by decide), ix_nI (by omega), hT.2.2.2 p (by omega), n10, pk_mul, nI_add, show (48 : Int32) = nI 48 from rfl, pk_sub (by omega), nI_1, ih (p + 1) _ (by omega) (fun j x y => h j (by omega) y), show 10 * a + T p - 48 = a * 10 + (T p - 48) by omega]; rfl
theorem number_n {D : Mm} {T : Nat → Nat} {n e : Nat} {x1 x2 x3 x4 : Int32} (h : tkR D T n e) (hv : nm T n e = none) : fX9_number x1 x2 x3 x4 D = some (0, D) := by
  obtain ⟨hT, he, h11, h12⟩ := h
  have h1 := hT.1
  have a5 := tkE_le (T := T) he
  unfold fX9_number
  rw [eX9_number_0, h11, hT.2.2.1]
  by_cases g0 : tkS T n e < n
  · have hkk : tkK T n e = kdL (T (tkS T n e)) := by rw [tkK, kd, if_pos g0]
    rw [if_neg (fun z => by have := (nI_eq (by omega) (by omega)).mp z; omega), gd_ok (by omega) (by decide), ix_nI (by omega), hT.2.2.2 _ g0, digit_r (hT.2.1 _), cl_s, ← hkk]
    by_cases g1 : tkK T n e = 2
    · have g2 : ¬ tkE T n e - tkS T n e ≤ 3 := fun z => by rw [nm, if_pos ⟨g1, z⟩] at hv; cases hv
      rw [decide_eq_true g1, if_neg (by decide), h11, h12, pk_sub (by omega), n3, if_neg (nI_ge (by omega) (by omega))]
    · rw [decide_eq_false g1, if_pos (show bI false = 0 from rfl)]
  · rw [show tkS T n e = n by omega, if_pos rfl]
theorem number_s {D : Mm} {T : Nat → Nat} {n e i v : Nat} {x2 x3 x4 : Int32} (h : tkR D T n e) (hv : nm T n e = some v) (hi : i < 4) : fX9_number (nI i) x2 x3 x4 D = if x2 ≤ nI v ∧ nI v ≤ x3 ∧ nI v ≠ x4 then some (1, tkD (up2 D 344 i (nI v)) T n (tkE T n e)) else some (0, D) := by
  obtain ⟨hT, he, h11, h12⟩ := h
  have h1 := hT.1
  have a5 := tkE_le (T := T) he
  have g12 : tkK T n e = 2 ∧ tkE T n e - tkS T n e ≤ 3 := by
    apply Classical.byContradiction
    intro z
    rw [nm, if_neg z] at hv; cases hv
  rw [nm, if_pos g12] at hv
  have ev := Option.some.inj hv
  obtain ⟨g1, g2⟩ := g12
  obtain ⟨a1, a2⟩ := tk_12 he (Or.inr g1)
  have g0 : tkS T n e < n := by omega
  have hkk : tkK T n e = kdL (T (tkS T n e)) := by rw [tkK, kd, if_pos g0]
  unfold fX9_number
  rw [eX9_number_0, h11, hT.2.2.1, if_neg (fun z => by have := (nI_eq (by omega) (by omega)).mp z; omega), gd_ok (by omega) (by decide), ix_nI (by omega), hT.2.2.2 _ g0, digit_r (hT.2.1 _), cl_s, ← hkk, decide_eq_true g1, if_neg (by decide), h11, h12, pk_sub (by omega), n3, if_pos (nI_le g2 (by omega)), n0, nmr_run hT h12 a5.2 (tkE T n e - tkS T n e) _ 0 (by omega) (fun j x y => (kd2 ((a2 j x y).trans g1)).1), ev, eX9_number_1, h12, if_pos (Int32.le_refl _), in_w (nI v) x2 x3 rfl rfl, cl_s]
  by_cases c1 : x2 ≤ nI v
  · by_cases c2 : nI v ≤ x3
    · rw [decide_eq_true c1, decide_eq_true c2, if_neg (by decide)]
      by_cases c3 : nI v = x4
      · rw [if_pos c3, eX9_number_2, if_pos rfl, if_neg (fun z => z.2.2 c3)]; rfl
      · have hN := nextTok_r (D := up2 D 344 i (nI v)) (txD_c hT (by decide) (by decide)) a5.2 (by rw [rd_c (by decide)]; exact h12)
        rw [if_neg c3, eX9_number_2, if_neg (by decide), gd_ok hi (by decide), ix_nI (by omega), hN, cl_s, if_pos ⟨c1, c2, c3⟩]; rfl
    · rw [decide_eq_false c2, Bool.and_false, if_pos (show bI false = 0 from rfl), eX9_number_2, if_pos rfl, if_neg (fun z => c2 z.2.1)]; rfl
  · rw [decide_eq_false c1, Bool.false_and, if_pos (show bI false = 0 from rfl), eX9_number_2, if_pos rfl, if_neg (fun z => c1 z.1)]; rfl
/-! whether a number fits -/
def loN (i : Nat) : Nat := if i = 0 then 2 else 1
def hiN (q : Nat → Nat) (i : Nat) : Nat := if i = 0 then 8 else if i = 1 then 5 else if i = 2 then q 1 else 999
def fit (w m : Nat) (q : Nat → Nat) (i v : Nat) : Bool := if w = 0 then decide (loN i ≤ v ∧ v ≤ hiN q i) else if i = 2 then decide (v ≤ 99) else decide (v < m ∧ (i = 0 ∨ v ≠ q 0))
theorem n4 : (4 : Int32) = nI 4 := rfl
theorem n24 : (24 : Int32) = nI 24 := rfl
theorem numberOf_c {C : Mm} {c j : Nat} (hc : c < 24) (hj : j < 4) : fX0_numberOf (nI c) (nI j) C = some (C 5 (c * 4 + j), C) := by
  unfold fX0_numberOf
  rw [if_neg (nI_pos (by omega)), n24, if_neg (nI_ge hc (by decide)), if_neg (nI_pos (by omega)), n4, if_pos (nI_lt hj (by decide)), pk_mul, nI_add, gd_ok (by omega) (by decide), ix_nI (by omega)]
theorem formAt_c {C : Mm} {c : Nat} (hc : c < 24) : fX0_formAt (nI c) C = some (C 4 c, C) := by
  unfold fX0_formAt
  rw [if_neg (nI_pos (by omega)), n24, if_neg (nI_ge hc (by decide)), gd_ok (by omega) (by decide), ix_nI (by omega)]
theorem least_m {C : Mm} {i : Nat} (hi : i < 4) : fX0_leastOfNet (nI i) C = some (nI (loN i), C) := by
  unfold fX0_leastOfNet loN
  by_cases h : i = 0
  · rw [h, if_pos (show nI 0 = 0 from rfl), if_pos rfl]; rfl
  · rw [if_neg (nI_ne0 (by omega) (by omega)), if_neg h]; rfl
theorem most_m {C : Mm} {c i : Nat} {q : Nat → Nat} (hc : c < 24) (hi : i < 4) (hq : ∀ j, j < i → C 5 (c * 4 + j) = nI (q j)) : fX0_mostOfNet (nI c) (nI i) C = some (nI (hiN q i), C) := by
  unfold fX0_mostOfNet hiN
  rcases (by omega : i = 0 ∨ i = 1 ∨ i = 2 ∨ i = 3) with rfl | rfl | rfl | rfl
  · rfl
  · rfl
  · rw [show (if nI 2 = (0 : Int32) then (some ((8 : Int32), C)) else if nI 2 = (1 : Int32) then (some ((5 : Int32), C)) else if nI 2 = (2 : Int32) then (cl (fX0_numberOf (nI c) (1 : Int32) C) (fun r1 M1 => some (r1, M1))) else (some ((999 : Int32), C))) = cl (fX0_numberOf (nI c) (nI 1) C) (fun r1 M1 => some (r1, M1)) from rfl, numberOf_c hc (by decide), cl_s, hq 1 (by decide)]; rfl
  · rfl
theorem fits_m1 {C : Mm} {c i : Nat} (hc : c < 24) (hi : i < 4) : fX0_fits (nI c) (nI i) (-1) C = some (0, C) := by
  unfold fX0_fits
  rw [formAt_c hc, cl_s]
  by_cases h : C 4 c = 0
  · rw [if_pos h, least_m hi, cl_s, loN, if_pos (by split <;> decide)]
  · rw [if_neg h]
    by_cases h2 : nI i = 2
    · rw [if_pos h2, if_pos (by decide)]
    · rw [if_neg h2, if_pos (by decide)]
theorem fits_c {C : Mm} {c i w m v : Nat} {q : Nat → Nat} (hc : c < 24) (hi : i < 4) (hw : w < 5) (hf : C 4 c = nI w) (h3 : C 3 3 = nI m) (hm : m ≤ 8) (hq : ∀ j, j < i → C 5 (c * 4 + j) = nI (q j)) (hq2 : ∀ j, q j < 1000) (hv : v < 1000) : fX0_fits (nI c) (nI i) (nI v) C = some (bI (fit w m q i v), C) := by
  have q0 := hq2 0
  have q1 := hq2 1
  unfold fX0_fits
  rw [formAt_c hc, cl_s, hf, fit]
  by_cases h : w = 0
  · have hl : loN i < 3 := by
      unfold loN
      split <;> omega
    have hh : hiN q i < 1000 := by
      unfold hiN
      repeat' split
      all_goals omega
    rw [h, if_pos (show nI 0 = 0 from rfl), if_pos rfl, least_m hi, cl_s, most_m hc hi hq, cl_s]
    by_cases g1 : v < loN i
    · rw [if_pos (nI_lt g1 (by omega)), decide_eq_false (by omega)]; rfl
    · rw [if_neg (nI_nlt (by omega) (by omega))]
      by_cases g2 : hiN q i < v
      · rw [if_pos (nI_lt g2 (by omega)), decide_eq_false (by omega)]; rfl
      · rw [if_neg (nI_nlt (by omega) (by omega)), decide_eq_true (by omega)]; rfl
  · rw [if_neg (nI_ne0 (by omega) (by omega)), if_neg h, if_neg (nI_pos (by omega)), if_neg (nI_pos (by omega)), h3, n99]
    by_cases h2 : i = 2
    · rw [h2, if_pos (show nI 2 = 2 from rfl), if_pos rfl]
      by_cases g2 : 99 < v
      · rw [if_pos (nI_lt g2 (by omega)), decide_eq_false (by omega)]; rfl
      · rw [if_neg (nI_nlt (by omega) (by omega)), decide_eq_true (by omega)]; rfl
    · rw [if_neg (show ¬ nI i = 2 from fun z => h2 ((nI_eq (b := 2) (by omega) (by decide)).mp z)), if_neg h2]
      by_cases g1 : m ≤ v
      · rw [if_pos (nI_le g1 (by omega)), decide_eq_false (by omega)]; rfl
      · rw [if_neg (nI_ge (by omega) (by omega))]
        by_cases g2 : i = 0
        · rw [g2, if_pos (show nI 0 = 0 from rfl), decide_eq_true ⟨by omega, Or.inl rfl⟩]; rfl
        · rw [if_neg (nI_ne0 (by omega) (by omega)), n0, numberOf_c hc (by decide), cl_s, hq 0 (by omega)]
          by_cases g3 : v = q 0
          · rw [if_pos (by rw [g3]), decide_eq_false (by omega)]; rfl
          · rw [if_neg (fun z => g3 ((nI_eq (by omega) (by omega)).mp z)), decide_eq_true ⟨by omega, Or.inr g3⟩]; rfl
