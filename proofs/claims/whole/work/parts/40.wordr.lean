/-! words in the reference; numbers in both -/
def wds (D : Mm) : Prop := ∀ w, w < 5 → ∀ j, j < 4 → D 345 (4 * w + j) = nI (zc w j)
theorem zc_256 : ∀ w, w < 5 → ∀ j, j < 4 → zc w j < 256 := by decide +kernel
theorem bI_n1 : (1 : Int32) = bI true := rfl
theorem bI_n0 : (0 : Int32) = bI false := rfl
theorem word2_r {D : Mm} {T : Nat → Nat} {n s e w : Nat} (hT : txD D T n) (hW : wds D) (h11 : D 338 11 = nI s) (h12 : D 338 12 = nI e) (he : e ≤ n) (hs : s ≤ n) (hw : w < 5) : ∀ d j (b : Bool), j + d = 4 → run stX9_wordHere (2, [], [nI w, bI b, nI j], D) = if (b && mr T s e w d j) = true then some (nI w, D) else run stX9_wordHere (1, [], [nI (w + 1)], D) := by
  have h1 := hT.1
  intro d
  induction d with
  | zero =>
    intro j b hj
    rw [eX9_wordHere_2, show (4 : Int32) = nI 4 from rfl, if_pos (nI_le (by omega) (by omega)), nI_1]
    cases b
    · rw [if_pos (show bI false = 0 from rfl), if_neg (by simp)]
    · rw [if_neg (by decide), if_pos (by rfl)]
  | succ d ih =>
    intro j b hj
    rw [eX9_wordHere_2, show (4 : Int32) = nI 4 from rfl, if_neg (nI_ge (by omega) (by omega))]
    cases b
    · rw [if_pos (show bI false = 0 from rfl), if_pos (show bI false = 0 from rfl), if_neg (by simp), nI_1]
    · rw [if_neg (by decide), pk_mul, nI_add, gd_ok (by omega) (by decide), h11, h12, nI_add, ix_nI (by omega), hW w hw j (by omega), mr, Bool.true_and]
      have hz := zc_256 w hw j (by omega)
      have hx := hT.2.1 (s + j)
      by_cases h5 : s + j < e
      · rw [if_neg (nI_ge h5 (by omega)), gd_ok (by omega) (by decide), ix_nI (by omega), hT.2.2.2 _ (by omega), eX9_wordHere_3, if_pos h5, nI_1]
        by_cases h6 : zc w j = T (s + j)
        · rw [if_pos (by rw [h6]), bI_n1, ih (j + 1) true (by omega), decide_eq_true h6]
        · rw [if_neg (fun z => h6 ((nI_eq (by omega) (by omega)).mp z)), bI_n0, ih (j + 1) false (by omega), decide_eq_false h6]
      · rw [if_pos (nI_le (by omega) (by omega)), eX9_wordHere_3, if_neg h5, nI_1]
        by_cases h6 : zc w j = 0
        · rw [if_pos (by rw [h6]; rfl), bI_n1, ih (j + 1) true (by omega), decide_eq_true h6]
        · rw [if_neg (show ¬ nI (zc w j) = 0 from fun z => h6 ((nI_eq (b := 0) (by omega) (by omega)).mp z)), bI_n0, ih (j + 1) false (by omega), decide_eq_false h6]
theorem word1_r {D : Mm} {T : Nat → Nat} {n s e : Nat} (hT : txD D T n) (hW : wds D) (h11 : D 338 11 = nI s) (h12 : D 338 12 = nI e) (he : e ≤ n) (hs : s ≤ n) : ∀ d w, w + d = 5 → run stX9_wordHere (1, [], [nI w], D) = some (oI (wrdF (ir T s e) d w), D) := by
  have h1 := hT.1
  intro d
  induction d with
  | zero =>
    intro w hw
    rw [eX9_wordHere_1, show (4 : Int32) = nI 4 from rfl, if_pos (nI_lt (by omega) (by omega))]; rfl
  | succ d ih =>
    intro w hw
    rw [eX9_wordHere_1, show (4 : Int32) = nI 4 from rfl, if_neg (nI_nlt (by omega) (by omega)), h11, h12, wrdF]
    have hz := word2_r hT hW h11 h12 he hs (w := w) (by omega) 4 0
    by_cases h5 : s < e
    · rw [if_neg (nI_ge h5 (by omega)), pk_sub (by omega), n5]
      by_cases h6 : e - s < 5
      · have e1 : ir T s e w = mr T s e w 4 0 := by rw [ir, decide_eq_true h5, decide_eq_true h6]; rfl
        rw [if_neg (nI_ge h6 (by omega)), bI_n1, n0, hz true (by omega), Bool.true_and, e1, ih (w + 1) (by omega)]
        cases mr T s e w 4 0 <;> rfl
      · have e1 : ir T s e w = false := by rw [ir, decide_eq_false h6]; simp
        rw [if_pos (nI_le (by omega) (by omega)), e1]
        have hz2 := hz false (by omega)
        rw [if_neg (by simp), ← n0] at hz2
        rw [show run stX9_wordHere (2, [], [nI w, 0, 0], D) = _ from hz2, ih (w + 1) (by omega)]; rfl
    · have e1 : ir T s e w = false := by rw [ir, decide_eq_false h5]; simp
      rw [if_pos (nI_le (by omega) (by omega)), e1]
      have hz2 := hz false (by omega)
      rw [if_neg (by simp), ← n0] at hz2
      rw [show run stX9_wordHere (2, [], [nI w, 0, 0], D) = _ from hz2, ih (w + 1) (by omega)]; rfl
theorem wordHere_r {D : Mm} {T : Nat → Nat} {n e : Nat} (h : tkR D T n e) (hW : wds D) : fX9_wordHere D = some (oI (wrd T n e), D) := by
  obtain ⟨hT, he, h11, h12⟩ := h
  have a5 := tkE_le (T := T) he
  unfold fX9_wordHere
  rw [eX9_wordHere_0, n0, word1_r hT hW h11 h12 (by omega) (by omega) 5 0 (by omega), wrd, wrdF_congr 5 0 (fun x _ hx => word_eq he (by omega))]
def val (T : Nat → Nat) : Nat → Nat → Nat → Nat
  | 0, _, a => a
  | d + 1, p, a => val T d (p + 1) (a * 10 + (T p - 48))
theorem val_le {T : Nat → Nat} : ∀ d p a, (∀ j, p ≤ j → j < p + d → T j ≤ 57) → val T d p a < (a + 1) * 10 ^ d := by
  intro d
  induction d with
  | zero => intro p a _; rw [val]; omega
  | succ d ih =>
    intro p a h
    rw [val]
    have h1 := ih (p + 1) (a * 10 + (T p - 48)) (fun j h1 h2 => h j (by omega) (by omega))
    have h2 := h p (by omega) (by omega)
    refine Nat.lt_of_lt_of_le h1 ?_
    have h3 : a * 10 + (T p - 48) + 1 ≤ (a + 1) * 10 := by omega
    have h4 := Nat.mul_le_mul_right (10 ^ d) h3
    rw [Nat.pow_succ, Nat.mul_comm (10 ^ d) 10, ← Nat.mul_assoc]
    exact h4
def nm (T : Nat → Nat) (n e : Nat) : Option Nat := if tkK T n e = 2 ∧ tkE T n e - tkS T n e ≤ 3 then some (val T (tkE T n e - tkS T n e) (tkS T n e) 0) else none
theorem kd2 {x : Nat} (h : kdL x = 2) : 48 ≤ x ∧ x ≤ 57 := by
  unfold kdL at h
  revert h
  repeat' split
  all_goals omega
theorem nm_lt {T : Nat → Nat} {n e v : Nat} (he : e ≤ n) (h : nm T n e = some v) : v < 1000 := by
  unfold nm at h
  by_cases h1 : tkK T n e = 2 ∧ tkE T n e - tkS T n e ≤ 3
  · rw [if_pos h1] at h
    obtain ⟨a1, a2⟩ := tk_12 he (Or.inr h1.1)
    have h2 := val_le (T := T) (tkE T n e - tkS T n e) (tkS T n e) 0 (fun j x y => (kd2 ((a2 j x (by omega)).trans h1.1)).2)
    have h3 : 10 ^ (tkE T n e - tkS T n e) ≤ 10 ^ 3 := Nat.pow_le_pow_right (by decide) h1.2
    have h4 := Option.some.inj h
    omega
  · rw [if_neg h1] at h; cases h
theorem num_run {C : Mm} {T : Nat → Nat} {n e : Nat} (hT : txC C T n) (h4 : C 1 4 = nI e) (he : e ≤ n) : ∀ d p a, p + d = e → (∀ j, p ≤ j → j < e → 48 ≤ T j) → run stX6_number (1, [], [nI a, nI p], C) = some (nI (val T d p a), C) := by
  have h1 := hT.1
  intro d
  induction d with
  | zero =>
    intro p a hp _
    rw [eX6_number_1, h4, if_pos (nI_le (by omega) (by omega))]; rfl
  | succ d ih =>
    intro p a hp h
    rw [eX6_number_1, h4, if_neg (nI_ge (by omega) (by omega)), letter_c hT (by omega), cl_s, if_pos (by omega : p < n), n10, pk_mul, show (48 : Int32) = nI 48 from rfl, pk_sub (h p (by omega) (by omega)), nI_add, nI_1, ih (p + 1) _ (by omega) (fun j x y => h j (by omega) y)]; rfl
theorem num_c {C : Mm} {T : Nat → Nat} {n e : Nat} (h : tkH C T n e) : fX6_number C = some (oI (nm T n e), C) := by
  obtain ⟨hT, he, h3, h2, h4⟩ := h
  have h1 := hT.1
  have hk4 := kd_4 T n (tkS T n e)
  rw [← tkK] at hk4
  have a5 := tkE_le (T := T) he
  unfold fX6_number
  rw [eX6_number_0, h2, h3, h4, pk_sub (by omega), nm, n3]
  by_cases g1 : tkK T n e = 2
  · rw [if_pos (show nI (tkK T n e) = 2 by rw [g1]; rfl)]
    by_cases g2 : tkE T n e - tkS T n e ≤ 3
    · obtain ⟨a1, a2⟩ := tk_12 he (Or.inr g1)
      rw [if_pos (nI_le g2 (by omega)), if_pos ⟨g1, g2⟩, n0, num_run hT h4 a5.2 (tkE T n e - tkS T n e) _ 0 (by omega) (fun j x y => (kd2 ((a2 j x y).trans g1)).1)]; rfl
    · rw [if_neg (nI_ge (by omega) (by omega)), if_neg (fun z => g2 z.2)]; rfl
  · rw [if_neg (show ¬ nI (tkK T n e) = 2 from fun z => g1 ((nI_eq (b := 2) (by omega) (by decide)).mp z)), if_neg (fun z => g1 z.1)]; rfl
