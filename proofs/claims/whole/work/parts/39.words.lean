/-! words and numbers of the text -/
theorem rn_all (T : Nat → Nat) (k : Nat) : ∀ d p j, p ≤ j → j < rn T k d p → kdL (T j) = k := by
  intro d
  induction d with
  | zero => intro p j h1 h2; rw [rn] at h2; omega
  | succ d ih =>
    intro p j h1 h2
    rw [rn] at h2
    by_cases h3 : kdL (T p) = k
    · rw [if_pos h3] at h2
      by_cases h4 : j = p
      · rw [h4]; exact h3
      · exact ih (p + 1) j (by omega) h2
    · rw [if_neg h3] at h2; omega
theorem tk_lt {T : Nat → Nat} {n e : Nat} (he : e ≤ n) : tkS T n e < n ↔ tkK T n e ≠ 0 := by
  have := kd_0 T n (tkS T n e)
  rw [← tkK] at this
  omega
theorem tk_0 {T : Nat → Nat} {n e : Nat} (he : e ≤ n) (h : tkK T n e = 0) : tkE T n e = tkS T n e := by
  rw [tkE, if_neg (fun z => (tk_lt he).mp z h)]
theorem tk_12 {T : Nat → Nat} {n e : Nat} (he : e ≤ n) (h : tkK T n e = 1 ∨ tkK T n e = 2) : tkS T n e < tkE T n e ∧ ∀ j, tkS T n e ≤ j → j < tkE T n e → kdL (T j) = tkK T n e := by
  have h1 : tkS T n e < n := (tk_lt he).mpr (by omega)
  have h2 : tkE T n e = rn T (tkK T n e) (n - (tkS T n e + 1)) (tkS T n e + 1) := by rw [tkE, if_pos h1, if_pos h]
  have h3 := rn_le T (tkK T n e) (n - (tkS T n e + 1)) (tkS T n e + 1)
  refine ⟨by omega, fun j h4 h5 => ?_⟩
  by_cases h6 : j = tkS T n e
  · rw [h6, tkK, kd, if_pos h1]
  · exact rn_all T _ (n - (tkS T n e + 1)) (tkS T n e + 1) j (by omega) (by rw [← h2]; exact h5)
theorem tk_34 {T : Nat → Nat} {n e : Nat} (he : e ≤ n) (h : ¬ (tkK T n e = 1 ∨ tkK T n e = 2)) (h0 : tkK T n e ≠ 0) : tkE T n e = tkS T n e + 1 := by
  rw [tkE, if_pos ((tk_lt he).mpr h0), if_neg h]
def zbN : List (List Nat) := [[110, 101, 116], [100, 101, 97, 100], [115, 108, 121], [108, 105, 110, 107], [99, 117, 116]]
def zc (w j : Nat) : Nat := (zbN.getD w []).getD j 0
def mt (T : Nat → Nat) (s w : Nat) : Nat → Nat → Bool
  | 0, _ => true
  | d + 1, j => decide (T (s + j) = zc w j) && mt T s w d (j + 1)
def mr (T : Nat → Nat) (s e w : Nat) : Nat → Nat → Bool
  | 0, _ => true
  | d + 1, j => decide (zc w j = if s + j < e then T (s + j) else 0) && mr T s e w d (j + 1)
def iw (T : Nat → Nat) (s k e w : Nat) : Bool := decide (k = 1) && (decide (e - s = zlen.getD w 0) && mt T s w (zlen.getD w 0) 0)
def ir (T : Nat → Nat) (s e w : Nat) : Bool := decide (s < e) && decide (e - s < 5) && mr T s e w 4 0
theorem word_eq {T : Nat → Nat} {n e w : Nat} (he : e ≤ n) (hw : w < 5) : iw T (tkS T n e) (tkK T n e) (tkE T n e) w = ir T (tkS T n e) (tkE T n e) w := by
  have hk4 := kd_4 T n (tkS T n e)
  rw [← tkK] at hk4
  have a0 := tk_0 (T := T) he
  have a1 := tk_12 (T := T) he
  have a3 := tk_34 (T := T) he
  have a5 := tkE_le (T := T) he
  generalize tkS T n e = s at *
  generalize tkK T n e = k at *
  generalize tkE T n e = f at *
  have kz : ∀ j, kdL (T j) = 1 → 97 ≤ T j := by
    intro j
    unfold kdL
    repeat' split
    all_goals omega
  have kz2 : ∀ j, kdL (T j) = 2 → T j ≤ 57 ∧ 48 ≤ T j := by
    intro j
    unfold kdL
    repeat' split
    all_goals omega
  rw [Bool.eq_iff_iff]
  simp only [iw, ir, mr, Bool.and_eq_true, decide_eq_true_eq, and_true]
  have hk : k = 0 ∨ k = 1 ∨ k = 2 ∨ k = 3 ∨ k = 4 := by omega
  have hz0 : zc w 0 ≥ 97 ∧ zc w 1 ≥ 97 ∧ zc w 2 ≥ 97 := by
    rcases (by omega : w = 0 ∨ w = 1 ∨ w = 2 ∨ w = 3 ∨ w = 4) with rfl | rfl | rfl | rfl | rfl <;> decide
  rcases hk with rfl | rfl | rfl | rfl | rfl
  · have := a0 rfl
    constructor
    · intro z; omega
    · intro z; omega
  · obtain ⟨b1, b2⟩ := a1 (Or.inl rfl)
    have b0 := kz s (b2 s (by omega) (by omega))
    by_cases g1 : s + 1 < f
    · have c1 := kz (s + 1) (b2 (s + 1) (by omega) (by omega))
      by_cases g2 : s + 2 < f
      · have c2 := kz (s + 2) (b2 (s + 2) (by omega) (by omega))
        by_cases g3 : s + 3 < f
        · have c3 := kz (s + 3) (b2 (s + 3) (by omega) (by omega))
          simp only [Nat.add_zero, Nat.zero_add, Nat.reduceAdd, if_pos b1, if_pos g1, if_pos g2, if_pos g3]
          rcases (by omega : w = 0 ∨ w = 1 ∨ w = 2 ∨ w = 3 ∨ w = 4) with rfl | rfl | rfl | rfl | rfl <;> simp [zlen, zc, zbN, mt] <;> omega
        · simp only [Nat.add_zero, Nat.zero_add, Nat.reduceAdd, if_pos b1, if_pos g1, if_pos g2, if_neg g3]
          rcases (by omega : w = 0 ∨ w = 1 ∨ w = 2 ∨ w = 3 ∨ w = 4) with rfl | rfl | rfl | rfl | rfl <;> simp [zlen, zc, zbN, mt] <;> omega
      · simp only [Nat.add_zero, Nat.zero_add, Nat.reduceAdd, if_pos b1, if_pos g1, if_neg g2]
        have : zlen.getD w 0 ≥ 3 := by
          rcases (by omega : w = 0 ∨ w = 1 ∨ w = 2 ∨ w = 3 ∨ w = 4) with rfl | rfl | rfl | rfl | rfl <;> decide
        constructor
        · intro z; omega
        · intro z; omega
    · simp only [Nat.add_zero, Nat.zero_add, Nat.reduceAdd, if_pos b1, if_neg g1]
      have : zlen.getD w 0 ≥ 3 := by
        rcases (by omega : w = 0 ∨ w = 1 ∨ w = 2 ∨ w = 3 ∨ w = 4) with rfl | rfl | rfl | rfl | rfl <;> decide
      constructor
      · intro z; omega
      · intro z; omega
  · obtain ⟨b1, b2⟩ := a1 (Or.inr rfl)
    have b0 := kz2 s (b2 s (by omega) (by omega))
    simp only [Nat.add_zero, Nat.zero_add, Nat.reduceAdd, if_pos b1]
    constructor
    · intro z; omega
    · intro z; omega
  · have h3 := a3 (by omega) (by omega)
    have g1 : ¬ s + 1 < f := by omega
    simp only [Nat.add_zero, Nat.zero_add, Nat.reduceAdd, if_neg g1]
    constructor
    · intro z; omega
    · intro z; omega
  · have h3 := a3 (by omega) (by omega)
    have g1 : ¬ s + 1 < f := by omega
    simp only [Nat.add_zero, Nat.zero_add, Nat.reduceAdd, if_neg g1]
    constructor
    · intro z; omega
    · intro z; omega
/-- the token at hand in the class; in the reference -/
def tkH (C : Mm) (T : Nat → Nat) (n e : Nat) : Prop := txC C T n ∧ e ≤ n ∧ C 1 3 = nI (tkS T n e) ∧ C 1 2 = nI (tkK T n e) ∧ C 1 4 = nI (tkE T n e)
def tkR (D : Mm) (T : Nat → Nat) (n e : Nat) : Prop := txD D T n ∧ e ≤ n ∧ D 338 11 = nI (tkS T n e) ∧ D 338 12 = nI (tkE T n e)
def wrdF (f : Nat → Bool) : Nat → Nat → Option Nat
  | 0, _ => none
  | d + 1, w => if f w = true then some w else wrdF f d (w + 1)
def wrd (T : Nat → Nat) (n e : Nat) : Option Nat := wrdF (iw T (tkS T n e) (tkK T n e) (tkE T n e)) 5 0
theorem wrdF_lt {f : Nat → Bool} : ∀ d w x, wrdF f d w = some x → w ≤ x ∧ x < w + d := by
  intro d
  induction d with
  | zero => intro w x h; cases h
  | succ d ih =>
    intro w x h
    rw [wrdF] at h
    by_cases hf : f w = true
    · rw [if_pos hf] at h; cases h; omega
    · rw [if_neg hf] at h
      have := ih (w + 1) x h
      omega
theorem wrdF_congr {f g : Nat → Bool} : ∀ d w, (∀ x, w ≤ x → x < w + d → f x = g x) → wrdF f d w = wrdF g d w := by
  intro d
  induction d with
  | zero => intro w _; rfl
  | succ d ih =>
    intro w h
    rw [wrdF, wrdF, h w (by omega) (by omega), ih (w + 1) (fun x h1 h2 => h x (by omega) (by omega))]
theorem sch_n : ∀ w, w < 5 → ∀ j, j < 4 → schar w (nI j) = nI (zc w j) := by decide +kernel
theorem isWord_run {C : Mm} {T : Nat → Nat} {n s w : Nat} (hT : txC C T n) (h3 : C 1 3 = nI s) (hw : w < 5) (hn : s + zlen.getD w 0 ≤ n) (h4 : zlen.getD w 0 ≤ 4) : ∀ d j, j + d = zlen.getD w 0 → run stX6_isWord (1, [w], [nI j], C) = some (bI (mt T s w d j), C) := by
  have h1 := hT.1
  intro d
  induction d with
  | zero =>
    intro j e
    rw [eX6_isWord_1, show slen w = nI (zlen.getD w 0) from rfl, if_pos (nI_le (by omega) (by omega))]; rfl
  | succ d ih =>
    intro j e
    have hx := hT.2.1 (s + j)
    have hz : zc w j < 256 := by
      have : ∀ w, w < 5 → ∀ j, j < 4 → zc w j < 256 := by decide +kernel
      exact this w hw j (by omega)
    rw [eX6_isWord_1, show slen w = nI (zlen.getD w 0) from rfl, if_neg (nI_ge (by omega) (by omega)), h3, nI_add, letter_c hT (by omega), cl_s, if_pos (by omega : s + j < n), gd_ok (by omega) (by omega), sch_n w hw j (by omega), mt]
    by_cases h5 : T (s + j) = zc w j
    · rw [if_pos (by rw [h5]), nI_1, ih (j + 1) (by omega), decide_eq_true h5, Bool.true_and]
    · rw [if_neg (fun z => h5 ((nI_eq (by omega) (by omega)).mp z)), decide_eq_false h5]; rfl
theorem isWord_c {C : Mm} {T : Nat → Nat} {n e w : Nat} (h : tkH C T n e) (hw : w < 5) : fX6_isWord w C = some (bI (iw T (tkS T n e) (tkK T n e) (tkE T n e) w), C) := by
  obtain ⟨hT, he, h3, h2, h4⟩ := h
  have h1 := hT.1
  have hk4 := kd_4 T n (tkS T n e)
  rw [← tkK] at hk4
  have a5 := tkE_le (T := T) he
  have z4 : zlen.getD w 0 ≤ 4 := by
    rcases (by omega : w = 0 ∨ w = 1 ∨ w = 2 ∨ w = 3 ∨ w = 4) with rfl | rfl | rfl | rfl | rfl <;> decide
  unfold fX6_isWord
  rw [eX6_isWord_0, h2, h3, h4, pk_sub (by omega), show slen w = nI (zlen.getD w 0) from rfl, iw]
  by_cases g1 : tkK T n e = 1
  · rw [if_pos (show nI (tkK T n e) = 1 by rw [g1]; rfl), decide_eq_true g1, Bool.true_and]
    by_cases g2 : tkE T n e - tkS T n e = zlen.getD w 0
    · rw [if_pos (by rw [g2]), decide_eq_true g2, Bool.true_and, n0, isWord_run hT h3 hw (by omega) z4 (zlen.getD w 0) 0 (by omega)]
    · rw [if_neg (fun z => g2 ((nI_eq (by omega) (by omega)).mp z)), decide_eq_false g2]; rfl
  · rw [if_neg (show ¬ nI (tkK T n e) = 1 from fun z => g1 ((nI_eq (b := 1) (by omega) (by decide)).mp z)), decide_eq_false g1]; rfl
theorem formOf_c {C : Mm} {T : Nat → Nat} {n e : Nat} (h : tkH C T n e) : fX0_formOf C = some (oI (wrd T n e), C) := by
  unfold fX0_formOf
  rw [isWord_c h (by decide), cl_s, isWord_c h (by decide), cl_s, isWord_c h (by decide), cl_s, isWord_c h (by decide), cl_s, isWord_c h (by decide), cl_s]
  unfold wrd
  generalize iw T (tkS T n e) (tkK T n e) (tkE T n e) = f
  simp only [wrdF, Nat.zero_add, Nat.reduceAdd]
  cases f 0 <;> cases f 1 <;> cases f 2 <;> cases f 3 <;> cases f 4 <;> rfl
