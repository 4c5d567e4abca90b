/-! the text: letters, tokens -/
theorem up2_up2 (M : Mm) (a k : Nat) (v w : Int32) : up2 (up2 M a k v) a k w = up2 M a k w := by
  funext b j
  by_cases h : b = a ∧ j = k
  · rw [up2_at, if_pos h, up2_at, if_pos h]
  · rw [up2_at, if_neg h, up2_at, if_neg h, up2_at, if_neg h]
theorem up2_id {M : Mm} {a k : Nat} {v : Int32} (h : M a k = v) : up2 M a k v = M := by
  funext b j
  rw [up2_at]
  by_cases hb : b = a ∧ j = k
  · rw [if_pos hb, hb.1, hb.2, h]
  · rw [if_neg hb]
def txC (C : Mm) (T : Nat → Nat) (n : Nat) : Prop := n ≤ 200 ∧ (∀ k, T k < 256) ∧ C 1 1 = nI n ∧ ∀ k, k < n → C 2 k = nI (T k)
def txD (D : Mm) (T : Nat → Nat) (n : Nat) : Prop := n ≤ 200 ∧ (∀ k, T k < 256) ∧ D 338 8 = nI n ∧ ∀ k, k < n → D 341 k = nI (T k)
def kdL (x : Nat) : Nat := if 97 ≤ x ∧ x ≤ 122 then 1 else if 48 ≤ x ∧ x ≤ 57 then 2 else if x = 59 then 3 else 4
def kd (T : Nat → Nat) (n p : Nat) : Nat := if p < n then kdL (T p) else 0
def skp (T : Nat → Nat) : Nat → Nat → Nat
  | 0, p => p
  | d + 1, p => if T p = 32 then skp T d (p + 1) else p
def rn (T : Nat → Nat) (k : Nat) : Nat → Nat → Nat
  | 0, p => p
  | d + 1, p => if kdL (T p) = k then rn T k d (p + 1) else p
def tkS (T : Nat → Nat) (n e : Nat) : Nat := skp T (n - e) e
def tkK (T : Nat → Nat) (n e : Nat) : Nat := kd T n (tkS T n e)
def tkE (T : Nat → Nat) (n e : Nat) : Nat := if tkS T n e < n then (if tkK T n e = 1 ∨ tkK T n e = 2 then rn T (tkK T n e) (n - (tkS T n e + 1)) (tkS T n e + 1) else tkS T n e + 1) else tkS T n e
theorem kdL_4 (x : Nat) : 1 ≤ kdL x ∧ kdL x ≤ 4 := by
  unfold kdL
  repeat' split
  all_goals omega
theorem kd_4 (T : Nat → Nat) (n p : Nat) : kd T n p ≤ 4 := by
  unfold kd
  split
  · exact (kdL_4 _).2
  · omega
theorem kd_0 (T : Nat → Nat) (n p : Nat) : kd T n p = 0 ↔ n ≤ p := by
  unfold kd
  have := kdL_4 (T p)
  split <;> omega
theorem skp_le (T : Nat → Nat) : ∀ d p, p ≤ skp T d p ∧ skp T d p ≤ p + d := by
  intro d
  induction d with
  | zero => intro p; rw [skp]; omega
  | succ d ih =>
    intro p
    rw [skp]
    have := ih (p + 1)
    split <;> omega
theorem rn_le (T : Nat → Nat) (k : Nat) : ∀ d p, p ≤ rn T k d p ∧ rn T k d p ≤ p + d := by
  intro d
  induction d with
  | zero => intro p; rw [rn]; omega
  | succ d ih =>
    intro p
    rw [rn]
    have := ih (p + 1)
    split <;> omega
theorem tkS_le {T : Nat → Nat} {n e : Nat} (h : e ≤ n) : tkS T n e ≤ n := by
  have := skp_le T (n - e) e
  unfold tkS; omega
theorem tkE_le {T : Nat → Nat} {n e : Nat} (h : e ≤ n) : tkS T n e ≤ tkE T n e ∧ tkE T n e ≤ n := by
  have h1 := tkS_le (T := T) h
  have h2 := rn_le T (tkK T n e) (n - (tkS T n e + 1)) (tkS T n e + 1)
  unfold tkE
  repeat' split
  all_goals omega
theorem txC_up {C : Mm} {T : Nat → Nat} {n k : Nat} {v : Int32} (h : txC C T n) (hk : k ≠ 1) : txC (up2 C 1 k v) T n := by
  refine ⟨h.1, h.2.1, ?_, fun j hj => ?_⟩
  · rw [rd_j (fun e => hk e.symm)]; exact h.2.2.1
  · rw [rd_c (by decide)]; exact h.2.2.2 j hj
theorem letter_c {C : Mm} {T : Nat → Nat} {n p : Nat} (h : txC C T n) (hp : p < 2 ^ 31) : fX6_letterAt (nI p) C = some (if p < n then nI (T p) else -1, C) := by
  have h1 := h.1
  unfold fX6_letterAt
  rw [if_neg (nI_pos hp), h.2.2.1]
  by_cases hn : p < n
  · rw [if_neg (nI_ge hn (by omega)), if_pos (show nI p < 200 from nI_lt (b := 200) (by omega) (by decide)), gd_ok (by omega) (by decide), ix_nI hp, h.2.2.2 p hn, if_pos hn]
  · rw [if_pos (nI_le (by omega) hp), if_neg hn]
theorem kind_c {C : Mm} {T : Nat → Nat} {n p : Nat} (h : txC C T n) (hp : p < 2 ^ 31) : fX6_kindAt (nI p) C = some (nI (kd T n p), C) := by
  unfold fX6_kindAt
  rw [letter_c h hp, cl_s, kd]
  by_cases hn : p < n
  · rw [if_pos hn, if_pos hn]
    have hx := h.2.1 p
    generalize T p = x at hx
    have e1 : nI x < 97 ↔ x < 97 := nI_ltI (b := 97) (by omega) (by decide)
    have e2 : nI x < 48 ↔ x < 48 := nI_ltI (b := 48) (by omega) (by decide)
    have e3 : (57 : Int32) < nI x ↔ 57 < x := nI_ltI (a := 57) (by decide) (by omega)
    have e4 : nI x = 59 ↔ x = 59 := nI_eq (b := 59) (by omega) (by decide)
    have e5 : (122 : Int32) < nI x ↔ 122 < x := nI_ltI (a := 122) (by decide) (by omega)
    rw [if_neg (nI_nm1 (by omega))]
    simp only [e1, e2, e3, e4, e5, kdL]
    repeat' split
    all_goals first | rfl | omega
  · rw [if_neg hn, if_neg hn, if_pos rfl]; rfl
theorem tok1_c {T : Nat → Nat} {n : Nat} : ∀ d p (C : Mm), p + d = n → txC C T n → C 1 3 = nI p → run stX6_readToken (1, [], [], C) = run stX6_readToken (2, [], [], up2 C 1 3 (nI (skp T d p))) := by
  intro d
  induction d with
  | zero =>
    intro p C e h hs
    have h1 := h.1
    rw [eX6_readToken_1, h.2.2.1, hs, if_pos (nI_le (by omega) (by omega)), skp, up2_id hs]
  | succ d ih =>
    intro p C e h hs
    have h1 := h.1
    have h2 := h.2.1 p
    rw [eX6_readToken_1, h.2.2.1, hs, if_neg (nI_ge (by omega) (by omega)), letter_c h (by omega), cl_s, if_pos (by omega : p < n), skp]
    by_cases h3 : T p = 32
    · rw [if_pos h3, if_pos (show nI (T p) = 32 by rw [h3]; rfl), hs, nI_1, ih (p + 1) _ (by omega) (txC_up h (by decide)) (up2_s _ _ _ _), up2_up2]
    · rw [if_neg h3, if_neg (show ¬ nI (T p) = 32 from fun z => h3 ((nI_eq (b := 32) (by omega) (by decide)).mp z)), up2_id hs]
theorem tok3_c {T : Nat → Nat} {n k : Nat} (hk : k ≤ 4) : ∀ d p (C : Mm), p + d = n → txC C T n → C 1 4 = nI p → C 1 2 = nI k → run stX6_readToken (3, [], [1], C) = some (0, up2 C 1 4 (nI (rn T k d p))) := by
  intro d
  induction d with
  | zero =>
    intro p C e h hs hq
    have h1 := h.1
    rw [eX6_readToken_3, if_neg (by decide), h.2.2.1, hs, if_pos (nI_le (by omega) (by omega)), rn, up2_id hs]
  | succ d ih =>
    intro p C e h hs hq
    have h1 := h.1
    have h4 := kdL_4 (T p)
    rw [eX6_readToken_3, if_neg (by decide), h.2.2.1, hs, if_neg (nI_ge (by omega) (by omega)), kind_c h (by omega), cl_s, rn, hq, kd, if_pos (by omega : p < n)]
    by_cases h3 : kdL (T p) = k
    · rw [if_pos h3, if_pos (by rw [h3]), hs, nI_1, ih (p + 1) _ (by omega) (txC_up h (by decide)) (up2_s _ _ _ _) (by rw [rd_j (by decide)]; exact hq), up2_up2]
    · rw [if_neg h3, if_neg (fun z => h3 ((nI_eq (by omega) (by omega)).mp z)), up2_id hs]
def tkC (C : Mm) (T : Nat → Nat) (n e : Nat) : Mm := up2 (up2 (up2 C 1 3 (nI (tkS T n e))) 1 2 (nI (tkK T n e))) 1 4 (nI (tkE T n e))
theorem readTok_c {C : Mm} {T : Nat → Nat} {n e : Nat} (h : txC C T n) (he : e ≤ n) (h4 : C 1 4 = nI e) : fX6_readToken C = some (0, tkC C T n e) := by
  have h1 := h.1
  have hs := tkS_le (T := T) he
  have hk := kd_4 T n (tkS T n e)
  unfold fX6_readToken tkC
  rw [eX6_readToken_0, tok1_c (n - e) e _ (by omega) (txC_up h (by decide)) (by rw [up2_s, h4]), up2_up2, eX6_readToken_2, up2_s, ← tkS, kind_c (txC_up h (by decide)) (by omega), cl_s, ← tkK]
  have hi : imin (nI (tkS T n e) + 1) (nI n) = nI (if tkS T n e < n then tkS T n e + 1 else tkS T n e) := by
    rw [nI_1, imin_n (by omega) (by omega)]
    congr 1
    split <;> omega
  simp (disch := decide) only [rd_j, up2_s, h.2.2.1, hi]
  have hT : txC (up2 (up2 (up2 C 1 3 (nI (tkS T n e))) 1 2 (nI (tkK T n e))) 1 4 (nI (if tkS T n e < n then tkS T n e + 1 else tkS T n e))) T n := txC_up (txC_up (txC_up h (by decide)) (by decide)) (by decide)
  have e1 : nI (tkK T n e) = 1 ↔ tkK T n e = 1 := nI_eq (b := 1) (by rw [tkK]; omega) (by decide)
  have e2 : nI (tkK T n e) = 2 ↔ tkK T n e = 2 := nI_eq (b := 2) (by rw [tkK]; omega) (by decide)
  by_cases h3 : tkK T n e = 1 ∨ tkK T n e = 2
  · have h5 : tkS T n e < n := by
      apply Classical.byContradiction
      intro z
      have := (kd_0 T n (tkS T n e)).mpr (by omega)
      rw [← tkK] at this
      omega
    have hr := tok3_c (T := T) (n := n) (k := tkK T n e) (by rw [tkK]; exact hk) (n - (tkS T n e + 1)) (tkS T n e + 1) _ (by omega) hT (by rw [up2_s, if_pos h5]) (by rw [rd_j (by decide), up2_s])
    rw [if_pos h5, up2_up2] at hr
    rw [if_pos h5]
    have h6 : tkE T n e = rn T (tkK T n e) (n - (tkS T n e + 1)) (tkS T n e + 1) := by rw [tkE, if_pos h5, if_pos h3]
    rw [h6]
    rcases h3 with h3 | h3
    · rw [if_pos (e1.mpr h3), hr]
    · rw [if_neg (fun z => by rw [e1] at z; omega), if_pos (e2.mpr h3), hr]
  · have h6 : tkE T n e = if tkS T n e < n then tkS T n e + 1 else tkS T n e := by rw [tkE, if_neg h3]
    rw [if_neg (fun z => h3 (Or.inl (e1.mp z))), if_neg (fun z => h3 (Or.inr (e2.mp z))), eX6_readToken_3, if_pos rfl, h6]
