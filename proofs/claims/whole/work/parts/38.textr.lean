/-! tokens of the reference -/
theorem txD_up {D : Mm} {T : Nat → Nat} {n k : Nat} {v : Int32} (h : txD D T n) (hk : k ≠ 8) : txD (up2 D 338 k v) T n := by
  refine ⟨h.1, h.2.1, ?_, fun j hj => ?_⟩
  · rw [rd_j (fun e => hk e.symm)]; exact h.2.2.1
  · rw [rd_c (by decide)]; exact h.2.2.2 j hj
theorem small_r {D : Mm} {x : Nat} (hx : x < 256) : fX9_isSmall (nI x) D = some (bI (decide (kdL x = 1)), D) := by
  unfold fX9_isSmall
  rw [in_w (nI x) (nI 97) (nI 122) (by decide) (by decide), cl_s, gd_t (okZ_bI _)]
  have e1 : nI 97 ≤ nI x ↔ 97 ≤ x := nI_leI (by decide) (by omega)
  have e2 : nI x ≤ nI 122 ↔ x ≤ 122 := nI_leI (by omega) (by decide)
  have e3 : (kdL x = 1) ↔ (97 ≤ x ∧ x ≤ 122) := by
    unfold kdL
    repeat' split
    all_goals omega
  simp only [e1, e2, e3, Bool.decide_and]
theorem digit_r {D : Mm} {x : Nat} (hx : x < 256) : fX9_isDigit (nI x) D = some (bI (decide (kdL x = 2)), D) := by
  unfold fX9_isDigit
  rw [in_w (nI x) (nI 48) (nI 57) (by decide) (by decide), cl_s, gd_t (okZ_bI _)]
  have e1 : nI 48 ≤ nI x ↔ 48 ≤ x := nI_leI (by decide) (by omega)
  have e2 : nI x ≤ nI 57 ↔ x ≤ 57 := nI_leI (by omega) (by decide)
  have e3 : (kdL x = 2) ↔ (48 ≤ x ∧ x ≤ 57) := by
    unfold kdL
    repeat' split
    all_goals omega
  simp only [e1, e2, e3, Bool.decide_and]
theorem tok1_r {T : Nat → Nat} {n : Nat} : ∀ d p (D : Mm), p + d = n → txD D T n → D 338 11 = nI p → run stX9_nextToken (1, [], [], D) = run stX9_nextToken (2, [], [], up2 D 338 11 (nI (skp T d p))) := by
  intro d
  induction d with
  | zero =>
    intro p D e h hs
    have h1 := h.1
    rw [eX9_nextToken_1, h.2.2.1, hs, if_pos (nI_le (by omega) (by omega)), skp, up2_id hs]
  | succ d ih =>
    intro p D e h hs
    have h1 := h.1
    have h2 := h.2.1 p
    rw [eX9_nextToken_1, h.2.2.1, hs, if_neg (nI_ge (by omega) (by omega)), gd_ok (by omega) (by decide), ix_nI (by omega), h.2.2.2 p (by omega), skp]
    by_cases h3 : T p = 32
    · rw [if_pos h3, if_pos (show nI (T p) = 32 by rw [h3]; rfl), nI_1, ih (p + 1) _ (by omega) (txD_up h (by decide)) (up2_s _ _ _ _), up2_up2]
    · rw [if_neg h3, if_neg (show ¬ nI (T p) = 32 from fun z => h3 ((nI_eq (b := 32) (by omega) (by decide)).mp z)), up2_id hs]
theorem tok4_r {T : Nat → Nat} {n : Nat} : ∀ d p (D : Mm), p + d = n → txD D T n → D 338 12 = nI p → run stX9_nextToken (4, [], [], D) = some (0, up2 D 338 12 (nI (rn T 1 d p))) := by
  intro d
  induction d with
  | zero =>
    intro p D e h hs
    have h1 := h.1
    rw [eX9_nextToken_4, h.2.2.1, hs, if_pos (nI_le (by omega) (by omega)), rn, up2_id hs]
  | succ d ih =>
    intro p D e h hs
    have h1 := h.1
    rw [eX9_nextToken_4, h.2.2.1, hs, if_neg (nI_ge (by omega) (by omega)), gd_ok (by omega) (by decide), ix_nI (by omega), h.2.2.2 p (by omega), small_r (h.2.1 p), cl_s, rn]
    by_cases h3 : kdL (T p) = 1
    · rw [if_pos h3, decide_eq_true h3, if_neg (by decide), hs, nI_1, ih (p + 1) _ (by omega) (txD_up h (by decide)) (up2_s _ _ _ _), up2_up2]
    · rw [if_neg h3, decide_eq_false h3, if_pos (show bI false = 0 from rfl), up2_id hs]
theorem tok6_r {T : Nat → Nat} {n : Nat} : ∀ d p (D : Mm), p + d = n → txD D T n → D 338 12 = nI p → run stX9_nextToken (6, [], [], D) = some (0, up2 D 338 12 (nI (rn T 2 d p))) := by
  intro d
  induction d with
  | zero =>
    intro p D e h hs
    have h1 := h.1
    rw [eX9_nextToken_6, h.2.2.1, hs, if_pos (nI_le (by omega) (by omega)), rn, up2_id hs]
  | succ d ih =>
    intro p D e h hs
    have h1 := h.1
    rw [eX9_nextToken_6, h.2.2.1, hs, if_neg (nI_ge (by omega) (by omega)), gd_ok (by omega) (by decide), ix_nI (by omega), h.2.2.2 p (by omega), digit_r (h.2.1 p), cl_s, rn]
    by_cases h3 : kdL (T p) = 2
    · rw [if_pos h3, decide_eq_true h3, if_neg (by decide), hs, nI_1, ih (p + 1) _ (by omega) (txD_up h (by decide)) (up2_s _ _ _ _), up2_up2]
    · rw [if_neg h3, decide_eq_false h3, if_pos (show bI false = 0 from rfl), up2_id hs]
def tkD (D : Mm) (T : Nat → Nat) (n e : Nat) : Mm := up2 (up2 D 338 11 (nI (tkS T n e))) 338 12 (nI (tkE T n e))
theorem nextTok_r {D : Mm} {T : Nat → Nat} {n e : Nat} (h : txD D T n) (he : e ≤ n) (h4 : D 338 12 = nI e) : fX9_nextToken D = some (0, tkD D T n e) := by
  have h1 := h.1
  have hs := tkS_le (T := T) he
  have hT : ∀ v, txD (up2 (up2 D 338 11 (nI (tkS T n e))) 338 12 v) T n := fun v => txD_up (txD_up h (by decide)) (by decide)
  unfold fX9_nextToken tkD
  rw [eX9_nextToken_0, tok1_r (n - e) e _ (by omega) (txD_up h (by decide)) (by rw [up2_s, h4]), up2_up2, ← tkS, eX9_nextToken_2, up2_s, rd_j (by decide), h.2.2.1]
  by_cases h5 : tkS T n e < n
  · have hx := h.2.1 (tkS T n e)
    have hkk : tkK T n e = kdL (T (tkS T n e)) := by rw [tkK, kd, if_pos h5]
    have h6 : tkE T n e = if kdL (T (tkS T n e)) = 1 ∨ kdL (T (tkS T n e)) = 2 then rn T (kdL (T (tkS T n e))) (n - (tkS T n e + 1)) (tkS T n e + 1) else tkS T n e + 1 := by rw [tkE, if_pos h5, hkk]
    rw [if_neg (nI_ge h5 (by omega)), nI_1, eX9_nextToken_3, rd_j (by decide), rd_j (by decide), h.2.2.1, rd_j (by decide), up2_s, if_neg (nI_ge h5 (by omega)), gd_ok (by omega) (by decide), ix_nI (by omega), rd_c (by decide), rd_c (by decide), h.2.2.2 _ h5, small_r hx, cl_s, h6]
    by_cases h7 : kdL (T (tkS T n e)) = 1
    · rw [decide_eq_true h7, if_neg (by decide), tok4_r (n - (tkS T n e + 1)) (tkS T n e + 1) _ (by omega) (hT _) (up2_s _ _ _ _), up2_up2, if_pos (Or.inl h7), h7]
    · rw [decide_eq_false h7, if_pos (show bI false = 0 from rfl), eX9_nextToken_5, rd_j (by decide), rd_j (by decide), h.2.2.1, rd_j (by decide), up2_s, if_neg (nI_ge h5 (by omega)), gd_ok (by omega) (by decide), ix_nI (by omega), rd_c (by decide), rd_c (by decide), h.2.2.2 _ h5, digit_r hx, cl_s]
      by_cases h8 : kdL (T (tkS T n e)) = 2
      · rw [decide_eq_true h8, if_neg (by decide), tok6_r (n - (tkS T n e + 1)) (tkS T n e + 1) _ (by omega) (hT _) (up2_s _ _ _ _), up2_up2, if_pos (Or.inr h8), h8]
      · rw [decide_eq_false h8, if_pos (show bI false = 0 from rfl), if_neg (by omega)]
  · have h6 : tkE T n e = tkS T n e := by rw [tkE, if_neg h5]
    rw [if_pos (nI_le (by omega) (by omega)), eX9_nextToken_3, rd_j (by decide), rd_j (by decide), h.2.2.1, rd_j (by decide), up2_s, if_pos (nI_le (by omega) (by omega)), eX9_nextToken_5, rd_j (by decide), rd_j (by decide), h.2.2.1, rd_j (by decide), up2_s, if_pos (nI_le (by omega) (by omega)), h6]
