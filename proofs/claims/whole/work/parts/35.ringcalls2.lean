/-- add, in the reference -/
theorem radd_run {t s : Nat} {f : Nat → Int32} {v : Int32} (ht : t < 3) (hs : s < 8) (h1s : 1 ≤ s) : ∀ d x (D : Mm), x = 1 + d → x ≤ s → D 342 t = nI s → (∀ j, j ≤ x → j < s → D 343 (8 * t + j) = f j) → (∀ j, x < j → j ≤ s → D 343 (8 * t + j) = f (j - 1)) →
    ∃ D', run stX9_add (1, [], [nI t, v, nI x], D) = some (nI (s + 1), D') ∧ hasQ D' t (s + 1) (adF s f v) ∧ frQ D D' t := by
  intro d
  induction d with
  | zero =>
    intro x D e hx h1 h2 h3
    have e1 : x = 1 := by omega
    rw [e1] at h2 h3 ⊢
    rw [eX9_add_1, if_pos (show nI 1 ≤ 1 by decide)]
    simp (disch := omega) only [gd_ok, ix_nI, h1]
    rw [if_neg (nI_nle (by omega) (by omega)), eX9_add_2, n8, pk_mul, n1, nI_add]
    simp (disch := omega) only [gd_ok, ix_nI, rd_c, h1]
    rw [← n1, nI_1, up2_s]
    refine ⟨_, rfl, ⟨by omega, up2_s _ _ _ _, fun k hk => ?_⟩, ⟨fun z x1 y1 => by rw [up2_c x1, up2_c y1], fun j hj => by rw [rd_j hj, rd_c (by decide)], fun j hj => by rw [rd_c (by decide), rd_j (by omega)]⟩⟩
    rw [rd_c (by decide)]
    unfold adF
    rw [if_neg (by omega)]
    by_cases a0 : k = 0
    · rw [if_pos a0, a0, rd_j (by omega)]; exact h2 0 (by omega) (by omega)
    · rw [if_neg a0]
      by_cases a1 : k = 1
      · rw [if_pos a1, a1, up2_s]
      · rw [if_neg a1, rd_j (by omega)]; exact h3 k (by omega) (by omega)
  | succ d ih =>
    intro x D e hx h1 h2 h3
    have em : nI (8 * t + x) - (1 : Int32) = nI (8 * t + (x - 1)) := by rw [n1, pk_sub (by omega)]; congr 1; omega
    have em2 : nI x + (-1 : Int32) = nI (x - 1) := by rw [show x = (x - 1) + 1 by omega, pk_m1]; rfl
    rw [eX9_add_1, if_neg (by rw [n1]; exact nI_ge (by omega) (by omega)), n8, pk_mul, nI_add, em, em2]
    simp (disch := omega) only [gd_ok, ix_nI]
    obtain ⟨D', k1, k2, k3⟩ := ih (x - 1) (up2 D 343 (8 * t + x) (D 343 (8 * t + (x - 1)))) (by omega) (by omega) (by rw [rd_c (by decide)]; exact h1) (fun j hj hj2 => by rw [rd_j (by omega)]; exact h2 j (by omega) hj2) (fun j hj hj2 => by
      by_cases a0 : j = x
      · rw [a0, up2_s]; exact h2 (x - 1) (by omega) (by omega)
      · rw [rd_j (by omega)]; exact h3 j (by omega) hj2)
    exact ⟨D', k1, k2, frQ.tr ⟨fun z x1 y1 => up2_c y1, fun j hj => by rw [rd_c (by decide)], fun j hj => by rw [rd_j (by omega)]⟩ k3⟩
/-- add -/
theorem add_ok {C D : Mm} {rg : Rq} (x v : Int32) (h : RG C D rg) : okR (fX8_add x v) (fX9_add x v) C D := by
  have q9 : ∀ D : Mm, fX9_add x v D = run stX9_add (0, [], [x, v], D) := fun _ => rfl
  cases ho : okI x 3 with
  | false => exact okR_no (-2) h (by unfold fX8_add; rw [isRing_c, cl_s, ho, if_pos (show bI false = 0 from rfl)]) (by rw [q9, eX9_add_0, isRing_r, cl_s, ho, if_pos (show bI false = 0 from rfl)])
  | true =>
    obtain ⟨t, ht, rfl⟩ := okI_of ho (by decide)
    have r9 : ∀ D : Mm, fX9_add (nI t) v D = if bI (decide ((-999 : Int32) ≤ v) && decide (v ≤ 999)) = 0 then some (-3, D) else (if 0 ≤ (D 342 t) then (if (D 342 t) = (8 : Int32) then (some ((-13 : Int32), D)) else run stX9_add (1, [], [nI t, v, D 342 t], D)) else (some ((-11 : Int32), D))) := by
      intro D
      rw [q9, eX9_add_0, isRing_r, cl_s, ho, if_neg (show ¬ bI true = 0 by decide), in_w v (-999) 999 (by decide) (by decide), cl_s, gd_T, gd_T, gd_T, ix_nI (by omega)]
    have r8 : ∀ C : Mm, fX8_add (nI t) v C = if v < (-999 : Int32) then (some ((-3 : Int32), C)) else (if v ≤ (999 : Int32) then (if (C (20 + 2 * t) 3) = 0 then (if (C (20 + 2 * t) 1) < (8 : Int32) then (cl (fX3_insert (20 + 2 * t) v C) (fun _ M2 => some ((M2 (20 + 2 * t) 1), M2))) else (some ((-13 : Int32), C))) else (some ((-11 : Int32), C))) else (some ((-3 : Int32), C))) := by
      intro C
      unfold fX8_add
      rw [isRing_c, cl_s, ho, if_neg (show ¬ bI true = 0 by decide), gd_T, ix_nI (by omega)]
    by_cases v1 : v < (-999 : Int32)
    · exact okR_no (-3) h (by rw [r8, if_pos v1]) (by rw [r9, decide_eq_false (Int32.not_le.mpr v1), Bool.false_and, if_pos (show bI false = 0 from rfl)])
    · by_cases v2 : v ≤ (999 : Int32)
      · have e9 : ∀ D : Mm, fX9_add (nI t) v D = (if 0 ≤ (D 342 t) then (if (D 342 t) = (8 : Int32) then (some ((-13 : Int32), D)) else run stX9_add (1, [], [nI t, v, D 342 t], D)) else (some ((-11 : Int32), D))) := by
          intro D
          rw [r9, decide_eq_true (Int32.not_lt.mp v1), decide_eq_true v2, if_neg (show ¬ bI (true && true) = 0 by decide)]
        obtain ⟨a1, a2⟩ := h t ht
        cases hr : rg t with
        | none =>
          have b1 := a1.1 hr
          have b2 := a2.1 hr
          exact okR_no (-11) h (by rw [r8, if_neg v1, if_pos v2, b1.2, if_neg (by decide)]) (by rw [e9, b2, if_neg (by decide)])
        | some q =>
          obtain ⟨s, f⟩ := q
          have b1 := a1.2 s f hr
          have b2 := a2.2 s f hr
          have s8 := b1.1
          by_cases h8 : s = 8
          · refine okR_no (-13) h ?_ ?_
            · rw [r8, if_neg v1, if_pos v2, b1.2.2.1, if_pos rfl, b1.2.1, h8, if_neg (by decide)]
            · rw [e9, b2.2.1, h8, if_pos (by decide), if_pos (show nI 8 = (8 : Int32) from rfl)]
          · obtain ⟨C1, g1, g2, g3⟩ := insert_c v b1 (by omega)
            have p8 : fX8_add (nI t) v C = some (nI (s + 1), C1) := by
              rw [r8, if_neg v1, if_pos v2, b1.2.2.1, if_pos rfl, b1.2.1, n8, if_pos (nI_lt (by omega) (by decide)), g1, cl_s, g2.2.1]
            have ne8 : ¬ nI s = (8 : Int32) := fun z => by rw [n8] at z; exact h8 ((nI_eq (by omega) (by decide)).mp z)
            have p9 : ∃ D', fX9_add (nI t) v D = some (nI (s + 1), D') ∧ hasQ D' t (s + 1) (adF s f v) ∧ frQ D D' t := by
              rw [e9, b2.2.1, if_pos (nI_pos' (by omega)), if_neg ne8]
              by_cases hz : s = 0
              · rw [hz, eX9_add_1, if_pos (show nI 0 ≤ 1 by decide)]
                have z1 : D 342 t = nI 0 := by rw [b2.2.1, hz]
                simp (disch := omega) only [gd_ok, ix_nI, z1]
                rw [if_pos (show nI 0 ≤ 0 by decide), eX9_add_2, n8, pk_mul, n0, nI_add, Nat.add_zero]
                simp (disch := omega) only [gd_ok, ix_nI, rd_c, z1]
                rw [nI_1, up2_s]
                refine ⟨_, rfl, ⟨by decide, up2_s _ _ _ _, fun k hk => ?_⟩, ⟨fun z x1 y1 => by rw [up2_c x1, up2_c y1], fun j hj => by rw [rd_j hj, rd_c (by decide)], fun j hj => by rw [rd_c (by decide), rd_j (by omega)]⟩⟩
                have k0 : k = 0 := by omega
                unfold adF
                rw [if_pos rfl, rd_c (by decide), k0]
                exact up2_s _ _ _ _
              · exact radd_run ht (by omega) (by omega) (s - 1) s D (by omega) (Nat.le_refl _) b2.2.1 (fun j _ hj => b2.2.2 j hj) (fun j hj hj2 => by omega)
            obtain ⟨D1, k1, k2, k3⟩ := p9
            exact ⟨nI (s + 1), C1, D1, va_up rg t (some (s + 1, adF s f v)), p8, k1, RG_up h (some_go g2) (some_qo k2) g3 k3, frG_RC ht g3, frQ_RD k3⟩
      · exact okR_no (-3) h (by rw [r8, if_neg v1, if_neg v2]) (by rw [r9, decide_eq_false v2, Bool.and_false, if_pos (show bI false = 0 from rfl)])
/-- the reference's hand goes on n times -/
theorem rstep_run {t s n : Nat} {f : Nat → Int32} (ht : t < 3) (hs : 0 < s) (hn : n < 2 ^ 31) : ∀ d j (D : Mm), j + d = n → hasQ D t s (fun k => f ((k + j) % s)) → ∃ D', run stX9_step (1, [], [nI t, nI n, nI j], D) = some (f ((0 + n) % s) + 5000, D') ∧ hasQ D' t s (fun k => f ((k + n) % s)) ∧ frQ D D' t := by
  intro d
  induction d with
  | zero =>
    intro j D e hQ
    have e1 : j = n := by omega
    have h0 := hQ.2.2 0 hs
    rw [Nat.add_zero, e1] at h0
    rw [e1] at hQ ⊢
    rw [eX9_step_1, if_pos (nI_le (Nat.le_refl _) hn), n8, pk_mul]
    simp (disch := omega) only [gd_ok, ix_nI, h0]
    exact ⟨D, rfl, hQ, frQ.rf⟩
  | succ d ih =>
    intro j D e hQ
    rw [eX9_step_1, if_neg (nI_ge (by omega) hn)]
    obtain ⟨D1, g1, g2, g3⟩ := on_r ht hs hQ
    rw [g1, cl_s, nI_1]
    rw [ons_mod] at g2
    obtain ⟨D', k1, k2, k3⟩ := ih (j + 1) D1 (by omega) g2
    exact ⟨D', k1, k2, frQ.tr g3 k3⟩
/-- step -/
theorem step_ok {C D : Mm} {rg : Rq} (x y : Int32) (h : RG C D rg) : okR (fX8_step x y) (fX9_step x y) C D := by
  have q9 : ∀ D : Mm, fX9_step x y D = run stX9_step (0, [], [x, y], D) := fun _ => rfl
  cases ho : okI x 3 with
  | false => exact okR_no (-2) h (by unfold fX8_step; rw [isRing_c, cl_s, ho, if_pos (show bI false = 0 from rfl)]) (by rw [q9, eX9_step_0, isRing_r, cl_s, ho, if_pos (show bI false = 0 from rfl)])
  | true =>
    obtain ⟨t, ht, rfl⟩ := okI_of ho (by decide)
    have r9 : ∀ D : Mm, fX9_step (nI t) y D = if bI (okI y 100) = 0 then some (-3, D) else (if (1 : Int32) ≤ (D 342 t) then run stX9_step (1, [], [nI t, y, (0 : Int32)], D) else (if 0 ≤ (D 342 t) then (some ((-12 : Int32), D)) else (some ((-11 : Int32), D)))) := by
      intro D
      rw [q9, eX9_step_0, isRing_r, cl_s, ho, if_neg (show ¬ bI true = 0 by decide), in_w y 0 (nI 99) (by decide) (by decide), cl_s, rng_okI y (by decide), gd_T, gd_T, ix_nI (by omega)]
    have r8 : ∀ C : Mm, fX8_step (nI t) y C = if y < 0 then (some ((-3 : Int32), C)) else (if y ≤ (99 : Int32) then (if (C (20 + 2 * t) 1) = 0 then (cl (fX3_lack (20 + 2 * t) C) (fun r4 M4 => some (r4, M4))) else (cl (fX3_moveHand (20 + 2 * t) y C) (fun _ M2 => cl (fX3_atHand (20 + 2 * t) M2) (fun r3 M3 => some ((r3 + (5000 : Int32)), M3))))) else (some ((-3 : Int32), C))) := by
      intro C
      unfold fX8_step
      rw [isRing_c, cl_s, ho, if_neg (show ¬ bI true = 0 by decide), gd_T, ix_nI (by omega)]
    rcases okI_cases y (n := 100) (by decide) with ⟨y0, y1⟩ | ⟨n, hn, e, y1⟩ | ⟨y0, y2, y1⟩
    · exact okR_no (-3) h (by rw [r8, if_pos y0]) (by rw [r9, y1, if_pos (show bI false = 0 from rfl)])
    · obtain ⟨a1, a2⟩ := h t ht
      have e9 : ∀ D : Mm, fX9_step (nI t) y D = (if (1 : Int32) ≤ (D 342 t) then run stX9_step (1, [], [nI t, nI n, (0 : Int32)], D) else (if 0 ≤ (D 342 t) then (some ((-12 : Int32), D)) else (some ((-11 : Int32), D)))) := by
        intro D
        rw [r9, y1, if_neg (show ¬ bI true = 0 by decide), e]
      have e8 : ∀ C : Mm, fX8_step (nI t) y C = (if (C (20 + 2 * t) 1) = 0 then (cl (fX3_lack (20 + 2 * t) C) (fun r4 M4 => some (r4, M4))) else (cl (fX3_moveHand (20 + 2 * t) (nI n) C) (fun _ M2 => cl (fX3_atHand (20 + 2 * t) M2) (fun r3 M3 => some ((r3 + (5000 : Int32)), M3))))) := by
        intro C
        rw [r8, e, if_neg (nI_pos (by omega)), n99, if_pos (nI_le (by omega) (by decide))]
      cases hr : rg t with
      | none =>
        have b1 := a1.1 hr
        have b2 := a2.1 hr
        refine okR_no (-11) h ?_ ?_
        · rw [e8, b1.1, if_pos rfl]; unfold fX3_lack; rw [b1.2, if_neg (by decide)]; rfl
        · rw [e9, b2, if_neg (by decide), if_neg (by decide)]
      | some q =>
        obtain ⟨s, f⟩ := q
        have b1 := a1.2 s f hr
        have b2 := a2.2 s f hr
        have s8 := b1.1
        by_cases hz : s = 0
        · refine okR_no (-12) h ?_ ?_
          · rw [e8, b1.2.1, hz, if_pos (show nI 0 = 0 from rfl)]; unfold fX3_lack; rw [b1.2.2.1, if_pos rfl]; rfl
          · rw [e9, b2.2.1, hz, if_neg (by decide), if_pos (by decide)]
        · obtain ⟨C1, g1, g2, g3⟩ := move_c (n := n) b1 (by omega) (by omega)
          have q0 : hasQ D t s (fun k => f ((k + 0) % s)) := ⟨b2.1, b2.2.1, fun k hk => by show D 343 (8 * t + k) = f (k % s); rw [mod_lo hk]; exact b2.2.2 k hk⟩
          obtain ⟨D1, k1, k2, k3⟩ := rstep_run (f := f) ht (by omega : 0 < s) (by omega : n < 2 ^ 31) n 0 D (by omega) q0
          refine ⟨f ((0 + n) % s) + 5000, C1, D1, va_up rg t (some (s, fun k => f ((k + n) % s))), ?_, ?_, RG_up h (some_go g2) (some_qo k2) g3 k3, frG_RC ht g3, frQ_RD k3⟩
          · rw [e8, b1.2.1, if_neg (nI_ne0 (by omega) (by omega)), g1, cl_s, atHand_c g2 (by omega), cl_s]
          · rw [e9, b2.2.1, if_pos (by rw [n1]; exact nI_le (by omega) (by omega)), n0, k1]
    · have y3 : ¬ y ≤ (99 : Int32) := fun z => absurd (Int32.le_trans y2 z) (by decide)
      exact okR_no (-3) h (by rw [r8, if_neg y0, if_neg y3]) (by rw [r9, y1, if_pos (show bI false = 0 from rfl)])
