/-! calls on the net -/
theorem mkS {C D C' D' : Mm} {S : Pq × Nq} {H : Hq} {K : Nat → Option Nq} {rg : Rq} {T : Nat → Nat} {n : Nat} {N' : Nq} (h : RR C D S H K rg T n) (hw : wfN S.1 N') (hN : hasN C' 26 S.1 N') (hB : hasB D' 0 S.1 N') (fC : frC C C' 26) (fD : frD D D' 0) : RR C' D' (S.1, N') H K rg T n := by
  obtain ⟨h1, h2, h3, h4, h5⟩ := h
  have d338 := fD.1 338 (by decide) (by decide) (by decide) (by decide) (by decide)
  exact ⟨⟨⟨h1.1.1, hw⟩, hN, hB, hasP_fr h1.2.2.2 d338⟩, RH_fr h2 (fC _ (by omega) (by omega)) (fun z _ _ => fC z (by omega) (by omega)) (by rw [d338]) (fun j _ _ => fD.2 j (by omega)),
    fun k hk => kpt_fr hk (h3 k hk) (fC _ (by omega) (by omega)) (fD.1 _ (by decide) (by decide) (by decide) (by decide) (by decide)) (fun z _ _ => fC z (by omega) (by omega)) (fun j _ _ => fD.2 j (by omega)),
    RG_fr h4 (fun z _ _ => fC z (by omega) (by omega)) (fD.1 _ (by decide) (by decide) (by decide) (by decide) (by decide)) (fD.1 _ (by decide) (by decide) (by decide) (by decide) (by decide)),
    RT_fr h5 (by rw [fC 1 (by omega) (by omega)]) (fC _ (by omega) (by omega)) (by rw [d338]) (fD.1 _ (by decide) (by decide) (by decide) (by decide) (by decide)) (fD.1 _ (by decide) (by decide) (by decide) (by decide) (by decide))⟩
theorem mkT {C D C' D' : Mm} {S : Pq × Nq} {H : Hq} {K : Nat → Option Nq} {rg : Rq} {T : Nat → Nat} {n : Nat} (h : RR C D S H K rg T n) (fC : frC C C' 52) (fD : frD D D' 990) : RR C' D' S H K rg T n := by
  obtain ⟨h1, h2, h3, h4, h5⟩ := h
  have d338 := fD.1 338 (by decide) (by decide) (by decide) (by decide) (by decide)
  exact ⟨RS_fr h1 (fun z _ _ => fC z (by omega) (by omega)) (fun j _ _ => by rw [d338]) (fun j _ => fD.2 j (by omega)), RH_fr h2 (fC _ (by omega) (by omega)) (fun z _ _ => fC z (by omega) (by omega)) (by rw [d338]) (fun j _ _ => fD.2 j (by omega)),
    fun k hk => kpt_fr hk (h3 k hk) (fC _ (by omega) (by omega)) (fD.1 _ (by decide) (by decide) (by decide) (by decide) (by decide)) (fun z _ _ => fC z (by omega) (by omega)) (fun j _ _ => fD.2 j (by omega)),
    RG_fr h4 (fun z _ _ => fC z (by omega) (by omega)) (fD.1 _ (by decide) (by decide) (by decide) (by decide) (by decide)) (fD.1 _ (by decide) (by decide) (by decide) (by decide) (by decide)),
    RT_fr h5 (by rw [fC 1 (by omega) (by omega)]) (fC _ (by omega) (by omega)) (by rw [d338]) (fD.1 _ (by decide) (by decide) (by decide) (by decide) (by decide)) (fD.1 _ (by decide) (by decide) (by decide) (by decide) (by decide))⟩
/-- what is outside -/
def outs (C C' D D' : Mm) : Prop := (∀ z, 338 ≤ z → C' z = C z) ∧ ∀ z, z < 338 → D' z = D z
theorem outs.tr {C C1 C2 D D1 D2 : Mm} (h : outs C C1 D D1) (g : outs C1 C2 D1 D2) : outs C C2 D D2 := ⟨fun z x => (g.1 z x).trans (h.1 z x), fun z x => (g.2 z x).trans (h.2 z x)⟩
theorem outs_f {C C' D D' : Mm} {a b : Nat} (ha : a + 26 ≤ 338) (fC : frC C C' a) (fD : frD D D' b) : outs C C' D D' := ⟨fun z hz => fC z (by omega) (by omega), fun z hz => fD.1 z (by omega) (by omega) (by omega) (by omega) (by omega)⟩
theorem push_b {C D : Mm} {S : Pq × Nq} {H : Hq} {K : Nat → Option Nq} {rg : Rq} {T : Nat → Nat} {n : Nat} (h : RR C D S H K rg T n) : ∃ C1 D1, fX2_push 26 C = some (0, C1) ∧ fX9_keepPast D = some (0, D1) ∧ RR C1 D1 S (psh H S.2) K rg T n ∧ outs C C1 D D1 := by
  obtain ⟨h1, h2, h3, h4, h5⟩ := h
  obtain ⟨C1, r1, u1, f1⟩ := push_c h1.2.1 h2.1
  obtain ⟨D1, r2, u2, f2, g2, k2⟩ := keepPast_r h2.1.1 h1.2.2.1 h2.2.1
  have hw : ∀ k, k < (psh H S.2).1 → wfN S.1 ((psh H S.2).2 k) := by
    intro k hk
    have h8 := h2.1.1
    unfold psh at hk ⊢
    by_cases c : H.1 < 8
    · rw [if_pos c] at hk ⊢
      by_cases e : k = H.1
      · show wfN S.1 (va_up H.2 H.1 S.2 k)
        rw [e, va_up_self]; exact h1.1.2
      · show wfN S.1 (va_up H.2 H.1 S.2 k)
        rw [va_up_ne _ _ e]; exact h2.2.2 k (by have : k < H.1 + 1 := hk; omega)
    · rw [if_neg c] at hk ⊢
      by_cases e : k = 7
      · show wfN S.1 (va_up (fun k => H.2 (k + 1)) 7 S.2 k)
        rw [e, va_up_self]; exact h1.1.2
      · show wfN S.1 (va_up (fun k => H.2 (k + 1)) 7 S.2 k)
        rw [va_up_ne _ _ e]; exact h2.2.2 (k + 1) (by have : k < 8 := hk; omega)
  refine ⟨C1, D1, r1, r2, ⟨RS_fr h1 (fun z _ _ => f1 z (by omega) (by omega)) (fun j _ _ => g2 j (by omega)) (fun j _ => k2 j (by omega)), ⟨u1, u2, hw⟩, fun k hk => kpt_fr hk (h3 k hk) (f1 _ (by omega) (by omega)) (f2 _ (by decide) (by decide)) (fun z _ _ => f1 z (by omega) (by omega)) (fun j _ _ => k2 j (by omega)), RG_fr h4 (fun z _ _ => f1 z (by omega) (by omega)) (f2 _ (by decide) (by decide)) (f2 _ (by decide) (by decide)), RT_fr h5 (by rw [f1 1 (by omega) (by omega)]) (f1 _ (by omega) (by omega)) (g2 8 (by omega)) (f2 _ (by decide) (by decide)) (f2 _ (by decide) (by decide))⟩, fun z hz => f1 z (by omega) (by omega), fun z hz => f2 z (by omega) (by omega)⟩
theorem isDead0 {D : Mm} {S : Pq × Nq} {j : Nat} (hp : wfP S.1) (h : hasD D S) (hj : j < S.1.1) : fX9_isDead 0 (nI j) D = some (bI (S.2.2.1 j), D) := isDead_r (b := 0) (by decide) hp h.1 hj
/-- node -/
theorem node_ok (x y : Int32) : ∀ C D, RE C D → okK (fX8_node x y) (fX9_node x y) C D := by
  intro C D h
  have hE := h
  obtain ⟨S, H, K, rg, T, n, h1, h2, h3, h4, h5⟩ := h
  obtain ⟨⟨hp, hw⟩, hN, hD⟩ := h1
  have h8 := hp.2.1
  cases ho : okI x S.1.1 with
  | false => exact okK_no (-2) hE (by unfold fX8_node; rw [has_c hp hN, cl_s, ho, if_pos (show bI false = 0 from rfl)]) (by unfold fX9_node; rw [isNode_r hp hD.2, cl_s, ho, if_pos (show bI false = 0 from rfl)])
  | true =>
    obtain ⟨j, hj, rfl⟩ := okI_of ho (by omega)
    have hV := hN.2.2.2.2.2.2 j (by omega)
    have hR := hD.1.2.2 j (by omega)
    have e8 : fX8_node (nI j) y C = if y = (0 : Int32) then some (bI (!S.2.2.1 j), C) else if y = (1 : Int32) then some (bI (S.1.2.2.2 j), C) else if y = (2 : Int32) then some (nI (S.2.2.2 j).length, C) else if y = (3 : Int32) then some (nI (knw S.1 S.2 j), C) else if y = (4 : Int32) then some (bts (S.2.2.2 j), C) else some (-3, C) := by
      unfold fX8_node
      rw [has_c hp hN, cl_s, ho, if_neg (by decide), isAlive_c hp hN, cl_s, ho, isSly_c hp hN, cl_s, ho, ix_nI (by omega), hV.2.1, known_c hp hN, cl_s, bits_c hV, cl_s, gd_ok (by omega) (by decide), gd_ok (by omega) (by decide)]
      cases S.2.2.1 j <;> cases S.1.2.2.2 j <;> rfl
    have e9 : fX9_node (nI j) y D = if y = (0 : Int32) then some (bI (!S.2.2.1 j), D) else if y = (1 : Int32) then some (bI (S.1.2.2.2 j), D) else if y = (2 : Int32) then some (nI (S.2.2.2 j).length, D) else if y = (3 : Int32) then some (nI (knw S.1 S.2 j), D) else if y = (4 : Int32) then some (bts (S.2.2.2 j), D) else some (-3, D) := by
      have hm : D 339 (2 + j) = nI (S.2.2.2 j).length := by have := hR.2.1; rw [Nat.zero_add] at this; exact this
      unfold fX9_node
      rw [isNode_r hp hD.2, cl_s, ho, if_neg (by decide), isDead0 hp hD hj, cl_s, hD.2.2.2.2, alive_bit hp hj, n2, nI_add, ix_nI (by omega), hm, gd_ok (by omega) (by decide), show fX9_known 0 (nI j) D = _ from known_r (b := 0) (by decide) hp hw hD.1 hD.2 hj, cl_s, viewOf_r (by omega) hR, cl_s]
      cases S.2.2.1 j <;> rfl
    have : ∃ r, fX8_node (nI j) y C = some (r, C) ∧ fX9_node (nI j) y D = some (r, D) := by
      rw [e8, e9]
      repeat' split
      all_goals exact ⟨_, rfl, rfl⟩
    obtain ⟨r, a1, a2⟩ := this
    exact okK_no r hE a1 a2
/-- entry -/
theorem entry_ok (x y w : Int32) : ∀ C D, RE C D → okK (fX8_entry x y w) (fX9_entry x y w) C D := by
  intro C D h
  have hE := h
  obtain ⟨S, H, K, rg, T, n, h1, h2, h3, h4, h5⟩ := h
  obtain ⟨⟨hp, hw⟩, hN, hD⟩ := h1
  have h8 := hp.2.1
  cases ho : okI x S.1.1 with
  | false => exact okK_no (-2) hE (by unfold fX8_entry; rw [has_c hp hN, cl_s, ho, if_pos (show bI false = 0 from rfl)]) (by unfold fX9_entry; rw [isNode_r hp hD.2, cl_s, ho, if_pos (show bI false = 0 from rfl)])
  | true =>
    obtain ⟨j, hj, rfl⟩ := okI_of ho (by omega)
    have hV := hN.2.2.2.2.2.2 j (by omega)
    have hR := hD.1.2.2 j (by omega)
    have hm : D 339 (2 + j) = nI (S.2.2.2 j).length := by have := hR.2.1; rw [Nat.zero_add] at this; exact this
    have hl5 := hV.1
    have e8 : fX8_entry (nI j) y w C = if y < 0 then some (-3, C) else if okI w 2 = false then some (-3, C) else if y < nI (S.2.2.2 j).length then (if w = 0 then gd (okI y 5) (some (C (26 + 2 + 3 * j + 1) (ix y), C)) else gd (okI y 5) (some (C (26 + 2 + 3 * j + 2) (ix y), C))) else some (-1, C) := by
      unfold fX8_entry
      rw [has_c hp hN, cl_s, ho, if_neg (by decide), gd_ok (by omega) (by decide), ix_nI (by omega), hV.2.1]
      by_cases c1 : y < 0
      · rw [if_pos c1, if_pos c1]
      · rw [if_neg c1, if_neg c1]
        rcases okI_cases w (n := 2) (by decide) with ⟨c2, c3⟩ | ⟨k, hk, e, c3⟩ | ⟨c2, c4, c3⟩
        · rw [if_pos c2, if_pos c3]
        · rw [if_neg (show ¬ okI w 2 = false by rw [c3]; decide), e, if_neg (nI_pos (by omega)), n1, if_pos (nI_le (by omega) (by decide))]
        · rw [if_neg c2, if_pos c3, if_neg (show ¬ w ≤ 1 from fun z => nI_ge (a := 1) (b := 2) (by decide) (by decide) (Int32.le_trans c4 z))]
    have e9 : fX9_entry (nI j) y w D = if y < 0 then some (-3, D) else if okI w 2 = false then some (-3, D) else if y < nI (S.2.2.2 j).length then (if w = 0 then gd (okI (nI (10 + 5 * j) + y) 1080) (some (D 339 (ix (nI (10 + 5 * j) + y)), D)) else gd (okI (nI (50 + 5 * j) + y) 1080) (some (D 339 (ix (nI (50 + 5 * j) + y)), D))) else some (-1, D) := by
      unfold fX9_entry
      rw [isNode_r hp hD.2, cl_s, ho, if_neg (by decide), in_w w 0 (nI 1) (by decide) (by decide), cl_s, rng_okI w (by decide), n2, nI_add, gd_ok (by omega) (by decide), ix_nI (by omega), hm, n10, n5, n50, pk_mul, nI_add, nI_add]
      by_cases c1 : y < 0
      · rw [if_pos c1, if_neg (show ¬ (0 : Int32) ≤ y from Int32.not_le.mpr c1)]
        cases okI w (1 + 1) <;> rfl
      · rw [if_neg c1, if_pos (show (0 : Int32) ≤ y from Int32.not_lt.mp c1)]
        cases okI w (1 + 1) <;> rfl
    have : ∃ r, fX8_entry (nI j) y w C = some (r, C) ∧ fX9_entry (nI j) y w D = some (r, D) := by
      rw [e8, e9]
      by_cases c1 : y < 0
      · rw [if_pos c1, if_pos c1]; exact ⟨_, rfl, rfl⟩
      · rw [if_neg c1, if_neg c1]
        by_cases c2 : okI w 2 = false
        · rw [if_pos c2, if_pos c2]; exact ⟨_, rfl, rfl⟩
        · rw [if_neg c2, if_neg c2]
          by_cases c3 : y < nI (S.2.2.2 j).length
          · rw [if_pos c3, if_pos c3]
            obtain ⟨k, hk, rfl⟩ := nI_of c1
            have hkl : k < (S.2.2.2 j).length := (nI_ltI hk (by omega)).mp c3
            obtain ⟨q1, q2⟩ := hV.2.2 k hkl
            obtain ⟨q3, q4⟩ := hR.2.2 k hkl
            rw [nI_add, nI_add, gd_ok (by omega) (by decide), gd_ok (by omega) (by decide), gd_ok (by omega) (by decide), gd_ok (by omega) (by decide), ix_nI (by omega), ix_nI (by omega), ix_nI (by omega), q1, q2, show 10 + 5 * j + k = 0 + 10 + 5 * j + k by omega, show 50 + 5 * j + k = 0 + 50 + 5 * j + k by omega, q3, q4]
            split <;> exact ⟨_, rfl, rfl⟩
          · rw [if_neg c3, if_neg c3]; exact ⟨_, rfl, rfl⟩
    obtain ⟨r, a1, a2⟩ := this
    exact okK_no r hE a1 a2
