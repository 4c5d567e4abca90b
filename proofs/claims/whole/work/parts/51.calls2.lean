/-! round, cycle, die, link -/
theorem round_ok (x : Int32) : ∀ C D, RE C D → okK (fX8_round x) (fX9_round x) C D := by
  intro C D h
  have hE := h
  obtain ⟨S, H, K, rg, T, n, hA⟩ := h
  obtain ⟨⟨⟨hp, hw⟩, hN, hD⟩, -⟩ := id hA
  have h8 := hp.2.1
  cases ho : okI x S.1.1 with
  | false => exact okK_no (-2) hE (by unfold fX8_round; rw [has_c hp hN, cl_s, ho, if_pos (show bI false = 0 from rfl)]) (by unfold fX9_round; rw [isNode_r hp hD.2, cl_s, ho, if_pos (show bI false = 0 from rfl)])
  | true =>
    obtain ⟨j, hj, rfl⟩ := okI_of ho (by omega)
    cases hd : S.2.2.1 j with
    | true => exact okK_no (-4) hE (by unfold fX8_round; rw [has_c hp hN, cl_s, ho, if_neg (by decide), isAlive_c hp hN, cl_s, ho, ix_nI (by omega), hd, if_pos (show bI (true && !true) = 0 from rfl)]) (by unfold fX9_round; rw [isNode_r hp hD.2, cl_s, ho, if_neg (by decide), isDead0 hp hD hj, cl_s, hd, if_neg (by decide)])
    | false =>
      obtain ⟨C1, D1, p1, p2, hA1, o1⟩ := push_b hA
      obtain ⟨⟨-, hN1, hD1⟩, -⟩ := id hA1
      obtain ⟨C2, r2, v2, f2⟩ := round_c (by decide) hp hw hN1 hj
      obtain ⟨D2, r3, v3, f3⟩ := round_r (b := 0) (by decide) hp hw hD1.1 hD1.2 hj
      refine ⟨(rnd S.1 S.2 j).1, C2, D2, ?_, ?_, ⟨_, _, _, _, _, _, mkS hA1 (rnd_wf hp hw hj) v2 v3 f2 f3⟩, o1.tr (outs_f (by decide) f2 f3)⟩
      · unfold fX8_round
        rw [has_c hp hN, cl_s, ho, if_neg (by decide), isAlive_c hp hN, cl_s, ho, ix_nI (by omega), hd, if_neg (by decide), p1, cl_s, r2, cl_s]
      · unfold fX9_round
        rw [isNode_r hp hD.2, cl_s, ho, if_neg (by decide), isDead0 hp hD hj, cl_s, hd, if_pos (show bI false = 0 from rfl), p2, cl_s, show fX9_rounds 0 (nI j) D1 = _ from r3, cl_s]
theorem cycs_c {P : Pq} : ∀ c N, cycs P (c + 1) N = cyc P (cycs P c N) := by
  intro c
  induction c with
  | zero => intro N; rfl
  | succ c ih => intro N; rw [cycs, ih, ← cycs]
theorem rcyc_run {P : Pq} {m : Nat} {N0 : Nq} (hp : wfP P) (hw0 : wfN P N0) (hm : m < 2 ^ 31) : ∀ d k D, k + d = m → hasB D 0 P (cycs P k N0) → hasP D P →
    ∃ D', run stX9_cycle (1, [], [nI m, nI k], D) = some (nI (ent P (cycs P m N0)), D') ∧ hasB D' 0 P (cycs P m N0) ∧ frD D D' 0 := by
  intro d
  induction d with
  | zero =>
    intro k D e hB hP
    have hk : k = m := by omega
    subst hk
    refine ⟨D, ?_, hB, frD.rf⟩
    rw [eX9_cycle_1, if_pos (Int32.le_refl _), ent_r hp hB hP, cl_s]
  | succ d ih =>
    intro k D e hB hP
    obtain ⟨D1, r1, v1, f1⟩ := cycle_r (b := 0) (by decide) hp (cycs_wf hp k N0 hw0) hB hP
    obtain ⟨D2, r2, v2, f2⟩ := ih (k + 1) D1 (by omega) (by rw [cycs_c]; exact v1) (hasP_fr hP (f1.1 338 (by decide) (by decide) (by decide) (by decide) (by decide)))
    refine ⟨D2, ?_, v2, f1.tr f2⟩
    rw [eX9_cycle_1, if_neg (nI_ge (by omega) (by omega)), show fX9_cycles 0 D = _ from r1, cl_s, nI_1, r2]
theorem rng_1 (x : Int32) {m : Nat} (hm : m + 1 < 2 ^ 31) : (decide ((1 : Int32) ≤ x) && decide (x ≤ nI m)) = (okI x (m + 1) && !decide (x = 0)) := by
  rcases okI_cases x (n := m + 1) hm with ⟨h0, h2⟩ | ⟨j, hj, e, h2⟩ | ⟨h0, h1, h2⟩
  · rw [h2, decide_eq_false (fun z => absurd (Int32.lt_of_lt_of_le (show (0 : Int32) < 1 by decide) z) (Int32.not_lt.mpr (Int32.le_of_lt h0)))]; rfl
  · rw [h2, e]
    by_cases c : j = 0
    · rw [c]; rfl
    · rw [decide_eq_true (show (1 : Int32) ≤ nI j from nI_le (a := 1) (by omega) (by omega)), decide_eq_true (nI_le (by omega) (by omega)), decide_eq_false (nI_ne0 (by omega) (by omega))]; rfl
  · have h3 : ¬ x ≤ nI m := fun z => absurd (Int32.le_trans h1 z) (nI_ge (by omega) hm)
    rw [h2, decide_eq_false h3, Bool.and_false]; rfl
theorem cycle_ok (x : Int32) : ∀ C D, RE C D → okK (fX8_cycle x) (fX9_cycle x) C D := by
  intro C D h
  have hE := h
  obtain ⟨S, H, K, rg, T, n, hA⟩ := h
  obtain ⟨⟨⟨hp, hw⟩, hN, hD⟩, -⟩ := id hA
  have h8 := hp.2.1
  have e9 : ∀ b, (okI x 21 && !decide (x = 0)) = b → fX9_in x.toInt64 1 20 D = some (bI b, D) := fun b hb => by rw [in_w x 1 (nI 20) (by decide) (by decide), rng_1 x (by decide), hb]
  rcases okI_cases x (n := 21) (by decide) with ⟨c2, c3⟩ | ⟨k, hk, rfl, c3⟩ | ⟨c2, c4, c3⟩
  · refine okK_no (-3) hE ?_ ?_
    · unfold fX8_cycle
      rw [if_pos (Int32.lt_trans c2 (by decide))]
    · unfold fX9_cycle
      rw [eX9_cycle_0, e9 false (by rw [c3]; rfl), cl_s, if_pos (show bI false = 0 from rfl)]
  · by_cases hk0 : k = 0
    · refine okK_no (-3) hE ?_ ?_
      · unfold fX8_cycle
        rw [hk0, if_pos (by decide)]
      · unfold fX9_cycle
        rw [eX9_cycle_0, e9 false (by rw [hk0]; rfl), cl_s, if_pos (show bI false = 0 from rfl)]
    · obtain ⟨C1, D1, p1, p2, hA1, o1⟩ := push_b hA
      obtain ⟨⟨-, hN1, hD1⟩, -⟩ := id hA1
      have hw2 := cycs_wf hp k S.2 hw
      obtain ⟨C2, r2, v2, f2⟩ := cycles_c (m := k) (by decide) hp hw hN1 (by omega)
      obtain ⟨D2, r3, v3, f3⟩ := rcyc_run (m := k) hp hw (by omega) k 0 D1 (by omega) hD1.1 hD1.2
      refine ⟨nI (ent S.1 (cycs S.1 k S.2)), C2, D2, ?_, ?_, ⟨_, _, _, _, _, _, mkS hA1 hw2 v2 v3 f2 f3⟩, o1.tr (outs_f (by decide) f2 f3)⟩
      · unfold fX8_cycle
        rw [if_neg (show ¬ nI k < 1 from nI_nlt (b := 1) (by omega) (by omega)), if_pos (show nI k ≤ 20 from nI_le (b := 20) (by omega) (by decide)), p1, cl_s, r2, cl_s, ent_c hp hw2 v2, cl_s]
      · unfold fX9_cycle
        rw [eX9_cycle_0, e9 true (by rw [c3, decide_eq_false (nI_ne0 (by omega) (by omega))]; rfl), cl_s, if_neg (by decide), p2, cl_s, n0, r3]
  · refine okK_no (-3) hE ?_ ?_
    · unfold fX8_cycle
      rw [if_neg (show ¬ x < 1 from fun z => absurd (Int32.lt_of_le_of_lt c4 z) (show ¬ nI 21 < 1 by decide)), if_neg (show ¬ x ≤ 20 from fun z => absurd (Int32.le_trans c4 z) (show ¬ nI 21 ≤ 20 by decide))]
    · unfold fX9_cycle
      rw [eX9_cycle_0, e9 false (by rw [c3]; rfl), cl_s, if_pos (show bI false = 0 from rfl)]
/-- how many are alive -/
def onF (m : Nat) : Nat → Nat → Nat
  | 0, _ => 0
  | d + 1, k => (if m.testBit k then 1 else 0) + onF m d (k + 1)
theorem ones_run {D : Mm} {m : Nat} (hm : m < 256) : ∀ d k t, k + d = 8 → run stX9_ones (1, [], [nI m, nI t, nI k], D) = some (nI (t + onF m d k), D) := by
  intro d
  induction d with
  | zero =>
    intro k t e
    rw [eX9_ones_1, n8, if_pos (nI_le (by omega) (by omega))]; rfl
  | succ d ih =>
    intro k t e
    rw [eX9_ones_1, n8, if_neg (nI_ge (by omega) (by omega)), bt_test m hm k (by omega), nI_1, show bI (m.testBit k) = nI (if m.testBit k then 1 else 0) by cases m.testBit k <;> rfl, nI_add, ih (k + 1) _ (by omega), onF, Nat.add_assoc]
theorem ones_r {D : Mm} {m : Nat} (hm : m < 256) : fX9_ones (nI m) D = some (nI (onF m 8 0), D) := by
  unfold fX9_ones
  rw [eX9_ones_0, n0, ones_run hm 8 0 0 (by omega), Nat.zero_add]
theorem bc_ok : ∀ m, m < 256 → (fJ6_bitCount_0f7a4 (nI m) (fun _ _ => 0)).map (fun q => q.1) = some (nI (onF m 8 0)) := by
  unfold fJ6_bitCount_0f7a4
  decide +kernel
theorem bits_n {C : Mm} {m : Nat} (hm : m < 256) : fJ6_bitCount_0f7a4 (nI m) C = some (nI (onF m 8 0), C) := by
  have h := bc_ok m hm
  unfold fJ6_bitCount_0f7a4 at h ⊢
  rw [Option.map_some] at h
  exact congrArg (fun v => some (v, C)) (Option.some.inj h)
theorem inv_m : ∀ n, n < 9 → ∀ m, m < 256 → (nI m ^^^ (-1)) &&& (ish 1 (nI n) - 1) = nI ((255 ^^^ m) &&& (2 ^ n - 1)) := by decide +kernel
theorem alive_r {D : Mm} {P : Pq} {dd : Nat → Bool} (hp : wfP P) (h1 : D 338 1 = nI P.1) (h2 : D 339 1 = nI (msk dd P.1)) : fX9_alive 0 D = some (nI (msk (fun i => !dd i) P.1), D) := by
  have h8 := hp.2.1
  unfold fX9_alive
  rw [show okI ((0 : Int32) + 1) 1080 = true from rfl, gd_T, show ix ((0 : Int32) + 1) = 1 from rfl, h2, h1, inv_m P.1 (by omega) _ (msk_256 _ h8)]
  congr 3
  apply Nat.eq_of_testBit_eq
  intro j
  rw [Nat.testBit_and, Nat.testBit_xor, msk_bit, msk_bit, show (255 : Nat) = 2 ^ 8 - 1 from rfl, Nat.testBit_two_pow_sub_one, Nat.testBit_two_pow_sub_one]
  by_cases c : j < P.1
  · have c2 : j < 8 := by omega
    simp [c, c2]
  · simp [c]
theorem msk_flp {f : Nat → Bool} {n i : Nat} (hi : i < n) : msk f n ^^^ 2 ^ i = msk (va_up f i (!f i)) n := by
  apply Nat.eq_of_testBit_eq
  intro j
  rw [Nat.testBit_xor, msk_bit, msk_bit, Nat.testBit_two_pow]
  by_cases h : j = i
  · rw [h, va_up_self]; simp [hi]
  · have h2 : ¬ i = j := fun z => h z.symm
    rw [va_up_ne _ _ h]; simp [h2]
theorem die_ok (x y : Int32) : ∀ C D, RE C D → okK (fX8_die x y) (fX9_die x y) C D := by
  intro C D h
  have hE := h
  obtain ⟨S, H, K, rg, T, n, hA⟩ := h
  obtain ⟨⟨⟨hp, hw⟩, hN, hD⟩, -⟩ := id hA
  have h8 := hp.2.1
  cases ho : okI x S.1.1 with
  | false => exact okK_no (-2) hE (by unfold fX8_die; rw [has_c hp hN, cl_s, ho, if_pos (show bI false = 0 from rfl)]) (by unfold fX9_die; rw [isNode_r hp hD.2, cl_s, ho, if_pos (show bI false = 0 from rfl)])
  | true =>
    obtain ⟨j, hj, rfl⟩ := okI_of ho (by omega)
    have e9 : ∀ b, okI y 2 = b → fX9_in y.toInt64 0 1 D = some (bI b, D) := fun b hb => by rw [in_w y 0 (nI 1) (by decide) (by decide), rng_okI y (by decide), hb]
    have em : D 339 (ix 1) = nI (msk S.2.2.1 S.1.1) := hD.1.2.1
    rcases okI_cases y (n := 2) (by decide) with ⟨c2, c3⟩ | ⟨k, hk, rfl, c3⟩ | ⟨c2, c4, c3⟩
    · exact okK_no (-3) hE (by unfold fX8_die; rw [has_c hp hN, cl_s, ho, if_neg (by decide), if_pos c2]) (by unfold fX9_die; rw [isNode_r hp hD.2, cl_s, ho, if_neg (by decide), e9 false c3, cl_s, if_pos (show bI false = 0 from rfl)])
    · have hb : ∃ b : Bool, nI k = bI b := by
        rcases (by omega : k = 0 ∨ k = 1) with rfl | rfl
        · exact ⟨false, rfl⟩
        · exact ⟨true, rfl⟩
      obtain ⟨b, hb⟩ := hb
      rw [hb] at c3 e9 ⊢
      have hnb : ¬ bI b < 0 := by cases b <;> decide
      have hlb : bI b ≤ 1 := by cases b <;> decide
      by_cases hd : S.2.2.1 j = b
      · refine okK_no (-4) hE ?_ ?_
        · unfold fX8_die
          rw [has_c hp hN, cl_s, ho, if_neg (by decide), if_neg hnb, if_pos hlb, isAlive_c hp hN, cl_s, cl_s, ho, ix_nI (by omega), hd]
          cases b <;> rfl
        · unfold fX9_die
          rw [isNode_r hp hD.2, cl_s, ho, if_neg (by decide), e9 true c3, cl_s, if_neg (by decide), em, alive_bit hp hj, hd, if_pos rfl]
      · have hd2 : S.2.2.1 j = !b := by cases hb2 : S.2.2.1 j <;> cases b <;> simp_all
        obtain ⟨C1, D1, p1, p2, hA1, o1⟩ := push_b hA
        obtain ⟨⟨-, hN1, hD1⟩, -⟩ := id hA1
        obtain ⟨C2, r2, v2, f2⟩ := setAlive_c (i := j) (!b) hp hN1 hj
        have em1 : D1 339 (ix 1) = nI (msk S.2.2.1 S.1.1) := hD1.1.2.1
        rw [Bool.not_not] at v2
        have eD : D1 339 (ix 1) ^^^ ish 1 (nI j) = nI (msk (va_up S.2.2.1 j b) S.1.1) := by rw [em1, bt_one _ (by omega), fa_xor, msk_flp hj, hd2, Bool.not_not]
        have v3 : hasB (up2 D1 339 1 (nI (msk (va_up S.2.2.1 j b) S.1.1))) 0 S.1 (S.2.1, va_up S.2.2.1 j b, S.2.2.2) := ⟨by rw [rd_j (by decide)]; exact hD1.1.1, up2_s _ _ _ _, fun i hi => hasR_off (hD1.1.2.2 i hi) (fun q hq => rd_j (by unfold ofV at hq; omega))⟩
        have f3 : frD D1 (up2 D1 339 1 (nI (msk (va_up S.2.2.1 j b) S.1.1))) 0 := ⟨fun z h _ _ _ _ => up2_c h, fun q hq => rd_j (by omega)⟩
        have f2' : frC C1 C2 26 := fun z _ hz => f2 z (by omega)
        have h5 : C2 26 5 = nI (msk (fun i => !va_up S.2.2.1 j b i) S.1.1) := v2.2.2.2.2.1
        refine ⟨nI (onF (msk (fun i => !va_up S.2.2.1 j b i) S.1.1) 8 0), C2, up2 D1 339 1 (nI (msk (va_up S.2.2.1 j b) S.1.1)), ?_, ?_, ⟨_, _, _, _, _, _, mkS (N' := (S.2.1, va_up S.2.2.1 j b, S.2.2.2)) hA1 ⟨hw.1, hw.2.1, hw.2.2⟩ v2 v3 f2' f3⟩, o1.tr (outs_f (by decide) f2' f3)⟩
        · unfold fX8_die
          rw [has_c hp hN, cl_s, ho, if_neg (by decide), if_neg hnb, if_pos hlb, isAlive_c hp hN, cl_s, cl_s, ho, ix_nI (by omega), hd2]
          cases b with
          | false =>
            rw [if_pos (show bI false = 0 from rfl), if_neg (by decide), p1, cl_s, show fX1_setAlive 26 (nI j) 1 C1 = _ from r2, cl_s, h5, bits_n (msk_256 _ h8), cl_s]
          | true =>
            rw [if_neg (by decide), if_neg (by decide), p1, cl_s, show fX1_setAlive 26 (nI j) 0 C1 = _ from r2, cl_s, h5, bits_n (msk_256 _ h8), cl_s]
        · unfold fX9_die
          rw [isNode_r hp hD.2, cl_s, ho, if_neg (by decide), e9 true c3, cl_s, if_neg (by decide), em, alive_bit hp hj, hd2, if_neg (by cases b <;> decide), p2, cl_s, eD, show ix (1 : Int32) = 1 from rfl, alive_r (dd := va_up S.2.2.1 j b) hp (by rw [rd_c (by decide)]; exact hD1.2.1) (up2_s _ _ _ _), cl_s, ones_r (msk_256 _ h8), cl_s]
    · exact okK_no (-3) hE (by unfold fX8_die; rw [has_c hp hN, cl_s, ho, if_neg (by decide), if_neg c2, if_neg (show ¬ y ≤ 1 from fun z => nI_ge (a := 1) (b := 2) (by decide) (by decide) (Int32.le_trans c4 z))]) (by unfold fX9_die; rw [isNode_r hp hD.2, cl_s, ho, if_neg (by decide), e9 false c3, cl_s, if_pos (show bI false = 0 from rfl)])
