/-! next, forgotten, spread -/
theorem try_b {C D : Mm} {S : Pq × Nq} {H : Hq} {K : Nat → Option Nq} {rg : Rq} {T : Nat → Nat} {n : Nat} (h : RR C D S H K rg T n) : ∃ C1 D1, fX1_copyFrom 52 26 C = some (0, C1) ∧ fX9_copyRow 0 990 D = some (0, D1) ∧ RR C1 D1 S H K rg T n ∧ hasN C1 52 S.1 S.2 ∧ hasB D1 990 S.1 S.2 ∧ outs C C1 D D1 := by
  obtain ⟨⟨⟨hp, hw⟩, hN, hD⟩, -⟩ := id h
  obtain ⟨C1, r1, v1, f1⟩ := ncopy_c (a := 52) (b := 26) (by omega) hN
  obtain ⟨D1, r2, f2, g2, k2⟩ := copyRow_r (D := D) (x := 0) (y := 990) (by omega) (by omega) (by omega)
  have fC : frC C C1 52 := fun z _ hz => f1 z hz
  have fD : frD D D1 990 := ⟨fun z q _ _ _ _ => f2 z q, fun j hj => g2 j hj⟩
  exact ⟨C1, D1, r1, r2, mkT h fC fD, v1, hasB_mv hD.1 (fun j hj => k2 j hj), outs_f (by decide) fC fD⟩
theorem rnd_1 {P : Pq} {N : Nq} {i : Nat} (hp : wfP P) (hw : wfN P N) (hi : i < P.1) : (rnd P N i).1 = match old ((N.2.2 i).map agd) with
    | none => -1
    | some p => (((N.2.2 i).map agd).getD p d0).1 := by
  cases ho : old ((N.2.2 i).map agd) with
  | none => rw [rnd_none ho]
  | some p =>
    have h1 := wfV_q hp (hw.2.1 i hi) (old_lt ho)
    rw [rnd_some ho rfl]
    exact h1.2.2.symm
theorem eOK_of {P : Pq} {i : Nat} {l : Vw} (hp : wfP P) (h : wfV P i l) : ∀ e ∈ l, eOK e := by
  intro e he
  obtain ⟨x, g, h1, h2, h3, h4⟩ := h.2.1 e he
  have h8 := hp.2.1
  exact ⟨x, g, by omega, h3, h4⟩
theorem next_ok (x : Int32) : ∀ C D, RE C D → okK (fX8_next x) (fX9_next x) C D := by
  intro C D h
  have hE := h
  obtain ⟨S, H, K, rg, T, n, hA⟩ := h
  obtain ⟨⟨⟨hp, hw⟩, hN, hD⟩, -⟩ := id hA
  have h8 := hp.2.1
  cases ho : okI x S.1.1 with
  | false => exact okK_no (-2) hE (by unfold fX8_next; rw [has_c hp hN, cl_s, ho, if_pos (show bI false = 0 from rfl)]) (by unfold fX9_next; rw [isNode_r hp hD.2, cl_s, ho, if_pos (show bI false = 0 from rfl)])
  | true =>
    obtain ⟨j, hj, rfl⟩ := okI_of ho (by omega)
    cases hd : S.2.2.1 j with
    | true => exact okK_no (-4) hE (by unfold fX8_next; rw [has_c hp hN, cl_s, ho, if_neg (by decide), isAlive_c hp hN, cl_s, ho, ix_nI (by omega), hd, if_pos (show bI (true && !true) = 0 from rfl)]) (by unfold fX9_next; rw [isNode_r hp hD.2, cl_s, ho, if_neg (by decide), isDead0 hp hD hj, cl_s, hd, if_neg (by decide)])
    | false =>
      obtain ⟨C1, D1, p1, p2, hA1, n1', b1', o1⟩ := try_b hA
      obtain ⟨C2, r2, v2, f2⟩ := round_c (by decide) hp hw n1' hj
      have hwj := hw.2.1 j hj
      obtain ⟨D2, r3, v3, f3⟩ := ages_r (b := 990) (by decide) (by omega) (b1'.2.2 j (by omega)) (eOK_of hp hwj)
      have hol := oldest_r (b := 990) (by decide) (by omega) v3 (eOK_of hp (wfV_agd hwj))
      have fD : frD D1 D2 990 := ⟨fun z q _ _ _ _ => f3.1 z q, fun q hq => f3.2 q (fun z => by unfold ofV at z; omega)⟩
      refine ⟨(rnd S.1 S.2 j).1, C2, D2, ?_, ?_, ⟨_, _, _, _, _, _, mkT hA1 f2 fD⟩, o1.tr (outs_f (by decide) f2 fD)⟩
      · unfold fX8_next
        rw [has_c hp hN, cl_s, ho, if_neg (by decide), isAlive_c hp hN, cl_s, ho, ix_nI (by omega), hd, if_neg (by decide), p1, cl_s, r2, cl_s]
      · unfold fX9_next
        rw [isNode_r hp hD.2, cl_s, ho, if_neg (by decide), isDead0 hp hD hj, cl_s, hd, if_pos (show bI false = 0 from rfl), p2, cl_s, show fX9_ages 990 (nI j) D1 = _ from r3, cl_s, show fX9_oldest 990 (nI j) D2 = _ from hol, cl_s, rnd_1 hp hw hj]
        cases hol2 : old ((S.2.2.2 j).map agd) with
        | none => rw [show oI none = -1 from rfl, if_pos rfl]
        | some p =>
          have hpl := old_lt hol2
          have hl5 := v3.1
          rw [show oI (some p) = nI p from rfl, if_neg (nI_nm1 (by omega)), show (1000 : Int32) = nI 1000 from rfl, n5, pk_mul, nI_add, nI_add, gd_ok (by omega) (by decide), ix_nI (by omega), show 1000 + 5 * j + p = 990 + 10 + 5 * j + p by omega, (v3.2.2 p hpl).1]
theorem hasP_D {D D' : Mm} {P : Pq} {b : Nat} (h : hasP D P) (f : frD D D' b) : hasP D' P := hasP_fr h (f.1 338 (by decide) (by decide) (by decide) (by decide) (by decide))
def fgF (P : Pq) (j : Nat) : Nat → Nat → Nq → Int32
  | 0, k, N => if knw P N j = 0 then nI k else -1
  | d + 1, k, N => if knw P N j = 0 then nI k else fgF P j d (k + 1) (cyc P N)
theorem cycs_1 {P : Pq} {N : Nq} : cycs P 1 N = cyc P N := rfl
theorem fg_run {P : Pq} {j : Nat} (hp : wfP P) (hj : j < P.1) : ∀ d k C N, k + d = 60 → wfN P N → hasN C 52 P N → ∃ C', run stX8_forgotten (1, [], [nI j, nI k], C) = some (fgF P j d k N, C') ∧ frC C C' 52 := by
  have h8 := hp.2.1
  intro d
  induction d with
  | zero =>
    intro k C N e hw hN
    have hk8 := knw_8 (N := N) (j := j) hp
    obtain ⟨C1, r1, v1, f1⟩ := cycles_c (m := 1) (by decide) hp hw hN (by decide)
    rw [eX8_forgotten_1, if_neg (show ¬ (60 : Int32) < nI k from nI_nlt (b := k) (a := 60) (by omega) (by omega)), known_c hp hN, cl_s, fgF]
    by_cases h0 : knw P N j = 0
    · rw [h0, if_pos (show nI 0 = 0 from rfl), if_pos rfl]; exact ⟨C, rfl, frC.rf⟩
    · rw [if_neg (nI_ne0 (by omega) (by omega)), if_neg h0, show fX5_cyclesOf 52 1 C = _ from r1, cl_s, nI_1, eX8_forgotten_1, if_pos (show (60 : Int32) < nI (k + 1) from nI_lt (a := 60) (by omega) (by omega))]
      exact ⟨C1, rfl, f1⟩
  | succ d ih =>
    intro k C N e hw hN
    have hk8 := knw_8 (N := N) (j := j) hp
    obtain ⟨C1, r1, v1, f1⟩ := cycles_c (m := 1) (by decide) hp hw hN (by decide)
    rw [eX8_forgotten_1, if_neg (show ¬ (60 : Int32) < nI k from nI_nlt (b := k) (a := 60) (by omega) (by omega)), known_c hp hN, cl_s, fgF]
    by_cases h0 : knw P N j = 0
    · rw [h0, if_pos (show nI 0 = 0 from rfl), if_pos rfl]; exact ⟨C, rfl, frC.rf⟩
    · rw [if_neg (nI_ne0 (by omega) (by omega)), if_neg h0, show fX5_cyclesOf 52 1 C = _ from r1, cl_s, nI_1]
      obtain ⟨C2, r2, f2⟩ := ih (k + 1) C1 (cyc P N) (by omega) (cyc_wf hp hw) v1
      exact ⟨C2, r2, f1.tr f2⟩
theorem fgr_run {P : Pq} {j : Nat} (hp : wfP P) (hj : j < P.1) : ∀ d k D N, k + d = 60 → wfN P N → hasB D 990 P N → hasP D P → ∃ D', run stX9_forgotten (1, [], [nI j, nI k], D) = some (fgF P j d k N, D') ∧ frD D D' 990 := by
  have h8 := hp.2.1
  intro d
  induction d with
  | zero =>
    intro k D N e hw hB hP
    have hk8 := knw_8 (N := N) (j := j) hp
    have hk := known_r (b := 990) (by decide) hp hw hB hP hj
    rw [eX9_forgotten_1, if_pos (show (60 : Int32) ≤ nI k from nI_le (a := 60) (by omega) (by omega)), eX9_forgotten_2, show fX9_known 990 (nI j) D = _ from hk, cl_s, fgF]
    by_cases h0 : knw P N j = 0
    · rw [h0, if_pos (show nI 0 = 0 from rfl), if_pos rfl]; exact ⟨D, rfl, frD.rf⟩
    · rw [if_neg (nI_ne0 (by omega) (by omega)), if_neg h0]; exact ⟨D, rfl, frD.rf⟩
  | succ d ih =>
    intro k D N e hw hB hP
    have hk8 := knw_8 (N := N) (j := j) hp
    have hk := known_r (b := 990) (by decide) hp hw hB hP hj
    rw [eX9_forgotten_1, if_neg (show ¬ (60 : Int32) ≤ nI k from nI_ge (b := 60) (by omega) (by decide)), show fX9_known 990 (nI j) D = _ from hk, cl_s, fgF]
    by_cases h0 : knw P N j = 0
    · rw [h0, if_pos (show nI 0 ≤ 0 by decide), if_pos rfl, eX9_forgotten_2, show fX9_known 990 (nI j) D = _ from hk, cl_s, h0, if_pos (show nI 0 = 0 from rfl)]
      exact ⟨D, rfl, frD.rf⟩
    · obtain ⟨D1, r1, v1, f1⟩ := cycle_r (b := 990) (by decide) hp hw hB hP
      obtain ⟨D2, r2, f2⟩ := ih (k + 1) D1 (cyc P N) (by omega) (cyc_wf hp hw) v1 (hasP_D hP f1)
      rw [if_neg (nI_nle (by omega) (by omega)), if_neg h0, show fX9_cycles 990 D = _ from r1, cl_s, nI_1]
      exact ⟨D2, r2, f1.tr f2⟩
theorem forgotten_ok (x : Int32) : ∀ C D, RE C D → okK (fX8_forgotten x) (fX9_forgotten x) C D := by
  intro C D h
  have hE := h
  obtain ⟨S, H, K, rg, T, n, hA⟩ := h
  obtain ⟨⟨⟨hp, hw⟩, hN, hD⟩, -⟩ := id hA
  have h8 := hp.2.1
  cases ho : okI x S.1.1 with
  | false => exact okK_no (-2) hE (by unfold fX8_forgotten; rw [eX8_forgotten_0, has_c hp hN, cl_s, ho, if_pos (show bI false = 0 from rfl)]) (by unfold fX9_forgotten; rw [eX9_forgotten_0, isNode_r hp hD.2, cl_s, ho, if_pos (show bI false = 0 from rfl)])
  | true =>
    obtain ⟨j, hj, rfl⟩ := okI_of ho (by omega)
    cases hd : S.2.2.1 j with
    | false => exact okK_no (-4) hE (by unfold fX8_forgotten; rw [eX8_forgotten_0, has_c hp hN, cl_s, ho, if_neg (by decide), isAlive_c hp hN, cl_s, ho, ix_nI (by omega), hd, if_neg (by decide)]) (by unfold fX9_forgotten; rw [eX9_forgotten_0, isNode_r hp hD.2, cl_s, ho, if_neg (by decide), isDead0 hp hD hj, cl_s, hd, if_pos (show bI false = 0 from rfl)])
    | true =>
      obtain ⟨C1, D1, p1, p2, hA1, n1', b1', o1⟩ := try_b hA
      obtain ⟨⟨-, -, hD1⟩, -⟩ := id hA1
      obtain ⟨C2, r2, f2⟩ := fg_run hp hj 60 0 C1 S.2 (by omega) hw n1'
      obtain ⟨D2, r3, f3⟩ := fgr_run hp hj 60 0 D1 S.2 (by omega) hw b1' hD1.2
      refine ⟨fgF S.1 j 60 0 S.2, C2, D2, ?_, ?_, ⟨_, _, _, _, _, _, mkT hA1 f2 f3⟩, o1.tr (outs_f (by decide) f2 f3)⟩
      · unfold fX8_forgotten
        rw [eX8_forgotten_0, has_c hp hN, cl_s, ho, if_neg (by decide), isAlive_c hp hN, cl_s, ho, ix_nI (by omega), hd, if_pos (show bI (true && !true) = 0 from rfl), p1, cl_s]
        exact r2
      · unfold fX9_forgotten
        rw [eX9_forgotten_0, isNode_r hp hD.2, cl_s, ho, if_neg (by decide), isDead0 hp hD hj, cl_s, hd, if_neg (by decide), p2, cl_s]
        exact r3
theorem rspr_run {P : Pq} {m : Nat} {N0 : Nq} (hp : wfP P) (hw0 : wfN P N0) (hm : m < 2 ^ 31) : ∀ d k D, k + d = m → hasB D 990 P (cycs P k N0) → hasP D P →
    ∃ D', run stX9_spread (1, [], [nI m, nI k], D) = some (oI (ext P (cycs P m N0) true) - oI (ext P (cycs P m N0) false), D') ∧ frD D D' 990 := by
  intro d
  induction d with
  | zero =>
    intro k D e hB hP
    have hk : k = m := by omega
    subst hk
    refine ⟨D, ?_, frD.rf⟩
    have hw := cycs_wf hp k N0 hw0
    rw [eX9_spread_1, if_pos (Int32.le_refl _), show fX9_extreme 990 1 D = _ from ext_r (b := 990) true (by decide) hp hw hB hP, cl_s, show fX9_extreme 990 0 D = _ from ext_r (b := 990) false (by decide) hp hw hB hP, cl_s]
  | succ d ih =>
    intro k D e hB hP
    obtain ⟨D1, r1, v1, f1⟩ := cycle_r (b := 990) (by decide) hp (cycs_wf hp k N0 hw0) hB hP
    obtain ⟨D2, r2, f2⟩ := ih (k + 1) D1 (by omega) (by rw [cycs_c]; exact v1) (hasP_D hP f1)
    refine ⟨D2, ?_, f1.tr f2⟩
    rw [eX9_spread_1, if_neg (nI_ge (by omega) (by omega)), show fX9_cycles 990 D = _ from r1, cl_s, nI_1, r2]
theorem spread_ok (x : Int32) : ∀ C D, RE C D → okK (fX8_spread x) (fX9_spread x) C D := by
  intro C D h
  have hE := h
  obtain ⟨S, H, K, rg, T, n, hA⟩ := h
  obtain ⟨⟨⟨hp, hw⟩, hN, hD⟩, -⟩ := id hA
  have h8 := hp.2.1
  have e9 : ∀ b, okI x 61 = b → fX9_in x.toInt64 0 60 D = some (bI b, D) := fun b hb => by rw [in_w x 0 (nI 60) (by decide) (by decide), rng_okI x (by decide), hb]
  rcases okI_cases x (n := 61) (by decide) with ⟨c2, c3⟩ | ⟨k, hk, rfl, c3⟩ | ⟨c2, c4, c3⟩
  · exact okK_no (-3) hE (by unfold fX8_spread; rw [if_pos c2]) (by unfold fX9_spread; rw [eX9_spread_0, e9 false c3, cl_s, if_pos (show bI false = 0 from rfl)])
  · have hal := alive_r (dd := S.2.2.1) hp hD.2.1 hD.1.2.1
    by_cases hz : nI (msk (fun i => !S.2.2.1 i) S.1.1) = 0
    · exact okK_no (-4) hE (by unfold fX8_spread; rw [if_neg (nI_pos (by omega)), if_pos (show nI k ≤ 60 from nI_le (b := 60) (by omega) (by decide)), hN.2.2.2.2.1, if_pos hz]) (by unfold fX9_spread; rw [eX9_spread_0, e9 true c3, cl_s, if_neg (by decide), hal, cl_s, if_pos hz])
    · obtain ⟨C1, D1, p1, p2, hA1, n1', b1', o1⟩ := try_b hA
      obtain ⟨⟨-, -, hD1⟩, -⟩ := id hA1
      have hw2 := cycs_wf hp k S.2 hw
      obtain ⟨C2, r2, v2, f2⟩ := cycles_c (m := k) (by decide) hp hw n1' (by omega)
      obtain ⟨D2, r3, f3⟩ := rspr_run (m := k) hp hw (by omega) k 0 D1 (by omega) b1' hD1.2
      refine ⟨oI (ext S.1 (cycs S.1 k S.2) true) - oI (ext S.1 (cycs S.1 k S.2) false), C2, D2, ?_, ?_, ⟨_, _, _, _, _, _, mkT hA1 f2 f3⟩, o1.tr (outs_f (by decide) f2 f3)⟩
      · unfold fX8_spread
        rw [if_neg (nI_pos (by omega)), if_pos (show nI k ≤ 60 from nI_le (b := 60) (by omega) (by decide)), hN.2.2.2.2.1, if_neg hz, p1, cl_s, r2, cl_s, most_c hp v2, cl_s, least_c hp v2, cl_s]
      · unfold fX9_spread
        rw [eX9_spread_0, e9 true c3, cl_s, if_neg (by decide), hal, cl_s, if_neg hz, p2, cl_s]
        exact r3
  · exact okK_no (-3) hE (by unfold fX8_spread; rw [if_neg c2, if_neg (show ¬ x ≤ 60 from fun z => absurd (Int32.le_trans c4 z) (show ¬ nI 61 ≤ 60 by decide))]) (by unfold fX9_spread; rw [eX9_spread_0, e9 false c3, cl_s, if_pos (show bI false = 0 from rfl)])
