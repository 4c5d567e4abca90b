/-- the reference counts out -/
theorem rcnt_in {t s m : Nat} {f : Nat → Int32} (ht : t < 3) (hs : 0 < s) (hm : m < 2 ^ 31) : ∀ d j (D : Mm), j + d = m → hasQ D t s (fun k => f ((k + j) % s)) → ∃ D', run stX9_count (2, [], [nI t, nI m, nI j], D) = run stX9_count (1, [], [nI t, nI m], D') ∧ hasQ D' t (s - 1) (fun k => f ((k + 1 + m) % s)) ∧ frQ D D' t := by
  intro d
  induction d with
  | zero =>
    intro j D e hQ
    have e1 : j = m := by omega
    rw [e1] at hQ ⊢
    rw [eX9_count_2, if_pos (nI_le (Nat.le_refl _) hm)]
    obtain ⟨D1, g1, g2, g3⟩ := one_r ht hs hQ
    rw [g1, cl_s]
    exact ⟨D1, rfl, g2, g3⟩
  | succ d ih =>
    intro j D e hQ
    rw [eX9_count_2, if_neg (nI_ge (by omega) hm)]
    obtain ⟨D1, g1, g2, g3⟩ := on_r ht hs hQ
    rw [g1, cl_s, nI_1]
    rw [ons_mod] at g2
    obtain ⟨D', k1, k2, k3⟩ := ih (j + 1) D1 (by omega) g2
    exact ⟨D', k1, k2, frQ.tr g3 k3⟩
theorem rcnt_run {t m : Nat} (ht : t < 3) (hm : m < 2 ^ 31) : ∀ d (f : Nat → Int32) (D : Mm), d + 1 ≤ 8 → hasQ D t (d + 1) f → ∃ D', run stX9_count (1, [], [nI t, nI m], D) = some (coF m d f 0 + 5000, D') ∧ hasQ D' t 1 (coF m d f) ∧ frQ D D' t := by
  intro d
  induction d with
  | zero =>
    intro f D hd hQ
    have h0 := hQ.2.2 0 (by omega)
    rw [Nat.add_zero] at h0
    rw [eX9_count_1, n8, pk_mul]
    simp (disch := omega) only [gd_ok, ix_nI, hQ.2.1, h0]
    rw [if_pos (show nI (0 + 1) ≤ 1 by decide)]
    exact ⟨D, rfl, hQ, frQ.rf⟩
  | succ d ih =>
    intro f D hd hQ
    rw [eX9_count_1]
    simp (disch := omega) only [gd_ok, ix_nI, hQ.2.1]
    rw [if_neg (by rw [n1]; exact nI_ge (by omega) (by omega)), n0]
    have q0 : hasQ D t (d + 1 + 1) (fun k => f ((k + 0) % (d + 1 + 1))) := ⟨hQ.1, hQ.2.1, fun k hk => by show D 343 (8 * t + k) = f (k % (d + 1 + 1)); rw [mod_lo hk]; exact hQ.2.2 k hk⟩
    obtain ⟨D1, g1, g2, g3⟩ := rcnt_in (f := f) ht (by omega : 0 < d + 1 + 1) hm m 0 D (by omega) q0
    rw [g1]
    obtain ⟨D', k1, k2, k3⟩ := ih (fun k => f ((k + 1 + m) % (d + 2))) D1 (by omega) g2
    exact ⟨D', k1, k2, frQ.tr g3 k3⟩
/-- count -/
theorem count_ok {C D : Mm} {rg : Rq} (x y : Int32) (h : RG C D rg) : okR (fX8_count x y) (fX9_count x y) C D := by
  have q9 : ∀ D : Mm, fX9_count x y D = run stX9_count (0, [], [x, y], D) := fun _ => rfl
  cases ho : okI x 3 with
  | false => exact okR_no (-2) h (by unfold fX8_count; rw [isRing_c, cl_s, ho, if_pos (show bI false = 0 from rfl)]) (by rw [q9, eX9_count_0, isRing_r, cl_s, ho, if_pos (show bI false = 0 from rfl)])
  | true =>
    obtain ⟨t, ht, rfl⟩ := okI_of ho (by decide)
    have r9 : ∀ D : Mm, fX9_count (nI t) y D = if bI (decide ((1 : Int32) ≤ y) && decide (y ≤ 9)) = 0 then some (-3, D) else (if (1 : Int32) ≤ (D 342 t) then run stX9_count (1, [], [nI t, y], D) else (if 0 ≤ (D 342 t) then (some ((-12 : Int32), D)) else (some ((-11 : Int32), D)))) := by
      intro D
      rw [q9, eX9_count_0, isRing_r, cl_s, ho, if_neg (show ¬ bI true = 0 by decide), in_w y 1 9 (by decide) (by decide), cl_s, gd_T, gd_T, ix_nI (by omega)]
    have r8 : ∀ C : Mm, fX8_count (nI t) y C = if y < (1 : Int32) then (some ((-3 : Int32), C)) else (if y ≤ (9 : Int32) then (if (C (20 + 2 * t) 1) = 0 then (cl (fX3_lack (20 + 2 * t) C) (fun r4 M4 => some (r4, M4))) else (cl (fX3_countOut (20 + 2 * t) y C) (fun _ M2 => cl (fX3_atHand (20 + 2 * t) M2) (fun r3 M3 => some ((r3 + (5000 : Int32)), M3))))) else (some ((-3 : Int32), C))) := by
      intro C
      unfold fX8_count
      rw [isRing_c, cl_s, ho, if_neg (show ¬ bI true = 0 by decide), gd_T, ix_nI (by omega)]
    by_cases y1 : y < (1 : Int32)
    · exact okR_no (-3) h (by rw [r8, if_pos y1]) (by rw [r9, decide_eq_false (Int32.not_le.mpr y1), Bool.false_and, if_pos (show bI false = 0 from rfl)])
    · by_cases y2 : y ≤ (9 : Int32)
      · obtain ⟨m, hm, e⟩ : ∃ m, m ≤ 9 ∧ y = nI m := nI_of2 (x := y) (M := 9) (n := 9) (by decide) (fun z => y1 (Int32.lt_trans z (by decide))) y2
        have e9 : ∀ D : Mm, fX9_count (nI t) y D = (if (1 : Int32) ≤ (D 342 t) then run stX9_count (1, [], [nI t, nI m], D) else (if 0 ≤ (D 342 t) then (some ((-12 : Int32), D)) else (some ((-11 : Int32), D)))) := by
          intro D
          rw [r9, decide_eq_true (Int32.not_lt.mp y1), decide_eq_true y2, if_neg (show ¬ bI (true && true) = 0 by decide), e]
        have e8 : ∀ C : Mm, fX8_count (nI t) y C = (if (C (20 + 2 * t) 1) = 0 then (cl (fX3_lack (20 + 2 * t) C) (fun r4 M4 => some (r4, M4))) else (cl (fX3_countOut (20 + 2 * t) (nI m) C) (fun _ M2 => cl (fX3_atHand (20 + 2 * t) M2) (fun r3 M3 => some ((r3 + (5000 : Int32)), M3))))) := by
          intro C
          rw [r8, if_neg y1, if_pos y2, e]
        obtain ⟨a1, a2⟩ := h t ht
        cases hr : rg t with
        | none =>
          have b1 := a1.1 hr
          have b2 := a2.1 hr
          refine okR_no (-11) h ?_ ?_
          · rw [e8, b1.1, if_pos rfl]; unfold fX3_lack; rw [b1.2, if_neg (by decide)]; rfl
          · rw [e9, b2, if_neg (by decide), if_neg (by decide)]
        | some q =>
          obtain ⟨s, f⟩ := q
          have b1 := a1.2 s f hr
          have b2 := a2.2 s f hr
          have s8 := b1.1
          cases s with
          | zero =>
            refine okR_no (-12) h ?_ ?_
            · rw [e8, b1.2.1, if_pos (show nI 0 = 0 from rfl)]; unfold fX3_lack; rw [b1.2.2.1, if_pos rfl]; rfl
            · rw [e9, b2.2.1, if_neg (by decide), if_pos (by decide)]
          | succ d =>
            obtain ⟨C1, g1, g2, g3⟩ := count_run (g := 20 + 2 * t) hm d f C s8 b1
            obtain ⟨D1, k1, k2, k3⟩ := rcnt_run ht (by omega : m < 2 ^ 31) d f D s8 b2
            refine ⟨coF m d f 0 + 5000, C1, D1, va_up rg t (some (1, coF m d f)), ?_, ?_, RG_up h (some_go g2) (some_qo k2) g3 k3, frG_RC ht g3, frQ_RD k3⟩
            · rw [e8, b1.2.1, if_neg (nI_ne0 (by omega) (by omega))]
              unfold fX3_countOut
              rw [eX3_countOut_0, b1.2.1, g1, cl_s, atHand_c g2 (by decide), cl_s]
            · rw [e9, b2.2.1, if_pos (by rw [n1]; exact nI_le (by omega) (by omega)), k1]
      · exact okR_no (-3) h (by rw [r8, if_neg y1, if_neg y2]) (by rw [r9, decide_eq_false y2, Bool.and_false, if_pos (show bI false = 0 from rfl)])
/-! sums -/
def sI (a : Nat → Int32) : Nat → Nat → Int32
  | 0, _ => 0
  | d + 1, k => a k + sI a d (k + 1)
theorem sI_congr {a b : Nat → Int32} : ∀ d k j, (∀ i, i < d → a (k + i) = b (j + i)) → sI a d k = sI b d j := by
  intro d
  induction d with
  | zero => intro k j h; rfl
  | succ d ih =>
    intro k j h
    have h0 := h 0 (by omega)
    rw [Nat.add_zero, Nat.add_zero] at h0
    rw [sI, sI, h0, ih (k + 1) (j + 1) (fun i hi => by rw [show k + 1 + i = k + (i + 1) by omega, show j + 1 + i = j + (i + 1) by omega]; exact h (i + 1) (by omega))]
theorem sI_app {a : Nat → Int32} : ∀ d e k, sI a (d + e) k = sI a d k + sI a e (k + d) := by
  intro d
  induction d with
  | zero => intro e k; rw [Nat.zero_add, Nat.add_zero, sI, Int32.zero_add]
  | succ d ih =>
    intro e k
    rw [show d + 1 + e = (d + e) + 1 by omega, sI, ih e (k + 1), sI, Int32.add_assoc, show k + 1 + d = k + (d + 1) by omega]
theorem sI_rot {a : Nat → Int32} {s h : Nat} (hh : h < s) : sI (fun k => a ((h + k) % s)) s 0 = sI a s 0 := by
  have e1 := sI_app (a := fun k => a ((h + k) % s)) (s - h) h 0
  have e2 := sI_app (a := a) h (s - h) 0
  rw [show s - h + h = s by omega] at e1
  rw [show h + (s - h) = s by omega] at e2
  rw [e1, e2]
  have c1 : sI (fun k => a ((h + k) % s)) (s - h) 0 = sI a (s - h) (0 + h) := sI_congr (s - h) 0 (0 + h) (fun i hi => by
    show a ((h + (0 + i)) % s) = a (0 + h + i)
    rw [mod_lo (by omega)]; congr 1; omega)
  have c2 : sI (fun k => a ((h + k) % s)) h (0 + (s - h)) = sI a h 0 := sI_congr h (0 + (s - h)) 0 (fun i hi => by
    show a ((h + (0 + (s - h) + i)) % s) = a (0 + i)
    rw [mod_hi (by omega) (by omega)]; congr 1; omega)
  rw [c1, c2, Int32.add_comm]
theorem total_run {C : Mm} {g s : Nat} (hs : s ≤ 8) (h1 : C g 1 = nI s) : ∀ d k (x : Int32), k + d = s → run stX3_total (1, [g], [x, nI k], C) = some (x + sI (C (g + 1)) d k, C) := by
  intro d
  induction d with
  | zero =>
    intro k x e
    rw [eX3_total_1, h1, if_pos (nI_le (by omega) (by omega)), sI, Int32.add_zero]
  | succ d ih =>
    intro k x e
    rw [eX3_total_1, h1, if_neg (nI_ge (by omega) (by omega)), gd_ok (by omega) (by omega), ix_nI (by omega), nI_1, ih (k + 1) _ (by omega), sI, Int32.add_assoc]
theorem rsum_run {D : Mm} {t s : Nat} {f : Nat → Int32} (ht : t < 3) (hQ : hasQ D t s f) : ∀ d k (x : Int32), k + d = s → run stX9_sum (1, [], [nI t, x, nI k], D) = some (x + sI f d k, D) := by
  obtain ⟨h8, h1, h2⟩ := hQ
  intro d
  induction d with
  | zero =>
    intro k x e
    rw [eX9_sum_1, n8, pk_mul, nI_add]
    simp (disch := omega) only [gd_ok, ix_nI, h1]
    rw [if_pos (nI_le (by omega) (by omega)), sI, Int32.add_zero]
  | succ d ih =>
    intro k x e
    rw [eX9_sum_1, n8, pk_mul, nI_add]
    simp (disch := omega) only [gd_ok, ix_nI, h1, nI_1]
    rw [if_neg (nI_ge (by omega) (by omega)), h2 k (by omega), ih (k + 1) _ (by omega), sI, Int32.add_assoc]
/-- sum -/
theorem sum_ok {C D : Mm} {rg : Rq} (x : Int32) (h : RG C D rg) : okR (fX8_sum x) (fX9_sum x) C D := by
  have q9 : ∀ D : Mm, fX9_sum x D = run stX9_sum (0, [], [x], D) := fun _ => rfl
  cases ho : okI x 3 with
  | false => exact okR_no (-2) h (by unfold fX8_sum; rw [isRing_c, cl_s, ho, if_pos (show bI false = 0 from rfl)]) (by rw [q9, eX9_sum_0, isRing_r, cl_s, ho, if_pos (show bI false = 0 from rfl)])
  | true =>
    obtain ⟨t, ht, rfl⟩ := okI_of ho (by decide)
    have e9 : ∀ D : Mm, fX9_sum (nI t) D = if 0 ≤ (D 342 t) then run stX9_sum (1, [], [nI t, (50000 : Int32), (0 : Int32)], D) else some (-11, D) := by
      intro D
      rw [q9, eX9_sum_0, isRing_r, cl_s, ho, if_neg (show ¬ bI true = 0 by decide), gd_T, ix_nI (by omega)]
    have e8 : ∀ C : Mm, fX8_sum (nI t) C = if (C (20 + 2 * t) 3) = 0 then (cl (fX3_total (20 + 2 * t) C) (fun r2 M2 => some ((r2 + (50000 : Int32)), M2))) else (some ((-11 : Int32), C)) := by
      intro C
      unfold fX8_sum
      rw [isRing_c, cl_s, ho, if_neg (show ¬ bI true = 0 by decide), gd_T, ix_nI (by omega)]
    obtain ⟨a1, a2⟩ := h t ht
    cases hr : rg t with
    | none =>
      have b1 := a1.1 hr
      have b2 := a2.1 hr
      exact okR_no (-11) h (by rw [e8, b1.2, if_neg (by decide)]) (by rw [e9, b2, if_neg (by decide)])
    | some q =>
      obtain ⟨s, f⟩ := q
      have b1 := a1.2 s f hr
      have b2 := a2.2 s f hr
      obtain ⟨s8, c1, c3, hd, c2, z0, zl, ca⟩ := b1
      have hsum : sI (C (20 + 2 * t + 1)) s 0 = sI f s 0 := by
        by_cases hz : s = 0
        · rw [hz]; rfl
        · rw [← sI_rot (a := C (20 + 2 * t + 1)) (zl (by omega))]
          exact sI_congr s 0 0 (fun i hi => by rw [Nat.zero_add]; exact ca i hi)
      refine okR_no (sI f s 0 + 50000) h ?_ ?_
      · rw [e8, c3, if_pos rfl]
        unfold fX3_total
        rw [eX3_total_0, show (run stX3_total (1, [20 + 2 * t], [(0 : Int32), (0 : Int32)], C)) = some (0 + sI (C (20 + 2 * t + 1)) s 0, C) from total_run s8 c1 s 0 0 (by omega), cl_s, Int32.zero_add, hsum]
      · rw [e9, b2.2.1, if_pos (nI_pos' (by omega)), show (run stX9_sum (1, [], [nI t, (50000 : Int32), (0 : Int32)], D)) = some (50000 + sI f s 0, D) from rsum_run ht b2 s 0 50000 (by omega), Int32.add_comm]
/-! numbers of all rings -/
def nrg (rg : Rq) (t : Nat) : Nat := match rg t with
  | none => 0
  | some q => q.1
theorem nrg_c {C D : Mm} {rg : Rq} (h : RG C D rg) {t : Nat} (ht : t < 3) : C (20 + 2 * t) 1 = nI (nrg rg t) ∧ (D 342 t = -1 ∧ nrg rg t = 0 ∨ D 342 t = nI (nrg rg t)) ∧ nrg rg t ≤ 8 := by
  obtain ⟨a1, a2⟩ := h t ht
  unfold nrg
  cases hr : rg t with
  | none => exact ⟨(a1.1 hr).1, Or.inl ⟨a2.1 hr, rfl⟩, by decide⟩
  | some q =>
    obtain ⟨s, f⟩ := q
    exact ⟨(a1.2 s f hr).2.1, Or.inr (a2.2 s f hr).2.1, (a1.2 s f hr).1⟩
theorem nums_c {C D : Mm} {rg : Rq} (h : RG C D rg) : fX8_ringNumbers C = some (nI (nrg rg 0 + nrg rg 1 + nrg rg 2), C) := by
  unfold fX8_ringNumbers
  have s : ∀ k x, k < 3 → run stX8_ringNumbers (1, [], [nI x, nI k], C) = run stX8_ringNumbers (1, [], [nI (x + nrg rg k), nI (k + 1)], C) := by
    intro k x hk
    rw [eX8_ringNumbers_1, n3, if_neg (nI_ge hk (by decide)), gd_ok hk (by decide), ix_nI (by omega), nI_1, (nrg_c h hk).1, nI_add]
  rw [eX8_ringNumbers_0, n0, s 0 0 (by decide), s 1 _ (by decide), s 2 _ (by decide), eX8_ringNumbers_1, if_pos (show (3 : Int32) ≤ nI (0 + 1 + 1 + 1) by decide), Nat.zero_add]
theorem nums_r {C D : Mm} {rg : Rq} (h : RG C D rg) : fX9_allNumbers D = some (nI (nrg rg 0 + nrg rg 1 + nrg rg 2), D) := by
  unfold fX9_allNumbers
  have s : ∀ k x, k < 3 → run stX9_allNumbers (1, [], [nI x, nI k], D) = run stX9_allNumbers (1, [], [nI (x + nrg rg k), nI (k + 1)], D) := by
    intro k x hk
    rw [eX9_allNumbers_1, if_neg (show ¬ (3 : Int32) ≤ nI k by rw [n3]; exact nI_ge hk (by decide))]
    simp (disch := omega) only [gd_ok, ix_nI, nI_1]
    obtain ⟨-, hd, h8⟩ := nrg_c h hk
    rcases hd with ⟨z1, z2⟩ | z1
    · rw [z1, if_neg (by decide), z2, Int32.add_zero]; rfl
    · rw [z1, if_pos (nI_pos' (by omega)), nI_add]
  rw [eX9_allNumbers_0, n0, s 0 0 (by decide), s 1 _ (by decide), s 2 _ (by decide), eX9_allNumbers_1, if_pos (show (3 : Int32) ≤ nI (0 + 1 + 1 + 1) by decide), Nat.zero_add]
