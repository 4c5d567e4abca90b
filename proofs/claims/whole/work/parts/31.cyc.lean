/-! cycles -/
theorem rnd_dd {P : Pq} {N : Nq} {i : Nat} : (rnd P N i).2.2.1 = N.2.1 := by
  cases ho : old ((N.2.2 i).map agd) with
  | none => rw [rnd_none ho]
  | some p =>
    rw [rnd_some ho rfl]
    by_cases hd : N.2.1 (ix (((N.2.2 i).map agd).getD p d0).1) = true
    · rw [if_pos hd] <;> rfl
    · rw [if_neg hd] <;> rfl
def cycF (P : Pq) : Nat → Nat → Nq → Nq
  | 0, _, N => N
  | d + 1, k, N => cycF P d (k + 1) (if N.2.1 k then N else (rnd P N k).2)
def cyc (P : Pq) (N : Nq) : Nq := cycF P P.1 0 N
def cycs (P : Pq) : Nat → Nq → Nq
  | 0, N => N
  | c + 1, N => cycs P c (cyc P N)
theorem cycF_wf {P : Pq} (hp : wfP P) : ∀ d k N, k + d = P.1 → wfN P N → wfN P (cycF P d k N) := by
  intro d
  induction d with
  | zero => intro k N e hw; exact hw
  | succ d ih =>
    intro k N e hw
    rw [cycF]
    refine ih (k + 1) _ (by omega) ?_
    by_cases hd : N.2.1 k = true
    · rw [if_pos hd]; exact hw
    · rw [if_neg hd]; exact rnd_wf hp hw (by omega)
theorem cyc_wf {P : Pq} {N : Nq} (hp : wfP P) (hw : wfN P N) : wfN P (cyc P N) := cycF_wf hp P.1 0 N (by omega) hw
theorem cycs_wf {P : Pq} (hp : wfP P) : ∀ c N, wfN P N → wfN P (cycs P c N) := by
  intro c
  induction c with
  | zero => intro N hw; exact hw
  | succ c ih => intro N hw; exact ih _ (cyc_wf hp hw)
theorem cycF_dd {P : Pq} : ∀ d k N, (cycF P d k N).2.1 = N.2.1 := by
  intro d
  induction d with
  | zero => intro k N; rfl
  | succ d ih =>
    intro k N
    rw [cycF, ih]
    by_cases hd : N.2.1 k = true
    · rw [if_pos hd]
    · rw [if_neg hd, rnd_dd]
theorem cycs_dd {P : Pq} : ∀ c N, (cycs P c N).2.1 = N.2.1 := by
  intro c
  induction c with
  | zero => intro N; rfl
  | succ c ih => intro N; rw [cycs, ih, cyc, cycF_dd]
theorem okI_ge {k n : Nat} (h : n ≤ k) (hk : k < 2 ^ 31) : okI (nI k) n = false := by
  unfold okI
  rw [nI_toInt hk]
  have : ¬ ((k : Int) < n) := by omega
  simp [this]
theorem cycle_run {a : Nat} {P : Pq} {x2 x3 : Int32} (ha : 26 ≤ a) (hp : wfP P) : ∀ d k C N, k + d = 8 → wfN P N → hasN C a P N →
    ∃ C', run stX5_cyclesOf (2, [a], [x2, x3, nI k], C) = run stX5_cyclesOf (1, [a], [x2, x3 + 1], C') ∧ hasN C' a P (cycF P (P.1 - k) k N) ∧ frC C C' a := by
  have h8 := hp.2.1
  intro d
  induction d with
  | zero =>
    intro k C N e hw hN
    rw [eX5_cyclesOf_2, n8, if_pos (nI_le (by omega) (by omega))]
    refine ⟨C, rfl, ?_, frC.rf⟩
    rw [show P.1 - k = 0 by omega]; exact hN
  | succ d ih =>
    intro k C N e hw hN
    rw [eX5_cyclesOf_2, n8, if_neg (nI_ge (by omega) (by omega)), isAlive_c hp hN, cl_s, ix_nI (by omega), nI_1]
    by_cases hk : k < P.1
    · rw [okI_nI hk (by omega), Bool.true_and, show P.1 - k = (P.1 - (k + 1)) + 1 by omega, cycF]
      cases hd : N.2.1 k with
      | true =>
        rw [if_pos (show bI (!true) = 0 from rfl), if_pos rfl]
        exact ih (k + 1) C N (by omega) hw hN
      | false =>
        rw [if_neg (show ¬ bI (!false) = 0 by decide), if_neg (by decide)]
        obtain ⟨C1, g1, g2, g3⟩ := round_c ha hp hw hN hk
        rw [g1, cl_s]
        obtain ⟨C', k1, k2, k3⟩ := ih (k + 1) C1 (rnd P N k).2 (by omega) (rnd_wf hp hw hk) g2
        exact ⟨C', k1, k2, frC.tr g3 k3⟩
    · rw [okI_ge (by omega) (by omega), Bool.false_and, if_pos (show bI false = 0 from rfl)]
      obtain ⟨C', k1, k2, k3⟩ := ih (k + 1) C N (by omega) hw hN
      rw [show P.1 - (k + 1) = 0 by omega] at k2
      rw [show P.1 - k = 0 by omega]
      exact ⟨C', k1, k2, k3⟩
theorem cycles_run {a : Nat} {P : Pq} {m : Nat} (ha : 26 ≤ a) (hp : wfP P) (hm : m < 2 ^ 31) : ∀ d k C N, k + d = m → wfN P N → hasN C a P N →
    ∃ C', run stX5_cyclesOf (1, [a], [nI m, nI k], C) = some (0, C') ∧ hasN C' a P (cycs P d N) ∧ frC C C' a := by
  intro d
  induction d with
  | zero =>
    intro k C N e hw hN
    rw [eX5_cyclesOf_1, if_pos (nI_le (by omega) (by omega))]
    exact ⟨C, rfl, hN, frC.rf⟩
  | succ d ih =>
    intro k C N e hw hN
    rw [eX5_cyclesOf_1, if_neg (nI_ge (by omega) (by omega)), n0]
    obtain ⟨C1, g1, g2, g3⟩ := cycle_run (x2 := nI m) (x3 := nI k) ha hp 8 0 C N (by omega) hw hN
    rw [g1, nI_1]
    rw [Nat.sub_zero] at g2
    obtain ⟨C', k1, k2, k3⟩ := ih (k + 1) C1 (cyc P N) (by omega) (cyc_wf hp hw) g2
    exact ⟨C', k1, k2, frC.tr g3 k3⟩
theorem cycles_c {C : Mm} {a m : Nat} {P : Pq} {N : Nq} (ha : 26 ≤ a) (hp : wfP P) (hw : wfN P N) (hN : hasN C a P N) (hm : m < 2 ^ 31) : ∃ C', fX5_cyclesOf a (nI m) C = some (0, C') ∧ hasN C' a P (cycs P m N) ∧ frC C C' a := by
  unfold fX5_cyclesOf
  rw [eX5_cyclesOf_0]
  exact cycles_run ha hp hm m 0 C N (by omega) hw hN
theorem cycle_runr {b : Nat} {P : Pq} (hb : b ≤ 990) (hp : wfP P) : ∀ d k D N, k + d = P.1 → wfN P N → hasB D b P N → hasP D P →
    ∃ D', run stX9_cycles (1, [], [nI b, nI k], D) = some (0, D') ∧ hasB D' b P (cycF P d k N) ∧ frD D D' b := by
  have h8 := hp.2.1
  intro d
  induction d with
  | zero =>
    intro k D N e hw hB hP
    rw [eX9_cycles_1, hP.1, if_pos (nI_le (by omega) (by omega))]
    exact ⟨D, rfl, hB, frD.rf⟩
  | succ d ih =>
    intro k D N e hw hB hP
    rw [eX9_cycles_1, hP.1, if_neg (nI_ge (by omega) (by omega)), isDead_r hb hp hB (by omega), cl_s, nI_1, cycF]
    cases hd : N.2.1 k with
    | true =>
      rw [if_neg (show ¬ bI true = 0 by decide), if_pos rfl]
      exact ih (k + 1) D N (by omega) hw hB hP
    | false =>
      rw [if_pos (show bI false = 0 from rfl), if_neg (by decide)]
      obtain ⟨D1, g1, g2, g3⟩ := round_r hb hp hw hB hP (by omega : k < P.1)
      rw [g1, cl_s]
      obtain ⟨D', k1, k2, k3⟩ := ih (k + 1) D1 (rnd P N k).2 (by omega) (rnd_wf hp hw (by omega)) g2 (hasP_fr hP (g3.1 338 (by decide) (by decide) (by decide) (by decide) (by decide)))
      exact ⟨D', k1, k2, frD.tr g3 k3⟩
theorem cycle_r {D : Mm} {b : Nat} {P : Pq} {N : Nq} (hb : b ≤ 990) (hp : wfP P) (hw : wfN P N) (hB : hasB D b P N) (hP : hasP D P) : ∃ D', fX9_cycles (nI b) D = some (0, D') ∧ hasB D' b P (cyc P N) ∧ frD D D' b := by
  unfold fX9_cycles
  rw [eX9_cycles_0]
  exact cycle_runr hb hp P.1 0 D N (by omega) hw hB hP
/-! known by how many -/
def knF (N : Nq) (x : Int32) : Nat → Nat → Nat
  | 0, _ => 0
  | d + 1, k => (if !N.2.1 k && inV x (N.2.2 k) then 1 else 0) + knF N x d (k + 1)
def knw (P : Pq) (N : Nq) (j : Nat) : Nat := knF N (nI j) P.1 0
theorem knF_le (N : Nq) (x : Int32) : ∀ d k, knF N x d k ≤ d := by
  intro d
  induction d with
  | zero => intro k; exact Nat.le_refl _
  | succ d ih => intro k; rw [knF]; have := ih (k + 1); split <;> omega
theorem known_run {C : Mm} {a : Nat} {P : Pq} {N : Nq} {x : Int32} (hp : wfP P) (hN : hasN C a P N) : ∀ d k t, k + d = 8 → t ≤ k → run stX1_known (1, [a], [x, nI t, nI k], C) = some (nI (t + knF N x (P.1 - k) k), C) := by
  have h8 := hp.2.1
  intro d
  induction d with
  | zero =>
    intro k t e ht
    rw [eX1_known_1, n8, if_pos (nI_le (by omega) (by omega)), show P.1 - k = 0 by omega, knF]
    rfl
  | succ d ih =>
    intro k t e ht
    rw [eX1_known_1, n8, if_neg (nI_ge (by omega) (by omega)), isAlive_c hp hN, cl_s, ix_nI (by omega), nI_1, nI_1]
    by_cases hk : k < P.1
    · rw [okI_nI hk (by omega), Bool.true_and, show P.1 - k = (P.1 - (k + 1)) + 1 by omega, knF]
      cases hd : N.2.1 k with
      | true =>
        rw [if_pos (show bI (!true) = 0 from rfl), ih (k + 1) t (by omega) (by omega)]
        simp
      | false =>
        rw [if_neg (show ¬ bI (!false) = 0 by decide), gd_ok (by omega) (by omega), holds_c x (hN.2.2.2.2.2.2 k (by omega)), cl_s]
        cases hin : inV x (N.2.2 k) with
        | true =>
          rw [if_neg (show ¬ bI true = 0 by decide), ih (k + 1) (t + 1) (by omega) (by omega)]
          simp [Nat.add_assoc]
        | false =>
          rw [if_pos (show bI false = 0 from rfl), ih (k + 1) t (by omega) (by omega)]
          simp
    · rw [okI_ge (by omega) (by omega), Bool.false_and, if_pos (show bI false = 0 from rfl), ih (k + 1) t (by omega) (by omega), show P.1 - (k + 1) = 0 by omega, show P.1 - k = 0 by omega]
      rfl
theorem known_c {C : Mm} {a j : Nat} {P : Pq} {N : Nq} (hp : wfP P) (hN : hasN C a P N) : fX1_known a (nI j) C = some (nI (knw P N j), C) := by
  unfold fX1_known knw
  rw [eX1_known_0]
  have := known_run (x := nI j) hp hN 8 0 0 (by omega) (by omega)
  rw [Nat.zero_add, Nat.sub_zero] at this
  exact this
theorem known_runr {D : Mm} {b j : Nat} {P : Pq} {N : Nq} (hb : b ≤ 990) (hp : wfP P) (hw : wfN P N) (hB : hasB D b P N) (hP : hasP D P) (hj : j < P.1) : ∀ d k t, k + d = P.1 → run stX9_known (1, [], [nI b, nI j, nI t, nI k], D) = some (nI (t + knF N (nI j) d k), D) := by
  have h8 := hp.2.1
  intro d
  induction d with
  | zero =>
    intro k t e
    rw [eX9_known_1, hP.1, if_pos (nI_le (by omega) (by omega)), knF]
    rfl
  | succ d ih =>
    intro k t e
    have z0 : nI t + (0 : Int32) = nI t := by rw [n0, nI_add, Nat.add_zero]
    rw [eX9_known_1, hP.1, if_neg (nI_ge (by omega) (by omega)), isDead_r hb hp hB (by omega), nI_1, nI_1, z0, knF]
    have own := inV_own (hw.2.1 k (by omega)) h8 (by omega)
    by_cases hkj : k = j
    · have hin : inV (nI j) (N.2.2 k) = false := by
        cases hb2 : inV (nI j) (N.2.2 k) with
        | false => rfl
        | true =>
          obtain ⟨e2, h1, h2⟩ := inV_iff.mp hb2
          exact absurd (by rw [h2, hkj]) (own e2 h1)
      rw [if_pos (by rw [hkj]), ih (k + 1) t (by omega), hin]
      simp
    · rw [if_neg (fun z => hkj ((nI_eq (by omega) (by omega)).mp z)), cl_s]
      cases hd : N.2.1 k with
      | true =>
        rw [if_neg (show ¬ bI true = 0 by decide), ih (k + 1) t (by omega)]
        simp
      | false =>
        rw [if_pos (show bI false = 0 from rfl), placeOf_r _ hb (by omega) (hB.2.2 k (by omega)), cl_s]
        have l5 := (hB.2.2 k (by omega)).1
        cases hin : inV (nI j) (N.2.2 k) with
        | true =>
          rw [if_neg (fun z => by rw [(pos_in l5).mp z] at hin; cases hin), ih (k + 1) (t + 1) (by omega)]
          simp [Nat.add_assoc]
        | false =>
          rw [if_pos ((pos_in l5).mpr hin), ih (k + 1) t (by omega)]
          simp
theorem known_r {D : Mm} {b j : Nat} {P : Pq} {N : Nq} (hb : b ≤ 990) (hp : wfP P) (hw : wfN P N) (hB : hasB D b P N) (hP : hasP D P) (hj : j < P.1) : fX9_known (nI b) (nI j) D = some (nI (knw P N j), D) := by
  unfold fX9_known knw
  rw [eX9_known_0]
  have := known_runr hb hp hw hB hP hj P.1 0 0 (by omega)
  rw [Nat.zero_add] at this
  exact this
/-! the most and the least known -/
def exS (P : Pq) (N : Nq) (g : Bool) (k : Nat) (o : Option Nat) : Option Nat := if N.2.1 k = true then o else match o with
  | none => some (knw P N k)
  | some m => some (if g = true then max m (knw P N k) else min m (knw P N k))
def exF (P : Pq) (N : Nq) (g : Bool) : Nat → Nat → Option Nat → Option Nat
  | 0, _, o => o
  | d + 1, k, o => exF P N g d (k + 1) (exS P N g k o)
theorem exS_d {P : Pq} {N : Nq} {g : Bool} {k : Nat} {o : Option Nat} (h : N.2.1 k = true) : exS P N g k o = o := if_pos h
theorem exS_n {P : Pq} {N : Nq} {g : Bool} {k : Nat} (h : N.2.1 k = false) : exS P N g k none = some (knw P N k) := by
  unfold exS
  rw [if_neg (by rw [h]; decide)]
theorem exS_s {P : Pq} {N : Nq} {g : Bool} {k m : Nat} (h : N.2.1 k = false) : exS P N g k (some m) = some (if g = true then max m (knw P N k) else min m (knw P N k)) := by
  unfold exS
  rw [if_neg (by rw [h]; decide)]
def ext (P : Pq) (N : Nq) (g : Bool) : Option Nat := exF P N g P.1 0 none
theorem imax_n {x y : Nat} (hx : x < 2 ^ 31) (hy : y < 2 ^ 31) : imax (nI x) (nI y) = nI (max x y) := by
  unfold imax
  by_cases h : x < y
  · rw [if_pos (nI_lt h hy), Nat.max_eq_right (by omega)]
  · rw [if_neg (nI_nlt (by omega) hx), Nat.max_eq_left (by omega)]
theorem imin_n {x y : Nat} (hx : x < 2 ^ 31) (hy : y < 2 ^ 31) : imin (nI x) (nI y) = nI (min x y) := by
  unfold imin
  by_cases h : y < x
  · rw [if_pos (nI_lt h hx), Nat.min_eq_right (by omega)]
  · rw [if_neg (nI_nlt (by omega) hy), Nat.min_eq_left (by omega)]
theorem imax_m1 {y : Nat} (hy : y < 2 ^ 31) : imax (-1) (nI y) = nI y := by
  unfold imax
  rw [if_pos]
  rw [Int32.lt_iff_toInt_lt, nI_toInt hy, show (-1 : Int32).toInt = -1 by decide]
  omega
theorem knw_8 {P : Pq} {N : Nq} {j : Nat} (hp : wfP P) : knw P N j ≤ 8 := Nat.le_trans (knF_le N _ _ _) hp.2.1
theorem most_run {C : Mm} {a : Nat} {P : Pq} {N : Nq} (hp : wfP P) (hN : hasN C a P N) : ∀ d k o, k + d = 8 → (∀ m, o = some m → m ≤ 8) → run stX1_mostKnown (1, [a], [oI o, nI k], C) = some (oI (exF P N true (P.1 - k) k o), C) := by
  have h8 := hp.2.1
  intro d
  induction d with
  | zero =>
    intro k o e ho
    rw [eX1_mostKnown_1, n8, if_pos (nI_le (by omega) (by omega)), show P.1 - k = 0 by omega]
    rfl
  | succ d ih =>
    intro k o e ho
    rw [eX1_mostKnown_1, n8, if_neg (nI_ge (by omega) (by omega)), isAlive_c hp hN, cl_s, ix_nI (by omega), nI_1]
    by_cases hk : k < P.1
    · rw [okI_nI hk (by omega), Bool.true_and, show P.1 - k = (P.1 - (k + 1)) + 1 by omega, exF]
      cases hd : N.2.1 k with
      | true =>
        rw [if_pos (show bI (!true) = 0 from rfl), ih (k + 1) o (by omega) ho, exS_d hd]
      | false =>
        have kn8 := knw_8 (N := N) (j := k) hp
        rw [if_neg (show ¬ bI (!false) = 0 by decide), known_c hp hN, cl_s]
        cases o with
        | none =>
          rw [show oI none = -1 from rfl, imax_m1 (by omega), exS_n hd]
          exact ih (k + 1) (some (knw P N k)) (by omega) (fun m hm => by have e1 : knw P N k = m := Option.some.inj hm; omega)
        | some m =>
          have hm8 := ho m rfl
          rw [show oI (some m) = nI m from rfl, imax_n (by omega) (by omega), exS_s hd, if_pos rfl]
          exact ih (k + 1) (some (max m (knw P N k))) (by omega) (fun r hr => by have e1 : max m (knw P N k) = r := Option.some.inj hr; omega)
    · rw [okI_ge (by omega) (by omega), Bool.false_and, if_pos (show bI false = 0 from rfl), ih (k + 1) o (by omega) ho, show P.1 - (k + 1) = 0 by omega, show P.1 - k = 0 by omega]
      rfl
theorem most_c {C : Mm} {a : Nat} {P : Pq} {N : Nq} (hp : wfP P) (hN : hasN C a P N) : fX1_mostKnown a C = some (oI (ext P N true), C) := by
  unfold fX1_mostKnown ext
  rw [eX1_mostKnown_0]
  have := most_run hp hN 8 0 none (by omega) (fun m hm => by cases hm)
  rw [Nat.sub_zero] at this
  exact this
theorem least_run {C : Mm} {a : Nat} {P : Pq} {N : Nq} (hp : wfP P) (hN : hasN C a P N) : ∀ d k o, k + d = 8 → (∀ m, o = some m → m ≤ 8) → run stX1_leastKnown (1, [a], [oI o, nI k], C) = some (oI (exF P N false (P.1 - k) k o), C) := by
  have h8 := hp.2.1
  intro d
  induction d with
  | zero =>
    intro k o e ho
    rw [eX1_leastKnown_1, n8, if_pos (nI_le (by omega) (by omega)), show P.1 - k = 0 by omega]
    rfl
  | succ d ih =>
    intro k o e ho
    rw [eX1_leastKnown_1, n8, if_neg (nI_ge (by omega) (by omega)), isAlive_c hp hN, cl_s, ix_nI (by omega), nI_1]
    by_cases hk : k < P.1
    · rw [okI_nI hk (by omega), Bool.true_and, show P.1 - k = (P.1 - (k + 1)) + 1 by omega, exF]
      cases hd : N.2.1 k with
      | true =>
        rw [if_pos (show bI (!true) = 0 from rfl), ih (k + 1) o (by omega) ho, exS_d hd]
      | false =>
        have kn8 := knw_8 (N := N) (j := k) hp
        rw [if_neg (show ¬ bI (!false) = 0 by decide), known_c hp hN]
        cases o with
        | none =>
          rw [if_pos (show oI none = -1 from rfl), cl_s, exS_n hd]
          exact ih (k + 1) (some (knw P N k)) (by omega) (fun m hm => by have e1 : knw P N k = m := Option.some.inj hm; omega)
        | some m =>
          have hm8 := ho m rfl
          rw [if_neg (show ¬ oI (some m) = -1 from nI_nm1 (by omega)), cl_s, show oI (some m) = nI m from rfl, imin_n (by omega) (by omega), exS_s hd, if_neg (by decide)]
          exact ih (k + 1) (some (min m (knw P N k))) (by omega) (fun r hr => by have e1 : min m (knw P N k) = r := Option.some.inj hr; omega)
    · rw [okI_ge (by omega) (by omega), Bool.false_and, if_pos (show bI false = 0 from rfl), ih (k + 1) o (by omega) ho, show P.1 - (k + 1) = 0 by omega, show P.1 - k = 0 by omega]
      rfl
theorem least_c {C : Mm} {a : Nat} {P : Pq} {N : Nq} (hp : wfP P) (hN : hasN C a P N) : fX1_leastKnown a C = some (oI (ext P N false), C) := by
  unfold fX1_leastKnown ext
  rw [eX1_leastKnown_0]
  have := least_run hp hN 8 0 none (by omega) (fun m hm => by cases hm)
  rw [Nat.sub_zero] at this
  exact this
theorem ext_runr {D : Mm} {b : Nat} {P : Pq} {N : Nq} {g : Bool} (hb : b ≤ 990) (hp : wfP P) (hw : wfN P N) (hB : hasB D b P N) (hP : hasP D P) : ∀ d k o, k + d = P.1 → (∀ m, o = some m → m ≤ 8) → run stX9_extreme (1, [], [nI b, bI g, oI o, nI k], D) = some (oI (exF P N g d k o), D) := by
  have h8 := hp.2.1
  intro d
  induction d with
  | zero =>
    intro k o e ho
    rw [eX9_extreme_1, hP.1, if_pos (nI_le (by omega) (by omega))]
    rfl
  | succ d ih =>
    intro k o e ho
    rw [eX9_extreme_1, hP.1, if_neg (nI_ge (by omega) (by omega)), isDead_r hb hp hB (by omega), cl_s, nI_1, exF]
    cases hd : N.2.1 k with
    | true =>
      rw [if_neg (show ¬ bI true = 0 by decide), ih (k + 1) o (by omega) ho, exS_d hd]
    | false =>
      have kn8 := knw_8 (N := N) (j := k) hp
      rw [if_pos (show bI false = 0 from rfl), known_r hb hp hw hB hP (by omega), cl_s]
      cases o with
      | none =>
        rw [if_pos (show oI none = -1 from rfl), exS_n hd]
        exact ih (k + 1) (some (knw P N k)) (by omega) (fun m hm => by have e1 : knw P N k = m := Option.some.inj hm; omega)
      | some m =>
        have hm8 := ho m rfl
        rw [if_neg (show ¬ oI (some m) = -1 from nI_nm1 (by omega)), show oI (some m) = nI m from rfl]
        have nx : ∀ v, v ≤ 8 → run stX9_extreme (1, [], [nI b, bI g, nI v, nI (k + 1)], D) = some (oI (exF P N g d (k + 1) (some v)), D) := fun v hv => ih (k + 1) (some v) (by omega) (fun r hr => by have e1 : v = r := Option.some.inj hr; omega)
        rw [nx m hm8, nx (knw P N k) kn8, exS_s hd]
        cases g with
        | false =>
          rw [if_pos (show bI false = 0 from rfl), if_neg (show ¬ (false = true) by decide)]
          by_cases hle : m ≤ knw P N k
          · rw [if_pos (nI_le hle (by omega)), Nat.min_eq_left hle]
          · rw [if_neg (nI_ge (by omega) (by omega)), Nat.min_eq_right (by omega)]
        | true =>
          rw [if_neg (show ¬ bI true = 0 by decide), if_pos (show true = true from rfl)]
          by_cases hle : knw P N k ≤ m
          · rw [if_pos (nI_le hle (by omega)), Nat.max_eq_left hle]
          · rw [if_neg (nI_ge (by omega) (by omega)), Nat.max_eq_right (by omega)]
theorem ext_r {D : Mm} {b : Nat} {P : Pq} {N : Nq} (g : Bool) (hb : b ≤ 990) (hp : wfP P) (hw : wfN P N) (hB : hasB D b P N) (hP : hasP D P) : fX9_extreme (nI b) (bI g) D = some (oI (ext P N g), D) := by
  unfold fX9_extreme ext
  rw [eX9_extreme_0]
  exact ext_runr hb hp hw hB hP P.1 0 none (by omega) (fun m hm => by cases hm)
/-! entries of all views -/
def enF (N : Nq) : Nat → Nat → Nat
  | 0, _ => 0
  | d + 1, k => (N.2.2 k).length + enF N d (k + 1)
def ent (P : Pq) (N : Nq) : Nat := enF N P.1 0
theorem ent_run {C : Mm} {a : Nat} {P : Pq} {N : Nq} (hp : wfP P) (hw : wfN P N) (hN : hasN C a P N) : ∀ d k t, k + d = 8 → run stX1_entries (1, [a], [nI t, nI k], C) = some (nI (t + enF N (P.1 - k) k), C) := by
  have h8 := hp.2.1
  intro d
  induction d with
  | zero =>
    intro k t e
    rw [eX1_entries_1, n8, if_pos (nI_le (by omega) (by omega)), show P.1 - k = 0 by omega, enF]
    rfl
  | succ d ih =>
    intro k t e
    rw [eX1_entries_1, n8, if_neg (nI_ge (by omega) (by omega)), gd_ok (by omega) (by omega), ix_nI (by omega), nI_1, (hN.2.2.2.2.2.2 k (by omega)).2.1, nI_add, ih (k + 1) _ (by omega)]
    by_cases hk : k < P.1
    · rw [show P.1 - k = (P.1 - (k + 1)) + 1 by omega, enF, Nat.add_assoc]
    · rw [hw.2.2 k (by omega), show P.1 - (k + 1) = 0 by omega, show P.1 - k = 0 by omega]
      rfl
theorem ent_c {C : Mm} {a : Nat} {P : Pq} {N : Nq} (hp : wfP P) (hw : wfN P N) (hN : hasN C a P N) : fX1_entries a C = some (nI (ent P N), C) := by
  unfold fX1_entries ent
  rw [eX1_entries_0]
  have := ent_run hp hw hN 8 0 0 (by omega)
  rw [Nat.zero_add, Nat.sub_zero] at this
  exact this
theorem ent_runr {D : Mm} {P : Pq} {N : Nq} (hp : wfP P) (hB : hasB D 0 P N) (hP : hasP D P) : ∀ d k t, k + d = P.1 → run stX9_entries (1, [], [nI t, nI k], D) = some (nI (t + enF N d k), D) := by
  have h8 := hp.2.1
  intro d
  induction d with
  | zero =>
    intro k t e
    rw [eX9_entries_1, hP.1, if_pos (nI_le (by omega) (by omega)), enF]
    rfl
  | succ d ih =>
    intro k t e
    have h1 := (hB.2.2 k (by omega)).2.1
    rw [Nat.zero_add] at h1
    rw [eX9_entries_1, hP.1, if_neg (nI_ge (by omega) (by omega)), n2, nI_add, gd_ok (by omega) (by omega), ix_nI (by omega), nI_1, h1, nI_add, ih (k + 1) _ (by omega), enF, Nat.add_assoc]
theorem ent_r {D : Mm} {P : Pq} {N : Nq} (hp : wfP P) (hB : hasB D 0 P N) (hP : hasP D P) : fX9_entries D = some (nI (ent P N), D) := by
  unfold fX9_entries ent
  rw [eX9_entries_0]
  have := ent_runr hp hB hP P.1 0 0 (by omega)
  rw [Nat.zero_add] at this
  exact this
