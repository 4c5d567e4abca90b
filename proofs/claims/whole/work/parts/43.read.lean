/-! the class reads the whole text -/
theorem fit_congr {w m i v : Nat} {q q' : Nat → Nat} (h : ∀ k, k < i → q k = q' k) : fit w m q i v = fit w m q' i v := by
  unfold fit
  by_cases hw : w = 0
  · rw [if_pos hw, if_pos hw]
    have : hiN q i = hiN q' i := by
      unfold hiN
      by_cases h2 : i = 2
      · rw [h 1 (by omega)]
      · repeat' split
        all_goals first | rfl | omega
    rw [this]
  · rw [if_neg hw, if_neg hw]
    by_cases h0 : i = 0
    · simp [h0]
    · rw [h 0 (by omega)]
theorem rdN_fit {T : Nat → Nat} {n w m : Nat} : ∀ j i e q, (rdN T n w m j i e q).1 = true → (∀ k, k < i → (rdN T n w m j i e q).2.2 k = q k) ∧ ∀ k, i ≤ k → k < i + j → fit w m (rdN T n w m j i e q).2.2 k ((rdN T n w m j i e q).2.2 k) = true := by
  intro j
  induction j with
  | zero => intro i e q _; exact ⟨fun k _ => rfl, fun k h1 h2 => by omega⟩
  | succ j ih =>
    intro i e q h
    cases hv : nm T n e with
    | none => rw [rdN_n hv] at h; cases h
    | some v =>
      cases hf : fit w m q i v with
      | false => rw [rdN_f hv hf] at h; cases h
      | true =>
        rw [rdN_s hv hf] at h ⊢
        obtain ⟨h1, h2⟩ := ih _ _ _ h
        have h3 : ∀ k, k < i → (rdN T n w m j (i + 1) (tkE T n e) (va_up q i v)).2.2 k = q k := fun k hk => by rw [h1 k (by omega), va_up_ne _ _ (by omega)]
        refine ⟨h3, fun k hk1 hk2 => ?_⟩
        by_cases hk : k = i
        · rw [hk, h1 i (by omega), va_up_self, fit_congr (q' := q) h3]; exact hf
        · exact h2 k (by omega) (by omega)
abbrev Lq : Type := List (Nat × (Nat → Nat))
def okL : Nat → Lq → Prop
  | _, [] => True
  | m, x :: l => x.1 < 5 ∧ (∀ k, x.2 k < 1000) ∧ fit8 x.1 m x.2 ∧ okL (nwM x.1 m x.2) l
theorem cls_ok {T : Nat → Nat} {n m e w : Nat} {q : Nat → Nat} (he : e ≤ n) (h : (cls T n m e).1 = some (w, q)) : w < 5 ∧ (∀ k, q k < 1000) ∧ fit8 w m q := by
  unfold cls at h
  cases hw : wrd T n e with
  | none => rw [hw] at h; cases h
  | some x =>
    rw [hw] at h
    have hx := wrdF_lt 5 0 x hw
    have hlt := rdN_lt (T := T) (w := x) (m := m) (cn x) 0 (tkE T n e) q0N (tkE_le he).2 (fun k => show (0 : Nat) < 1000 by decide)
    cases hr : (rdN T n x m (cn x) 0 (tkE T n e) q0N).1 with
    | false => simp only [hr] at h; cases h
    | true =>
      simp only [hr, if_true] at h
      have hf := rdN_fit _ _ _ _ hr
      obtain ⟨rfl, rfl⟩ := Prod.mk.inj (Option.some.inj h)
      exact ⟨by omega, hlt.2, fun i hi => hf.2 i (by omega) (by omega)⟩
theorem nwM_8 {w m : Nat} {q : Nat → Nat} (hm : m ≤ 8) (h : fit8 w m q) : nwM w m q ≤ 8 := by
  unfold nwM
  by_cases hw : w = 0
  · rw [if_pos hw]
    have := h 0 (by rw [hw]; decide)
    rw [fit, if_pos hw, decide_eq_true_eq] at this
    exact this.2
  · rw [if_neg hw]; exact hm
theorem rds_n {T : Nat → Nat} {n d e m f : Nat} (h : cls T n m e = (none, f)) : rds T n (d + 1) e m = (false, f, []) := by rw [rds, h]
theorem rds_s {T : Nat → Nat} {n d e m f w : Nat} {q : Nat → Nat} (h : cls T n m e = (some (w, q), f)) : rds T n (d + 1) e m = if tkK T n f = 0 then (true, f, [(w, q)]) else if tkK T n f = 3 ∧ d ≠ 0 then ((rds T n d (tkE T n f) (nwM w m q)).1, (rds T n d (tkE T n f) (nwM w m q)).2.1, (w, q) :: (rds T n d (tkE T n f) (nwM w m q)).2.2) else (false, f, [(w, q)]) := by rw [rds, h]
theorem cls_pr {T : Nat → Nat} {n m e : Nat} : cls T n m e = ((cls T n m e).1, (cls T n m e).2) := rfl
abbrev x0 : Nat × (Nat → Nat) := (0, q0N)
/-- clauses kept in the class from place c on -/
def stL (C : Mm) (c : Nat) (l : Lq) : Prop := ∀ j, j < l.length → C 4 (c + j) = nI (l.getD j x0).1 ∧ ∀ k, k < cn (l.getD j x0).1 → C 5 ((c + j) * 4 + k) = nI ((l.getD j x0).2 k)
def frN (C C' : Mm) (c : Nat) : Prop := (∀ z, z ≠ 1 → z ≠ 3 → z ≠ 4 → z ≠ 5 → C' z = C z) ∧ C' 1 1 = C 1 1 ∧ (∀ j, j < c → C' 4 j = C 4 j) ∧ ∀ j, j < c * 4 → C' 5 j = C 5 j
theorem frL_N {C C' : Mm} {c : Nat} (h : frL C C' c) : frN C C' c := ⟨h.1, h.2.1, fun j hj => h.2.2.2.1 j (by omega), fun j hj => h.2.2.2.2 j (by omega)⟩
theorem frN.tr {C C1 C2 : Mm} {c : Nat} (h : frN C C1 c) (g : frN C1 C2 c) : frN C C2 c := ⟨fun z x1 x2 x3 x4 => (g.1 z x1 x2 x3 x4).trans (h.1 z x1 x2 x3 x4), g.2.1.trans h.2.1, fun j x => (g.2.2.1 j x).trans (h.2.2.1 j x), fun j x => (g.2.2.2 j x).trans (h.2.2.2 j x)⟩
theorem frN_3 {C : Mm} {c : Nat} {v : Int32} : frN C (up2 C 3 2 v) c := ⟨fun z _ h _ _ => up2_c h, by rw [rd_c (by decide)], fun j _ => rd_c (by decide), fun j _ => rd_c (by decide)⟩
theorem frN_le {C C' : Mm} {c d : Nat} (h : frN C C' d) (hc : c ≤ d) : frN C C' c := ⟨h.1, h.2.1, fun j hj => h.2.2.1 j (by omega), fun j hj => h.2.2.2 j (by omega)⟩
theorem rds_len {T : Nat → Nat} {n : Nat} : ∀ d e m, (rds T n d e m).2.2.length ≤ d := by
  intro d
  induction d with
  | zero => intro e m; exact Nat.le_refl _
  | succ d ih =>
    intro e m
    cases h1 : (cls T n m e).1 with
    | none => rw [rds_n (f := (cls T n m e).2) (by rw [← h1])]; simp
    | some x =>
      rw [rds_s (f := (cls T n m e).2) (w := x.1) (q := x.2) (by rw [← h1])]
      have := ih (tkE T n (cls T n m e).2) (nwM x.1 m x.2)
      repeat' split
      all_goals simp
      exact this
theorem bF {α : Type} {a b : α} : (if false = true then a else b) = b := rfl
theorem bT {α : Type} {a b : α} : (if true = true then a else b) = a := rfl
def rdP (T : Nat → Nat) (n c m : Nat) (C : Mm) (R : Bool × Nat × Lq) : Prop := ∃ C', run stX0_read (1, [], [nI c], C) = some (if R.1 = true then -1 else nI (tkS T n R.2.1), C') ∧ frN C C' c ∧ stL C' c R.2.2 ∧ okL m R.2.2 ∧ R.2.1 ≤ n ∧ (R.1 = true → C' 3 2 = nI (c + R.2.2.length))
theorem read_run {T : Nat → Nat} {n : Nat} : ∀ d c e m (C : Mm), c + (d + 1) = 24 → e ≤ n → m ≤ 8 → txC C T n → C 1 4 = nI e → C 3 3 = nI m → rdP T n c m C (rds T n (d + 1) e m) := by
  intro d
  induction d with
  | zero =>
    intro c e m C hc he hm hT h4 h3
    obtain ⟨C1, f1, t1, h5⟩ := clause_c (c := c) (m := m) (by omega) hm (tkH_tkC hT he) (by rw [tkC_z (by decide)]; exact h3)
    have fr0 : frN C C1 c := (frL_N (frK_L frK_tk)).tr (frL_N f1)
    have hk4 := kd_4 T n (tkS T n (cls T n m e).2)
    rw [← tkK] at hk4
    rcases h5 with ⟨w, q, hw, hs, hr, h6, h7, h8, h9⟩ | ⟨hs, hr⟩
    · obtain ⟨-, -, k3⟩ := cls_ok he hs
      have hN : okL m [(w, q)] := ⟨hw, h8, k3, trivial⟩
      have hst : stL (up2 C1 3 2 (nI (c + 1))) c [(w, q)] := by
        intro j hj
        have hj0 : j = 0 := by simpa using hj
        rw [hj0, rd_c (by decide)]
        exact ⟨h6, fun k hk => by rw [rd_c (by decide)]; exact h9 k hk⟩
      have hrun : run stX0_read (1, [], [nI c], C) = if nI (tkK T n (cls T n m e).2) = 0 then some (-1, up2 C1 3 2 (nI (c + 1))) else if nI (tkK T n (cls T n m e).2) = nI 3 then run stX0_read (1, [], [nI (c + 1)], up2 C1 3 2 (nI (c + 1))) else some (nI (tkS T n (cls T n m e).2), up2 C1 3 2 (nI (c + 1))) := by
        rw [eX0_read_1, n24, if_neg (nI_ge (by omega) (by decide)), readTok_c hT he h4, cl_s, hr, cl_s, if_neg (by decide), nI_1, rd_c (by decide), t1.2.2.2.1, rd_c (by decide), t1.2.2.1]; rfl
      by_cases g0 : tkK T n (cls T n m e).2 = 0
      · have hR : rds T n (0 + 1) e m = (true, (cls T n m e).2, [(w, q)]) := by rw [rds_s (f := (cls T n m e).2) (w := w) (q := q) (by rw [← hs]), if_pos g0]
        rw [hR]
        exact ⟨_, by rw [hrun, g0, if_pos (show nI 0 = 0 from rfl), bT], fr0.tr frN_3, hst, hN, t1.2.1, fun _ => up2_s _ _ _ _⟩
      · have hR : rds T n (0 + 1) e m = (false, (cls T n m e).2, [(w, q)]) := by rw [rds_s (f := (cls T n m e).2) (w := w) (q := q) (by rw [← hs]), if_neg g0, if_neg (fun z => z.2 rfl)]
        rw [hR]
        refine ⟨_, ?_, fr0.tr frN_3, hst, hN, t1.2.1, fun z => (by cases z)⟩
        rw [hrun, if_neg (nI_ne0 (by omega) (by omega)), bF]
        by_cases g3 : tkK T n (cls T n m e).2 = 3
        · rw [g3, if_pos rfl, eX0_read_1, n24, if_pos (nI_le (by omega) (by omega)), rd_c (by decide), t1.2.2.1]
        · rw [if_neg (fun z => g3 ((nI_eq (by omega) (by omega)).mp z))]
    · have hR : rds T n (0 + 1) e m = (false, (cls T n m e).2, []) := rds_n (by rw [← hs])
      rw [hR]
      refine ⟨C1, ?_, fr0, fun j hj => absurd hj (by simp), trivial, t1.2.1, fun z => (by cases z)⟩
      rw [eX0_read_1, n24, if_neg (nI_ge (by omega) (by decide)), readTok_c hT he h4, cl_s, hr, cl_s, if_pos rfl, t1.2.2.1, bF]
  | succ d ih =>
    intro c e m C hc he hm hT h4 h3
    obtain ⟨C1, f1, t1, h5⟩ := clause_c (c := c) (m := m) (by omega) hm (tkH_tkC hT he) (by rw [tkC_z (by decide)]; exact h3)
    have fr0 : frN C C1 c := (frL_N (frK_L frK_tk)).tr (frL_N f1)
    have hk4 := kd_4 T n (tkS T n (cls T n m e).2)
    rw [← tkK] at hk4
    rcases h5 with ⟨w, q, hw, hs, hr, h6, h7, h8, h9⟩ | ⟨hs, hr⟩
    · obtain ⟨-, -, k3⟩ := cls_ok he hs
      have hN : okL m [(w, q)] := ⟨hw, h8, k3, trivial⟩
      have hst : stL (up2 C1 3 2 (nI (c + 1))) c [(w, q)] := by
        intro j hj
        have hj0 : j = 0 := by simpa using hj
        rw [hj0, rd_c (by decide)]
        exact ⟨h6, fun k hk => by rw [rd_c (by decide)]; exact h9 k hk⟩
      have hrun : run stX0_read (1, [], [nI c], C) = if nI (tkK T n (cls T n m e).2) = 0 then some (-1, up2 C1 3 2 (nI (c + 1))) else if nI (tkK T n (cls T n m e).2) = nI 3 then run stX0_read (1, [], [nI (c + 1)], up2 C1 3 2 (nI (c + 1))) else some (nI (tkS T n (cls T n m e).2), up2 C1 3 2 (nI (c + 1))) := by
        rw [eX0_read_1, n24, if_neg (nI_ge (by omega) (by decide)), readTok_c hT he h4, cl_s, hr, cl_s, if_neg (by decide), nI_1, rd_c (by decide), t1.2.2.2.1, rd_c (by decide), t1.2.2.1]; rfl
      by_cases g0 : tkK T n (cls T n m e).2 = 0
      · have hR : rds T n (d + 1 + 1) e m = (true, (cls T n m e).2, [(w, q)]) := by rw [rds_s (f := (cls T n m e).2) (w := w) (q := q) (by rw [← hs]), if_pos g0]
        rw [hR]
        exact ⟨_, by rw [hrun, g0, if_pos (show nI 0 = 0 from rfl), bT], fr0.tr frN_3, hst, hN, t1.2.1, fun _ => up2_s _ _ _ _⟩
      · by_cases g3 : tkK T n (cls T n m e).2 = 3
        · have hR : rds T n (d + 1 + 1) e m = ((rds T n (d + 1) (tkE T n (cls T n m e).2) (nwM w m q)).1, (rds T n (d + 1) (tkE T n (cls T n m e).2) (nwM w m q)).2.1, (w, q) :: (rds T n (d + 1) (tkE T n (cls T n m e).2) (nwM w m q)).2.2) := by rw [rds_s (f := (cls T n m e).2) (w := w) (q := q) (by rw [← hs]), if_neg g0, if_pos ⟨g3, by omega⟩]
          rw [hR]
          obtain ⟨C2, r2, f2, s2, o2, b2, z2⟩ := ih (c + 1) (tkE T n (cls T n m e).2) (nwM w m q) (up2 C1 3 2 (nI (c + 1))) (by omega) (tkE_le t1.2.1).2 (nwM_8 hm k3) (txC_fr t1.1 (by rw [rd_c (by decide)]) (by rw [up2_c (by decide)])) (by rw [rd_c (by decide)]; exact t1.2.2.2.2) (by rw [rd_j (by decide)]; exact h7)
          refine ⟨C2, ?_, (fr0.tr frN_3).tr (frN_le f2 (by omega)), ?_, ⟨hw, h8, k3, o2⟩, b2, fun z => ?_⟩
          · rw [hrun, if_neg (nI_ne0 (by omega) (by omega)), if_pos (by rw [g3]), r2]
          · intro j hj
            cases j with
            | zero =>
              refine ⟨?_, fun k hk => ?_⟩
              · rw [f2.2.2.1 _ (by omega), rd_c (by decide)]; exact h6
              · have hk2 : k < cn w := hk
                have := cn_4 w
                rw [f2.2.2.2 _ (by omega), rd_c (by decide)]; exact h9 k hk
            | succ j =>
              have hj2 : j < (rds T n (d + 1) (tkE T n (cls T n m e).2) (nwM w m q)).2.2.length := by simpa using hj
              have := s2 j hj2
              rw [show c + (j + 1) = c + 1 + j by omega]
              exact this
          · rw [z2 z]
            congr 1
            simp only [List.length_cons]
            omega
        · have hR : rds T n (d + 1 + 1) e m = (false, (cls T n m e).2, [(w, q)]) := by rw [rds_s (f := (cls T n m e).2) (w := w) (q := q) (by rw [← hs]), if_neg g0, if_neg (fun z => g3 z.1)]
          rw [hR]
          refine ⟨_, ?_, fr0.tr frN_3, hst, hN, t1.2.1, fun z => (by cases z)⟩
          rw [hrun, if_neg (nI_ne0 (by omega) (by omega)), if_neg (fun z => g3 ((nI_eq (by omega) (by omega)).mp z)), bF]
    · have hR : rds T n (d + 1 + 1) e m = (false, (cls T n m e).2, []) := rds_n (by rw [← hs])
      rw [hR]
      refine ⟨C1, ?_, fr0, fun j hj => absurd hj (by simp), trivial, t1.2.1, fun z => (by cases z)⟩
      rw [eX0_read_1, n24, if_neg (nI_ge (by omega) (by decide)), readTok_c hT he h4, cl_s, hr, cl_s, if_pos rfl, t1.2.2.1, bF]
def rdA (T : Nat → Nat) (n m : Nat) : Bool × Nat × Lq := rds T n 24 0 m
theorem read_c {C : Mm} {T : Nat → Nat} {n m : Nat} (hm : m ≤ 8) (hT : txC C T n) :
    ∃ C', fX0_read (nI m) C = some (if (rdA T n m).1 = true then -1 else nI (tkS T n (rdA T n m).2.1), C') ∧ (∀ z, z ≠ 1 → z ≠ 3 → z ≠ 4 → z ≠ 5 → C' z = C z) ∧ C' 1 1 = C 1 1 ∧ stL C' 0 (rdA T n m).2.2 ∧ okL m (rdA T n m).2.2 ∧ (rdA T n m).2.1 ≤ n ∧ ((rdA T n m).1 = true → C' 3 2 = nI (rdA T n m).2.2.length) := by
  obtain ⟨C', r, f, s, o, b, z⟩ := read_run (T := T) (n := n) 23 0 0 m (up2 (up2 (up2 C 3 3 (nI m)) 3 2 0) 1 4 0) (by omega) (by omega) hm (txC_up (txC_fr hT (by rw [rd_c (by decide), rd_c (by decide)]) (by rw [up2_c (by decide), up2_c (by decide)])) (by decide)) (by rw [up2_s]; rfl) (by rw [rd_c (by decide), rd_j (by decide), up2_s])
  refine ⟨C', ?_, fun z h1 h3 h4 h5 => ?_, ?_, s, o, b, fun h => by rw [z h, Nat.zero_add]; rfl⟩
  · unfold fX0_read
    rw [eX0_read_0, fX6_rewind, cl_s]
    exact r
  · rw [f.1 z h1 h3 h4 h5, up2_c h1, up2_c h3, up2_c h3]
  · rw [f.2.1, rd_j (by decide), rd_c (by decide), rd_c (by decide)]
