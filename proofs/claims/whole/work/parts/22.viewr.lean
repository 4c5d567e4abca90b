/-! views of the reference -/
theorem n0 : (0 : Int32) = nI 0 := rfl
theorem n1 : (1 : Int32) = nI 1 := rfl
theorem n2 : (2 : Int32) = nI 2 := rfl
theorem n3 : (3 : Int32) = nI 3 := rfl
theorem n5 : (5 : Int32) = nI 5 := rfl
theorem n6 : (6 : Int32) = nI 6 := rfl
theorem n8 : (8 : Int32) = nI 8 := rfl
theorem n10 : (10 : Int32) = nI 10 := rfl
theorem n50 : (50 : Int32) = nI 50 := rfl
theorem n90 : (90 : Int32) = nI 90 := rfl
theorem n99 : (99 : Int32) = nI 99 := rfl
/-- a row's entry: a node 0 .. 7, an age 0 .. 99 -/
def eOK (e : Int32 × Int32) : Prop := ∃ x g, x < 8 ∧ g ≤ 99 ∧ e = (nI x, nI g)
theorem placeOf_runr {D : Mm} {b i : Nat} {l : Vw} {x : Int32} (hb : b ≤ 990) (hi : i < 8) (h : hasR D b i l) : ∀ d k, k + d = l.length → run stX9_placeOf (1, [], [nI b, nI i, x, nI k], D) = some (fnd x (l.drop k) k, D) := by
  obtain ⟨h5, hs, hk⟩ := h
  intro d
  induction d with
  | zero =>
    intro k e
    rw [eX9_placeOf_1]
    simp (disch := omega) only [n2, n5, n10, nI_add, pk_mul, gd_ok, ix_nI, hs]
    rw [if_pos (nI_le (by omega) (by omega)), List.drop_eq_nil_of_le (by omega)]
    rfl
  | succ d ih =>
    intro k e
    rw [eX9_placeOf_1]
    simp (disch := omega) only [n2, n5, n10, nI_add, pk_mul, gd_ok, ix_nI, hs, nI_1]
    rw [if_neg (nI_ge (by omega) (by omega)), (hk k (by omega)).1, drop_cons (by omega : k < l.length), fnd]
    by_cases hx : (l.getD k d0).1 = x
    · rw [if_pos hx, if_pos hx]
    · rw [if_neg hx, if_neg hx, ih (k + 1) (by omega)]
theorem placeOf_r {D : Mm} {b i : Nat} {l : Vw} (x : Int32) (hb : b ≤ 990) (hi : i < 8) (h : hasR D b i l) : fX9_placeOf (nI b) (nI i) x D = some (pos x l, D) := by
  unfold fX9_placeOf
  rw [eX9_placeOf_0, n0, placeOf_runr hb hi h l.length 0 (by omega)]
  rfl
theorem nofV {b i k : Nat} : ofV b i (b + 2 + i) := Or.inl rfl
theorem put_r {D : Mm} {b i : Nat} {l : Vw} {x g : Int32} (hb : b ≤ 990) (hi : i < 8) (h : hasR D b i l) (hl : l.length < 5) : ∃ D', fX9_put (nI b) (nI i) x g D = some (0, D') ∧ hasR D' b i (l ++ [(x, g)]) ∧ frR D D' b i := by
  obtain ⟨h5, hs, hk⟩ := h
  unfold fX9_put
  simp (disch := omega) only [n2, n5, n10, n50, nI_add, pk_mul, gd_ok, ix_nI, hs, rd_j, nI_1]
  refine ⟨_, rfl, ⟨by simp; omega, ?_, fun k hk2 => ?_⟩, ⟨fun c hc => ?_, fun j hj => ?_⟩⟩
  · rw [up2_s]; simp
  · have hk3 : k < l.length + 1 := by simpa using hk2
    rw [gD_app]
    by_cases h6 : k < l.length
    · simp (disch := omega) only [if_pos h6, rd_j]
      exact hk k h6
    · have h7 : k = l.length := by omega
      subst h7
      simp (disch := omega) only [if_neg h6, rd_j, up2_s, if_true]
      exact ⟨trivial, trivial⟩
  · rw [up2_c hc, up2_c hc, up2_c hc]
  · unfold ofV at hj
    simp (disch := omega) only [rd_j]
theorem replace_r {D : Mm} {b i p : Nat} {l : Vw} {x g : Int32} (hb : b ≤ 990) (hi : i < 8) (h : hasR D b i l) (hp : p < l.length) : ∃ D', fX9_replace (nI b) (nI i) (nI p) x g D = some (0, D') ∧ hasR D' b i (l.set p (x, g)) ∧ frR D D' b i := by
  obtain ⟨h5, hs, hk⟩ := h
  unfold fX9_replace
  simp (disch := omega) only [n2, n5, n10, n50, nI_add, pk_mul, gd_ok, ix_nI]
  refine ⟨_, rfl, ⟨by simpa using h5, ?_, fun k hk2 => ?_⟩, ⟨fun c hc => ?_, fun j hj => ?_⟩⟩
  · simp (disch := omega) only [rd_j, hs, List.length_set]
  · have hk3 : k < l.length := by simpa using hk2
    rw [gD_set hp]
    by_cases h6 : k = p
    · subst h6
      simp (disch := omega) only [rd_j, up2_s, if_true]
      exact ⟨trivial, trivial⟩
    · simp (disch := omega) only [rd_j, if_neg h6]
      exact hk k hk3
  · rw [up2_c hc, up2_c hc]
  · unfold ofV at hj
    simp (disch := omega) only [rd_j]
theorem strike_runr {b i p : Nat} {l : Vw} (hb : b ≤ 990) (hi : i < 8) (hp : p < l.length) (h5 : l.length ≤ 5) : ∀ d k, k + 1 + d = l.length → p ≤ k → ∀ D : Mm, D 339 (b + 2 + i) = nI (l.length - 1) → (∀ t, t < k → D 339 (b + 10 + 5 * i + t) = ((l.eraseIdx p).getD t d0).1 ∧ D 339 (b + 50 + 5 * i + t) = ((l.eraseIdx p).getD t d0).2) → (∀ t, k ≤ t → t < l.length → D 339 (b + 10 + 5 * i + t) = (l.getD t d0).1 ∧ D 339 (b + 50 + 5 * i + t) = (l.getD t d0).2) →
    ∃ D', run stX9_strike (1, [], [nI b, nI i, nI k], D) = some (0, D') ∧ hasR D' b i (l.eraseIdx p) ∧ frR D D' b i := by
  intro d
  induction d with
  | zero =>
    intro k e hpk D hs h1 h2
    rw [eX9_strike_1]
    simp (disch := omega) only [n2, n5, n10, n50, nI_add, pk_mul, gd_ok, ix_nI, hs]
    rw [if_pos (nI_le (by omega) (by omega))]
    refine ⟨_, rfl, ⟨by rw [len_del hp]; omega, by rw [len_del hp]; exact hs, fun t ht => ?_⟩, frR.rf⟩
    rw [len_del hp] at ht
    exact h1 t (by omega)
  | succ d ih =>
    intro k e hpk D hs h1 h2
    rw [eX9_strike_1]
    simp (disch := omega) only [n2, n5, n10, n50, nI_add, pk_mul, gd_ok, ix_nI, hs, nI_1]
    rw [if_neg (nI_ge (by omega) (by omega))]
    obtain ⟨D', g1, g2, g3⟩ := ih (k + 1) (by omega) (by omega) (up2 (up2 D 339 (b + 10 + 5 * i + k) (D 339 (b + 10 + 5 * i + k + 1))) 339 (b + 50 + 5 * i + k) (up2 D 339 (b + 10 + 5 * i + k) (D 339 (b + 10 + 5 * i + k + 1)) 339 (b + 50 + 5 * i + k + 1)))
      (by simp (disch := omega) only [rd_j]; exact hs)
      (fun t ht => by
        by_cases hk : t = k
        · subst hk
          simp (disch := omega) only [rd_j, up2_s]
          rw [gD_del, if_neg (by omega)]
          exact h2 (t + 1) (by omega) (by omega)
        · simp (disch := omega) only [rd_j]
          exact h1 t (by omega))
      (fun t h6 h7 => by
        simp (disch := omega) only [rd_j]
        exact h2 t (by omega) h7)
    refine ⟨D', g1, g2, frR.tr ⟨fun c hc => by rw [up2_c hc, up2_c hc], fun j hj => ?_⟩ g3⟩
    unfold ofV at hj
    simp (disch := omega) only [rd_j]
theorem strike_r {D : Mm} {b i p : Nat} {l : Vw} (hb : b ≤ 990) (hi : i < 8) (h : hasR D b i l) (hp : p < l.length) : ∃ D', fX9_strike (nI b) (nI i) (nI p) D = some (0, D') ∧ hasR D' b i (l.eraseIdx p) ∧ frR D D' b i := by
  obtain ⟨h5, hs, hk⟩ := h
  unfold fX9_strike
  rw [eX9_strike_0]
  have e1 : nI l.length - 1 = nI (l.length - 1) := by
    rw [show nI l.length = nI ((l.length - 1) + 1) by congr 1; omega, nI_pred]
  simp (disch := omega) only [n2, nI_add, gd_ok, ix_nI, hs, e1]
  obtain ⟨D', g1, g2, g3⟩ := strike_runr hb hi hp h5 (l.length - p - 1) p (by omega) (Nat.le_refl _) (up2 D 339 (b + 2 + i) (nI (l.length - 1))) (up2_s _ _ _ _) (fun t ht => by simp (disch := omega) only [rd_j]; rw [gD_del, if_pos ht]; exact hk t (by omega)) (fun t _ h2 => by simp (disch := omega) only [rd_j]; exact hk t h2)
  refine ⟨D', g1, g2, frR.tr ⟨fun c hc => up2_c hc, fun j hj => ?_⟩ g3⟩
  unfold ofV at hj
  simp (disch := omega) only [rd_j]
theorem agd_r {g : Nat} (h : g ≤ 99) : (if (99 : Int32) ≤ nI g then nI g + (0 : Int32) else nI g + 1) = imin (nI g + 1) 99 := by
  unfold imin
  by_cases h1 : g = 99
  · subst h1; decide
  · rw [n99, if_neg (nI_ge (by omega) (by omega)), nI_1, if_neg (nI_nlt (by omega) (by omega))]
theorem ages_runr {b i : Nat} {l : Vw} (hb : b ≤ 990) (hi : i < 8) (h5 : l.length ≤ 5) (hw : ∀ e ∈ l, eOK e) : ∀ d k, k + d = l.length → ∀ D : Mm, D 339 (b + 2 + i) = nI l.length → (∀ t, t < l.length → D 339 (b + 10 + 5 * i + t) = (l.getD t d0).1) → (∀ t, t < k → D 339 (b + 50 + 5 * i + t) = ((l.map agd).getD t d0).2) → (∀ t, k ≤ t → t < l.length → D 339 (b + 50 + 5 * i + t) = (l.getD t d0).2) →
    ∃ D', run stX9_ages (1, [], [nI b, nI i, nI (5 * i + k)], D) = some (0, D') ∧ hasR D' b i (l.map agd) ∧ frR D D' b i := by
  intro d
  induction d with
  | zero =>
    intro k e D hs h0 h1 h2
    rw [eX9_ages_1]
    simp (disch := omega) only [n2, n5, n10, n50, nI_add, pk_mul, gd_ok, ix_nI, hs]
    rw [if_pos (nI_le (by omega) (by omega))]
    refine ⟨_, rfl, ⟨by simpa using h5, by simpa using hs, fun t ht => ⟨?_, h1 t (by simp at ht; omega)⟩⟩, frR.rf⟩
    have ht' : t < l.length := by simpa using ht
    rw [h0 t ht', gD_map ht']; rfl
  | succ d ih =>
    intro k e D hs h0 h1 h2
    rw [eX9_ages_1]
    obtain ⟨x, g, hx, hg, he⟩ := hw _ (gD_mem (by omega : k < l.length))
    have hag : D 339 (b + 50 + (5 * i + k)) = nI g := by rw [show b + 50 + (5 * i + k) = b + 50 + 5 * i + k by omega, h2 k (Nat.le_refl _) (by omega), he]
    simp (disch := omega) only [n2, n5, n50, nI_add, pk_mul, gd_ok, ix_nI, hs, nI_1, hag]
    rw [if_neg (nI_ge (by omega) (by omega))]
    have key : ∀ v, v = imin (nI g + 1) 99 → ∃ D', run stX9_ages (1, [], [nI b, nI i, nI (5 * i + k + 1)], up2 D 339 (b + 50 + (5 * i + k)) v) = some (0, D') ∧ hasR D' b i (l.map agd) ∧ frR D D' b i := by
      intro v hv
      obtain ⟨D', g1, g2, g3⟩ := ih (k + 1) (by omega) (up2 D 339 (b + 50 + (5 * i + k)) v)
        (by simp (disch := omega) only [rd_j]; exact hs)
        (fun t ht => by simp (disch := omega) only [rd_j]; exact h0 t ht)
        (fun t ht => by
          by_cases hk : t = k
          · subst hk
            rw [show b + 50 + 5 * i + t = b + 50 + (5 * i + t) by omega, up2_s, gD_map (by omega), hv, agd, he]
          · simp (disch := omega) only [rd_j]
            exact h1 t (by omega))
        (fun t h6 h7 => by simp (disch := omega) only [rd_j]; exact h2 t (by omega) h7)
      refine ⟨D', g1, g2, frR.tr ⟨fun c hc => up2_c hc, fun j hj => ?_⟩ g3⟩
      unfold ofV at hj
      simp (disch := omega) only [rd_j]
    have hr := agd_r hg
    by_cases h9 : (99 : Int32) ≤ nI g
    · rw [if_pos h9] at hr ⊢
      exact key _ hr
    · rw [if_neg h9] at hr ⊢
      rw [nI_1] at hr
      rw [nI_1] at key
      exact key _ hr
theorem ages_r {D : Mm} {b i : Nat} {l : Vw} (hb : b ≤ 990) (hi : i < 8) (h : hasR D b i l) (hw : ∀ e ∈ l, eOK e) : ∃ D', fX9_ages (nI b) (nI i) D = some (0, D') ∧ hasR D' b i (l.map agd) ∧ frR D D' b i := by
  obtain ⟨h5, hs, hk⟩ := h
  unfold fX9_ages
  rw [eX9_ages_0, n5, pk_mul]
  exact ages_runr hb hi h5 hw l.length 0 (by omega) D hs (fun t ht => (hk t ht).1) (fun t ht => by omega) (fun t _ h2 => (hk t h2).2)
/-- the place of the oldest, as the reference counts it -/
def oR (i : Nat) (o : Option Nat) : Int32 := match o with
  | none => -1
  | some j => nI (5 * i + j)
theorem oldest_runr {D : Mm} {b i : Nat} {l : Vw} (hb : b ≤ 990) (hi : i < 8) (h : hasR D b i l) (hw : ∀ e ∈ l, eOK e) : ∀ d k o, k + d = l.length → (∀ j, o = some j → j < l.length) → run stX9_oldest (1, [], [nI b, nI i, oR i o, nI (5 * i + k)], D) = some (oI (oldF l d k o), D) := by
  obtain ⟨h5, hs, hk⟩ := h
  intro d
  induction d with
  | zero =>
    intro k o e ho
    rw [eX9_oldest_1]
    simp (disch := omega) only [n2, n5, n50, nI_add, pk_mul, gd_ok, ix_nI, hs]
    rw [if_pos (nI_le (by omega) (by omega))]
    cases o with
    | none => rw [if_pos (show oR i none = -1 from rfl)]; rfl
    | some j =>
      have hj := ho j rfl
      rw [if_neg (show ¬ oR i (some j) = -1 from nI_nm1 (by omega)), show oR i (some j) = nI (5 * i + j) from rfl, pk_sub (by omega), show 5 * i + j - 5 * i = j by omega]
      rfl
  | succ d ih =>
    intro k o e ho
    rw [eX9_oldest_1]
    simp (disch := omega) only [n2, n5, n50, nI_add, pk_mul, gd_ok, ix_nI, hs]
    rw [if_neg (nI_ge (by omega) (by omega))]
    obtain ⟨x, g, hx, hg, he⟩ := hw _ (gD_mem (by omega : k < l.length))
    have ha : D 339 (b + 50 + (5 * i + k)) = (l.getD k d0).2 := by rw [show b + 50 + (5 * i + k) = b + 50 + 5 * i + k by omega]; exact (hk k (by omega)).2
    have hn : D 339 (b + 10 + (5 * i + k)) = (l.getD k d0).1 := by rw [show b + 10 + (5 * i + k) = b + 10 + 5 * i + k by omega]; exact (hk k (by omega)).1
    rw [ha]
    cases o with
    | none =>
      rw [if_pos (show oR i none = -1 from rfl), eX9_oldest_2, if_pos, nI_1]
      · exact ih (k + 1) (some k) (by omega) (fun j hj => by cases hj; omega)
      · rw [he, Int32.lt_iff_toInt_lt, nI_toInt (by omega), show (-1 : Int32).toInt = -1 by decide]; omega
    | some j =>
      have hj := ho j rfl
      have ha2 : D 339 (b + 50 + (5 * i + j)) = (l.getD j d0).2 := by rw [show b + 50 + (5 * i + j) = b + 50 + 5 * i + j by omega]; exact (hk j hj).2
      have hn2 : D 339 (b + 10 + (5 * i + j)) = (l.getD j d0).1 := by rw [show b + 10 + (5 * i + j) = b + 10 + 5 * i + j by omega]; exact (hk j hj).1
      rw [if_neg (show ¬ oR i (some j) = -1 from nI_nm1 (by omega)), show oR i (some j) = nI (5 * i + j) from rfl]
      simp (disch := omega) only [nI_add, gd_ok, ix_nI, ha2]
      rw [eX9_oldest_2]
      simp (disch := omega) only [n10, nI_add, gd_ok, ix_nI, hn, hn2, nI_1]
      rw [oldF]
      have i1 := ih (k + 1) (some k) (by omega) (fun j hj => by cases hj; omega)
      have i2 := ih (k + 1) (some j) (by omega) ho
      have i1' : run stX9_oldest (1, [], [nI b, nI i, nI (5 * i + k), nI (5 * i + k + 1)], D) = some (oI (oldF l d (k + 1) (some k)), D) := i1
      have i2' : run stX9_oldest (1, [], [nI b, nI i, nI (5 * i + j), nI (5 * i + k + 1)], D) = some (oI (oldF l d (k + 1) (some j)), D) := i2
      rw [i1', i2']
      unfold bfr
      generalize l.getD k d0 = e1
      generalize l.getD j d0 = e2
      by_cases h1 : e2.2 < e1.2
      · simp [h1]
      · by_cases h2 : e1.2 = e2.2
        · by_cases h3 : e1.1 < e2.1
          · simp [h2, h3, Int32.not_le.mpr h3]
          · simp [h2, h3, Int32.not_lt.mp h3]
        · simp [h1, h2]
theorem oldest_r {D : Mm} {b i : Nat} {l : Vw} (hb : b ≤ 990) (hi : i < 8) (h : hasR D b i l) (hw : ∀ e ∈ l, eOK e) : fX9_oldest (nI b) (nI i) D = some (oI (old l), D) := by
  unfold fX9_oldest
  rw [eX9_oldest_0, n5, pk_mul]
  exact oldest_runr hb hi h hw l.length 0 none (by omega) (fun j hj => by cases hj)
theorem viewOf_runr {D : Mm} {i : Nat} {l : Vw} (hi : i < 8) (h : hasR D 0 i l) : ∀ d k m, k + d = l.length → run stX9_viewOf (1, [], [nI i, m, nI k], D) = some ((l.drop k).foldl (fun m e => m ||| ish 1 e.1) m, D) := by
  obtain ⟨h5, hs, hk⟩ := h
  rw [Nat.zero_add] at hs
  intro d
  induction d with
  | zero =>
    intro k m e
    rw [eX9_viewOf_1]
    simp (disch := omega) only [n2, n5, n10, nI_add, pk_mul, gd_ok, ix_nI, hs]
    rw [if_pos (nI_le (by omega) (by omega)), List.drop_eq_nil_of_le (by omega)]
    rfl
  | succ d ih =>
    intro k m e
    have h1 := (hk k (by omega)).1
    rw [Nat.zero_add] at h1
    rw [eX9_viewOf_1]
    simp (disch := omega) only [n2, n5, n10, nI_add, pk_mul, gd_ok, ix_nI, hs, nI_1, h1]
    rw [if_neg (nI_ge (by omega) (by omega)), ih (k + 1) _ (by omega), drop_cons (by omega : k < l.length), List.foldl_cons]
theorem viewOf_r {D : Mm} {i : Nat} {l : Vw} (hi : i < 8) (h : hasR D 0 i l) : fX9_viewOf (nI i) D = some (bts l, D) := by
  unfold fX9_viewOf
  rw [eX9_viewOf_0]
  exact viewOf_runr hi h l.length 0 0 (by omega)
