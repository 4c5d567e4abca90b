/-! views of the class: strike, grow older, the oldest, bits, copy -/
theorem gd_ok1 {α : Type} {k N : Nat} (h : k + 1 < N) (hN : N < 2 ^ 31) {A : Option α} : gd (okI (nI k + 1) N) A = A := by rw [nI_1]; exact gd_ok h hN
theorem strike_run {a p : Nat} {l : Vw} (hp : p < l.length) (h5 : l.length ≤ 5) : ∀ d k, k + 1 + d = l.length → p ≤ k → ∀ C : Mm, C a 2 = nI l.length → (∀ t, t < k → C (a + 1) t = ((l.eraseIdx p).getD t d0).1 ∧ C (a + 2) t = ((l.eraseIdx p).getD t d0).2) → (∀ t, k ≤ t → t < l.length → C (a + 1) t = (l.getD t d0).1 ∧ C (a + 2) t = (l.getD t d0).2) →
    ∃ C', run stX7_strike (1, [a], [nI k], C) = some (0, C') ∧ hasV C' a (l.eraseIdx p) ∧ frV C C' a := by
  intro d
  induction d with
  | zero =>
    intro k e hpk C hs h1 h2
    rw [eX7_strike_1, hs, nI_1, if_pos (nI_le (by omega) (by omega))]
    refine ⟨_, rfl, ⟨by rw [len_del hp]; omega, ?_, fun t ht => ?_⟩, fun c x y z => up2_c x⟩
    · rw [up2_s, len_del hp, show l.length = (l.length - 1) + 1 by omega, nI_pred]; rfl
    · rw [len_del hp] at ht
      simp (disch := omega) only [rd_c]
      exact h1 t (by omega)
  | succ d ih =>
    intro k e hpk C hs h1 h2
    rw [eX7_strike_1, hs, gd_ok1 (by omega) (by omega), gd_ok (by omega) (by omega), gd_ok1 (by omega) (by omega), gd_ok (by omega) (by omega), nI_1, if_neg (nI_ge (by omega) (by omega)), ix_nI (by omega), ix_nI (by omega)]
    obtain ⟨C', g1, g2, g3⟩ := ih (k + 1) (by omega) (by omega) (up2 (up2 C (a + 1) k (C (a + 1) (k + 1))) (a + 2) k ((up2 C (a + 1) k (C (a + 1) (k + 1))) (a + 2) (k + 1)))
      (by simp (disch := omega) only [rd_c]; exact hs)
      (fun t ht => by
        by_cases hk : t = k
        · subst hk
          simp (disch := omega) only [rd_c, up2_s]
          rw [gD_del, if_neg (by omega)]
          exact h2 (t + 1) (by omega) (by omega)
        · simp (disch := omega) only [rd_c, rd_j]
          exact h1 t (by omega))
      (fun t h6 h7 => by
        simp (disch := omega) only [rd_c, rd_j]
        exact h2 t (by omega) h7)
    refine ⟨C', g1, g2, fun c x y z => ?_⟩
    rw [g3 c x y z, up2_c z, up2_c y]
theorem strike_c {C : Mm} {a p : Nat} {l : Vw} (h : hasV C a l) (hp : p < l.length) : ∃ C', fX7_strike a (nI p) C = some (0, C') ∧ hasV C' a (l.eraseIdx p) ∧ frV C C' a := by
  obtain ⟨h5, hs, hk⟩ := h
  unfold fX7_strike
  rw [eX7_strike_0, hs, if_neg (nI_pos (by omega)), if_pos (nI_lt hp (by omega))]
  exact strike_run hp h5 (l.length - p - 1) p (by omega) (Nat.le_refl _) C hs (fun t ht => by rw [gD_del, if_pos ht]; exact hk t (by omega)) (fun t _ h2 => hk t h2)
theorem strike_m1 {C : Mm} {a : Nat} : fX7_strike a (-1) C = some (0, C) := by
  unfold fX7_strike
  rw [eX7_strike_0, if_pos (by decide)]
/-- an entry grows older -/
def agd (e : Int32 × Int32) : Int32 × Int32 := (e.1, imin (e.2 + 1) 99)
theorem grow_run {a : Nat} {l : Vw} (h5 : l.length ≤ 5) : ∀ d k, k + d = l.length → ∀ C : Mm, C a 2 = nI l.length → (∀ t, t < l.length → C (a + 1) t = (l.getD t d0).1) → (∀ t, t < k → C (a + 2) t = ((l.map agd).getD t d0).2) → (∀ t, k ≤ t → t < l.length → C (a + 2) t = (l.getD t d0).2) →
    ∃ C', run stX7_growOlder (1, [a], [nI k], C) = some (0, C') ∧ hasV C' a (l.map agd) ∧ frV C C' a := by
  intro d
  induction d with
  | zero =>
    intro k e C hs h0 h1 h2
    rw [eX7_growOlder_1, hs, if_pos (nI_le (by omega) (by omega))]
    refine ⟨_, rfl, ⟨by simpa using h5, by simpa using hs, fun t ht => ⟨?_, h1 t (by simp at ht; omega)⟩⟩, frV.rf⟩
    have ht' : t < l.length := by simpa using ht
    rw [h0 t ht', gD_map ht']; rfl
  | succ d ih =>
    intro k e C hs h0 h1 h2
    rw [eX7_growOlder_1, hs, if_neg (nI_ge (by omega) (by omega)), gd_ok (by omega) (by omega), gd_ok (by omega) (by omega), nI_1, ix_nI (by omega)]
    obtain ⟨C', g1, g2, g3⟩ := ih (k + 1) (by omega) (up2 C (a + 2) k (imin (C (a + 2) k + 1) 99))
      (by simp (disch := omega) only [rd_c]; exact hs)
      (fun t ht => by simp (disch := omega) only [rd_c]; exact h0 t ht)
      (fun t ht => by
        by_cases hk : t = k
        · subst hk
          simp (disch := omega) only [up2_s]
          rw [gD_map (by omega), h2 t (by omega) (by omega)]; rfl
        · simp (disch := omega) only [rd_j]
          exact h1 t (by omega))
      (fun t h6 h7 => by simp (disch := omega) only [rd_j]; exact h2 t (by omega) h7)
    exact ⟨C', g1, g2, fun c x y z => by rw [g3 c x y z, up2_c z]⟩
theorem grow_c {C : Mm} {a : Nat} {l : Vw} (h : hasV C a l) : ∃ C', fX7_growOlder a C = some (0, C') ∧ hasV C' a (l.map agd) ∧ frV C C' a := by
  obtain ⟨h5, hs, hk⟩ := h
  unfold fX7_growOlder
  rw [eX7_growOlder_0]
  exact grow_run h5 l.length 0 (by omega) C hs (fun t ht => (hk t ht).1) (fun t ht => by omega) (fun t _ h2 => (hk t h2).2)
/-- who is asked before whom -/
def bfr (e o : Int32 × Int32) : Bool := decide (o.2 < e.2) || (decide (e.2 = o.2) && decide (e.1 < o.1))
theorem before_c {C : Mm} {a k j : Nat} {l : Vw} (h : hasV C a l) (hk : k < l.length) (hj : j < l.length) : fX7_isAskedBefore a (nI k) (nI j) C = some (bI (bfr (l.getD k d0) (l.getD j d0)), C) := by
  obtain ⟨h5, hs, hv⟩ := h
  unfold fX7_isAskedBefore
  simp (disch := omega) only [hs, if_neg (nI_pos (n := k) (by omega)), if_neg (nI_pos (n := j) (by omega)), if_neg (nI_ge hk (by omega)), if_pos (nI_lt hj (by omega)), gd_ok (k := k) (N := 5) (by omega) (by omega), gd_ok (k := j) (N := 5) (by omega) (by omega), ix_nI, (hv k hk).1, (hv k hk).2, (hv j hj).1, (hv j hj).2]
  generalize l.getD k d0 = e
  generalize l.getD j d0 = o
  unfold bfr bI
  by_cases h1 : o.2 < e.2
  · simp [h1]
  · by_cases h2 : e.2 = o.2
    · by_cases h3 : e.1 < o.1
      · simp [h2, h3, Int32.not_le.mpr h3]
      · simp [h2, h3, Int32.not_lt.mp h3]
    · simp [h1, h2]
/-- the place of the oldest -/
def oldF (l : Vw) : Nat → Nat → Option Nat → Option Nat
  | 0, _, b => b
  | d + 1, k, none => oldF l d (k + 1) (some k)
  | d + 1, k, some j => oldF l d (k + 1) (if bfr (l.getD k d0) (l.getD j d0) then some k else some j)
def old (l : Vw) : Option Nat := oldF l l.length 0 none
def oI (o : Option Nat) : Int32 := match o with
  | none => -1
  | some j => nI j
theorem oldest_run {C : Mm} {a : Nat} {l : Vw} (h : hasV C a l) : ∀ d k o, k + d = l.length → (∀ j, o = some j → j < l.length) → run stX7_placeOfOldest (1, [a], [oI o, nI k], C) = some (oI (oldF l d k o), C) := by
  intro d
  have h5 := h.1
  induction d with
  | zero =>
    intro k o e ho
    rw [eX7_placeOfOldest_1, h.2.1, if_pos (nI_le (by omega) (by omega))]
    rfl
  | succ d ih =>
    intro k o e ho
    rw [eX7_placeOfOldest_1, h.2.1, if_neg (nI_ge (by omega) (by omega)), nI_1]
    cases o with
    | none =>
      rw [if_pos (show oI none = -1 from rfl)]
      exact ih (k + 1) (some k) (by omega) (fun j hj => by cases hj; omega)
    | some j =>
      have hj := ho j rfl
      rw [if_neg (show ¬ oI (some j) = -1 from nI_nm1 (by omega)), show oI (some j) = nI j from rfl, before_c h (by omega : k < l.length) hj, cl_s]
      rw [oldF]
      cases hb : bfr (l.getD k d0) (l.getD j d0) with
      | false =>
        rw [if_pos (show bI false = 0 from rfl)]
        exact ih (k + 1) (some j) (by omega) ho
      | true =>
        rw [if_neg (show ¬ bI true = 0 by decide)]
        exact ih (k + 1) (some k) (by omega) (fun j hj => by cases hj; omega)
theorem oldest_c {C : Mm} {a : Nat} {l : Vw} (h : hasV C a l) : fX7_placeOfOldest a C = some (oI (old l), C) := by
  unfold fX7_placeOfOldest
  rw [eX7_placeOfOldest_0]
  exact oldest_run h l.length 0 none (by omega) (fun j hj => by cases hj)
theorem oldF_lt {l : Vw} : ∀ d k o, k + d = l.length → (∀ j, o = some j → j < l.length) → ∀ j, oldF l d k o = some j → j < l.length := by
  intro d
  induction d with
  | zero => intro k o e ho j hj; exact ho j hj
  | succ d ih =>
    intro k o e ho j hj
    cases o with
    | none => exact ih (k + 1) (some k) (by omega) (fun j hj => by cases hj; omega) j hj
    | some i =>
      rw [oldF] at hj
      refine ih (k + 1) _ (by omega) (fun m hm => ?_) j hj
      split at hm
      · cases hm; omega
      · cases hm; exact ho i rfl
theorem old_lt {l : Vw} {j : Nat} (h : old l = some j) : j < l.length := oldF_lt l.length 0 none (by omega) (fun j hj => by cases hj) j h
theorem oldF_some {l : Vw} : ∀ d k i, ∃ j, oldF l d k (some i) = some j := by
  intro d
  induction d with
  | zero => intro k i; exact ⟨i, rfl⟩
  | succ d ih =>
    intro k i
    rw [oldF]
    split
    · exact ih (k + 1) k
    · exact ih (k + 1) i
theorem old_none {l : Vw} : old l = none ↔ l = [] := by
  cases l with
  | nil => simp [old, oldF]
  | cons e l =>
    constructor
    · intro h
      rw [old, List.length_cons, oldF] at h
      obtain ⟨j, hj⟩ := oldF_some (l := e :: l) l.length 1 0
      rw [hj] at h; cases h
    · intro h; cases h
/-- those in a view, as bits -/
def bts (l : Vw) : Int32 := l.foldl (fun m e => m ||| ish 1 e.1) 0
theorem bits_run {C : Mm} {a : Nat} {l : Vw} (h : hasV C a l) : ∀ d k m, k + d = l.length → run stX7_bits (1, [a], [m, nI k], C) = some ((l.drop k).foldl (fun m e => m ||| ish 1 e.1) m, C) := by
  have h5 := h.1
  intro d
  induction d with
  | zero =>
    intro k m e
    rw [eX7_bits_1, h.2.1, if_pos (nI_le (by omega) (by omega)), List.drop_eq_nil_of_le (by omega)]
    rfl
  | succ d ih =>
    intro k m e
    rw [eX7_bits_1, h.2.1, if_neg (nI_ge (by omega) (by omega)), gd_ok (by omega) (by omega), nI_1, ix_nI (by omega), ih (k + 1) _ (by omega), drop_cons (by omega : k < l.length), List.foldl_cons, (h.2.2 k (by omega)).1]
theorem bits_c {C : Mm} {a : Nat} {l : Vw} (h : hasV C a l) : fX7_bits a C = some (bts l, C) := by
  unfold fX7_bits
  rw [eX7_bits_0]
  exact bits_run h l.length 0 0 (by omega)
theorem vcopy_run {a b : Nat} {l : Vw} {C0 : Mm} (hab : a + 2 < b ∨ b + 2 < a) (h : hasV C0 b l) : ∀ d k, k + d = 5 → ∀ C : Mm, frV C0 C a → (∀ t, t < k → C (a + 1) t = C0 (b + 1) t ∧ C (a + 2) t = C0 (b + 2) t) →
    ∃ C', run stX7_copyFrom (1, [a, b], [nI k], C) = some (0, C') ∧ hasV C' a l ∧ frV C0 C' a := by
  obtain ⟨h5, hs, hv⟩ := h
  intro d
  induction d with
  | zero =>
    intro k e C hf h1
    rw [eX7_copyFrom_1, show (5 : Int32) = nI 5 from rfl, if_pos (nI_le (by omega) (by omega))]
    refine ⟨_, rfl, ⟨h5, ?_, fun t ht => ?_⟩, fun c x y z => by rw [up2_c x]; exact hf c x y z⟩
    · rw [up2_s, hf b (by omega) (by omega) (by omega), hs]
    · simp (disch := omega) only [rd_c]
      rw [(h1 t (by omega)).1, (h1 t (by omega)).2]
      exact hv t ht
  | succ d ih =>
    intro k e C hf h1
    rw [eX7_copyFrom_1, show (5 : Int32) = nI 5 from rfl, if_neg (nI_ge (by omega) (by omega)), gd_ok (by omega) (by omega), gd_ok (by omega) (by omega), gd_ok (by omega) (by omega), gd_ok (by omega) (by omega), nI_1, ix_nI (by omega)]
    refine ih (k + 1) (by omega) _ (fun c x y z => by rw [up2_c z, up2_c y]; exact hf c x y z) (fun t ht => ?_)
    by_cases hk : t = k
    · subst hk
      simp (disch := omega) only [rd_c, up2_s]
      rw [hf (b + 1) (by omega) (by omega) (by omega), hf (b + 2) (by omega) (by omega) (by omega)]
      exact ⟨rfl, rfl⟩
    · simp (disch := omega) only [rd_c, rd_j]
      exact h1 t (by omega)
theorem vcopy_c {C : Mm} {a b : Nat} {l : Vw} (hab : a + 2 < b ∨ b + 2 < a) (h : hasV C b l) : ∃ C', fX7_copyFrom a b C = some (0, C') ∧ hasV C' a l ∧ frV C C' a := by
  unfold fX7_copyFrom
  rw [eX7_copyFrom_0]
  exact vcopy_run hab h 5 0 (by omega) C frV.rf (fun t ht => by omega)
