/-! rings: s numbers, f 0 the one at the hand, f 1 the next -/
def hasG (C : Mm) (g s : Nat) (f : Nat → Int32) : Prop := s ≤ 8 ∧ C g 1 = nI s ∧ C g 3 = 0 ∧ ∃ h, C g 2 = nI h ∧ (s = 0 → h = 0) ∧ (0 < s → h < s) ∧ ∀ k, k < s → C (g + 1) ((h + k) % s) = f k
def hasQ (D : Mm) (t s : Nat) (f : Nat → Int32) : Prop := s ≤ 8 ∧ D 342 t = nI s ∧ ∀ k, k < s → D 343 (8 * t + k) = f k
def frG (C C' : Mm) (g : Nat) : Prop := ∀ z, z ≠ g → z ≠ g + 1 → C' z = C z
def frQ (D D' : Mm) (t : Nat) : Prop := (∀ z, z ≠ 342 → z ≠ 343 → D' z = D z) ∧ (∀ j, j ≠ t → D' 342 j = D 342 j) ∧ ∀ j, j < 8 * t ∨ 8 * t + 8 ≤ j → D' 343 j = D 343 j
theorem frG.rf {C : Mm} {g : Nat} : frG C C g := fun _ _ _ => rfl
theorem frG.tr {C C1 C2 : Mm} {g : Nat} (h : frG C C1 g) (k : frG C1 C2 g) : frG C C2 g := fun z x y => (k z x y).trans (h z x y)
theorem frQ.rf {D : Mm} {t : Nat} : frQ D D t := ⟨fun _ _ _ => rfl, fun _ _ => rfl, fun _ _ => rfl⟩
theorem frQ.tr {D D1 D2 : Mm} {t : Nat} (h : frQ D D1 t) (k : frQ D1 D2 t) : frQ D D2 t := ⟨fun z x y => (k.1 z x y).trans (h.1 z x y), fun j x => (k.2.1 j x).trans (h.2.1 j x), fun j x => (k.2.2 j x).trans (h.2.2 j x)⟩
theorem mod_lo {a s : Nat} (h : a < s) : a % s = a := Nat.mod_eq_of_lt h
theorem mod_hi {a s : Nat} (h : s ≤ a) (h2 : a < 2 * s) : a % s = a - s := by
  rw [Nat.mod_eq_sub_mod h, Nat.mod_eq_of_lt (by omega)]
def adF (s : Nat) (f : Nat → Int32) (v : Int32) : Nat → Int32 := fun k => if s = 0 then v else if k = 0 then f 0 else if k = 1 then v else f (k - 1)
theorem ins_run {g s p : Nat} {v : Int32} {A : Nat → Int32} (hs : s < 8) (hp : p ≤ s) : ∀ d x (C : Mm), x = p + d → x ≤ s → C g 1 = nI s → (∀ j, j ≤ x → C (g + 1) j = A j) → (∀ j, x < j → j ≤ s → C (g + 1) j = A (j - 1)) →
    ∃ C', run stX3_insert (1, [g], [v, nI p, nI x], C) = some (0, C') ∧ C' g 1 = nI (s + 1) ∧ (∀ j, j ≠ 1 → C' g j = C g j) ∧ (∀ j, j < p → C' (g + 1) j = A j) ∧ C' (g + 1) p = v ∧ (∀ j, p < j → j ≤ s → C' (g + 1) j = A (j - 1)) ∧ frG C C' g := by
  intro d
  induction d with
  | zero =>
    intro x C e hx h1 h2 h3
    have e1 : x = p := by omega
    rw [e1] at h2 h3 ⊢
    rw [eX3_insert_1, if_pos (nI_le (Nat.le_refl _) (by omega)), eX3_insert_2, if_neg (nI_pos (by omega)), n8, if_neg (nI_ge (by omega) (by omega)), gd_ok (by omega) (by omega), ix_nI (by omega), rd_c (by omega), h1, nI_1]
    refine ⟨_, rfl, up2_s _ _ _ _, fun j hj => by rw [rd_j hj, rd_c (by omega)], fun j hj => ?_, ?_, fun j hj hj2 => ?_, fun z x y => by rw [up2_c x, up2_c y]⟩
    · rw [rd_c (by omega), rd_j (by omega)]; exact h2 j (by omega)
    · rw [rd_c (by omega), up2_s]
    · rw [rd_c (by omega), rd_j (by omega)]; exact h3 j hj hj2
  | succ d ih =>
    intro x C e hx h1 h2 h3
    have hm : nI x - (1 : Int32) = nI (x - 1) := by rw [n1, pk_sub (by omega)]
    have hm2 : nI x + (-1 : Int32) = nI (x - 1) := by rw [show x = (x - 1) + 1 by omega, pk_m1]; rfl
    rw [eX3_insert_1, if_neg (nI_ge (by omega) (by omega)), if_neg (nI_nle (by omega) (by omega)), hm, gd_ok (by omega) (by omega), gd_ok (by omega) (by omega), ix_nI (by omega), ix_nI (by omega), hm2]
    obtain ⟨C', k1, k2, k3, k4, k5, k6, k7⟩ := ih (x - 1) (up2 C (g + 1) x (C (g + 1) (x - 1))) (by omega) (by omega) (by rw [rd_c (by omega)]; exact h1) (fun j hj => by rw [rd_j (by omega)]; exact h2 j (by omega)) (fun j hj hj2 => by
      by_cases e2 : j = x
      · rw [e2, up2_s]; exact h2 (x - 1) (by omega)
      · rw [rd_j e2]; exact h3 j (by omega) hj2)
    exact ⟨C', k1, k2, fun j hj => by rw [k3 j hj, rd_c (by omega)], k4, k5, k6, fun z x1 y1 => by rw [k7 z x1 y1, up2_c y1]⟩
theorem insert_c {C : Mm} {g s : Nat} {f : Nat → Int32} (v : Int32) (hG : hasG C g s f) (hs : s < 8) : ∃ C', fX3_insert g v C = some (0, C') ∧ hasG C' g (s + 1) (adF s f v) ∧ frG C C' g := by
  obtain ⟨-, h1, h3, h, hh, h0, hlt, ha⟩ := hG
  unfold fX3_insert
  rw [eX3_insert_0, h1, if_neg (nI_pos (by omega)), n8, if_pos (nI_lt hs (by decide))]
  by_cases hz : s = 0
  · have hh0 := h0 hz
    rw [hz, if_pos (show nI 0 = 0 from rfl), n0]
    rw [hz] at h1
    obtain ⟨C', k1, k2, k3, k4, k5, k6, k7⟩ := ins_run (g := g) (s := 0) (p := 0) (v := v) (A := C (g + 1)) (by decide) (by decide) 0 0 C rfl (by decide) h1 (fun _ _ => rfl) (fun j hj hj2 => by omega)
    refine ⟨C', k1, ⟨by omega, k2, by rw [k3 3 (by decide)]; exact h3, 0, by rw [k3 2 (by decide), hh, hh0], fun z => by omega, fun _ => by omega, fun k hk => ?_⟩, k7⟩
    have hk0 : k = 0 := by omega
    rw [hk0]
    exact k5
  · have hl := hlt (by omega)
    rw [if_neg (nI_ne0 (by omega) (by omega)), hh, nI_1]
    obtain ⟨C', k1, k2, k3, k4, k5, k6, k7⟩ := ins_run (g := g) (s := s) (p := h + 1) (v := v) (A := C (g + 1)) hs (by omega) (s - (h + 1)) s C (by omega) (Nat.le_refl _) h1 (fun _ _ => rfl) (fun j hj hj2 => by omega)
    refine ⟨C', k1, ⟨by omega, k2, by rw [k3 3 (by decide)]; exact h3, h, by rw [k3 2 (by decide)]; exact hh, fun z => by omega, fun _ => by omega, fun k hk => ?_⟩, k7⟩
    unfold adF
    rw [if_neg hz]
    have hf0 := ha 0 (by omega)
    by_cases e0 : k = 0
    · rw [if_pos e0, e0, show (h + 0) % (s + 1) = h from mod_lo (by omega), k4 h (by omega)]
      rw [show (h + 0) % s = h from mod_lo hl] at hf0
      exact hf0
    · rw [if_neg e0]
      by_cases e1 : k = 1
      · rw [if_pos e1, e1, mod_lo (by omega)]; exact k5
      · rw [if_neg e1]
        have hfk := ha (k - 1) (by omega)
        by_cases e2 : h + k < s + 1
        · rw [mod_lo e2, k6 (h + k) (by omega) (by omega)]
          rw [mod_lo (by omega)] at hfk
          rw [show h + k - 1 = h + (k - 1) by omega]; exact hfk
        · rw [mod_hi (by omega) (by omega), k4 _ (by omega)]
          rw [mod_hi (by omega) (by omega)] at hfk
          rw [show h + k - (s + 1) = h + (k - 1) - s by omega]; exact hfk
theorem atHand_c {C : Mm} {g s : Nat} {f : Nat → Int32} (hG : hasG C g s f) (hs : 0 < s) : fX3_atHand g C = some (f 0, C) := by
  obtain ⟨h8, h1, h3, h, hh, h0, hlt, ha⟩ := hG
  have hl := hlt hs
  have hf0 := ha 0 hs
  rw [show (h + 0) % s = h from mod_lo hl] at hf0
  unfold fX3_atHand
  rw [hh, if_neg (nI_pos (by omega)), h1, if_neg (nI_ge hl (by omega)), gd_ok (by omega) (by omega), ix_nI (by omega), hf0]
theorem move_c {C : Mm} {g s n : Nat} {f : Nat → Int32} (hG : hasG C g s f) (hs : 0 < s) (hn : n ≤ 99) : ∃ C', fX3_moveHand g (nI n) C = some (0, C') ∧ hasG C' g s (fun k => f ((k + n) % s)) ∧ frG C C' g := by
  obtain ⟨h8, h1, h3, h, hh, h0, hlt, ha⟩ := hG
  have hl := hlt hs
  unfold fX3_moveHand
  rw [h1, if_neg (nI_nle hs (by omega)), gd_t (decide_eq_true (nI_ne0 hs (by omega))), hh, nI_add, rem_n (by omega) hs (by omega)]
  refine ⟨_, rfl, ⟨h8, by rw [rd_j (by decide)]; exact h1, by rw [rd_j (by decide)]; exact h3, (h + n) % s, up2_s _ _ _ _, fun z => by omega, fun _ => Nat.mod_lt _ hs, fun k hk => ?_⟩, fun z x y => up2_c x⟩
  rw [rd_c (by omega), Nat.mod_add_mod]
  have := ha ((k + n) % s) (Nat.mod_lt _ hs)
  rw [Nat.add_mod_mod] at this
  show C (g + 1) ((h + n + k) % s) = f ((k + n) % s)
  rw [← this, show h + n + k = h + (k + n) by omega]
theorem rem_run {g s p : Nat} {A : Nat → Int32} (hs : s ≤ 8) (hp : p < s) : ∀ d x (C : Mm), x + 1 + d = s → p ≤ x → C g 1 = nI s → C g 2 = nI p → (∀ j, j < p → C (g + 1) j = A j) → (∀ j, p ≤ j → j < x → C (g + 1) j = A (j + 1)) → (∀ j, x ≤ j → j < s → C (g + 1) j = A j) →
    ∃ C', run stX3_removeAtHand (1, [g], [nI x], C) = some (0, C') ∧ C' g 1 = nI (s - 1) ∧ C' g 2 = nI (if p < s - 1 then p else 0) ∧ C' g 3 = C g 3 ∧ (∀ j, j < p → C' (g + 1) j = A j) ∧ (∀ j, p ≤ j → j < s - 1 → C' (g + 1) j = A (j + 1)) ∧ frG C C' g := by
  intro d
  induction d with
  | zero =>
    intro x C e hpx h1 h2 h4 h5 h6
    have em : nI s - (1 : Int32) = nI (s - 1) := by rw [n1, pk_sub (by omega)]
    rw [eX3_removeAtHand_1, h1, nI_1, if_pos (nI_le (by omega) (by omega)), em, up2_s, rd_j (by decide), h2]
    by_cases hps : p < s - 1
    · rw [if_pos (nI_lt hps (by omega)), if_pos hps]
      exact ⟨_, rfl, up2_s _ _ _ _, by rw [rd_j (by decide)]; exact h2, rd_j (by decide), fun j hj => by rw [rd_c (by omega)]; exact h4 j hj, fun j hj hj2 => by rw [rd_c (by omega)]; exact h5 j hj (by omega), fun z x1 y1 => up2_c x1⟩
    · rw [if_neg (nI_nlt (by omega) (by omega)), if_neg hps]
      exact ⟨_, rfl, by rw [rd_j (by decide), up2_s], up2_s _ _ _ _, by rw [rd_j (by decide), rd_j (by decide)], fun j hj => by rw [rd_c (by omega), rd_c (by omega)]; exact h4 j hj, fun j hj hj2 => by omega, fun z x1 y1 => by rw [up2_c x1, up2_c x1]⟩
  | succ d ih =>
    intro x C e hpx h1 h2 h4 h5 h6
    rw [eX3_removeAtHand_1, h1, nI_1, if_neg (nI_ge (by omega) (by omega)), gd_ok (by omega) (by omega), gd_ok (by omega) (by omega), ix_nI (by omega), ix_nI (by omega)]
    obtain ⟨C', k1, k2, k3, k4, k5, k6, k7⟩ := ih (x + 1) (up2 C (g + 1) x (C (g + 1) (x + 1))) (by omega) (by omega) (by rw [rd_c (by omega)]; exact h1) (by rw [rd_c (by omega)]; exact h2) (fun j hj => by rw [rd_j (by omega)]; exact h4 j hj) (fun j hj hj2 => by
      by_cases e2 : j = x
      · rw [e2, up2_s]; exact h6 (x + 1) (by omega) (by omega)
      · rw [rd_j e2]; exact h5 j hj (by omega)) (fun j hj hj2 => by rw [rd_j (by omega)]; exact h6 j (by omega) hj2)
    exact ⟨C', k1, k2, k3, by rw [k4, rd_c (by omega)], k5, k6, fun z x1 y1 => by rw [k7 z x1 y1, up2_c y1]⟩
theorem remove_c {C : Mm} {g s : Nat} {f : Nat → Int32} (hG : hasG C g s f) (hs : 0 < s) : ∃ C', fX3_removeAtHand g C = some (0, C') ∧ hasG C' g (s - 1) (fun k => f (k + 1)) ∧ frG C C' g := by
  obtain ⟨h8, h1, h3, h, hh, h0, hlt, ha⟩ := hG
  have hl := hlt hs
  unfold fX3_removeAtHand
  rw [eX3_removeAtHand_0, hh, if_neg (nI_pos (by omega)), h1, if_pos (nI_lt hl (by omega))]
  obtain ⟨C', k1, k2, k3, k4, k5, k6, k7⟩ := rem_run (g := g) (s := s) (p := h) (A := C (g + 1)) h8 hl (s - 1 - h) h C (by omega) (Nat.le_refl _) h1 hh (fun _ _ => rfl) (fun j hj hj2 => by omega) (fun _ _ _ => rfl)
  refine ⟨C', k1, ⟨by omega, k2, by rw [k4]; exact h3, _, k3, fun z => by split <;> omega, fun z => by split <;> omega, fun k hk => ?_⟩, k7⟩
  have hfk := ha (k + 1) (by omega)
  by_cases hps : h < s - 1
  · rw [if_pos hps]
    by_cases e2 : h + k < s - 1
    · rw [mod_lo e2, k6 _ (by omega) e2]
      rw [mod_lo (by omega)] at hfk
      exact hfk
    · rw [mod_hi (by omega) (by omega), k5 _ (by omega)]
      rw [mod_hi (by omega) (by omega)] at hfk
      rw [show h + k - (s - 1) = h + (k + 1) - s by omega]; exact hfk
  · rw [if_neg hps, Nat.zero_add, mod_lo hk, k5 k (by omega)]
    rw [mod_hi (by omega) (by omega)] at hfk
    rw [show h + (k + 1) - s = k by omega] at hfk
    exact hfk
/-- counting out -/
def coF (m : Nat) : Nat → (Nat → Int32) → (Nat → Int32)
  | 0, f => f
  | d + 1, f => coF m d (fun k => f ((k + 1 + m) % (d + 2)))
theorem count_run {g m : Nat} (hm : m ≤ 9) : ∀ d (f : Nat → Int32) (C : Mm), d + 1 ≤ 8 → hasG C g (d + 1) f → ∃ C', run stX3_countOut (1, [g], [nI m, nI (d + 1)], C) = some (0, C') ∧ hasG C' g 1 (coF m d f) ∧ frG C C' g := by
  intro d
  induction d with
  | zero =>
    intro f C hd hG
    rw [eX3_countOut_1, n1, if_pos (nI_le (by omega) (by omega))]
    exact ⟨C, rfl, hG, frG.rf⟩
  | succ d ih =>
    intro f C hd hG
    rw [eX3_countOut_1, if_neg (by rw [n1]; exact nI_ge (by omega) (by omega))]
    obtain ⟨C1, g1, g2, g3⟩ := move_c (n := m) hG (by omega) (by omega)
    rw [g1, cl_s]
    obtain ⟨C2, k1, k2, k3⟩ := remove_c g2 (by omega)
    rw [k1, cl_s, show nI (d + 1 + 1) + (-1 : Int32) = nI (d + 1) from pk_m1 (d + 1)]
    obtain ⟨C', m1, m2, m3⟩ := ih (fun k => f ((k + 1 + m) % (d + 2))) C2 (by omega) k2
    exact ⟨C', m1, m2, frG.tr g3 (frG.tr k3 m3)⟩
/-! the reference's rings -/
theorem on_run {t s : Nat} {f : Nat → Int32} {v : Int32} (ht : t < 3) (hs : s ≤ 8) : ∀ d k (D : Mm), k + d = s → 1 ≤ k → D 342 t = nI s → (∀ j, j + 1 < k → D 343 (8 * t + j) = f (j + 1)) → (∀ j, k ≤ j → j < s → D 343 (8 * t + j) = f j) →
    ∃ D', run stX9_goesOn (1, [], [nI t, v, nI k], D) = some (0, D') ∧ (∀ j, j + 1 < s → D' 343 (8 * t + j) = f (j + 1)) ∧ D' 343 (8 * t + (s - 1)) = v ∧ D' 342 = D 342 ∧ frQ D D' t := by
  intro d
  induction d with
  | zero =>
    intro k D e hk h1 h2 h3
    have e1 : nI (8 * t + s) - (1 : Int32) = nI (8 * t + (s - 1)) := by rw [n1, pk_sub (by omega)]; congr 1; omega
    rw [eX9_goesOn_1]
    simp (disch := omega) only [n8, pk_mul, gd_ok, ix_nI, h1, nI_add, e1]
    rw [if_pos (nI_le (by omega) (by omega))]
    refine ⟨_, rfl, fun j hj => by rw [rd_j (by omega)]; exact h2 j (by omega), up2_s _ _ _ _, up2_c (by decide), ⟨fun z x y => up2_c y, fun j _ => by rw [rd_c (by decide)], fun j hj => by rw [rd_j (by omega)]⟩⟩
  | succ d ih =>
    intro k D e hk h1 h2 h3
    have e1 : nI (8 * t + k) - (1 : Int32) = nI (8 * t + (k - 1)) := by rw [n1, pk_sub (by omega)]; congr 1; omega
    rw [eX9_goesOn_1]
    simp (disch := omega) only [n8, pk_mul, gd_ok, ix_nI, h1, nI_add, e1, nI_1]
    rw [if_neg (nI_ge (by omega) (by omega))]
    obtain ⟨D', k1, k2, k3, k4, k5⟩ := ih (k + 1) (up2 D 343 (8 * t + (k - 1)) (D 343 (8 * t + k))) (by omega) (by omega) (by rw [rd_c (by decide)]; exact h1) (fun j hj => by
      by_cases e2 : j = k - 1
      · rw [e2, up2_s, show k - 1 + 1 = k by omega]; exact h3 k (Nat.le_refl _) (by omega)
      · rw [rd_j (by omega)]; exact h2 j (by omega)) (fun j hj hj2 => by rw [rd_j (by omega)]; exact h3 j (by omega) hj2)
    refine ⟨D', k1, k2, k3, by rw [k4, up2_c (by decide)], frQ.tr ⟨fun z x y => up2_c y, fun j _ => by rw [rd_c (by decide)], fun j hj => by rw [rd_j (by omega)]⟩ k5⟩
theorem on_r {D : Mm} {t s : Nat} {f : Nat → Int32} (ht : t < 3) (hs : 0 < s) (hQ : hasQ D t s f) : ∃ D', fX9_goesOn (nI t) D = some (0, D') ∧ hasQ D' t s (fun k => f ((k + 1) % s)) ∧ frQ D D' t := by
  obtain ⟨h8, h1, h2⟩ := hQ
  have h0 := h2 0 hs
  rw [Nat.add_zero] at h0
  unfold fX9_goesOn
  rw [eX9_goesOn_0]
  simp (disch := omega) only [n8, pk_mul, gd_ok, ix_nI, h0]
  rw [n1]
  obtain ⟨D', k1, k2, k3, k4, k5⟩ := on_run (t := t) (s := s) (f := f) (v := f 0) ht h8 (s - 1) 1 D (by omega) (by omega) h1 (fun j hj => by omega) (fun j hj hj2 => h2 j hj2)
  refine ⟨D', k1, ⟨h8, by rw [k4]; exact h1, fun k hk => ?_⟩, k5⟩
  show D' 343 (8 * t + k) = f ((k + 1) % s)
  by_cases e1 : k + 1 < s
  · rw [mod_lo e1]; exact k2 k e1
  · have e2 : k = s - 1 := by omega
    rw [e2, k3, show s - 1 + 1 = s by omega, Nat.mod_self]
theorem ons_mod {s : Nat} {f : Nat → Int32} {j : Nat} : (fun k => (fun k => f ((k + j) % s)) ((k + 1) % s)) = fun k => f ((k + (j + 1)) % s) := by
  funext k
  show f (((k + 1) % s + j) % s) = f ((k + (j + 1)) % s)
  rw [Nat.mod_add_mod, show k + 1 + j = k + (j + 1) by omega]
theorem one_r {D : Mm} {t s : Nat} {f : Nat → Int32} (ht : t < 3) (hs : 0 < s) (hQ : hasQ D t s f) : ∃ D', fX9_takesOne (nI t) D = some (f 0, D') ∧ hasQ D' t (s - 1) (fun k => f (k + 1)) ∧ frQ D D' t := by
  have h0 := hQ.2.2 0 hs
  rw [Nat.add_zero] at h0
  obtain ⟨D1, g1, g2, g3⟩ := on_r ht hs hQ
  have h8 := hQ.1
  have em : nI s - (1 : Int32) = nI (s - 1) := by rw [n1, pk_sub (by omega)]
  unfold fX9_takesOne
  simp (disch := omega) only [n8, pk_mul, gd_ok, ix_nI, h0]
  rw [g1, cl_s, g2.2.1, em]
  refine ⟨_, rfl, ⟨by omega, up2_s _ _ _ _, fun k hk => ?_⟩, frQ.tr g3 ⟨fun z x y => up2_c x, fun j hj => rd_j hj, fun j _ => by rw [rd_c (by decide)]⟩⟩
  rw [rd_c (by decide), g2.2.2 k (by omega)]
  show f ((k + 1) % s) = f (k + 1)
  rw [mod_lo (by omega)]
