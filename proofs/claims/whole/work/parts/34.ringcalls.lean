/-! the calls on rings: both sides -/
theorem wide_le (a b : Int32) : a.toInt64 ≤ b.toInt64 ↔ a ≤ b := by
  rw [Int64.le_iff_toInt_le, Int32.toInt_toInt64, Int32.toInt_toInt64, Int32.le_iff_toInt_le]
theorem in_w (x lo hi : Int32) {l h : Int64} (el : l = lo.toInt64) (eh : h = hi.toInt64) (D : Mm) : fX9_in x.toInt64 l h D = some (bI (decide (lo ≤ x) && decide (x ≤ hi)), D) := by
  rw [in_r, el, eh]
  have e1 : decide (lo.toInt64 ≤ x.toInt64) = decide (lo ≤ x) := decide_eq_decide.mpr (wide_le lo x)
  have e2 : decide (x.toInt64 ≤ hi.toInt64) = decide (x ≤ hi) := decide_eq_decide.mpr (wide_le x hi)
  rw [e1, e2]
theorem rng_okI (x : Int32) {n : Nat} (hn : n + 1 < 2 ^ 31) : (decide ((0 : Int32) ≤ x) && decide (x ≤ nI n)) = okI x (n + 1) := by
  rcases okI_cases x (n := n + 1) hn with ⟨h0, h2⟩ | ⟨j, hj, e, h2⟩ | ⟨h0, h1, h2⟩
  · rw [h2, decide_eq_false (Int32.not_le.mpr h0)]; rfl
  · rw [h2, e, decide_eq_true (nI_pos' (by omega)), decide_eq_true (nI_le (by omega) (by omega))]; rfl
  · have h3 : ¬ x ≤ nI n := fun z => absurd (Int32.le_trans h1 z) (nI_ge (by omega) hn)
    rw [h2, decide_eq_false h3, Bool.and_false]
theorem isRing_c {C : Mm} (x : Int32) : fX8_isRing x C = some (bI (okI x 3), C) := by
  unfold fX8_isRing
  rw [n3]
  rcases okI_cases x (n := 3) (by decide) with ⟨h0, h2⟩ | ⟨j, hj, e, h2⟩ | ⟨h0, h1, h2⟩
  · rw [if_pos h0, h2]; rfl
  · rw [h2, e, if_neg (nI_pos (by omega)), if_neg (nI_ge hj (by decide))]; rfl
  · rw [if_neg h0, if_pos h1, h2]; rfl
theorem isRing_r {D : Mm} (x : Int32) : fX9_isRing x D = some (bI (okI x 3), D) := by
  unfold fX9_isRing
  rw [in_w x 0 (nI 2) (by decide) (by decide), cl_s, rng_okI x (by decide), gd_t (okZ_bI _)]
theorem gd_T {α : Type} {A : Option α} : gd true A = A := rfl
abbrev Rq : Type := Nat → Option (Nat × (Nat → Int32))
def hasGo (C : Mm) (g : Nat) (o : Option (Nat × (Nat → Int32))) : Prop := (o = none → C g 1 = 0 ∧ C g 3 = 1) ∧ ∀ s f, o = some (s, f) → hasG C g s f
def hasQo (D : Mm) (t : Nat) (o : Option (Nat × (Nat → Int32))) : Prop := (o = none → D 342 t = -1) ∧ ∀ s f, o = some (s, f) → hasQ D t s f
def RG (C D : Mm) (rg : Rq) : Prop := ∀ t, t < 3 → hasGo C (20 + 2 * t) (rg t) ∧ hasQo D t (rg t)
def frRC (C C' : Mm) : Prop := ∀ z, z < 20 ∨ 26 ≤ z → C' z = C z
def frRD (D D' : Mm) : Prop := ∀ z, z ≠ 342 → z ≠ 343 → D' z = D z
theorem hasG_fr {C C' : Mm} {g s : Nat} {f : Nat → Int32} (h : hasG C g s f) (h0 : C' g = C g) (h1 : C' (g + 1) = C (g + 1)) : hasG C' g s f := by
  unfold hasG at h ⊢
  rw [h0, h1]; exact h
theorem hasQ_fr {D D' : Mm} {t s : Nat} {f : Nat → Int32} (h : hasQ D t s f) (h0 : D' 342 t = D 342 t) (h1 : ∀ j, 8 * t ≤ j → j < 8 * t + 8 → D' 343 j = D 343 j) : hasQ D' t s f := by
  have h8 := h.1
  exact ⟨h.1, by rw [h0]; exact h.2.1, fun k hk => by rw [h1 _ (by omega) (by omega)]; exact h.2.2 k hk⟩
theorem RG_up {C C' D D' : Mm} {rg : Rq} {t : Nat} {o : Option (Nat × (Nat → Int32))} (h : RG C D rg) (hG : hasGo C' (20 + 2 * t) o) (hQ : hasQo D' t o) (fG : frG C C' (20 + 2 * t)) (fQ : frQ D D' t) : RG C' D' (va_up rg t o) := by
  intro j hj
  by_cases e : j = t
  · rw [e, va_up_self]; exact ⟨hG, hQ⟩
  · rw [va_up_ne _ _ e]
    obtain ⟨a1, a2⟩ := h j hj
    have e0 := fG (20 + 2 * j) (by omega) (by omega)
    have e1 := fG (20 + 2 * j + 1) (by omega) (by omega)
    refine ⟨⟨fun z => by rw [e0]; exact a1.1 z, fun s f z => hasG_fr (a1.2 s f z) e0 e1⟩, ⟨fun z => by rw [fQ.2.1 j e]; exact a2.1 z, fun s f z => hasQ_fr (a2.2 s f z) (fQ.2.1 j e) (fun k x y => fQ.2.2 k (by omega))⟩⟩
def okR (f8 f9 : Mm → Option Rst) (C D : Mm) : Prop := ∃ r C' D' rg', f8 C = some (r, C') ∧ f9 D = some (r, D') ∧ RG C' D' rg' ∧ frRC C C' ∧ frRD D D'
theorem okR_no {f8 f9 : Mm → Option Rst} {C D : Mm} {rg : Rq} (r : Int32) (h : RG C D rg) (h8 : f8 C = some (r, C)) (h9 : f9 D = some (r, D)) : okR f8 f9 C D := ⟨r, C, D, rg, h8, h9, h, fun _ _ => rfl, fun _ _ _ => rfl⟩
theorem frG_RC {C C' : Mm} {t : Nat} (ht : t < 3) (h : frG C C' (20 + 2 * t)) : frRC C C' := fun z hz => h z (by omega) (by omega)
theorem frQ_RD {D D' : Mm} {t : Nat} (h : frQ D D' t) : frRD D D' := fun z x y => h.1 z x y
theorem some_go {C : Mm} {g s : Nat} {f : Nat → Int32} (h : hasG C g s f) : hasGo C g (some (s, f)) := ⟨fun z => (by cases z), fun s2 f2 z => by cases z; exact h⟩
theorem some_qo {D : Mm} {t s : Nat} {f : Nat → Int32} (h : hasQ D t s f) : hasQo D t (some (s, f)) := ⟨fun z => (by cases z), fun s2 f2 z => by cases z; exact h⟩
/-- ring -/
theorem ring_ok {C D : Mm} {rg : Rq} (x : Int32) (h : RG C D rg) : okR (fX8_ring x) (fX9_ring x) C D := by
  cases ho : okI x 3 with
  | false => exact okR_no (-2) h (by unfold fX8_ring; rw [isRing_c, cl_s, ho, if_pos (show bI false = 0 from rfl)]) (by unfold fX9_ring; rw [isRing_r, cl_s, ho, if_pos (show bI false = 0 from rfl)])
  | true =>
    obtain ⟨t, ht, rfl⟩ := okI_of ho (by decide)
    refine ⟨0, up2 (up2 (up2 C (20 + 2 * t) 1 0) (20 + 2 * t) 2 0) (20 + 2 * t) 3 0, up2 D 342 t 0, va_up rg t (some (0, fun _ => 0)), ?_, ?_, ?_, ?_, ?_⟩
    · unfold fX8_ring
      rw [isRing_c, cl_s, ho, if_neg (show ¬ bI true = 0 by decide), gd_T, ix_nI (by omega)]
      rfl
    · unfold fX9_ring
      rw [isRing_r, cl_s, ho, if_neg (show ¬ bI true = 0 by decide), gd_T, ix_nI (by omega)]
    · refine RG_up h (some_go ⟨by decide, by rw [rd_j (by decide), rd_j (by decide), up2_s]; rfl, up2_s _ _ _ _, 0, by rw [rd_j (by decide), up2_s]; rfl, fun _ => rfl, fun z => absurd z (by decide), fun k hk => absurd hk (by omega)⟩) (some_qo ⟨by decide, by rw [up2_s]; rfl, fun k hk => absurd hk (by omega)⟩) (fun z x1 y1 => by rw [up2_c x1, up2_c x1, up2_c x1]) ⟨fun z x1 y1 => up2_c x1, fun j hj => rd_j hj, fun j hj => rd_c (by decide)⟩
    · intro z hz; rw [up2_c (by omega), up2_c (by omega), up2_c (by omega)]
    · intro z x1 y1; exact up2_c x1
/-- drop -/
theorem drop_ok {C D : Mm} {rg : Rq} (x : Int32) (h : RG C D rg) : okR (fX8_drop x) (fX9_drop x) C D := by
  cases ho : okI x 3 with
  | false => exact okR_no (-2) h (by unfold fX8_drop; rw [isRing_c, cl_s, ho, if_pos (show bI false = 0 from rfl)]) (by unfold fX9_drop; rw [isRing_r, cl_s, ho, if_pos (show bI false = 0 from rfl)])
  | true =>
    obtain ⟨t, ht, rfl⟩ := okI_of ho (by decide)
    obtain ⟨a1, a2⟩ := h t ht
    cases hr : rg t with
    | none =>
      have b1 := a1.1 hr
      have b2 := a2.1 hr
      refine ⟨-11, C, up2 D 342 t (-1), va_up rg t none, ?_, ?_, ?_, fun _ _ => rfl, fun z x1 y1 => up2_c x1⟩
      · unfold fX8_drop
        rw [isRing_c, cl_s, ho, if_neg (show ¬ bI true = 0 by decide), gd_T, ix_nI (by omega), b1.2, if_neg (by decide)]
      · unfold fX9_drop
        rw [isRing_r, cl_s, ho, if_neg (show ¬ bI true = 0 by decide), gd_T, gd_T, ix_nI (by omega), b2, if_neg (by decide)]
      · exact RG_up h ⟨fun _ => b1, fun s f z => by cases z⟩ ⟨fun _ => up2_s _ _ _ _, fun s f z => by cases z⟩ frG.rf ⟨fun z x1 y1 => up2_c x1, fun j hj => rd_j hj, fun j hj => rd_c (by decide)⟩
    | some q =>
      obtain ⟨s, f⟩ := q
      have b1 := a1.2 s f hr
      have b2 := a2.2 s f hr
      have s8 := b1.1
      refine ⟨nI s, up2 (up2 (up2 C (20 + 2 * t) 1 0) (20 + 2 * t) 2 0) (20 + 2 * t) 3 1, up2 D 342 t (-1), va_up rg t none, ?_, ?_, ?_, ?_, fun z x1 y1 => up2_c x1⟩
      · unfold fX8_drop
        rw [isRing_c, cl_s, ho, if_neg (show ¬ bI true = 0 by decide), gd_T, ix_nI (by omega), b1.2.2.1, if_pos rfl, b1.2.1]
        rfl
      · unfold fX9_drop
        rw [isRing_r, cl_s, ho, if_neg (show ¬ bI true = 0 by decide), gd_T, gd_T, ix_nI (by omega), b2.2.1, if_pos (nI_pos' (by omega))]
      · exact RG_up h ⟨fun _ => ⟨by rw [rd_j (by decide), rd_j (by decide), up2_s], up2_s _ _ _ _⟩, fun s f z => by cases z⟩ ⟨fun _ => up2_s _ _ _ _, fun s f z => by cases z⟩ (fun z x1 y1 => by rw [up2_c x1, up2_c x1, up2_c x1]) ⟨fun z x1 y1 => up2_c x1, fun j hj => rd_j hj, fun j hj => rd_c (by decide)⟩
      · intro z hz; rw [up2_c (by omega), up2_c (by omega), up2_c (by omega)]
/-- take -/
theorem take_ok {C D : Mm} {rg : Rq} (x : Int32) (h : RG C D rg) : okR (fX8_take x) (fX9_take x) C D := by
  cases ho : okI x 3 with
  | false => exact okR_no (-2) h (by unfold fX8_take; rw [isRing_c, cl_s, ho, if_pos (show bI false = 0 from rfl)]) (by unfold fX9_take; rw [isRing_r, cl_s, ho, if_pos (show bI false = 0 from rfl)])
  | true =>
    obtain ⟨t, ht, rfl⟩ := okI_of ho (by decide)
    obtain ⟨a1, a2⟩ := h t ht
    have p8 : ∀ C : Mm, fX8_take (nI t) C = (if (C (20 + 2 * t) 1) = 0 then (cl (fX3_lack (20 + 2 * t) C) (fun r4 M4 => some (r4, M4))) else (cl (fX3_atHand (20 + 2 * t) C) (fun r2 M2 => cl (fX3_removeAtHand (20 + 2 * t) M2) (fun _ M3 => some ((r2 + (5000 : Int32)), M3))))) := by
      intro C
      unfold fX8_take
      rw [isRing_c, cl_s, ho, if_neg (show ¬ bI true = 0 by decide), gd_T, ix_nI (by omega)]
    have p9 : ∀ D : Mm, fX9_take (nI t) D = (if 0 ≤ (D 342 t) then (if (D 342 t) = 0 then (some ((-12 : Int32), D)) else (cl (fX9_takesOne (nI t) D) (fun r2 M2 => some ((r2 + (5000 : Int32)), M2)))) else (some ((-11 : Int32), D))) := by
      intro D
      unfold fX9_take
      rw [isRing_r, cl_s, ho, if_neg (show ¬ bI true = 0 by decide), gd_T, gd_T, ix_nI (by omega)]
    cases hr : rg t with
    | none =>
      have b1 := a1.1 hr
      have b2 := a2.1 hr
      refine okR_no (-11) h ?_ ?_
      · rw [p8, b1.1, if_pos rfl]; unfold fX3_lack; rw [b1.2, if_neg (by decide)]; rfl
      · rw [p9, b2, if_neg (by decide)]
    | some q =>
      obtain ⟨s, f⟩ := q
      have b1 := a1.2 s f hr
      have b2 := a2.2 s f hr
      have s8 := b1.1
      by_cases hz : s = 0
      · refine okR_no (-12) h ?_ ?_
        · rw [p8, b1.2.1, hz, if_pos (show nI 0 = 0 from rfl)]; unfold fX3_lack; rw [b1.2.2.1, if_pos rfl]; rfl
        · rw [p9, b2.2.1, hz, if_pos (by decide), if_pos (show nI 0 = 0 from rfl)]
      · obtain ⟨C1, g1, g2, g3⟩ := remove_c b1 (by omega)
        obtain ⟨D1, k1, k2, k3⟩ := one_r ht (by omega) b2
        refine ⟨f 0 + 5000, C1, D1, va_up rg t (some (s - 1, fun k => f (k + 1))), ?_, ?_, RG_up h (some_go g2) (some_qo k2) g3 k3, frG_RC ht g3, frQ_RD k3⟩
        · rw [p8, b1.2.1, if_neg (nI_ne0 (by omega) (by omega)), atHand_c b1 (by omega), cl_s, g1, cl_s]
        · rw [p9, b2.2.1, if_pos (nI_pos' (by omega)), if_neg (nI_ne0 (by omega) (by omega)), k1, cl_s]
