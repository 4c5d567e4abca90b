/-! copies of nets -/
theorem nviews_run {a b : Nat} {P : Pq} {N : Nq} {C0 : Mm} (hab : a + 26 ≤ b ∨ b + 26 ≤ a) (hb : ∀ i, i < 8 → hasV C0 (b + 2 + 3 * i) (N.2.2 i)) :
    ∀ d k (C : Mm), k + d = 8 → (∀ z, z < a ∨ a + 26 ≤ z → C z = C0 z) → (∀ i, i < k → hasV C (a + 2 + 3 * i) (N.2.2 i)) →
    ∃ C', run stX1_copyFrom (1, [a, b], [nI k], C) = some (0, C') ∧ (∀ z, z < a ∨ a + 26 ≤ z → C' z = C0 z) ∧ (∀ i, i < 8 → hasV C' (a + 2 + 3 * i) (N.2.2 i)) ∧ C' a = C a := by
  intro d
  induction d with
  | zero =>
    intro k C e hf h1
    rw [eX1_copyFrom_1, n8, if_pos (nI_le (by omega) (by omega))]
    exact ⟨C, rfl, hf, fun i hi => h1 i (by omega), rfl⟩
  | succ d ih =>
    intro k C e hf h1
    rw [eX1_copyFrom_1, n8, if_neg (nI_ge (by omega) (by omega)), gd_ok (by omega) (by omega), gd_ok (by omega) (by omega), ix_nI (by omega), nI_1]
    have hbk : hasV C (b + 2 + 3 * k) (N.2.2 k) := hasV_fr (hb k (by omega)) (hf _ (by omega)) (hf _ (by omega)) (hf _ (by omega))
    obtain ⟨C1, g1, g2, g3⟩ := vcopy_c (a := a + 2 + 3 * k) (b := b + 2 + 3 * k) (by omega) hbk
    rw [g1, cl_s]
    obtain ⟨C', k1, k2, k3, k4⟩ := ih (k + 1) C1 (by omega) (fun z hz => by rw [g3 z (by omega) (by omega) (by omega)]; exact hf z hz) (fun i hi => by
      by_cases e2 : i = k
      · rw [e2]; exact g2
      · exact hasV_fr (h1 i (by omega)) (g3 _ (by omega) (by omega) (by omega)) (g3 _ (by omega) (by omega) (by omega)) (g3 _ (by omega) (by omega) (by omega)))
    exact ⟨C', k1, k2, k3, by rw [k4, g3 a (by omega) (by omega) (by omega)]⟩
theorem ncopy_c {C : Mm} {a b : Nat} {P : Pq} {N : Nq} (hab : a + 26 ≤ b ∨ b + 26 ≤ a) (hN : hasN C b P N) : ∃ C', fX1_copyFrom a b C = some (0, C') ∧ hasN C' a P N ∧ ∀ z, z < a ∨ a + 26 ≤ z → C' z = C z := by
  obtain ⟨h1, h2, h3, h4, h5, h6, h7⟩ := hN
  unfold fX1_copyFrom
  rw [eX1_copyFrom_0]
  simp (disch := omega) only [rd_c, h1, h2, h3, h4, h5, h6]
  rw [n0]
  obtain ⟨C', k1, k2, k3, k4⟩ := nviews_run (a := a) (b := b) (P := P) (N := N) (C0 := C) hab h7 8 0 (up2 (up2 (up2 (up2 (up2 (up2 C a 1 (nI P.1)) a 2 (nI P.2.1)) a 3 (nI P.2.2.1)) a 4 (nI N.1)) a 5 (nI (msk (fun i => !N.2.1 i) P.1))) a 6 (nI (msk P.2.2.2 P.1))) (by omega) (fun z hz => by simp (disch := omega) only [up2_c]) (fun i hi => by omega)
  refine ⟨C', k1, ⟨?_, ?_, ?_, ?_, ?_, ?_, k3⟩, k2⟩ <;> (rw [k4]; simp (disch := omega) only [rd_j, up2_s])
theorem copyRow_run {x y : Nat} {D0 : Mm} (hx : x ≤ 990) (hy : y ≤ 990) (hxy : x + 90 ≤ y ∨ y + 90 ≤ x) : ∀ d k (D : Mm), k + d = 90 → (∀ z, z ≠ 339 → D z = D0 z) → (∀ j, j < y ∨ y + k ≤ j → D 339 j = D0 339 j) → (∀ j, j < k → D 339 (y + j) = D0 339 (x + j)) →
    ∃ D', run stX9_copyRow (1, [], [nI x, nI y, nI k], D) = some (0, D') ∧ (∀ z, z ≠ 339 → D' z = D0 z) ∧ (∀ j, j < y ∨ y + 90 ≤ j → D' 339 j = D0 339 j) ∧ ∀ j, j < 90 → D' 339 (y + j) = D0 339 (x + j) := by
  intro d
  induction d with
  | zero =>
    intro k D e h1 h2 h3
    rw [eX9_copyRow_1, n90, if_pos (nI_le (by omega) (by omega))]
    exact ⟨D, rfl, h1, fun j hj => h2 j (by omega), fun j hj => h3 j (by omega)⟩
  | succ d ih =>
    intro k D e h1 h2 h3
    rw [eX9_copyRow_1, n90, if_neg (nI_ge (by omega) (by omega))]
    simp (disch := omega) only [nI_add, gd_ok, ix_nI, nI_1]
    refine ih (k + 1) _ (by omega) (fun z hz => by rw [up2_c hz]; exact h1 z hz) (fun j hj => by rw [rd_j (by omega)]; exact h2 j (by omega)) (fun j hj => ?_)
    by_cases e2 : j = k
    · rw [e2, up2_s]; exact h2 _ (by omega)
    · rw [rd_j (by omega)]; exact h3 j (by omega)
theorem copyRow_r {D : Mm} {x y : Nat} (hx : x ≤ 990) (hy : y ≤ 990) (hxy : x + 90 ≤ y ∨ y + 90 ≤ x) : ∃ D', fX9_copyRow (nI x) (nI y) D = some (0, D') ∧ (∀ z, z ≠ 339 → D' z = D z) ∧ (∀ j, j < y ∨ y + 90 ≤ j → D' 339 j = D 339 j) ∧ ∀ j, j < 90 → D' 339 (y + j) = D 339 (x + j) := by
  unfold fX9_copyRow
  rw [eX9_copyRow_0, n0]
  exact copyRow_run hx hy hxy 90 0 D (by omega) (fun _ _ => rfl) (fun _ _ => rfl) (fun j hj => by omega)
theorem hasB_mv {D D' : Mm} {x y : Nat} {P : Pq} {N : Nq} (h : hasB D x P N) (g : ∀ j, j < 90 → D' 339 (y + j) = D 339 (x + j)) : hasB D' y P N := by
  refine ⟨?_, ?_, fun i hi => ?_⟩
  · have := g 0 (by decide); rw [Nat.add_zero, Nat.add_zero] at this; rw [this]; exact h.1
  · rw [g 1 (by decide)]; exact h.2.1
  · obtain ⟨h5, h1, hk⟩ := h.2.2 i hi
    refine ⟨h5, ?_, fun k hk2 => ?_⟩
    · have := g (2 + i) (by omega); rw [← Nat.add_assoc, ← Nat.add_assoc] at this; rw [this]; exact h1
    · obtain ⟨a1, a2⟩ := hk k hk2
      have e1 := g (10 + 5 * i + k) (by omega)
      have e2 := g (50 + 5 * i + k) (by omega)
      rw [show y + (10 + 5 * i + k) = y + 10 + 5 * i + k by omega, show x + (10 + 5 * i + k) = x + 10 + 5 * i + k by omega] at e1
      rw [show y + (50 + 5 * i + k) = y + 50 + 5 * i + k by omega, show x + (50 + 5 * i + k) = x + 50 + 5 * i + k by omega] at e2
      rw [e1, e2]; exact ⟨a1, a2⟩
/-! what can be undone: m nets, the latest h (m - 1) -/
abbrev Hq : Type := Nat × (Nat → Nq)
def hasH (C : Mm) (P : Pq) (H : Hq) : Prop := H.1 ≤ 8 ∧ ∃ top, top < 8 ∧ C 15 1 = nI top ∧ C 15 2 = nI H.1 ∧ ∀ k, k < H.1 → hasN C (78 + 26 * ((top + 8 - H.1 + k) % 8)) P (H.2 k)
def hasU (D : Mm) (P : Pq) (H : Hq) : Prop := D 338 5 = nI H.1 ∧ ∀ k, k < H.1 → hasB D (90 + 90 * k) P (H.2 k)
def psh (H : Hq) (N : Nq) : Hq := if H.1 < 8 then (H.1 + 1, va_up H.2 H.1 N) else (8, va_up (fun k => H.2 (k + 1)) 7 N)
theorem push_c {C : Mm} {P : Pq} {N : Nq} {H : Hq} (hN : hasN C 26 P N) (hH : hasH C P H) : ∃ C', fX2_push 26 C = some (0, C') ∧ hasH C' P (psh H N) ∧ ∀ z, z ≠ 15 → z < 78 ∨ 286 ≤ z → C' z = C z := by
  obtain ⟨h8, top, ht, h1, h2, h3⟩ := hH
  obtain ⟨C1, g1, g2, g3⟩ := ncopy_c (a := 78 + 26 * top) (b := 26) (by omega) hN
  have e15 : C1 15 = C 15 := g3 15 (by omega)
  have et : irem (nI (top + 1)) (nI 8) = nI ((top + 1) % 8) := rem_n (by omega) (by decide) (by decide)
  unfold fX2_push
  simp (disch := omega) only [h1, if_neg (nI_pos (n := top) (by omega)), n8, if_pos (nI_lt ht (by decide)), gd_ok, ix_nI]
  rw [g1, cl_s]
  simp (disch := omega) only [e15, h1, h2, rd_j, nI_1, et, imin_n]
  refine ⟨_, rfl, ?_, fun z hz hz2 => by rw [up2_c hz, up2_c hz]; exact g3 z (by omega)⟩
  have keep : ∀ j, j < 8 → j ≠ top → ∀ M, hasN C (78 + 26 * j) P M → hasN (up2 (up2 C1 15 1 (nI ((top + 1) % 8))) 15 2 (nI (min (H.1 + 1) 8))) (78 + 26 * j) P M := by
    intro j hj hjt M hM
    exact hasN_fr hM (fun z x y => by rw [up2_c (by omega), up2_c (by omega)]; exact g3 z (by omega))
  have new : hasN (up2 (up2 C1 15 1 (nI ((top + 1) % 8))) 15 2 (nI (min (H.1 + 1) 8))) (78 + 26 * top) P N := hasN_fr g2 (fun z x y => by rw [up2_c (by omega), up2_c (by omega)])
  unfold psh
  by_cases hm : H.1 < 8
  · rw [if_pos hm]
    refine ⟨by show H.1 + 1 ≤ 8; omega, (top + 1) % 8, by omega, by rw [rd_j (by omega), up2_s], by rw [up2_s, Nat.min_eq_left (by omega)], fun k hk => ?_⟩
    have hk' : k < H.1 + 1 := hk
    show hasN _ (78 + 26 * (((top + 1) % 8 + 8 - (H.1 + 1) + k) % 8)) P (va_up H.2 H.1 N k)
    by_cases e2 : k = H.1
    · rw [e2, va_up_self, show ((top + 1) % 8 + 8 - (H.1 + 1) + H.1) % 8 = top by omega]; exact new
    · rw [va_up_ne _ _ e2, show ((top + 1) % 8 + 8 - (H.1 + 1) + k) % 8 = (top + 8 - H.1 + k) % 8 by omega]
      exact keep _ (by omega) (by omega) _ (h3 k (by omega))
  · have hm8 : H.1 = 8 := by omega
    rw [if_neg hm]
    refine ⟨Nat.le_refl _, (top + 1) % 8, by omega, by rw [rd_j (by omega), up2_s], by rw [up2_s, hm8]; rfl, fun k hk => ?_⟩
    have hk' : k < 8 := hk
    show hasN _ (78 + 26 * (((top + 1) % 8 + 8 - 8 + k) % 8)) P (va_up (fun k => H.2 (k + 1)) 7 N k)
    by_cases e2 : k = 7
    · rw [e2, va_up_self, show ((top + 1) % 8 + 8 - 8 + 7) % 8 = top by omega]; exact new
    · rw [va_up_ne _ _ e2, show ((top + 1) % 8 + 8 - 8 + k) % 8 = (top + 8 - H.1 + (k + 1)) % 8 by omega]
      exact keep _ (by omega) (by omega) _ (h3 (k + 1) (by omega))
theorem shift_run {D0 : Mm} (h5 : D0 338 5 = nI 8) : ∀ d k (D : Mm), k + d = 630 → (∀ z, z ≠ 339 → D z = D0 z) → (∀ j, j < 90 ∨ 90 + k ≤ j → D 339 j = D0 339 j) → (∀ j, j < k → D 339 (90 + j) = D0 339 (180 + j)) →
    ∃ D', run stX9_keepPast (1, [], [nI k], D) = run stX9_keepPast (2, [], [], D') ∧ (∀ z, z ≠ 339 → D' z = D0 z) ∧ (∀ j, j < 90 ∨ 720 ≤ j → D' 339 j = D0 339 j) ∧ ∀ j, j < 630 → D' 339 (90 + j) = D0 339 (180 + j) := by
  intro d
  induction d with
  | zero =>
    intro k D e h1 h2 h3
    rw [eX9_keepPast_1, show (630 : Int32) = nI 630 from rfl, if_pos (nI_le (by omega) (by omega))]
    exact ⟨D, rfl, h1, fun j hj => h2 j (by omega), fun j hj => h3 j (by omega)⟩
  | succ d ih =>
    intro k D e h1 h2 h3
    rw [eX9_keepPast_1, show (630 : Int32) = nI 630 from rfl, if_neg (nI_ge (by omega) (by omega)), h1 338 (by decide), h5, if_pos (show nI 8 = (8 : Int32) from rfl), show (180 : Int32) = nI 180 from rfl, n90]
    simp (disch := omega) only [nI_add, gd_ok, ix_nI, nI_1]
    refine ih (k + 1) _ (by omega) (fun z hz => by rw [up2_c hz]; exact h1 z hz) (fun j hj => by rw [rd_j (by omega)]; exact h2 j (by omega)) (fun j hj => ?_)
    by_cases e2 : j = k
    · rw [e2, up2_s]; exact h2 _ (by omega)
    · rw [rd_j (by omega)]; exact h3 j (by omega)
theorem keepPast_r {D : Mm} {P : Pq} {N : Nq} {H : Hq} (h8 : H.1 ≤ 8) (hB : hasB D 0 P N) (hU : hasU D P H) : ∃ D', fX9_keepPast D = some (0, D') ∧ hasU D' P (psh H N) ∧ (∀ z, z ≠ 339 → z ≠ 338 → D' z = D z) ∧ (∀ j, j ≠ 5 → D' 338 j = D 338 j) ∧ ∀ j, j < 90 ∨ 810 ≤ j → D' 339 j = D 339 j := by
  obtain ⟨u1, u2⟩ := hU
  unfold fX9_keepPast psh
  rw [eX9_keepPast_0]
  by_cases hm : H.1 < 8
  · have hne : ¬ nI H.1 = (8 : Int32) := fun z => by rw [n8] at z; have := (nI_eq (by omega) (by decide)).mp z; omega
    rw [eX9_keepPast_1, if_neg (show ¬ (630 : Int32) ≤ 0 by decide), u1, if_neg hne, eX9_keepPast_2, u1, if_neg hne, eX9_keepPast_3]
    have ez : nI H.1 - (0 : Int32) = nI H.1 := by rw [n0, pk_sub (Nat.zero_le _), Nat.sub_zero]
    rw [ez, up2_s, n90, pk_mul, nI_add, n0]
    obtain ⟨D1, g1, g2, g3, g4⟩ := copyRow_r (D := up2 D 338 5 (nI H.1)) (x := 0) (y := 90 + 90 * H.1) (by omega) (by omega) (by omega)
    rw [g1, cl_s, g2 338 (by decide), up2_s, nI_1, if_pos hm]
    refine ⟨_, rfl, ⟨by rw [up2_s], fun k hk => ?_⟩, fun z x y => by rw [up2_c y, g2 z x, up2_c y], fun j hj => by rw [rd_j hj, g2 338 (by decide), rd_j hj], fun j hj => by rw [up2_c (by decide), g3 j (by omega), up2_c (by decide)]⟩
    have hk' : k < H.1 + 1 := hk
    show hasB _ (90 + 90 * k) P (va_up H.2 H.1 N k)
    by_cases e2 : k = H.1
    · rw [e2, va_up_self]
      exact hasB_mv hB (fun j hj => by rw [up2_c (by decide), g4 j hj, up2_c (by decide)])
    · rw [va_up_ne _ _ e2]
      exact hasB_fr (u2 k (by omega)) (fun j x y => by rw [up2_c (by decide), g3 j (by omega), up2_c (by decide)])
  · have hm8 : H.1 = 8 := by omega
    rw [hm8] at u1
    rw [if_neg hm, n0]
    obtain ⟨D1, g1, g2, g3, g4⟩ := shift_run u1 630 0 D (by omega) (fun _ _ => rfl) (fun _ _ => rfl) (fun j hj => by omega)
    rw [g1, eX9_keepPast_2, g2 338 (by decide), u1, if_pos (show nI 8 = (8 : Int32) from rfl), eX9_keepPast_3]
    have ez : nI 8 - (1 : Int32) = nI 7 := by decide
    rw [ez, up2_s, n90, pk_mul, nI_add, n0]
    obtain ⟨D2, k1, k2, k3, k4⟩ := copyRow_r (D := up2 D1 338 5 (nI 7)) (x := 0) (y := 90 + 90 * 7) (by omega) (by omega) (by omega)
    rw [k1, cl_s, k2 338 (by decide), up2_s, nI_1]
    refine ⟨_, rfl, ⟨by rw [up2_s], fun k hk => ?_⟩, fun z x y => by rw [up2_c y, k2 z x, up2_c y, g2 z x], fun j hj => by rw [rd_j hj, k2 338 (by decide), rd_j hj, g2 338 (by decide)], fun j hj => by rw [up2_c (by decide), k3 j (by omega), up2_c (by decide), g3 j (by omega)]⟩
    have hk' : k < 8 := hk
    show hasB _ (90 + 90 * k) P (va_up (fun k => H.2 (k + 1)) 7 N k)
    by_cases e2 : k = 7
    · rw [e2, va_up_self]
      exact hasB_mv hB (fun j hj => by rw [up2_c (by decide), k4 j hj, up2_c (by decide), g3 (0 + j) (by omega)])
    · rw [va_up_ne _ _ e2]
      refine hasB_mv (u2 (k + 1) (by omega)) (fun j hj => ?_)
      rw [up2_c (by decide), k3 _ (by omega), up2_c (by decide)]
      have := g4 (90 * k + j) (by omega)
      rw [show 90 + (90 * k + j) = 90 + 90 * k + j by omega, show 180 + (90 * k + j) = 90 + 90 * (k + 1) + j by omega] at this
      exact this
theorem floor_c {C : Mm} {top : Nat} (ht : top < 8) : fJ9_floorMod_7cf53 (nI top - 1) (8 : Int32) C = some (nI ((top + 7) % 8), C) := by
  have : ∀ t : Fin 8, fJ9_floorMod_7cf53 (nI t.val - 1) (8 : Int32) C = some (nI ((t.val + 7) % 8), C) := by
    intro t
    match t with
    | 0 => rfl
    | 1 => rfl
    | 2 => rfl
    | 3 => rfl
    | 4 => rfl
    | 5 => rfl
    | 6 => rfl
    | 7 => rfl
  exact this ⟨top, ht⟩
theorem pop_c {C : Mm} {P : Pq} {H : Hq} (hH : hasH C P H) (hm : 0 < H.1) : ∃ C', fX2_pop 26 C = some (0, C') ∧ hasN C' 26 P (H.2 (H.1 - 1)) ∧ hasH C' P (H.1 - 1, H.2) ∧ ∀ z, z ≠ 15 → z < 26 ∨ 52 ≤ z → C' z = C z := by
  obtain ⟨h8, top, ht, h1, h2, h3⟩ := hH
  unfold fX2_pop
  have em : nI H.1 - 1 = nI (H.1 - 1) := by rw [n1, pk_sub hm]
  rw [h2, if_pos (by rw [n1]; exact nI_le hm (by omega)), h1, floor_c ht, cl_s]
  simp (disch := omega) only [rd_j, up2_s, h2, em, gd_ok, ix_nI]
  have last := h3 (H.1 - 1) (by omega)
  rw [show (top + 8 - H.1 + (H.1 - 1)) % 8 = (top + 7) % 8 by omega] at last
  have hb : hasN (up2 (up2 C 15 1 (nI ((top + 7) % 8))) 15 2 (nI (H.1 - 1))) (78 + 26 * ((top + 7) % 8)) P (H.2 (H.1 - 1)) := hasN_fr last (fun z x y => by rw [up2_c (by omega), up2_c (by omega)])
  obtain ⟨C1, g1, g2, g3⟩ := ncopy_c (a := 26) (b := 78 + 26 * ((top + 7) % 8)) (by omega) hb
  rw [g1, cl_s]
  refine ⟨C1, rfl, g2, ⟨by show H.1 - 1 ≤ 8; omega, (top + 7) % 8, by omega, by rw [g3 15 (by omega), rd_j (by omega), up2_s], by rw [g3 15 (by omega), up2_s], fun k hk => ?_⟩, fun z x y => by rw [g3 z (by omega), up2_c x, up2_c x]⟩
  have hk' : k < H.1 - 1 := hk
  show hasN C1 (78 + 26 * (((top + 7) % 8 + 8 - (H.1 - 1) + k) % 8)) P (H.2 k)
  rw [show ((top + 7) % 8 + 8 - (H.1 - 1) + k) % 8 = (top + 8 - H.1 + k) % 8 by omega]
  exact hasN_fr (h3 k (by omega)) (fun z x y => by rw [g3 z (by omega), up2_c (by omega), up2_c (by omega)])
