/-! sets of nodes as ints -/
theorem msk_or {f g : Nat → Bool} {n : Nat} : msk f n ||| msk g n = msk (fun j => f j || g j) n := by
  apply Nat.eq_of_testBit_eq
  intro j
  rw [Nat.testBit_or, msk_bit, msk_bit, msk_bit]
  by_cases h : j < n <;> simp [h]
theorem msk_and {f g : Nat → Bool} {n : Nat} : msk f n &&& msk g n = msk (fun j => f j && g j) n := by
  apply Nat.eq_of_testBit_eq
  intro j
  rw [Nat.testBit_and, msk_bit, msk_bit, msk_bit]
  by_cases h : j < n <;> simp [h]
theorem mor {f g : Nat → Bool} {n : Nat} : nI (msk f n) ||| nI (msk g n) = nI (msk (fun j => f j || g j) n) := by rw [fa_or, msk_or]
theorem mand {f g : Nat → Bool} {n : Nat} : nI (msk f n) &&& nI (msk g n) = nI (msk (fun j => f j && g j) n) := by rw [fa_and, msk_and]
theorem or0 {m : Nat} : nI m ||| (0 : Int32) = nI m := by rw [n0, fa_or, Nat.or_zero]
theorem mbit {f : Nat → Bool} {n i : Nat} (hn : n ≤ 8) (hi : i < n) : ((isr (nI (msk f n)) (nI i)) &&& 1) = bI (f i) := by
  rw [bt_test _ (msk_256 _ hn) i (by omega), msk_bit]
  simp [hi]
theorem mzero {f : Nat → Bool} {n : Nat} (hn : n ≤ 8) : nI (msk f n) = 0 ↔ exN n f = false := by
  have h1 := msk_256 f hn
  rw [n0, nI_eq (by omega) (by omega)]
  constructor
  · intro h
    cases he : exN n f with
    | false => rfl
    | true =>
      obtain ⟨i, h2, h3⟩ := exN_iff.mp he
      have h4 := msk_bit f n i
      rw [h, Nat.zero_testBit, h3] at h4
      simp [h2] at h4
  · intro h
    apply Nat.eq_of_testBit_eq
    intro i
    rw [msk_bit, Nat.zero_testBit]
    by_cases c : i < n
    · cases h2 : f i with
      | false => simp
      | true => rw [exN_iff.mpr ⟨i, c, h2⟩] at h; cases h
    · simp [c]
theorem mone {n i : Nat} (hi : i < n) : 2 ^ i = msk (fun j => decide (j = i)) n := by
  apply Nat.eq_of_testBit_eq
  intro j
  rw [Nat.testBit_two_pow, msk_bit]
  by_cases c : j = i
  · subst c; simp [hi]
  · have c2 : ¬ i = j := fun z => c z.symm
    simp [c, c2]
theorem mnn : ∀ b, b < 256 → nI 255 &&& (nI b ^^^ (-1)) = nI (255 ^^^ b) := by decide +kernel
theorem mnot {f h : Nat → Bool} {n : Nat} (hn : n ≤ 8) : nI (msk f n) &&& (nI (msk h n) ^^^ (-1)) = nI (msk (fun j => f j && !h j) n) := by
  have e1 : nI (msk f n) = nI (msk f n) &&& nI 255 := by
    rw [fa_and]
    apply congrArg nI
    apply Nat.eq_of_testBit_eq
    intro j
    rw [Nat.testBit_and, msk_bit, show (255 : Nat) = 2 ^ 8 - 1 from rfl, Nat.testBit_two_pow_sub_one]
    by_cases c : j < n
    · have c2 : j < 8 := by omega
      simp [c2]
    · simp [c]
  rw [e1, Int32.and_assoc, mnn _ (msk_256 _ hn), fa_and]
  apply congrArg nI
  apply Nat.eq_of_testBit_eq
  intro j
  rw [Nat.testBit_and, Nat.testBit_xor, msk_bit, msk_bit, msk_bit, show (255 : Nat) = 2 ^ 8 - 1 from rfl, Nat.testBit_two_pow_sub_one]
  by_cases c : j < n
  · have c2 : j < 8 := by omega
    simp [c, c2]
  · simp [c]
theorem mlow : ∀ m, m < 256 → ∀ i, i < 8 → m.testBit i = true → (∀ j, j < i → m.testBit j = false) → nI m &&& (-(nI m)) = nI (2 ^ i) := by decide +kernel
theorem msk_z : ∀ n, msk (fun _ => false) n = 0 := by
  intro n
  induction n with
  | zero => rfl
  | succ n ih => rw [msk, ih]; rfl
/-- those in a view -/
theorem bts_f {n : Nat} (hn : n ≤ 8) : ∀ (l : Vw) (f : Nat → Bool), (∀ e ∈ l, ∃ x, x < n ∧ e.1 = nI x) → l.foldl (fun m e => m ||| ish 1 e.1) (nI (msk f n)) = nI (msk (fun j => f j || inV (nI j) l) n) := by
  intro l
  induction l with
  | nil =>
    intro f _
    rw [List.foldl_nil]
    exact congrArg nI (msk_ext (fun i _ => by simp [inV]))
  | cons e l ih =>
    intro f h
    obtain ⟨x, hx, ex⟩ := h e List.mem_cons_self
    rw [List.foldl_cons, ex, bt_one x (by omega), mone hx, mor, ih _ (fun q hq => h q (List.mem_cons_of_mem _ hq))]
    apply congrArg nI
    apply msk_ext
    intro j hj
    have h1 : (e.1 == nI j) = decide (j = x) := by
      rw [ex]
      by_cases c : j = x
      · simp [c]
      · have c2 : nI x ≠ nI j := fun z => c ((nI_eq (by omega) (by omega)).mp z).symm
        simp [c, c2]
    simp only [inV, List.any_cons, h1, Bool.or_assoc]
theorem bts_m {P : Pq} {i : Nat} {l : Vw} (hp : wfP P) (h : wfV P i l) : bts l = nI (msk (fun j => inV (nI j) l) P.1) := by
  have h1 := bts_f hp.2.1 l (fun _ => false) (fun e he => by obtain ⟨x, g, h1, -, -, h2⟩ := h.2.1 e he; exact ⟨x, h1, by rw [h2]⟩)
  rw [msk_z] at h1
  exact h1.trans (congrArg nI (msk_ext (fun j _ => by simp)))
/-! ways of the class -/
def edg (N : Nq) (i j : Nat) : Bool := !N.2.1 i && (inV (nI j) (N.2.2 i) && !N.2.1 j)
theorem wo_st {n k : Nat} {acc acc' h f : Nat → Bool} {E : Nat → Nat → Bool} (h1 : ∀ j, j < n → (h j = true ↔ acc' j = true ∨ ∃ i, k + 1 ≤ i ∧ i < n ∧ f i = true ∧ E i j = true)) (h2 : ∀ j, j < n → (acc' j = true ↔ acc j = true ∨ (k < n ∧ f k = true ∧ E k j = true))) : ∀ j, j < n → (h j = true ↔ acc j = true ∨ ∃ i, k ≤ i ∧ i < n ∧ f i = true ∧ E i j = true) := by
  intro j hj
  rw [h1 j hj, h2 j hj]
  constructor
  · rintro ((z | ⟨z1, z2, z3⟩) | ⟨i, z1, z2, z3⟩)
    · exact Or.inl z
    · exact Or.inr ⟨k, Nat.le_refl _, z1, z2, z3⟩
    · exact Or.inr ⟨i, by omega, z2, z3⟩
  · rintro (z | ⟨i, z1, z2, z3, z4⟩)
    · exact Or.inl (Or.inl z)
    · by_cases c : i = k
      · subst c; exact Or.inl (Or.inr ⟨z2, z3, z4⟩)
      · exact Or.inr ⟨i, by omega, z2, z3, z4⟩
theorem wo_run {C : Mm} {a : Nat} {P : Pq} {N : Nq} {f : Nat → Bool} (hp : wfP P) (hw : wfN P N) (hN : hasN C a P N) : ∀ d k acc, k + d = 8 → ∃ h, run stX1_waysOut (1, [a], [nI (msk f P.1), nI (msk acc P.1), nI k], C) = some (nI (msk h P.1), C) ∧ ∀ j, j < P.1 → (h j = true ↔ acc j = true ∨ ∃ i, k ≤ i ∧ i < P.1 ∧ f i = true ∧ edg N i j = true) := by
  have h8 := hp.2.1
  intro d
  induction d with
  | zero =>
    intro k acc e
    rw [eX1_waysOut_1, n8, if_pos (nI_le (by omega) (by omega))]
    refine ⟨acc, rfl, fun j hj => ⟨Or.inl, ?_⟩⟩
    rintro (z | ⟨i, z1, z2, -⟩)
    · exact z
    · omega
  | succ d ih =>
    intro k acc e
    rw [eX1_waysOut_1, n8, if_neg (nI_ge (by omega) (by omega)), isAlive_c hp hN, cl_s, ix_nI (by omega), nI_1]
    by_cases hk : k < P.1
    · rw [okI_nI hk (by omega), Bool.true_and]
      cases hd : N.2.1 k with
      | true =>
        obtain ⟨h, r1, r2⟩ := ih (k + 1) acc (by omega)
        rw [if_pos (show bI (!true) = 0 from rfl)]
        exact ⟨h, r1, wo_st r2 (fun j hj => ⟨Or.inl, fun z => z.elim id (fun z => by have := z.2.2; simp [edg, hd] at this)⟩)⟩
      | false =>
        rw [if_neg (show ¬ bI (!false) = 0 by decide), mbit h8 hk]
        cases hf : f k with
        | true =>
          rw [if_pos (show bI true = 1 from rfl), gd_ok (by omega) (by omega), bits_c (hN.2.2.2.2.2.2 k (by omega)), cl_s, bts_m hp (hw.2.1 k hk), hN.2.2.2.2.1, mand, mor]
          obtain ⟨h, r1, r2⟩ := ih (k + 1) (fun j => acc j || (inV (nI j) (N.2.2 k) && !N.2.1 j)) (by omega)
          refine ⟨h, r1, wo_st r2 (fun j hj => ?_)⟩
          simp [edg, hd, hf, hk]
        | false =>
          obtain ⟨h, r1, r2⟩ := ih (k + 1) acc (by omega)
          rw [if_neg (show ¬ bI false = 1 by decide)]
          exact ⟨h, r1, wo_st r2 (fun j hj => ⟨Or.inl, fun z => z.elim id (fun z => by have := z.2.1; rw [hf] at this; cases this)⟩)⟩
    · obtain ⟨h, r1, r2⟩ := ih (k + 1) acc (by omega)
      rw [okI_ge (by omega) (by omega), Bool.false_and, if_pos (show bI false = 0 from rfl)]
      exact ⟨h, r1, wo_st r2 (fun j hj => ⟨Or.inl, fun z => z.elim id (fun z => absurd z.1 hk)⟩)⟩
theorem wo_c {C : Mm} {a : Nat} {P : Pq} {N : Nq} {f : Nat → Bool} (hp : wfP P) (hw : wfN P N) (hN : hasN C a P N) : fX1_waysOut a (nI (msk f P.1)) C = some (nI (msk (fun j => exN P.1 (fun i => f i && edg N i j)) P.1), C) := by
  obtain ⟨h, r1, r2⟩ := wo_run (f := f) hp hw hN 8 0 (fun _ => false) (by omega)
  rw [msk_z] at r1
  unfold fX1_waysOut
  rw [eX1_waysOut_0]
  refine Eq.trans r1 ?_
  rw [msk_ext (q := fun j => exN P.1 (fun i => f i && edg N i j)) (fun j hj => ?_)]
  rw [Bool.eq_iff_iff, r2 j hj, exN_iff]
  constructor
  · rintro (z | ⟨i, -, z2, z3, z4⟩)
    · cases z
    · exact ⟨i, z2, by rw [z3, z4]; rfl⟩
  · rintro ⟨i, z2, z3⟩
    have z4 := Bool.and_eq_true_iff.mp z3
    exact Or.inr ⟨i, Nat.zero_le _, z2, z4.1, z4.2⟩
theorem wi_run {C : Mm} {a : Nat} {P : Pq} {N : Nq} {f : Nat → Bool} (hp : wfP P) (hw : wfN P N) (hN : hasN C a P N) : ∀ d k acc, k + d = 8 → ∃ h, run stX1_waysInto (1, [a], [nI (msk f P.1), nI (msk acc P.1), nI k], C) = some (nI (msk h P.1), C) ∧ ∀ j, j < P.1 → (h j = true ↔ acc j = true ∨ (k ≤ j ∧ exN P.1 (fun q => f q && edg N j q) = true)) := by
  have h8 := hp.2.1
  intro d
  induction d with
  | zero =>
    intro k acc e
    rw [eX1_waysInto_1, n8, if_pos (nI_le (by omega) (by omega))]
    refine ⟨acc, rfl, fun j hj => ⟨Or.inl, ?_⟩⟩
    rintro (z | ⟨z1, -⟩)
    · exact z
    · omega
  | succ d ih =>
    intro k acc e
    have go : ∀ acc' h : Nat → Bool, (∀ j, j < P.1 → (h j = true ↔ acc' j = true ∨ (k + 1 ≤ j ∧ exN P.1 (fun q => f q && edg N j q) = true))) → (∀ j, j < P.1 → (acc' j = true ↔ acc j = true ∨ (j = k ∧ exN P.1 (fun q => f q && edg N j q) = true))) → ∀ j, j < P.1 → (h j = true ↔ acc j = true ∨ (k ≤ j ∧ exN P.1 (fun q => f q && edg N j q) = true)) := by
      intro acc' h h1 h2 j hj
      rw [h1 j hj, h2 j hj]
      constructor
      · rintro ((z | ⟨z1, z2⟩) | ⟨z1, z2⟩)
        · exact Or.inl z
        · exact Or.inr ⟨by omega, z2⟩
        · exact Or.inr ⟨by omega, z2⟩
      · rintro (z | ⟨z1, z2⟩)
        · exact Or.inl (Or.inl z)
        · by_cases c : j = k
          · exact Or.inl (Or.inr ⟨c, z2⟩)
          · exact Or.inr ⟨by omega, z2⟩
    have no : ∀ j, j < P.1 → (k < P.1 → exN P.1 (fun q => f q && edg N k q) = false) → (acc j = true ↔ acc j = true ∨ (j = k ∧ exN P.1 (fun q => f q && edg N j q) = true)) := fun j hj hx => ⟨Or.inl, fun z => z.elim id (fun z => by obtain ⟨z1, z2⟩ := z; subst z1; rw [hx hj] at z2; cases z2)⟩
    rw [eX1_waysInto_1, n8, if_neg (nI_ge (by omega) (by omega)), isAlive_c hp hN, cl_s, ix_nI (by omega), nI_1]
    by_cases hk : k < P.1
    · rw [okI_nI hk (by omega), Bool.true_and]
      cases hd : N.2.1 k with
      | true =>
        obtain ⟨h, r1, r2⟩ := ih (k + 1) acc (by omega)
        rw [if_pos (show bI (!true) = 0 from rfl)]
        refine ⟨h, r1, go _ h r2 (fun j hj => no j hj (fun _ => ?_))⟩
        cases hx : exN P.1 (fun q => f q && edg N k q) with
        | false => rfl
        | true => obtain ⟨q, -, z⟩ := exN_iff.mp hx; simp [edg, hd] at z
      | false =>
        have ex : exN P.1 (fun q => (inV (nI q) (N.2.2 k) && !N.2.1 q) && f q) = exN P.1 (fun q => f q && edg N k q) := by
          congr 1; funext q; simp [edg, hd, Bool.and_comm]
        rw [if_neg (show ¬ bI (!false) = 0 by decide), gd_ok (by omega) (by omega), bits_c (hN.2.2.2.2.2.2 k (by omega)), cl_s, bts_m hp (hw.2.1 k hk), hN.2.2.2.2.1, mand, mand]
        cases hx : exN P.1 (fun q => f q && edg N k q) with
        | false =>
          obtain ⟨h, r1, r2⟩ := ih (k + 1) acc (by omega)
          rw [if_pos ((mzero h8).mpr (ex.trans hx))]
          exact ⟨h, r1, go _ h r2 (fun j hj => no j hj (fun _ => hx))⟩
        | true =>
          obtain ⟨h, r1, r2⟩ := ih (k + 1) (fun j => acc j || decide (j = k)) (by omega)
          rw [if_neg (fun z => by have := (mzero h8).mp z; rw [ex, hx] at this; cases this), bt_one k (by omega), mone hk, mor]
          refine ⟨h, r1, go _ h r2 (fun j hj => ?_)⟩
          rw [Bool.or_eq_true, decide_eq_true_iff]
          constructor
          · rintro (z | z)
            · exact Or.inl z
            · exact Or.inr ⟨z, by rw [z]; exact hx⟩
          · rintro (z | z)
            · exact Or.inl z
            · exact Or.inr z.1
    · obtain ⟨h, r1, r2⟩ := ih (k + 1) acc (by omega)
      rw [okI_ge (by omega) (by omega), Bool.false_and, if_pos (show bI false = 0 from rfl)]
      exact ⟨h, r1, go _ h r2 (fun j hj => no j hj (fun z => absurd z hk))⟩
theorem wi_c {C : Mm} {a : Nat} {P : Pq} {N : Nq} {f : Nat → Bool} (hp : wfP P) (hw : wfN P N) (hN : hasN C a P N) : fX1_waysInto a (nI (msk f P.1)) C = some (nI (msk (fun j => exN P.1 (fun q => f q && edg N j q)) P.1), C) := by
  obtain ⟨h, r1, r2⟩ := wi_run (f := f) hp hw hN 8 0 (fun _ => false) (by omega)
  rw [msk_z] at r1
  unfold fX1_waysInto
  rw [eX1_waysInto_0]
  refine Eq.trans r1 ?_
  rw [msk_ext (q := fun j => exN P.1 (fun q => f q && edg N j q)) (fun j hj => ?_)]
  rw [Bool.eq_iff_iff, r2 j hj]
  exact ⟨fun z => z.elim (fun z => by cases z) (fun z => z.2), fun z => Or.inr ⟨Nat.zero_le _, z⟩⟩
/-! far -/
theorem fw_run {C : Mm} {a t : Nat} {P : Pq} {N : Nq} (hp : wfP P) (hw : wfN P N) (hN : hasN C a P N) (ht : t < P.1) : ∀ d k f, k + d = 8 → run stX1_fewestWays (1, [a], [nI t, nI (msk f P.1), nI k], C) = some (fwF (edg N) P.1 t d k f, C) := by
  have h8 := hp.2.1
  intro d
  induction d with
  | zero =>
    intro k f e
    rw [eX1_fewestWays_1, n8, if_pos (nI_le (by omega) (by omega)), fwF]
  | succ d ih =>
    intro k f e
    rw [eX1_fewestWays_1, n8, if_neg (nI_ge (by omega) (by omega)), wo_c hp hw hN, cl_s, mor, nI_1, fwF]
    show (if ((isr (nI (msk (stE (edg N) P.1 f) P.1)) (nI t)) &&& 1) = 1 then some (nI k, C) else run stX1_fewestWays (1, [a], [nI t, nI (msk (stE (edg N) P.1 f) P.1), nI (k + 1)], C)) = _
    rw [mbit h8 ht]
    by_cases c : stE (edg N) P.1 f t = true
    · rw [if_pos c, if_pos (bI1.mpr c)]
    · rw [if_neg c, if_neg (fun z => c (bI1.mp z))]
      exact ih (k + 1) _ (by omega)
theorem fw_c {C : Mm} {a s t : Nat} {P : Pq} {N : Nq} (hp : wfP P) (hw : wfN P N) (hN : hasN C a P N) (hs : s < P.1) (ht : t < P.1) : fX1_fewestWays a (nI s) (nI t) C = some (fwF (edg N) P.1 t 7 1 (fun j => decide (j = s)), C) := by
  have h8 := hp.2.1
  unfold fX1_fewestWays
  rw [eX1_fewestWays_0, bt_one s (by omega), mone hs]
  exact fw_run hp hw hN ht 7 1 _ (by omega)
theorem hs_r {D : Mm} {f : Nat → Bool} {n i : Nat} (hn : n ≤ 8) (hi : i < n) : fX9_has (nI (msk f n)) (nI i) D = some (bI (f i), D) := by
  unfold fX9_has
  rw [mbit hn hi]
  cases f i <;> rfl
theorem far_in {D : Mm} {t k : Nat} {P : Pq} {N : Nq} {f : Nat → Bool} (hp : wfP P) (hw : wfN P N) (hB : hasB D 0 P N) (hP : hasP D P) (ht : t < P.1) : ∀ d i acc, i + d = P.1 → ∃ h, run stX9_far (2, [], [nI t, nI (msk f P.1), nI k, nI (msk acc P.1), nI i], D) = (if h t = true then some (nI k, D) else run stX9_far (1, [], [nI t, nI (msk h P.1), nI (k + 1)], D)) ∧ ∀ j, j < P.1 → (h j = true ↔ acc j = true ∨ ∃ i', i ≤ i' ∧ i' < P.1 ∧ f i' = true ∧ (inV (nI j) (N.2.2 i') && !N.2.1 j) = true) := by
  have h8 := hp.2.1
  intro d
  induction d with
  | zero =>
    intro i acc e
    rw [eX9_far_2, hP.1, if_pos (nI_le (by omega) (by omega)), hs_r h8 ht, cl_s, nI_1]
    refine ⟨acc, ?_, fun j hj => ⟨Or.inl, ?_⟩⟩
    · cases acc t <;> rfl
    · rintro (z | ⟨i', z1, z2, -⟩)
      · exact z
      · omega
  | succ d ih =>
    intro i acc e
    rw [eX9_far_2, hP.1, if_neg (nI_ge (by omega) (by omega)), hs_r h8 (by omega), cl_s, nI_1]
    cases hf : f i with
    | false =>
      obtain ⟨h, r1, r2⟩ := ih (i + 1) acc (by omega)
      rw [if_pos (show bI false = 0 from rfl), or0]
      exact ⟨h, r1, wo_st (E := fun i j => inV (nI j) (N.2.2 i) && !N.2.1 j) r2 (fun j hj => ⟨Or.inl, fun z => z.elim id (fun z => by have := z.2.1; rw [hf] at this; cases this)⟩)⟩
    | true =>
      obtain ⟨h, r1, r2⟩ := ih (i + 1) (fun j => acc j || (inV (nI j) (N.2.2 i) && !N.2.1 j)) (by omega)
      rw [if_neg (show ¬ bI true = 0 by decide), viewOf_r (by omega) (hB.2.2 i (by omega)), cl_s, alive_r (dd := N.2.1) hp hP.1 hB.2.1, cl_s, bts_m hp (hw.2.1 i (by omega)), mand, mor]
      refine ⟨h, r1, wo_st (E := fun i j => inV (nI j) (N.2.2 i) && !N.2.1 j) r2 (fun j hj => ?_)⟩
      have hi : i < P.1 := by omega
      simp [hf, hi]
theorem far_run {D : Mm} {t : Nat} {P : Pq} {N : Nq} (hp : wfP P) (hw : wfN P N) (hB : hasB D 0 P N) (hP : hasP D P) (ht : t < P.1) : ∀ d k f, k + d = P.1 → (∀ j, j < P.1 → f j = true → N.2.1 j = false) → run stX9_far (1, [], [nI t, nI (msk f P.1), nI k], D) = some (fwF (edg N) P.1 t d k f, D) := by
  have h8 := hp.2.1
  intro d
  induction d with
  | zero =>
    intro k f e _
    rw [eX9_far_1, hP.1, if_pos (nI_le (by omega) (by omega)), fwF]
  | succ d ih =>
    intro k f e hf
    obtain ⟨h, r1, r2⟩ := far_in (k := k) (f := f) hp hw hB hP ht P.1 0 f (by omega)
    have e1 : ∀ j, j < P.1 → h j = stE (edg N) P.1 f j := by
      intro j hj
      rw [Bool.eq_iff_iff, r2 j hj, stE, Bool.or_eq_true, exN_iff]
      constructor
      · rintro (z | ⟨i, -, z2, z3, z4⟩)
        · exact Or.inl z
        · exact Or.inr ⟨i, z2, by rw [z3, edg, hf i z2 z3, z4]; rfl⟩
      · rintro (z | ⟨i, z2, z3⟩)
        · exact Or.inl z
        · have z4 := Bool.and_eq_true_iff.mp z3
          have z5 := Bool.and_eq_true_iff.mp z4.2
          exact Or.inr ⟨i, Nat.zero_le _, z2, z4.1, z5.2⟩
    have hf2 : ∀ j, j < P.1 → stE (edg N) P.1 f j = true → N.2.1 j = false := by
      intro j hj z
      rw [stE, Bool.or_eq_true, exN_iff] at z
      rcases z with z | ⟨i, z2, z3⟩
      · exact hf j hj z
      · simp [edg] at z3
        exact z3.2.2.2
    rw [eX9_far_1, hP.1, if_neg (nI_ge (by omega) (by omega)), show (0 : Int32) = nI 0 from rfl, r1, fwF, e1 t ht, msk_ext e1, ih (k + 1) _ (by omega) hf2]
    by_cases c : stE (edg N) P.1 f t = true
    · rw [if_pos c, if_pos c]
    · rw [if_neg c, if_neg c]
theorem far_ok (x y : Int32) : ∀ C D, RE C D → okK (fX8_far x y) (fX9_far x y) C D := by
  intro C D h
  have hE := h
  obtain ⟨S, H, K, rg, T, n, hA⟩ := h
  obtain ⟨⟨⟨hp, hw⟩, hN, hD⟩, -⟩ := id hA
  have h8 := hp.2.1
  by_cases hc : (okI x S.1.1 && okI y S.1.1 && !decide (x = y)) = true
  · have hc2 := hc
    simp only [Bool.and_eq_true, Bool.not_eq_true', decide_eq_false_iff_not] at hc2
    obtain ⟨⟨ho, ho2⟩, hne⟩ := hc2
    obtain ⟨j, hj, rfl⟩ := okI_of ho (by omega)
    obtain ⟨k, hk, rfl⟩ := okI_of ho2 (by omega)
    cases hdj : S.2.2.1 j with
    | true =>
      refine okK_no (-4) hE ?_ ?_
      · unfold fX8_far
        rw [hasTwo_c hp hN, cl_s, hc, if_neg (by decide), isAlive_c hp hN, cl_s, ho, ix_nI (by omega), hdj, if_pos (show bI (true && !true) = 0 from rfl)]
      · unfold fX9_far
        rw [eX9_far_0, isNode_r hp hD.2, cl_s, ho, if_neg (by decide), isNode_r hp hD.2, cl_s, ho2, if_neg (by decide), if_neg hne, isDead0 hp hD hj, cl_s, hdj, if_neg (by decide)]
    | false =>
      cases hdk : S.2.2.1 k with
      | true =>
        refine okK_no (-4) hE ?_ ?_
        · unfold fX8_far
          rw [hasTwo_c hp hN, cl_s, hc, if_neg (by decide), isAlive_c hp hN, cl_s, ho, ix_nI (by omega), hdj, if_neg (by decide), isAlive_c hp hN, cl_s, ho2, ix_nI (by omega), hdk, if_pos (show bI (true && !true) = 0 from rfl)]
        · unfold fX9_far
          rw [eX9_far_0, isNode_r hp hD.2, cl_s, ho, if_neg (by decide), isNode_r hp hD.2, cl_s, ho2, if_neg (by decide), if_neg hne, isDead0 hp hD hj, cl_s, hdj, if_pos (show bI false = 0 from rfl), isDead0 hp hD hk, cl_s, hdk, if_neg (by decide)]
      | false =>
        refine okK_no (fwF (edg S.2) S.1.1 k 7 1 (fun q => decide (q = j))) hE ?_ ?_
        · unfold fX8_far
          rw [hasTwo_c hp hN, cl_s, hc, if_neg (by decide), isAlive_c hp hN, cl_s, ho, ix_nI (by omega), hdj, if_neg (by decide), isAlive_c hp hN, cl_s, ho2, ix_nI (by omega), hdk, if_neg (by decide), fw_c hp hw hN hj hk, cl_s]
        · unfold fX9_far
          rw [eX9_far_0, isNode_r hp hD.2, cl_s, ho, if_neg (by decide), isNode_r hp hD.2, cl_s, ho2, if_neg (by decide), if_neg hne, isDead0 hp hD hj, cl_s, hdj, if_pos (show bI false = 0 from rfl), isDead0 hp hD hk, cl_s, hdk, if_pos (show bI false = 0 from rfl), bt_one j (by omega), mone hj, fw_eq ⟨j, hj, by simp⟩ hk hp.1 h8]
          have := hp.1
          exact far_run hp hw hD.1 hD.2 hk (S.1.1 - 1) 1 _ (by omega) (fun q _ z => by rw [of_decide_eq_true z]; exact hdj)
  · have hc3 : (okI x S.1.1 && okI y S.1.1 && !decide (x = y)) = false := by simpa using hc
    refine okK_no (-2) hE ?_ ?_
    · unfold fX8_far
      rw [hasTwo_c hp hN, cl_s, hc3, if_pos (show bI false = 0 from rfl)]
    · unfold fX9_far
      rw [eX9_far_0, isNode_r hp hD.2, cl_s, isNode_r hp hD.2, cl_s]
      cases ho : okI x S.1.1 with
      | false => rw [if_pos (show bI false = 0 from rfl)]
      | true =>
        rw [if_neg (by decide)]
        cases ho2 : okI y S.1.1 with
        | false => rw [if_pos (show bI false = 0 from rfl)]
        | true =>
          rw [ho, ho2] at hc3
          rw [if_neg (by decide), if_pos (by simpa using hc3)]
