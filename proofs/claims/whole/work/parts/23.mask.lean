/-! sets of nodes as bits -/
def msk (p : Nat → Bool) : Nat → Nat
  | 0 => 0
  | n + 1 => msk p n + if p n then 2 ^ n else 0
theorem msk_lt (p : Nat → Bool) : ∀ n, msk p n < 2 ^ n := by
  intro n
  induction n with
  | zero => simp [msk]
  | succ n ih =>
    rw [msk, Nat.pow_succ]
    split <;> omega
theorem msk_bit (p : Nat → Bool) : ∀ n i, (msk p n).testBit i = (decide (i < n) && p i) := by
  intro n
  induction n with
  | zero => intro i; simp [msk]
  | succ n ih =>
    intro i
    rw [msk]
    have hlt := msk_lt p n
    by_cases hp : p n
    · have e1 := Nat.two_pow_add_eq_or_of_lt hlt 1
      rw [Nat.mul_one] at e1
      rw [if_pos hp, Nat.add_comm, e1, Nat.testBit_or, Nat.testBit_two_pow, ih i]
      by_cases hi : i = n
      · subst hi; simp [hp]
      · by_cases h2 : i < n
        · have h3 : i < n + 1 := by omega
          have h4 : ¬ n = i := fun e => hi e.symm
          simp [h2, h3, h4]
        · have h3 : ¬ i < n + 1 := by omega
          have h4 : ¬ n = i := fun e => hi e.symm
          simp [h2, h3, h4]
    · rw [if_neg hp, Nat.add_zero, ih i]
      by_cases hi : i = n
      · subst hi; simp [hp]
      · have h3 : (i < n) ↔ (i < n + 1) := by omega
        simp [h3]
theorem msk_ext {p q : Nat → Bool} {n : Nat} (h : ∀ i, i < n → p i = q i) : msk p n = msk q n := by
  apply Nat.eq_of_testBit_eq
  intro i
  rw [msk_bit, msk_bit]
  by_cases hi : i < n
  · simp [hi, h i hi]
  · simp [hi]
theorem fa_and (a b : Nat) : nI a &&& nI b = nI (a &&& b) := by
  apply Int32.toBitVec_inj.1
  show BitVec.ofNat 32 a &&& BitVec.ofNat 32 b = BitVec.ofNat 32 (a &&& b)
  apply BitVec.eq_of_getLsbD_eq
  intro i hi
  simp [hi]
theorem fa_or (a b : Nat) : nI a ||| nI b = nI (a ||| b) := by
  apply Int32.toBitVec_inj.1
  show BitVec.ofNat 32 a ||| BitVec.ofNat 32 b = BitVec.ofNat 32 (a ||| b)
  apply BitVec.eq_of_getLsbD_eq
  intro i hi
  simp [hi]
theorem fa_xor (a b : Nat) : nI a ^^^ nI b = nI (a ^^^ b) := by
  apply Int32.toBitVec_inj.1
  show BitVec.ofNat 32 a ^^^ BitVec.ofNat 32 b = BitVec.ofNat 32 (a ^^^ b)
  apply BitVec.eq_of_getLsbD_eq
  intro i hi
  simp [hi]
theorem bt_test : ∀ m, m < 256 → ∀ i, i < 8 → ((isr (nI m) (nI i)) &&& 1) = bI (m.testBit i) := by decide +kernel
theorem bt_one : ∀ i, i < 9 → ish 1 (nI i) = nI (2 ^ i) := by decide +kernel
theorem bt_not : ∀ m, m < 256 → ∀ i, i < 8 → nI m &&& ((ish 1 (nI i)) ^^^ (-1)) = nI (m &&& (255 ^^^ 2 ^ i)) := by decide +kernel
theorem bI1 {b : Bool} : (bI b = 1) ↔ b = true := by cases b <;> decide
theorem bI0 {b : Bool} : (bI b = 0) ↔ b = false := by cases b <;> decide
theorem okZ_bI (b : Bool) : okZ (bI b) = true := by cases b <;> decide
theorem pow8 {n : Nat} (h : n ≤ 8) : 2 ^ n ≤ 256 := by
  have : 2 ^ n ≤ 2 ^ 8 := Nat.pow_le_pow_right (by decide) h
  simpa using this
theorem msk_256 (p : Nat → Bool) {n : Nat} (h : n ≤ 8) : msk p n < 256 := Nat.lt_of_lt_of_le (msk_lt p n) (pow8 h)
/-! a net in the class, a net in the reference -/
abbrev Pq : Type := Nat × Nat × Nat × (Nat → Bool)
abbrev Nq : Type := Nat × (Nat → Bool) × (Nat → Vw)
def hasN (C : Mm) (a : Nat) (P : Pq) (N : Nq) : Prop := C a 1 = nI P.1 ∧ C a 2 = nI P.2.1 ∧ C a 3 = nI P.2.2.1 ∧ C a 4 = nI N.1 ∧ C a 5 = nI (msk (fun i => !N.2.1 i) P.1) ∧ C a 6 = nI (msk P.2.2.2 P.1) ∧ ∀ i, i < 8 → hasV C (a + 2 + 3 * i) (N.2.2 i)
def hasP (D : Mm) (P : Pq) : Prop := D 338 1 = nI P.1 ∧ D 338 2 = nI P.2.1 ∧ D 338 3 = nI P.2.2.1 ∧ D 338 4 = nI (msk P.2.2.2 P.1)
def hasB (D : Mm) (b : Nat) (P : Pq) (N : Nq) : Prop := D 339 b = nI N.1 ∧ D 339 (b + 1) = nI (msk N.2.1 P.1) ∧ ∀ i, i < 8 → hasR D b i (N.2.2 i)
def wfP (P : Pq) : Prop := 2 ≤ P.1 ∧ P.1 ≤ 8 ∧ 1 ≤ P.2.1 ∧ P.2.1 ≤ 5 ∧ 1 ≤ P.2.2.1 ∧ P.2.2.1 ≤ P.2.1
/-- the nodes of a row are unlike ones -/
def dst (l : Vw) : Prop := ∀ p p', p < l.length → p' < l.length → (l.getD p d0).1 = (l.getD p' d0).1 → p = p'
def wfV (P : Pq) (i : Nat) (l : Vw) : Prop := l.length ≤ P.2.1 ∧ (∀ e ∈ l, ∃ x g, x < P.1 ∧ x ≠ i ∧ g ≤ 99 ∧ e = (nI x, nI g)) ∧ dst l
def wfN (P : Pq) (N : Nq) : Prop := N.1 < 65537 ∧ (∀ i, i < P.1 → wfV P i (N.2.2 i)) ∧ ∀ i, P.1 ≤ i → N.2.2 i = []
theorem okI_of {x : Int32} {n : Nat} (h : okI x n = true) (hn : n < 2 ^ 31) : ∃ j, j < n ∧ x = nI j := vp_in_of (okI_in h) hn
theorem okI_cases (x : Int32) {n : Nat} (hn : n < 2 ^ 31) : (x < 0 ∧ okI x n = false) ∨ (∃ j, j < n ∧ x = nI j ∧ okI x n = true) ∨ (¬ x < 0 ∧ nI n ≤ x ∧ okI x n = false) := by
  by_cases h0 : x < 0
  · refine Or.inl ⟨h0, ?_⟩
    have : x.toInt < 0 := by simpa using (Int32.lt_iff_toInt_lt.mp h0)
    unfold okI
    have h2 : ¬ (0 ≤ x.toInt) := by omega
    simp [h2]
  · obtain ⟨j, hj, rfl⟩ := nI_of h0
    by_cases h1 : j < n
    · exact Or.inr (Or.inl ⟨j, h1, rfl, okI_nI h1 hn⟩)
    · refine Or.inr (Or.inr ⟨h0, nI_le (by omega) hj, ?_⟩)
      unfold okI
      rw [nI_toInt hj]
      have h2 : ¬ ((j : Int) < n) := by omega
      simp [h2]
theorem has_c {C : Mm} {a : Nat} {P : Pq} {N : Nq} (hp : wfP P) (h : hasN C a P N) (x : Int32) : fX1_has a x C = some (bI (okI x P.1), C) := by
  unfold fX1_has
  rw [h.1]
  have h8 := hp.2.1
  rcases okI_cases x (n := P.1) (by omega) with ⟨h0, h1⟩ | ⟨j, h0, rfl, h1⟩ | ⟨h0, h2, h1⟩
  · rw [if_pos h0, h1]; rfl
  · rw [if_neg (nI_pos (by omega)), if_neg (nI_ge h0 (by omega)), n8, if_neg (nI_ge (by omega) (by omega)), h1]; rfl
  · rw [if_neg h0, if_pos h2, h1]; rfl
theorem alive_bit {P : Pq} {dd : Nat → Bool} {i : Nat} (hp : wfP P) (hi : i < P.1) : ((isr (nI (msk dd P.1)) (nI i)) &&& 1) = bI (dd i) := by
  have h8 := hp.2.1
  rw [bt_test _ (msk_256 _ h8) i (by omega), msk_bit]
  simp [hi]
theorem isAlive_c {C : Mm} {a : Nat} {P : Pq} {N : Nq} (hp : wfP P) (h : hasN C a P N) (x : Int32) : fX1_isAlive a x C = some (bI (okI x P.1 && !N.2.1 (ix x)), C) := by
  have h8 := hp.2.1
  unfold fX1_isAlive
  rw [has_c hp h x, cl_s]
  cases ho : okI x P.1 with
  | false => rw [if_pos (bI0.mpr rfl)]; rfl
  | true =>
    obtain ⟨j, hj, rfl⟩ := okI_of ho (by omega)
    rw [if_neg (by decide), h.2.2.2.2.1, alive_bit hp hj, ix_nI (by omega)]
    cases N.2.1 j <;> simp [bI]
theorem isSly_c {C : Mm} {a : Nat} {P : Pq} {N : Nq} (hp : wfP P) (h : hasN C a P N) (x : Int32) : fX1_isSly a x C = some (bI (okI x P.1 && P.2.2.2 (ix x)), C) := by
  have h8 := hp.2.1
  unfold fX1_isSly
  rw [has_c hp h x, cl_s]
  cases ho : okI x P.1 with
  | false => rw [if_pos (bI0.mpr rfl)]; rfl
  | true =>
    obtain ⟨j, hj, rfl⟩ := okI_of ho (by omega)
    rw [if_neg (by decide), h.2.2.2.2.2.1, alive_bit hp hj, ix_nI (by omega)]
    cases P.2.2.2 j <;> simp [bI]
theorem hasTwo_c {C : Mm} {a : Nat} {P : Pq} {N : Nq} (hp : wfP P) (h : hasN C a P N) (x y : Int32) : fX1_hasTwo a x y C = some (bI (okI x P.1 && okI y P.1 && !decide (x = y)), C) := by
  unfold fX1_hasTwo
  rw [has_c hp h x, cl_s, has_c hp h y, cl_s]
  cases okI x P.1 <;> cases okI y P.1 <;> by_cases hxy : x = y <;> simp [bI, hxy]
/-! the reference's small words -/
theorem in_r (x lo hi : Int64) (D : Mm) : fX9_in x lo hi D = some (bI (decide (lo ≤ x) && decide (x ≤ hi)), D) := by
  unfold fX9_in
  have h1 : (lg_cmp x lo < 0) ↔ ¬ lo ≤ x := by rw [← Int32.not_le, lg_cmp_ge]
  have h2 : (0 < lg_cmp x hi) ↔ ¬ x ≤ hi := by
    unfold lg_cmp
    by_cases h3 : x > hi
    · have : ¬ x ≤ hi := Int64.not_le.mpr h3
      simp [h3, this]
    · have h4 : x ≤ hi := Int64.not_lt.mp h3
      by_cases h5 : x = hi
      · simp [h5]
      · simp [h3, h5, h4]
  by_cases h3 : lo ≤ x <;> by_cases h4 : x ≤ hi <;> simp [h1, h2, h3, h4, bI, okZ, gd]
