/-! sets that grow -/
def exN (n : Nat) (p : Nat → Bool) : Bool := (List.range n).any p
theorem exN_iff {n : Nat} {p : Nat → Bool} : exN n p = true ↔ ∃ i, i < n ∧ p i = true := by
  simp [exN, List.any_eq_true]
def stE (g : Nat → Nat → Bool) (n : Nat) (f : Nat → Bool) : Nat → Bool := fun j => f j || exN n (fun i => f i && g i j)
def itE (g : Nat → Nat → Bool) (n : Nat) : Nat → (Nat → Bool) → (Nat → Bool)
  | 0, f => f
  | k + 1, f => itE g n k (stE g n f)
theorem itE_s {g : Nat → Nat → Bool} {n : Nat} : ∀ k f, itE g n (k + 1) f = stE g n (itE g n k f) := by
  intro k
  induction k with
  | zero => intro f; rfl
  | succ k ih => intro f; rw [itE, ih, ← itE]
theorem itE_add {g : Nat → Nat → Bool} {n : Nat} : ∀ a b f, itE g n (a + b) f = itE g n b (itE g n a f) := by
  intro a
  induction a with
  | zero => intro b f; rw [Nat.zero_add]; rfl
  | succ a ih => intro b f; rw [show a + 1 + b = a + b + 1 by omega, itE, ih, ← itE]
theorem stE_mono {g : Nat → Nat → Bool} {n : Nat} {f : Nat → Bool} {j : Nat} (h : f j = true) : stE g n f j = true := by simp [stE, h]
theorem itE_mono {g : Nat → Nat → Bool} {n : Nat} {j : Nat} : ∀ k f, f j = true → itE g n k f j = true := by
  intro k
  induction k with
  | zero => intro f h; exact h
  | succ k ih => intro f h; exact ih _ (stE_mono h)
def eqN (n : Nat) (f h : Nat → Bool) : Prop := ∀ j, j < n → f j = h j
theorem stE_congr {g : Nat → Nat → Bool} {n : Nat} {f h : Nat → Bool} (e : eqN n f h) : eqN n (stE g n f) (stE g n h) := by
  intro j hj
  have : exN n (fun i => f i && g i j) = exN n (fun i => h i && g i j) := by
    rw [Bool.eq_iff_iff, exN_iff, exN_iff]
    constructor
    · rintro ⟨i, h1, h2⟩; exact ⟨i, h1, by rw [← e i h1]; exact h2⟩
    · rintro ⟨i, h1, h2⟩; exact ⟨i, h1, by rw [e i h1]; exact h2⟩
  rw [stE, stE, e j hj, this]
theorem itE_congr {g : Nat → Nat → Bool} {n : Nat} : ∀ k f h, eqN n f h → eqN n (itE g n k f) (itE g n k h) := by
  intro k
  induction k with
  | zero => intro f h e; exact e
  | succ k ih => intro f h e; exact ih _ _ (stE_congr e)
def ctN (f : Nat → Bool) : Nat → Nat
  | 0 => 0
  | n + 1 => ctN f n + if f n = true then 1 else 0
theorem ctN_le {f : Nat → Bool} : ∀ n, ctN f n ≤ n := by
  intro n
  induction n with
  | zero => exact Nat.le_refl _
  | succ n ih => rw [ctN]; split <;> omega
theorem ctN_mono {f h : Nat → Bool} : ∀ n, (∀ j, j < n → f j = true → h j = true) → ctN f n ≤ ctN h n := by
  intro n
  induction n with
  | zero => intro _; exact Nat.le_refl _
  | succ n ih =>
    intro e
    have h1 := ih (fun j hj => e j (by omega))
    have h2 := e n (by omega)
    rw [ctN, ctN]
    by_cases c : f n = true
    · rw [if_pos c, if_pos (h2 c)]; omega
    · rw [if_neg c]; omega
theorem ctN_lt {f h : Nat → Bool} : ∀ n, (∀ j, j < n → f j = true → h j = true) → (∃ j, j < n ∧ h j = true ∧ f j = false) → ctN f n + 1 ≤ ctN h n := by
  intro n
  induction n with
  | zero => rintro _ ⟨j, hj, _⟩; omega
  | succ n ih =>
    rintro e ⟨j, hj, h1, h2⟩
    rw [ctN, ctN]
    by_cases c : j = n
    · subst c
      have := ctN_mono j (fun i hi => e i (by omega))
      rw [if_pos h1, if_neg (by rw [h2]; decide)]; omega
    · have h3 := ih (fun i hi => e i (by omega)) ⟨j, by omega, h1, h2⟩
      have h4 := e n (by omega)
      by_cases c2 : f n = true
      · rw [if_pos c2, if_pos (h4 c2)]; omega
      · rw [if_neg c2]; omega
theorem ctN_all {f : Nat → Bool} : ∀ n, n ≤ ctN f n → ∀ j, j < n → f j = true := by
  intro n
  induction n with
  | zero => intro _ j hj; omega
  | succ n ih =>
    intro h j hj
    have := ctN_le (f := f) n
    rw [ctN] at h
    by_cases c : f n = true
    · rw [if_pos c] at h
      by_cases c2 : j = n
      · rw [c2]; exact c
      · exact ih (by omega) j (by omega)
    · rw [if_neg c] at h; omega
theorem stable_from {g : Nat → Nat → Bool} {n : Nat} {f : Nat → Bool} {k : Nat} (h : eqN n (itE g n (k + 1) f) (itE g n k f)) : ∀ r, eqN n (itE g n (k + r) f) (itE g n k f) := by
  intro r
  induction r with
  | zero => intro j _; rfl
  | succ r ih =>
    intro j hj
    rw [show k + (r + 1) = k + r + 1 by omega, itE_s, stE_congr ih j hj, ← itE_s]
    exact h j hj
theorem grow {g : Nat → Nat → Bool} {n : Nat} {f : Nat → Bool} (h0 : ∃ j, j < n ∧ f j = true) : ∀ k, (∃ k', k' ≤ k ∧ eqN n (itE g n (k' + 1) f) (itE g n k' f)) ∨ k + 1 ≤ ctN (itE g n k f) n := by
  intro k
  induction k with
  | zero =>
    right
    obtain ⟨j, hj, h1⟩ := h0
    have := ctN_lt (f := fun _ => false) (h := f) n (fun i _ z => by cases z) ⟨j, hj, h1, rfl⟩
    have e0 : itE g n 0 f = f := rfl
    rw [e0]; omega
  | succ k ih =>
    rcases ih with ⟨k', h1, h2⟩ | h1
    · exact Or.inl ⟨k', by omega, h2⟩
    · by_cases c : eqN n (itE g n (k + 1) f) (itE g n k f)
      · exact Or.inl ⟨k, by omega, c⟩
      · right
        have : ∃ j, j < n ∧ itE g n (k + 1) f j = true ∧ itE g n k f j = false := by
          apply Classical.byContradiction
          intro z
          apply c
          intro j hj
          cases h3 : itE g n k f j with
          | true => rw [itE_s]; exact stE_mono h3
          | false =>
            cases h4 : itE g n (k + 1) f j with
            | false => rfl
            | true => exact absurd ⟨j, hj, h4, h3⟩ z
        have h5 := ctN_lt n (fun j _ h3 => by rw [itE_s]; exact stE_mono h3) this
        omega
theorem stable {g : Nat → Nat → Bool} {n : Nat} {f : Nat → Bool} (h0 : ∃ j, j < n ∧ f j = true) : ∀ r, eqN n (itE g n (n - 1 + r) f) (itE g n (n - 1) f) := by
  intro r
  have hn : 1 ≤ n := by obtain ⟨j, hj, _⟩ := h0; omega
  rcases grow (g := g) h0 (n - 1) with ⟨k', h1, h2⟩ | h1
  · intro j hj
    have a1 := stable_from h2 (n - 1 + r - k') j hj
    have a2 := stable_from h2 (n - 1 - k') j hj
    rw [show k' + (n - 1 + r - k') = n - 1 + r by omega] at a1
    rw [show k' + (n - 1 - k') = n - 1 by omega] at a2
    rw [a1, a2]
  · intro j hj
    have a1 := ctN_all (f := itE g n (n - 1) f) n (by omega) j hj
    rw [a1, itE_add]
    exact itE_mono r _ a1
theorem closed {g : Nat → Nat → Bool} {n : Nat} {f : Nat → Bool} (h0 : ∃ j, j < n ∧ f j = true) {m : Nat} (hm : n - 1 ≤ m) {i j : Nat} (hi : i < n) (hj : j < n) (h1 : itE g n m f i = true) (h2 : g i j = true) : itE g n m f j = true := by
  have e1 : ∀ x, x < n → itE g n m f x = itE g n (n - 1) f x := fun x hx => by
    have := stable (g := g) h0 (m - (n - 1)) x hx
    rw [show n - 1 + (m - (n - 1)) = m by omega] at this
    exact this
  have e2 := stable (g := g) h0 1 j hj
  rw [e1 j hj, ← e2, itE_s]
  rw [e1 i hi] at h1
  show (itE g n (n - 1) f j || exN n (fun i => itE g n (n - 1) f i && g i j)) = true
  rw [Bool.or_eq_true, exN_iff]
  exact Or.inr ⟨i, hi, by rw [h1, h2]; rfl⟩
/-! how far -/
def fwF (g : Nat → Nat → Bool) (n t : Nat) : Nat → Nat → (Nat → Bool) → Int32
  | 0, _, _ => -1
  | d + 1, k, f => if stE g n f t = true then nI k else fwF g n t d (k + 1) (stE g n f)
theorem fw_no {g : Nat → Nat → Bool} {n t : Nat} : ∀ d k f, (∀ i, i < d → itE g n (i + 1) f t = false) → fwF g n t d k f = -1 := by
  intro d
  induction d with
  | zero => intro k f _; rfl
  | succ d ih =>
    intro k f h
    have h0 := h 0 (by omega)
    rw [fwF, if_neg (by rw [show stE g n f t = itE g n (0 + 1) f t from rfl, h0]; decide)]
    exact ih (k + 1) _ (fun i hi => h (i + 1) (by omega))
theorem fw_m1 {g : Nat → Nat → Bool} {n t : Nat} : ∀ d k f, k + d < 2 ^ 31 → fwF g n t d k f = -1 → ∀ i, i < d → itE g n (i + 1) f t = false := by
  intro d
  induction d with
  | zero => intro k f _ _ i hi; omega
  | succ d ih =>
    intro k f hk h i hi
    rw [fwF] at h
    by_cases c : stE g n f t = true
    · rw [if_pos c] at h; exact absurd h (nI_nm1 (by omega))
    · rw [if_neg c] at h
      cases i with
      | zero =>
        show stE g n f t = false
        simpa using c
      | succ i => exact ih (k + 1) _ (by omega) h i (by omega)
theorem fw_add {g : Nat → Nat → Bool} {n t : Nat} : ∀ a b k f, k + a < 2 ^ 31 → fwF g n t (a + b) k f = if fwF g n t a k f = -1 then fwF g n t b (k + a) (itE g n a f) else fwF g n t a k f := by
  intro a
  induction a with
  | zero => intro b k f _; rw [Nat.zero_add, fwF, if_pos rfl]; rfl
  | succ a ih =>
    intro b k f hk
    rw [show a + 1 + b = a + b + 1 by omega, fwF, fwF]
    by_cases c : stE g n f t = true
    · rw [if_pos c, if_pos c, if_neg (nI_nm1 (by omega))]
    · rw [if_neg c, if_neg c, ih b (k + 1) _ (by omega), show k + 1 + a = k + (a + 1) by omega, itE]
theorem fw_eq {g : Nat → Nat → Bool} {n t : Nat} {f : Nat → Bool} (h0 : ∃ j, j < n ∧ f j = true) (ht : t < n) (hn : 2 ≤ n) (hn8 : n ≤ 8) : fwF g n t 7 1 f = fwF g n t (n - 1) 1 f := by
  rw [show 7 = n - 1 + (7 - (n - 1)) by omega, fw_add _ _ _ _ (by omega)]
  by_cases c : fwF g n t (n - 1) 1 f = -1
  · rw [if_pos c, c]
    have h1 := fw_m1 _ _ _ (by omega) c (n - 2) (by omega)
    rw [show n - 2 + 1 = n - 1 by omega] at h1
    apply fw_no
    intro i hi
    rw [← itE_add, stable h0 (i + 1) t ht, h1]
  · rw [if_neg c]
