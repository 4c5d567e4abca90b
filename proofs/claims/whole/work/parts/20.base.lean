/-! pure rows: small numbers, lists by places -/
abbrev Vw : Type := List (Int32 × Int32)
theorem ix_nI {n : Nat} (h : n < 2 ^ 31) : ix (nI n) = n := nI_clamp h
theorem okI_nI {k N : Nat} (h : k < N) (hN : N < 2 ^ 31) : okI (nI k) N = true := by
  unfold okI
  rw [nI_toInt (by omega)]
  simp
  omega
theorem gd_ok {α : Type} {k N : Nat} (h : k < N) (hN : N < 2 ^ 31) {A : Option α} : gd (okI (nI k) N) A = A := gd_t (okI_nI h hN)
theorem up2_s (M : Mm) (a k : Nat) (v : Int32) : up2 M a k v a k = v := by simp [up2, upR, upd]
theorem up2_c {M : Mm} {a k b : Nat} {v : Int32} (h : b ≠ a) : up2 M a k v b = M b := by
  funext j; simp [up2, upR, h]
theorem up2_j {M : Mm} {a k j : Nat} {v : Int32} (h : j ≠ k) : up2 M a k v a j = M a j := by simp [up2, upR, upd, h]
theorem up2_at (M : Mm) (a k b j : Nat) (v : Int32) : up2 M a k v b j = if b = a ∧ j = k then v else M b j := by
  by_cases hb : b = a
  · subst hb
    by_cases hj : j = k
    · subst hj; simp [up2_s]
    · simp [up2_j hj, hj]
  · rw [up2_c hb]; simp [hb]
theorem rd_c {M : Mm} {a k b j : Nat} {v : Int32} (h : b ≠ a) : up2 M a k v b j = M b j := by rw [up2_c h]
theorem rd_j {M : Mm} {a k j : Nat} {v : Int32} (h : j ≠ k) : up2 M a k v a j = M a j := up2_j h
abbrev d0 : Int32 × Int32 := (0, 0)
theorem gD_app {l : Vw} {e : Int32 × Int32} {k : Nat} : (l ++ [e]).getD k d0 = if k < l.length then l.getD k d0 else if k = l.length then e else d0 := by
  simp only [List.getD_eq_getElem?_getD, List.getElem?_append]
  by_cases h : k < l.length
  · simp [h]
  · by_cases h2 : k = l.length
    · subst h2; simp
    · have : 1 ≤ k - l.length := by omega
      simp [h, h2, List.getElem?_eq_none (l := [e]) (i := k - l.length) (by simpa using this)]
theorem gD_set {l : Vw} {p k : Nat} {e : Int32 × Int32} (h : p < l.length) : (l.set p e).getD k d0 = if k = p then e else l.getD k d0 := by
  simp only [List.getD_eq_getElem?_getD, List.getElem?_set]
  by_cases h2 : p = k
  · subst h2; simp [h]
  · have h3 : ¬ k = p := fun e => h2 e.symm
    simp [h2, h3]
theorem gD_del {l : Vw} {p k : Nat} : (l.eraseIdx p).getD k d0 = if k < p then l.getD k d0 else l.getD (k + 1) d0 := by
  simp only [List.getD_eq_getElem?_getD, List.getElem?_eraseIdx]
  by_cases h : k < p <;> simp [h]
theorem len_del {l : Vw} {p : Nat} (h : p < l.length) : (l.eraseIdx p).length = l.length - 1 := by
  rw [List.length_eraseIdx]; simp [h]
theorem gD_map {l : Vw} {f : Int32 × Int32 → Int32 × Int32} {k : Nat} (h : k < l.length) : (l.map f).getD k d0 = f (l.getD k d0) := by
  simp [List.getD_eq_getElem?_getD, List.getElem?_map, List.getElem?_eq_getElem h]
theorem gD_mem {l : Vw} {k : Nat} (h : k < l.length) : l.getD k d0 ∈ l := by
  rw [List.getD_eq_getElem?_getD, List.getElem?_eq_getElem h]
  exact List.getElem_mem h
/-! a view in the class; a view in the reference -/
def hasV (C : Mm) (a : Nat) (l : Vw) : Prop := l.length ≤ 5 ∧ C a 2 = nI l.length ∧ ∀ k, k < l.length → C (a + 1) k = (l.getD k d0).1 ∧ C (a + 2) k = (l.getD k d0).2
def hasR (D : Mm) (b i : Nat) (l : Vw) : Prop := l.length ≤ 5 ∧ D 339 (b + 2 + i) = nI l.length ∧ ∀ k, k < l.length → D 339 (b + 10 + 5 * i + k) = (l.getD k d0).1 ∧ D 339 (b + 50 + 5 * i + k) = (l.getD k d0).2
/-- nothing but a view's three cells has changed -/
def frV (C C' : Mm) (a : Nat) : Prop := ∀ c, c ≠ a → c ≠ a + 1 → c ≠ a + 2 → C' c = C c
/-- nothing but a view's places in the row has changed -/
def ofV (b i j : Nat) : Prop := j = b + 2 + i ∨ (b + 10 + 5 * i ≤ j ∧ j < b + 15 + 5 * i) ∨ (b + 50 + 5 * i ≤ j ∧ j < b + 55 + 5 * i)
def frR (D D' : Mm) (b i : Nat) : Prop := (∀ c, c ≠ 339 → D' c = D c) ∧ ∀ j, ¬ ofV b i j → D' 339 j = D 339 j
theorem frV.rf {C : Mm} {a : Nat} : frV C C a := fun _ _ _ _ => rfl
theorem frV.tr {C C1 C2 : Mm} {a : Nat} (h : frV C C1 a) (g : frV C1 C2 a) : frV C C2 a := fun c x y z => (g c x y z).trans (h c x y z)
theorem frR.rf {D : Mm} {b i : Nat} : frR D D b i := ⟨fun _ _ => rfl, fun _ _ => rfl⟩
theorem frR.tr {D D1 D2 : Mm} {b i : Nat} (h : frR D D1 b i) (g : frR D1 D2 b i) : frR D D2 b i := ⟨fun c x => (g.1 c x).trans (h.1 c x), fun j x => (g.2 j x).trans (h.2 j x)⟩
/-! where a node stands -/
def fnd (x : Int32) : Vw → Nat → Int32
  | [], _ => -1
  | e :: l, k => if e.1 = x then nI k else fnd x l (k + 1)
def pos (x : Int32) (l : Vw) : Int32 := fnd x l 0
theorem drop_cons {l : Vw} {k : Nat} (h : k < l.length) : l.drop k = l.getD k d0 :: l.drop (k + 1) := by
  rw [List.drop_eq_getElem_cons h]
  simp [List.getD_eq_getElem?_getD, List.getElem?_eq_getElem h]
theorem placeOf_run {C : Mm} {a : Nat} {l : Vw} {x : Int32} (h : hasV C a l) : ∀ d k, k + d = l.length → run stX7_placeOf (1, [a], [x, nI k], C) = some (fnd x (l.drop k) k, C) := by
  obtain ⟨h5, hs, hk⟩ := h
  intro d
  induction d with
  | zero =>
    intro k e
    rw [eX7_placeOf_1, hs, if_pos (nI_le (by omega) (by omega)), List.drop_eq_nil_of_le (by omega)]
    rfl
  | succ d ih =>
    intro k e
    rw [eX7_placeOf_1, hs, if_neg (nI_ge (by omega) (by omega)), gd_ok (by omega) (by omega), ix_nI (by omega), (hk k (by omega)).1, drop_cons (by omega : k < l.length), fnd]
    by_cases hx : (l.getD k d0).1 = x
    · rw [if_pos hx, if_pos hx]
    · rw [if_neg hx, if_neg hx, nI_1, ih (k + 1) (by omega)]
theorem placeOf_c {C : Mm} {a : Nat} {l : Vw} (x : Int32) (h : hasV C a l) : fX7_placeOf a x C = some (pos x l, C) := by
  unfold fX7_placeOf
  rw [eX7_placeOf_0, show (0 : Int32) = nI 0 from rfl, placeOf_run h l.length 0 (by omega)]
  rfl
theorem fnd_cases (x : Int32) : ∀ (l : Vw) (k : Nat), (fnd x l k = -1 ∧ ∀ e ∈ l, e.1 ≠ x) ∨ ∃ j, j < l.length ∧ fnd x l k = nI (k + j) ∧ (l.getD j d0).1 = x ∧ ∀ i, i < j → (l.getD i d0).1 ≠ x := by
  intro l
  induction l with
  | nil => intro k; exact Or.inl ⟨rfl, fun e h => by cases h⟩
  | cons e l ih =>
    intro k
    rw [fnd]
    by_cases hx : e.1 = x
    · rw [if_pos hx]
      exact Or.inr ⟨0, by simp, by rw [Nat.add_zero], by simpa using hx, fun i hi => absurd hi (by omega)⟩
    · rw [if_neg hx]
      rcases ih (k + 1) with ⟨h1, h2⟩ | ⟨j, h1, h2, h3, h4⟩
      · refine Or.inl ⟨h1, fun q hq => ?_⟩
        rcases List.mem_cons.mp hq with rfl | hq
        · exact hx
        · exact h2 q hq
      · refine Or.inr ⟨j + 1, by simpa using h1, by rw [h2]; congr 1; omega, by simpa using h3, fun i hi => ?_⟩
        cases i with
        | zero => simpa using hx
        | succ i => simpa using h4 i (by omega)
theorem pos_cases (x : Int32) (l : Vw) : (pos x l = -1 ∧ ∀ e ∈ l, e.1 ≠ x) ∨ ∃ j, j < l.length ∧ pos x l = nI j ∧ (l.getD j d0).1 = x ∧ ∀ i, i < j → (l.getD i d0).1 ≠ x := by
  rcases fnd_cases x l 0 with h | ⟨j, h1, h2, h3, h4⟩
  · exact Or.inl h
  · exact Or.inr ⟨j, h1, by rw [pos, h2, Nat.zero_add], h3, h4⟩
theorem nI_nm1 {j : Nat} (h : j < 2 ^ 31) : nI j ≠ -1 := by
  intro e
  have h1 := congrArg Int32.toInt e
  rw [nI_toInt h] at h1
  have h2 : (-1 : Int32).toInt = -1 := by decide
  rw [h2] at h1
  omega
theorem pos_m1 {x : Int32} {l : Vw} (hl : l.length ≤ 5) : pos x l = -1 ↔ ∀ e ∈ l, e.1 ≠ x := by
  rcases pos_cases x l with ⟨h1, h2⟩ | ⟨j, h1, h2, h3, -⟩
  · exact ⟨fun _ => h2, fun _ => h1⟩
  · constructor
    · intro h; rw [h2] at h; exact absurd h (nI_nm1 (by omega))
    · intro h; exact absurd h3 (h _ (gD_mem h1))
def inV (x : Int32) (l : Vw) : Bool := l.any (fun e => e.1 == x)
theorem inV_iff {x : Int32} {l : Vw} : inV x l = true ↔ ∃ e ∈ l, e.1 = x := by simp [inV]
theorem pos_in {x : Int32} {l : Vw} (hl : l.length ≤ 5) : pos x l = -1 ↔ inV x l = false := by
  rw [pos_m1 hl, ← Bool.not_eq_true, inV_iff]
  constructor
  · intro h ⟨e, h1, h2⟩; exact h e h1 h2
  · intro h e h1 h2; exact h ⟨e, h1, h2⟩
def bI (b : Bool) : Int32 := if b then 1 else 0
theorem holds_c {C : Mm} {a : Nat} {l : Vw} (x : Int32) (h : hasV C a l) : fX7_holds a x C = some (bI (inV x l), C) := by
  rw [fX7_holds, placeOf_c x h, cl_s]
  cases hb : inV x l with
  | false => rw [if_pos ((pos_in h.1).mpr hb)]; rfl
  | true => rw [if_neg (fun e => by rw [(pos_in h.1).mp e] at hb; cases hb)]; rfl
/-! the three changes of a view in the class -/
theorem clear_c {C : Mm} {a : Nat} : ∃ C', fX7_clear a C = some (0, C') ∧ hasV C' a [] ∧ frV C C' a := by
  refine ⟨_, rfl, ⟨by simp, by rw [up2_s]; rfl, fun k h => by simp at h⟩, fun c h1 _ _ => up2_c h1⟩
theorem append_c {C : Mm} {a : Nat} {l : Vw} {x g : Int32} (h : hasV C a l) (hl : l.length < 5) : ∃ C', fX7_append a x g C = some (0, C') ∧ hasV C' a (l ++ [(x, g)]) ∧ frV C C' a := by
  obtain ⟨h5, hs, hk⟩ := h
  have e1 : ∀ (q : Int32), (up2 C (a + 1) l.length q) a 2 = nI l.length := fun q => by rw [up2_c (by omega), hs]
  unfold fX7_append
  rw [hs, if_neg (nI_pos (by omega)), show (5 : Int32) = nI 5 from rfl, if_neg (nI_ge hl (by omega)), gd_ok hl (by omega), ix_nI (by omega), e1, gd_ok hl (by omega), ix_nI (by omega)]
  refine ⟨_, rfl, ⟨by simp; omega, ?_, fun k hk2 => ?_⟩, fun c h1 h2 h3 => ?_⟩
  · rw [up2_s, up2_c (by omega), up2_c (by omega), hs, nI_1]
    simp
  · have hk3 : k < l.length + 1 := by simpa using hk2
    rw [gD_app]
    by_cases h6 : k < l.length
    · simp (disch := omega) only [if_pos h6, rd_c, rd_j]
      exact hk k h6
    · have h7 : k = l.length := by omega
      subst h7
      simp (disch := omega) only [if_neg h6, rd_c, up2_s, if_true]
      exact ⟨trivial, trivial⟩
  · rw [up2_c h1, up2_c h3, up2_c h2]
theorem replace_c {C : Mm} {a p : Nat} {l : Vw} {x g : Int32} (h : hasV C a l) (hp : p < l.length) : ∃ C', fX7_replace a (nI p) x g C = some (0, C') ∧ hasV C' a (l.set p (x, g)) ∧ frV C C' a := by
  obtain ⟨h5, hs, hk⟩ := h
  unfold fX7_replace
  rw [hs, if_neg (nI_pos (by omega)), if_neg (nI_ge hp (by omega)), gd_ok (by omega) (by omega), gd_ok (by omega) (by omega), ix_nI (by omega)]
  refine ⟨_, rfl, ⟨by simpa using h5, ?_, fun k hk2 => ?_⟩, fun c h1 h2 h3 => ?_⟩
  · rw [up2_c (by omega), up2_c (by omega), hs]; simp
  · have hk3 : k < l.length := by simpa using hk2
    rw [gD_set hp, up2_c (by omega)]
    by_cases h6 : k = p
    · subst h6
      rw [if_pos rfl, up2_s, up2_s]; exact ⟨rfl, rfl⟩
    · rw [if_neg h6, up2_j h6, up2_j h6, up2_c (by omega)]
      exact hk k hk3
  · rw [up2_c h3, up2_c h2]
theorem replace_m1 {C : Mm} {a : Nat} {x g : Int32} : fX7_replace a (-1) x g C = some (0, C) := by
  unfold fX7_replace
  rw [if_pos (by decide)]
