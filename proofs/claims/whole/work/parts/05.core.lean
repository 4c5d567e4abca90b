/-! the words that every method is given: those of the tables that hold at every state of a run -/
def tg : List Cond := lw_tbl.filter goodWord
def tgW (y : MethodName) (b : ByteArray) (n : Nat) (ret : Option FieldType) : List Cond := Cond.code y b n ret :: tg
theorem tg_mem {w : Cond} (h : w ∈ lw_tbl) (g : goodWord w = true) : w ∈ tg := List.mem_filter.mpr ⟨h, g⟩
theorem tg_good {y : MethodName} {b : ByteArray} {n : Nat} {ret : Option FieldType} (h : Cond.code y b n ret ∈ tg) : GoodIn tg (tgW y b n ret) := by
  have k : ∀ w ∈ tg, w ∈ tg ∧ ((w.onTables && w.keeps) = true ∨ ∃ ty, w = .arrayClass ty) := fun w hw => ⟨hw, good_of_word (List.mem_filter.mp hw).2⟩
  intro w hw
  rcases List.mem_cons.mp hw with rfl | hw
  · exact k _ h
  · exact k _ hw
theorem tg_i (i : Nat) {w : Cond} (h : (lw_tbl[i]? = some w ∧ goodWord w = true)) : w ∈ tg := tg_mem (List.mem_of_getElem? h.1) h.2
/-! the ints of the world: cell, place -/
abbrev Mm : Type := Nat → Nat → Int32
def upR (M : Mm) (a : Nat) (R : Nat → Int32) : Mm := fun b => if b = a then R else M b
def up2 (M : Mm) (a k : Nat) (v : Int32) : Mm := upR M a (upd (M a) k v)
abbrev ix (i : Int32) : Nat := i.toNatClampNeg
abbrev Sst : Type := Nat × List Nat × List Int32 × Mm
abbrev Rst : Type := Int32 × Mm
abbrev rfs (f : Nat → Nat) : (Nat → Int32) ⊕ (Nat → Int64) ⊕ (Nat → UInt32) ⊕ (Nat → UInt64) ⊕ (Nat → Option Nat) := .inr (.inr (.inr (.inr (fun j => some (f j)))))
/-! the layout: what cell i is; 26 t .. 26 t + 25 (t 1 .. 12) a net, its views, their rows -/
def celN (ad : Nat → Nat) (cs : Nat → ClassId) (R : Nat → Int32) (i r : Nat) : va_E :=
  if r = 0 then .inr (1, [.ref (ad (i + 1)), .int (R 1), .int (R 2), .int (R 3), .int (R 4), .int (R 5), .int (R 6)])
  else if r = 1 then .inl (cs 2, 8, rfs (fun j => ad (i + 1 + 3 * j)))
  else if (r - 2) % 3 = 0 then .inr (7, [.ref (ad (i + 1)), .ref (ad (i + 2)), .int (R 2)])
  else .inl (cs 0, 5, .inl R)
def cel (ad : Nat → Nat) (cs : Nat → ClassId) (R : Nat → Int32) (i : Nat) : va_E :=
  if 26 ≤ i ∧ i < 338 then celN ad cs R i (i % 26)
  else if i = 0 then .inr (8, [.ref (ad 1), .ref (ad 3), .ref (ad 26), .ref (ad 52), .ref (ad 6), .ref (ad 15), .ref (ad 17), .ref (ad 18), .ref (ad 19)])
  else if i = 1 then .inr (6, [.ref (ad 2), .int (R 1), .int (R 2), .int (R 3), .int (R 4)])
  else if i = 2 then .inl (cs 0, 200, .inl R)
  else if i = 3 then .inr (0, [.ref (ad 4), .ref (ad 5), .int (R 2), .int (R 3)])
  else if i = 4 then .inl (cs 0, 24, .inl R)
  else if i = 5 then .inl (cs 0, 96, .inl R)
  else if i = 6 then .inr (5, [.ref (ad 7), .ref (ad 11)])
  else if i = 7 ∨ i = 11 then .inr (4, [.ref (ad (i + 1)), .ref (ad (i + 2)), .ref (ad (i + 3)), .int (R 3)])
  else if i < 15 then .inl (cs 0, 5, .inl R)
  else if i = 15 then .inr (2, [.ref (ad 16), .int (R 1), .int (R 2)])
  else if i = 16 then .inl (cs 3, 8, rfs (fun j => ad (78 + 26 * j)))
  else if i = 17 then .inl (cs 3, 2, rfs (fun j => ad (286 + 26 * j)))
  else if i = 18 then .inl (cs 1, 2, .inl R)
  else if i = 19 then .inl (cs 4, 3, rfs (fun j => ad (20 + 2 * j)))
  else if i = 20 ∨ i = 22 ∨ i = 24 then .inr (3, [.ref (ad (i + 1)), .int (R 1), .int (R 2), .int (R 3)])
  else if i < 26 then .inl (cs 0, 8, .inl R)
  else if i = 338 then .inr (9, [.ref (ad 339), .int (R 1), .int (R 2), .int (R 3), .int (R 4), .int (R 5), .ref (ad 340), .ref (ad 341), .int (R 8), .ref (ad 342), .ref (ad 343), .int (R 11), .int (R 12), .int (R 13), .int (R 14), .int (R 15), .ref (ad 344), .ref (ad 345), .ref (ad 346), .ref (ad 347), .ref (ad 348), .ref (ad 349)])
  else if i = 339 then .inl (cs 0, 1080, .inl R)
  else if i = 340 then .inl (cs 1, 2, .inl R)
  else if i = 341 then .inl (cs 0, 200, .inl R)
  else if i = 342 then .inl (cs 0, 3, .inl R)
  else if i = 343 then .inl (cs 0, 24, .inl R)
  else if i = 344 then .inl (cs 0, 4, .inl R)
  else if i = 345 then .inl (cs 0, 20, .inl R)
  else if i = 346 then .inl (cs 0, 12, .inl R)
  else if i = 347 then .inl (cs 0, 12, .inl R)
  else if i = 348 then .inl (cs 0, 2, .inl R)
  else .inl (cs 1, 12, .inl R)
def wsO (L : List Nat) (ad : Nat → Nat) (cs : Nat → ClassId) (M : Mm) : va_W := L.map (fun i => (ad i, cel ad cs (M i) i))
theorem wsO_get {L : List Nat} (ad : Nat → Nat) (cs : Nat → ClassId) (M : Mm) {k i : Nat} (h : L[k]? = some i) : (wsO L ad cs M)[k]? = some (ad i, cel ad cs (M i) i) := by
  simp [wsO, List.getElem?_map, h]
theorem wsO_inv {L : List Nat} {ad : Nat → Nat} {cs : Nat → ClassId} {M : Mm} {k : Nat} {q : Nat × va_E} (h : (wsO L ad cs M)[k]? = some q) : ∃ i, L[k]? = some i ∧ q = (ad i, cel ad cs (M i) i) := by
  rw [wsO, List.getElem?_map] at h
  cases hl : L[k]? with
  | none => rw [hl] at h; cases h
  | some i => rw [hl] at h; exact ⟨i, rfl, (Option.some.inj h).symm⟩
theorem nd_get {L : List Nat} (hn : L.Nodup) {j k i : Nat} (h1 : L[j]? = some i) (h2 : L[k]? = some i) : j = k := by
  obtain ⟨l1, e1⟩ := List.getElem?_eq_some_iff.mp h1
  obtain ⟨l2, e2⟩ := List.getElem?_eq_some_iff.mp h2
  have hp := List.pairwise_iff_getElem.mp hn
  rcases Nat.lt_trichotomy j k with h | h | h
  · exact absurd (e1.trans e2.symm) (hp j k l1 l2 h)
  · exact h
  · exact absurd (e2.trans e1.symm) (hp k j l2 l1 h)
theorem wsO_set {L : List Nat} (hn : L.Nodup) (ad : Nat → Nat) (cs : Nat → ClassId) (M : Mm) {k a : Nat} (R : Nat → Int32) (h : L[k]? = some a) {e : va_E} (he : e = cel ad cs R a) : (wsO L ad cs M).set k (ad a, e) = wsO L ad cs (upR M a R) := by
  apply List.ext_getElem?
  intro j
  rw [List.getElem?_set]
  by_cases hj : k = j
  · subst hj
    have hl : k < (wsO L ad cs M).length := by
      obtain ⟨l1, -⟩ := List.getElem?_eq_some_iff.mp h
      simpa [wsO] using l1
    rw [if_pos rfl, if_pos hl, wsO_get ad cs _ h, he]
    simp [upR]
  · rw [if_neg hj]
    cases h2 : L[j]? with
    | some i =>
      have hi : i ≠ a := fun e => hj (nd_get hn h (e ▸ h2))
      rw [wsO_get ad cs _ h2, wsO_get ad cs _ h2]
      simp [upR, hi]
    | none =>
      have h3 : L.length ≤ j := List.getElem?_eq_none_iff.mp h2
      rw [List.getElem?_eq_none (by simpa [wsO] using h3), List.getElem?_eq_none (by simpa [wsO] using h3)]
/-! the cells' own addresses; L: which cells there are -/
def inA (L : List Nat) (ad : Nat → Nat) : Nat → Prop := fun q => ∃ i, i ∈ L ∧ q = ad i
def inj (L : List Nat) (ad : Nat → Nat) : Prop := L.Nodup ∧ ∀ i j, i ∈ L → j ∈ L → ad i = ad j → i = j
theorem wsO_D {L : List Nat} {ad : Nat → Nat} {cs : Nat → ClassId} {M : Mm} (h : inj L ad) : va_D (inA L ad) (wsO L ad cs M) := by
  refine ⟨fun i j p q hi hj hpq => ?_, fun k q hk => ?_⟩
  · obtain ⟨a, h1, rfl⟩ := wsO_inv hi
    obtain ⟨b, h2, rfl⟩ := wsO_inv hj
    have hab := h.2 a b (List.mem_of_getElem? h1) (List.mem_of_getElem? h2) hpq
    subst hab
    exact nd_get h.1 h1 h2
  · obtain ⟨a, h1, rfl⟩ := wsO_inv hk
    exact ⟨a, List.mem_of_getElem? h1, rfl⟩
abbrev tys (cs : Nat → ClassId) : List (ClassId × FieldType) := [(cs 0, .int), (cs 1, .boolean), (cs 2, .object RX7), (cs 3, .object RX1), (cs 4, .object RX3)]
/-! what a cell is -/
def isOb (L : List Nat) (ad : Nat → Nat) (cs : Nat → ClassId) (a ci : Nat) (fs : (Nat → Int32) → List Value) : Prop := a ∈ L ∧ ∀ R, cel ad cs R a = .inr (ci, fs R)
def isAr (L : List Nat) (ad : Nat → Nat) (cs : Nat → ClassId) (a t n : Nat) : Prop := a ∈ L ∧ ∀ R, cel ad cs R a = .inl (cs t, n, .inl R)
def isRf (L : List Nat) (ad : Nat → Nat) (cs : Nat → ClassId) (a t n : Nat) (f : Nat → Nat) : Prop := a ∈ L ∧ ∀ R, cel ad cs R a = .inl (cs t, n, rfs (fun j => ad (f j)))
def isN (L : List Nat) (a : Nat) : Prop := (∃ t, t < 12 ∧ a = 26 * t + 26) ∧ ∀ j, j < 26 → a + j ∈ L
def isV (L : List Nat) (a : Nat) : Prop := (∃ t i, t < 12 ∧ i < 8 ∧ a = 26 * t + 28 + 3 * i) ∧ a ∈ L ∧ a + 1 ∈ L ∧ a + 2 ∈ L
def isS (L : List Nat) (a : Nat) : Prop := (a = 7 ∨ a = 11) ∧ a ∈ L ∧ a + 1 ∈ L ∧ a + 2 ∈ L ∧ a + 3 ∈ L
def isG (L : List Nat) (a : Nat) : Prop := (a = 20 ∨ a = 22 ∨ a = 24) ∧ a ∈ L ∧ a + 1 ∈ L
def isX (L : List Nat) : Prop := ∀ j, j < 338 → j ∈ L
def isM (L : List Nat) : Prop := ∀ j, 338 ≤ j → j < 350 → j ∈ L
section Kinds
variable {L : List Nat} {ad : Nat → Nat} {cs : Nat → ClassId} {a : Nat}
theorem ob_N (h : isN L a) : isOb L ad cs a 1 (fun R => [.ref (ad (a + 1)), .int (R 1), .int (R 2), .int (R 3), .int (R 4), .int (R 5), .int (R 6)]) := by
  refine ⟨h.2 0 (by decide), fun R => ?_⟩
  obtain ⟨t, ht, rfl⟩ := h.1
  have h1 : 26 ≤ 26 * t + 26 ∧ 26 * t + 26 < 338 := by omega
  have h2 : (26 * t + 26) % 26 = 0 := by omega
  rw [cel, if_pos h1, celN, if_pos h2]
theorem rf_N (h : isN L a) : isRf L ad cs (a + 1) 2 8 (fun j => a + 2 + 3 * j) := by
  refine ⟨h.2 1 (by decide), fun R => ?_⟩
  obtain ⟨t, ht, rfl⟩ := h.1
  have h1 : 26 ≤ 26 * t + 26 + 1 ∧ 26 * t + 26 + 1 < 338 := by omega
  have h2 : (26 * t + 26 + 1) % 26 = 1 := by omega
  rw [cel, if_pos h1, celN, h2, if_neg (by decide), if_pos rfl]
theorem ob_V (h : isV L a) : isOb L ad cs a 7 (fun R => [.ref (ad (a + 1)), .ref (ad (a + 2)), .int (R 2)]) := by
  refine ⟨h.2.1, fun R => ?_⟩
  obtain ⟨t, i, ht, hi, rfl⟩ := h.1
  have h1 : 26 ≤ 26 * t + 28 + 3 * i ∧ 26 * t + 28 + 3 * i < 338 := by omega
  have h2 : (26 * t + 28 + 3 * i) % 26 = 2 + 3 * i := by omega
  rw [cel, if_pos h1, celN, h2, if_neg (by omega), if_neg (by omega), if_pos (by omega)]
theorem ar_V1 (h : isV L a) : isAr L ad cs (a + 1) 0 5 := by
  refine ⟨h.2.2.1, fun R => ?_⟩
  obtain ⟨t, i, ht, hi, rfl⟩ := h.1
  have h1 : 26 ≤ 26 * t + 28 + 3 * i + 1 ∧ 26 * t + 28 + 3 * i + 1 < 338 := by omega
  have h2 : (26 * t + 28 + 3 * i + 1) % 26 = 3 + 3 * i := by omega
  rw [cel, if_pos h1, celN, h2, if_neg (by omega), if_neg (by omega), if_neg (by omega)]
theorem ar_V2 (h : isV L a) : isAr L ad cs (a + 2) 0 5 := by
  refine ⟨h.2.2.2, fun R => ?_⟩
  obtain ⟨t, i, ht, hi, rfl⟩ := h.1
  have h1 : 26 ≤ 26 * t + 28 + 3 * i + 2 ∧ 26 * t + 28 + 3 * i + 2 < 338 := by omega
  have h2 : (26 * t + 28 + 3 * i + 2) % 26 = 4 + 3 * i := by omega
  rw [cel, if_pos h1, celN, h2, if_neg (by omega), if_neg (by omega), if_neg (by omega)]
theorem ob_S (h : isS L a) : isOb L ad cs a 4 (fun R => [.ref (ad (a + 1)), .ref (ad (a + 2)), .ref (ad (a + 3)), .int (R 3)]) := by
  refine ⟨h.2.1, fun R => ?_⟩
  rcases h.1 with rfl | rfl <;> rfl
theorem ar_S1 (h : isS L a) : isAr L ad cs (a + 1) 0 5 := by
  refine ⟨h.2.2.1, fun R => ?_⟩
  rcases h.1 with rfl | rfl <;> rfl
theorem ar_S2 (h : isS L a) : isAr L ad cs (a + 2) 0 5 := by
  refine ⟨h.2.2.2.1, fun R => ?_⟩
  rcases h.1 with rfl | rfl <;> rfl
theorem ar_S3 (h : isS L a) : isAr L ad cs (a + 3) 0 5 := by
  refine ⟨h.2.2.2.2, fun R => ?_⟩
  rcases h.1 with rfl | rfl <;> rfl
theorem ob_G (h : isG L a) : isOb L ad cs a 3 (fun R => [.ref (ad (a + 1)), .int (R 1), .int (R 2), .int (R 3)]) := by
  refine ⟨h.2.1, fun R => ?_⟩
  rcases h.1 with rfl | rfl | rfl <;> rfl
theorem ar_G1 (h : isG L a) : isAr L ad cs (a + 1) 0 8 := by
  refine ⟨h.2.2, fun R => ?_⟩
  rcases h.1 with rfl | rfl | rfl <;> rfl
theorem ob_0 (h : isX L) : isOb L ad cs 0 8 (fun _ => [.ref (ad 1), .ref (ad 3), .ref (ad 26), .ref (ad 52), .ref (ad 6), .ref (ad 15), .ref (ad 17), .ref (ad 18), .ref (ad 19)]) := ⟨h 0 (by decide), fun R => rfl⟩
theorem ob_1 (h : isX L) : isOb L ad cs 1 6 (fun R => [.ref (ad 2), .int (R 1), .int (R 2), .int (R 3), .int (R 4)]) := ⟨h 1 (by decide), fun R => rfl⟩
theorem ar_2 (h : isX L) : isAr L ad cs 2 0 200 := ⟨h 2 (by decide), fun R => rfl⟩
theorem ob_3 (h : isX L) : isOb L ad cs 3 0 (fun R => [.ref (ad 4), .ref (ad 5), .int (R 2), .int (R 3)]) := ⟨h 3 (by decide), fun R => rfl⟩
theorem ar_4 (h : isX L) : isAr L ad cs 4 0 24 := ⟨h 4 (by decide), fun R => rfl⟩
theorem ar_5 (h : isX L) : isAr L ad cs 5 0 96 := ⟨h 5 (by decide), fun R => rfl⟩
theorem ob_6 (h : isX L) : isOb L ad cs 6 5 (fun _ => [.ref (ad 7), .ref (ad 11)]) := ⟨h 6 (by decide), fun R => rfl⟩
theorem ob_15 (h : isX L) : isOb L ad cs 15 2 (fun R => [.ref (ad 16), .int (R 1), .int (R 2)]) := ⟨h 15 (by decide), fun R => rfl⟩
theorem rf_16 (h : isX L) : isRf L ad cs 16 3 8 (fun j => 78 + 26 * j) := ⟨h 16 (by decide), fun R => rfl⟩
theorem rf_17 (h : isX L) : isRf L ad cs 17 3 2 (fun j => 286 + 26 * j) := ⟨h 17 (by decide), fun R => rfl⟩
theorem ar_18 (h : isX L) : isAr L ad cs 18 1 2 := ⟨h 18 (by decide), fun R => rfl⟩
theorem rf_19 (h : isX L) : isRf L ad cs 19 4 3 (fun j => 20 + 2 * j) := ⟨h 19 (by decide), fun R => rfl⟩
theorem ob_338 (h : isM L) : isOb L ad cs 338 9 (fun R => [.ref (ad 339), .int (R 1), .int (R 2), .int (R 3), .int (R 4), .int (R 5), .ref (ad 340), .ref (ad 341), .int (R 8), .ref (ad 342), .ref (ad 343), .int (R 11), .int (R 12), .int (R 13), .int (R 14), .int (R 15), .ref (ad 344), .ref (ad 345), .ref (ad 346), .ref (ad 347), .ref (ad 348), .ref (ad 349)]) := ⟨h 338 (by decide) (by decide), fun R => rfl⟩
theorem ar_339 (h : isM L) : isAr L ad cs 339 0 1080 := ⟨h 339 (by decide) (by decide), fun R => rfl⟩
theorem ar_340 (h : isM L) : isAr L ad cs 340 1 2 := ⟨h 340 (by decide) (by decide), fun R => rfl⟩
theorem ar_341 (h : isM L) : isAr L ad cs 341 0 200 := ⟨h 341 (by decide) (by decide), fun R => rfl⟩
theorem ar_342 (h : isM L) : isAr L ad cs 342 0 3 := ⟨h 342 (by decide) (by decide), fun R => rfl⟩
theorem ar_343 (h : isM L) : isAr L ad cs 343 0 24 := ⟨h 343 (by decide) (by decide), fun R => rfl⟩
theorem ar_344 (h : isM L) : isAr L ad cs 344 0 4 := ⟨h 344 (by decide) (by decide), fun R => rfl⟩
theorem ar_345 (h : isM L) : isAr L ad cs 345 0 20 := ⟨h 345 (by decide) (by decide), fun R => rfl⟩
theorem ar_346 (h : isM L) : isAr L ad cs 346 0 12 := ⟨h 346 (by decide) (by decide), fun R => rfl⟩
theorem ar_347 (h : isM L) : isAr L ad cs 347 0 12 := ⟨h 347 (by decide) (by decide), fun R => rfl⟩
theorem ar_348 (h : isM L) : isAr L ad cs 348 0 2 := ⟨h 348 (by decide) (by decide), fun R => rfl⟩
theorem ar_349 (h : isM L) : isAr L ad cs 349 1 12 := ⟨h 349 (by decide) (by decide), fun R => rfl⟩
theorem isV_of {j : Nat} (h : isN L a) (hj : j < 8) : isV L (a + 2 + 3 * j) := by
  have h2 := h.2
  obtain ⟨t, ht, rfl⟩ := h.1
  refine ⟨⟨t, j, ht, hj, by omega⟩, ?_, ?_, ?_⟩
  · have := h2 (2 + 3 * j) (by omega); rwa [← Nat.add_assoc] at this
  · have := h2 (3 + 3 * j) (by omega); rwa [show 26 * t + 26 + (3 + 3 * j) = 26 * t + 26 + 2 + 3 * j + 1 by omega] at this
  · have := h2 (4 + 3 * j) (by omega); rwa [show 26 * t + 26 + (4 + 3 * j) = 26 * t + 26 + 2 + 3 * j + 2 by omega] at this
theorem isN_x {t : Nat} (h : isX L) (ht : t < 12) : isN L (26 * t + 26) := ⟨⟨t, ht, rfl⟩, fun j hj => h _ (by omega)⟩
theorem isN_past {j : Nat} (h : isX L) (hj : j < 8) : isN L (78 + 26 * j) := by
  have := isN_x (t := j + 2) h (by omega); rwa [show 26 * (j + 2) + 26 = 78 + 26 * j by omega] at this
theorem isN_kept {j : Nat} (h : isX L) (hj : j < 2) : isN L (286 + 26 * j) := by
  have := isN_x (t := j + 10) h (by omega); rwa [show 26 * (j + 10) + 26 = 286 + 26 * j by omega] at this
theorem isG_of {j : Nat} (h : isX L) (hj : j < 3) : isG L (20 + 2 * j) := ⟨by omega, h _ (by omega), h _ (by omega)⟩
theorem isN_26 (h : isX L) : isN L 26 := isN_x (t := 0) h (by decide)
theorem isN_52 (h : isX L) : isN L 52 := isN_x (t := 1) h (by decide)
theorem isS_7 (h : isX L) : isS L 7 := ⟨Or.inl rfl, h _ (by decide), h _ (by decide), h _ (by decide), h _ (by decide)⟩
theorem isS_11 (h : isX L) : isS L 11 := ⟨Or.inr rfl, h _ (by decide), h _ (by decide), h _ (by decide), h _ (by decide)⟩
end Kinds
/-! guards, and what a computation says when it comes to something -/
def okI (i : Int32) (n : Nat) : Bool := decide (0 ≤ i.toInt) && decide (i.toInt < (n : Int))
theorem okI_in {i : Int32} {n : Nat} (h : okI i n = true) : vp_in i n := by
  simp only [okI, Bool.and_eq_true, decide_eq_true_eq] at h
  exact vp_in_iff.mpr h
theorem okI_lt {i : Int32} {n : Nat} (h : okI i n = true) : ix i < n := by
  have h1 := okI_in h
  exact Nat.not_le.mp fun q => h1 (Or.inr q)
def okZ (v : Int32) : Bool := decide (v = 0) || decide (v = 1)
theorem okZ_or {v : Int32} (h : okZ v = true) : v = 0 ∨ v = 1 := by simpa [okZ] using h
def gd {α : Type} (c : Bool) (k : Option α) : Option α := if c = true then k else none
theorem gd_some {α β : Type} {c : Bool} {k : Option α} {g : α → Option β} {x : β} (h : (gd c k).bind g = some x) : c = true ∧ k.bind g = some x := by
  unfold gd at h
  by_cases hc : c = true
  · rw [if_pos hc] at h; exact ⟨hc, h⟩
  · rw [if_neg hc] at h; cases h
theorem gd_t {α : Type} {c : Bool} {k : Option α} (h : c = true) : gd c k = k := if_pos h
theorem cl_some {β γ : Type} {f : Option Rst} {k : Int32 → Mm → Option β} {g : β → Option γ} {x : γ} (h : (f.bind (fun q => k q.1 q.2)).bind g = some x) : ∃ r M1, f = some (r, M1) ∧ (k r M1).bind g = some x := by
  cases f with
  | none => cases h
  | some q => exact ⟨q.1, q.2, rfl, h⟩
theorem it_pos {α β : Type} {c : Prop} {_ : Decidable c} {A B : Option α} {g : α → Option β} {x : β} (h : (if c then A else B).bind g = some x) (hc : c) : A.bind g = some x := by rw [if_pos hc] at h; exact h
theorem it_neg {α β : Type} {c : Prop} {_ : Decidable c} {A B : Option α} {g : α → Option β} {x : β} (h : (if c then A else B).bind g = some x) (hc : ¬ c) : B.bind g = some x := by rw [if_neg hc] at h; exact h
/-! a method as steps from block to block -/
def itr (step : Sst → Option (Sst ⊕ Rst)) : Nat → Sst → Option Rst
  | 0, _ => none
  | n + 1, s => (step s).bind (fun q => match q with | .inl s' => itr step n s' | .inr r => some r)
theorem itr_mono (step : Sst → Option (Sst ⊕ Rst)) : ∀ (n : Nat) (s : Sst) (r : Rst), itr step n s = some r → itr step (n + 1) s = some r := by
  intro n
  induction n with
  | zero => intro s r h; cases h
  | succ n ih =>
    intro s r h
    rw [itr] at h ⊢
    cases hs : step s with
    | none => rw [hs] at h; cases h
    | some q =>
      rw [hs] at h
      cases q with
      | inl s' => exact ih s' r h
      | inr r' => exact h
theorem itr_le (step : Sst → Option (Sst ⊕ Rst)) {n m : Nat} {s : Sst} {r : Rst} (h : itr step n s = some r) (hm : n ≤ m) : itr step m s = some r := by
  induction hm with
  | refl => exact h
  | step _ ih => exact itr_mono step _ s r ih
noncomputable def run (step : Sst → Option (Sst ⊕ Rst)) (s : Sst) : Option Rst := by
  classical exact if h : ∃ r n, itr step n s = some r then some h.choose else none
theorem run_of {step : Sst → Option (Sst ⊕ Rst)} {s : Sst} {r : Rst} {n : Nat} (h : itr step n s = some r) : run step s = some r := by
  have hx : ∃ r n, itr step n s = some r := ⟨r, n, h⟩
  unfold run
  rw [dif_pos hx]
  obtain ⟨n2, h2⟩ := hx.choose_spec
  have a := itr_le step h (Nat.le_max_left n n2)
  have b := itr_le step h2 (Nat.le_max_right n n2)
  exact b.symm.trans a
theorem run_ex {step : Sst → Option (Sst ⊕ Rst)} {s : Sst} {r : Rst} (h : run step s = some r) : ∃ n, itr step n s = some r := by
  unfold run at h
  by_cases hx : ∃ r n, itr step n s = some r
  · rw [dif_pos hx] at h
    obtain ⟨n, hn⟩ := hx.choose_spec
    exact ⟨n, by rw [hn]; exact h⟩
  · rw [dif_neg hx] at h; cases h
/-- the one law of a run -/
theorem run_eq (step : Sst → Option (Sst ⊕ Rst)) (s : Sst) : run step s = (step s).bind (fun q => match q with | .inl s' => run step s' | .inr r => some r) := by
  cases hs : step s with
  | none =>
    cases hr : run step s with
    | none => rfl
    | some r =>
      obtain ⟨n, hn⟩ := run_ex hr
      cases n with
      | zero => cases hn
      | succ n => rw [itr, hs] at hn; cases hn
  | some q =>
    cases q with
    | inr r => exact run_of (n := 1) (by rw [itr, hs]; rfl)
    | inl s' =>
      show run step s = run step s'
      cases hr : run step s' with
      | some r =>
        obtain ⟨n, hn⟩ := run_ex hr
        exact run_of (n := n + 1) (by rw [itr, hs]; exact hn)
      | none =>
        cases hr2 : run step s with
        | none => rfl
        | some r =>
          obtain ⟨n, hn⟩ := run_ex hr2
          cases n with
          | zero => cases hn
          | succ n =>
            rw [itr, hs] at hn
            have := run_of (step := step) (s := s') hn
            rw [hr] at this
            cases this
def irem (x y : Int32) : Int32 := x - x / y * y
def imax (x y : Int32) : Int32 := if x < y then y else x
def imin (x y : Int32) : Int32 := if y < x then y else x
def ish (x y : Int32) : Int32 := x <<< (y &&& 31)
def isr (x y : Int32) : Int32 := x >>> (y &&& 31)
