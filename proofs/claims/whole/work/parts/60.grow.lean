/-! constructors: worlds that grow. First: what a cell refers to; one address function for another -/
def Rg (a n : Nat) : List Nat := (List.range n).map (fun j => a + j)
theorem mem_Rg {a n i : Nat} : i ∈ Rg a n ↔ a ≤ i ∧ i < a + n := by
  unfold Rg
  rw [List.mem_map]
  constructor
  · rintro ⟨j, h1, rfl⟩
    rw [List.mem_range] at h1
    omega
  · intro h
    exact ⟨i - a, List.mem_range.mpr (by omega), by omega⟩
theorem Rg_app (a n m : Nat) : Rg a (n + m) = Rg a n ++ Rg (a + n) m := by
  unfold Rg
  rw [List.range_add, List.map_append, List.map_map]
  congr 1
  apply List.map_congr_left
  intro j _
  show a + (n + j) = a + n + j
  omega
def rfc (i : Nat) : List Nat :=
  if 26 ≤ i ∧ i < 338 then (if i % 26 = 0 then [i + 1] else if i % 26 = 1 then (List.range 8).map (fun j => i + 1 + 3 * j) else if (i % 26 - 2) % 3 = 0 then [i + 1, i + 2] else [])
  else if i = 0 then [1, 3, 26, 52, 6, 15, 17, 18, 19]
  else if i = 1 then [2]
  else if i = 3 then [4, 5]
  else if i = 6 then [7, 11]
  else if i = 7 then [8, 9, 10]
  else if i = 11 then [12, 13, 14]
  else if i = 15 then [16]
  else if i = 16 then (List.range 8).map (fun j => 78 + 26 * j)
  else if i = 17 then (List.range 2).map (fun j => 286 + 26 * j)
  else if i = 19 then (List.range 3).map (fun j => 20 + 2 * j)
  else if i = 20 then [21]
  else if i = 22 then [23]
  else if i = 24 then [25]
  else if i = 338 then [339, 340, 341, 342, 343, 344, 345, 346, 347, 348, 349]
  else []
def clo (L : List Nat) : Prop := ∀ i ∈ L, i < 350 ∧ ∀ r ∈ rfc i, r ∈ L
theorem at_rfs {G : va_G} {c : ClassId} {n q : Nat} {f g : Nat → Nat} {H : Heap} (h : ∀ j, j < n → f j = g j) (h1 : va_at G vwCl (q, .inl (c, n, rfs f)) H) : va_at G vwCl (q, .inl (c, n, rfs g)) H := by
  have h1 : H[q]? = some (arrV c n (fun j => va_rf (some (f j)))) := h1
  show H[q]? = some (arrV c n (fun j => va_rf (some (g j))))
  rw [h1]
  have e : (fun j : Fin n => va_rf (some (f j.val))) = (fun j : Fin n => va_rf (some (g j.val))) := funext fun j => by rw [h j.1 j.2]
  unfold arrV
  rw [e]
set_option maxRecDepth 100000 in
theorem cel_tr {G : va_G} {ad ad' : Nat → Nat} {cs : Nat → ClassId} {R : Nat → Int32} {i : Nat} (hi : i < 350) (h0 : ad i = ad' i) (hr : ∀ r ∈ rfc i, ad r = ad' r) {H : Heap} (h : va_at G vwCl (ad i, cel ad cs R i) H) : va_at G vwCl (ad' i, cel ad' cs R i) H := by
  rw [← h0]
  by_cases h26 : 26 ≤ i ∧ i < 338
  · unfold rfc at hr
    rw [if_pos h26] at hr
    rw [cel, if_pos h26, celN] at h ⊢
    by_cases r0 : i % 26 = 0
    · rw [if_pos r0] at h hr ⊢
      rw [← hr (i + 1) List.mem_cons_self]; exact h
    · rw [if_neg r0] at h hr ⊢
      by_cases r1 : i % 26 = 1
      · rw [if_pos r1] at h hr ⊢
        exact at_rfs (fun j hj => hr _ (List.mem_map.mpr ⟨j, List.mem_range.mpr hj, rfl⟩)) h
      · rw [if_neg r1] at h hr ⊢
        by_cases r2 : (i % 26 - 2) % 3 = 0
        · rw [if_pos r2] at h hr ⊢
          rw [← hr (i + 1) List.mem_cons_self, ← hr (i + 2) (List.mem_cons_of_mem _ List.mem_cons_self)]; exact h
        · rw [if_neg r2] at h ⊢
          exact h
  · rcases (by omega : i = 0 ∨ i = 1 ∨ i = 2 ∨ i = 3 ∨ i = 4 ∨ i = 5 ∨ i = 6 ∨ i = 7 ∨ i = 8 ∨ i = 9 ∨ i = 10 ∨ i = 11 ∨ i = 12 ∨ i = 13 ∨ i = 14 ∨ i = 15 ∨ i = 16 ∨ i = 17 ∨ i = 18 ∨ i = 19 ∨ i = 20 ∨ i = 21 ∨ i = 22 ∨ i = 23 ∨ i = 24 ∨ i = 25 ∨ i = 338 ∨ i = 339 ∨ i = 340 ∨ i = 341 ∨ i = 342 ∨ i = 343 ∨ i = 344 ∨ i = 345 ∨ i = 346 ∨ i = 347 ∨ i = 348 ∨ i = 349) with rfl | rfl | rfl | rfl | rfl | rfl | rfl | rfl | rfl | rfl | rfl | rfl | rfl | rfl | rfl | rfl | rfl | rfl | rfl | rfl | rfl | rfl | rfl | rfl | rfl | rfl | rfl | rfl | rfl | rfl | rfl | rfl | rfl | rfl | rfl | rfl | rfl | rfl
    · have h : va_at G vwCl (ad 0, .inr (8, [.ref (ad 1), .ref (ad 3), .ref (ad 26), .ref (ad 52), .ref (ad 6), .ref (ad 15), .ref (ad 17), .ref (ad 18), .ref (ad 19)])) H := h
      show va_at G vwCl (ad 0, .inr (8, [.ref (ad' 1), .ref (ad' 3), .ref (ad' 26), .ref (ad' 52), .ref (ad' 6), .ref (ad' 15), .ref (ad' 17), .ref (ad' 18), .ref (ad' 19)])) H
      rw [← hr 1 (by decide), ← hr 3 (by decide), ← hr 26 (by decide), ← hr 52 (by decide), ← hr 6 (by decide), ← hr 15 (by decide), ← hr 17 (by decide), ← hr 18 (by decide), ← hr 19 (by decide)]; exact h
    · have h : va_at G vwCl (ad 1, .inr (6, [.ref (ad 2), .int (R 1), .int (R 2), .int (R 3), .int (R 4)])) H := h
      show va_at G vwCl (ad 1, .inr (6, [.ref (ad' 2), .int (R 1), .int (R 2), .int (R 3), .int (R 4)])) H
      rw [← hr 2 (by decide)]; exact h
    · exact h
    · have h : va_at G vwCl (ad 3, .inr (0, [.ref (ad 4), .ref (ad 5), .int (R 2), .int (R 3)])) H := h
      show va_at G vwCl (ad 3, .inr (0, [.ref (ad' 4), .ref (ad' 5), .int (R 2), .int (R 3)])) H
      rw [← hr 4 (by decide), ← hr 5 (by decide)]; exact h
    · exact h
    · exact h
    · have h : va_at G vwCl (ad 6, .inr (5, [.ref (ad 7), .ref (ad 11)])) H := h
      show va_at G vwCl (ad 6, .inr (5, [.ref (ad' 7), .ref (ad' 11)])) H
      rw [← hr 7 (by decide), ← hr 11 (by decide)]; exact h
    · have h : va_at G vwCl (ad 7, .inr (4, [.ref (ad 8), .ref (ad 9), .ref (ad 10), .int (R 3)])) H := h
      show va_at G vwCl (ad 7, .inr (4, [.ref (ad' 8), .ref (ad' 9), .ref (ad' 10), .int (R 3)])) H
      rw [← hr 8 (by decide), ← hr 9 (by decide), ← hr 10 (by decide)]; exact h
    · exact h
    · exact h
    · exact h
    · have h : va_at G vwCl (ad 11, .inr (4, [.ref (ad 12), .ref (ad 13), .ref (ad 14), .int (R 3)])) H := h
      show va_at G vwCl (ad 11, .inr (4, [.ref (ad' 12), .ref (ad' 13), .ref (ad' 14), .int (R 3)])) H
      rw [← hr 12 (by decide), ← hr 13 (by decide), ← hr 14 (by decide)]; exact h
    · exact h
    · exact h
    · exact h
    · have h : va_at G vwCl (ad 15, .inr (2, [.ref (ad 16), .int (R 1), .int (R 2)])) H := h
      show va_at G vwCl (ad 15, .inr (2, [.ref (ad' 16), .int (R 1), .int (R 2)])) H
      rw [← hr 16 (by decide)]; exact h
    · exact at_rfs (c := cs 3) (n := 8) (f := fun j => ad (78 + 26 * j)) (g := fun j => ad' (78 + 26 * j)) (fun j hj => hr _ (List.mem_map.mpr ⟨j, List.mem_range.mpr hj, rfl⟩)) h
    · exact at_rfs (c := cs 3) (n := 2) (f := fun j => ad (286 + 26 * j)) (g := fun j => ad' (286 + 26 * j)) (fun j hj => hr _ (List.mem_map.mpr ⟨j, List.mem_range.mpr hj, rfl⟩)) h
    · exact h
    · exact at_rfs (c := cs 4) (n := 3) (f := fun j => ad (20 + 2 * j)) (g := fun j => ad' (20 + 2 * j)) (fun j hj => hr _ (List.mem_map.mpr ⟨j, List.mem_range.mpr hj, rfl⟩)) h
    · have h : va_at G vwCl (ad 20, .inr (3, [.ref (ad 21), .int (R 1), .int (R 2), .int (R 3)])) H := h
      show va_at G vwCl (ad 20, .inr (3, [.ref (ad' 21), .int (R 1), .int (R 2), .int (R 3)])) H
      rw [← hr 21 (by decide)]; exact h
    · exact h
    · have h : va_at G vwCl (ad 22, .inr (3, [.ref (ad 23), .int (R 1), .int (R 2), .int (R 3)])) H := h
      show va_at G vwCl (ad 22, .inr (3, [.ref (ad' 23), .int (R 1), .int (R 2), .int (R 3)])) H
      rw [← hr 23 (by decide)]; exact h
    · exact h
    · have h : va_at G vwCl (ad 24, .inr (3, [.ref (ad 25), .int (R 1), .int (R 2), .int (R 3)])) H := h
      show va_at G vwCl (ad 24, .inr (3, [.ref (ad' 25), .int (R 1), .int (R 2), .int (R 3)])) H
      rw [← hr 25 (by decide)]; exact h
    · exact h
    · have h : va_at G vwCl (ad 338, .inr (9, [.ref (ad 339), .int (R 1), .int (R 2), .int (R 3), .int (R 4), .int (R 5), .ref (ad 340), .ref (ad 341), .int (R 8), .ref (ad 342), .ref (ad 343), .int (R 11), .int (R 12), .int (R 13), .int (R 14), .int (R 15), .ref (ad 344), .ref (ad 345), .ref (ad 346), .ref (ad 347), .ref (ad 348), .ref (ad 349)])) H := h
      show va_at G vwCl (ad 338, .inr (9, [.ref (ad' 339), .int (R 1), .int (R 2), .int (R 3), .int (R 4), .int (R 5), .ref (ad' 340), .ref (ad' 341), .int (R 8), .ref (ad' 342), .ref (ad' 343), .int (R 11), .int (R 12), .int (R 13), .int (R 14), .int (R 15), .ref (ad' 344), .ref (ad' 345), .ref (ad' 346), .ref (ad' 347), .ref (ad' 348), .ref (ad' 349)])) H
      rw [← hr 339 (by decide), ← hr 340 (by decide), ← hr 341 (by decide), ← hr 342 (by decide), ← hr 343 (by decide), ← hr 344 (by decide), ← hr 345 (by decide), ← hr 346 (by decide), ← hr 347 (by decide), ← hr 348 (by decide), ← hr 349 (by decide)]; exact h
    · exact h
    · exact h
    · exact h
    · exact h
    · exact h
    · exact h
    · exact h
    · exact h
    · exact h
    · exact h
    · exact h
/-! lists of cells -/
theorem va_D_fst {A : Nat → Prop} {ws ws' : va_W} (h : ws.map (fun q => q.1) = ws'.map (fun q => q.1)) (hD : va_D A ws) : va_D A ws' := by
  have key : ∀ (k : Nat) (q' : Nat × va_E), ws'[k]? = some q' → ∃ q, ws[k]? = some q ∧ q.1 = q'.1 := by
    intro k q' hk
    have h1 : (ws'.map (fun q => q.1))[k]? = some q'.1 := by rw [List.getElem?_map, hk]; rfl
    rw [← h, List.getElem?_map] at h1
    cases h2 : ws[k]? with
    | none => rw [h2] at h1; cases h1
    | some q => rw [h2] at h1; exact ⟨q, rfl, Option.some.inj h1⟩
  refine ⟨fun i j p' q' hi hj hpq => ?_, fun k q' hk => ?_⟩
  · obtain ⟨p, h1, h2⟩ := key i p' hi
    obtain ⟨q, h3, h4⟩ := key j q' hj
    exact hD.1 i j p q h1 h3 (by rw [h2, h4, hpq])
  · obtain ⟨q, h1, h2⟩ := key k q' hk
    rw [← h2]; exact hD.2 k q h1
theorem va_P_app {G : va_G} {w1 w2 : va_W} {H : Heap} : va_P G vwCl (w1 ++ w2) H ↔ va_P G vwCl w1 H ∧ va_P G vwCl w2 H := by
  constructor
  · intro h
    refine ⟨fun k q hk => ?_, fun k q hk => ?_⟩
    · exact h k q (by rw [List.getElem?_append_left (List.getElem?_eq_some_iff.mp hk).1]; exact hk)
    · exact h (w1.length + k) q (by rw [List.getElem?_append_right (by omega), show w1.length + k - w1.length = k by omega]; exact hk)
  · rintro ⟨h1, h2⟩
    exact va_P.app h1 h2
theorem wsO_P {G : va_G} {L : List Nat} {ad : Nat → Nat} {cs : Nat → ClassId} {M : Mm} {H : Heap} : va_P G vwCl (wsO L ad cs M) H ↔ ∀ i ∈ L, va_at G vwCl (ad i, cel ad cs (M i) i) H := by
  constructor
  · intro h i hi
    obtain ⟨k, hk⟩ := List.getElem?_of_mem hi
    exact h k _ (wsO_get ad cs M hk)
  · intro h k q hk
    obtain ⟨i, h1, rfl⟩ := wsO_inv hk
    exact h i (List.mem_of_getElem? h1)
theorem wsO_fst {L : List Nat} {ad : Nat → Nat} {cs : Nat → ClassId} {M : Mm} : (wsO L ad cs M).map (fun q => q.1) = L.map ad := by
  unfold wsO
  rw [List.map_map]; rfl
/-- one address function and memory for another -/
theorem wsO_tr {G : va_G} {L : List Nat} {ad ad' : Nat → Nat} {cs : Nat → ClassId} {M M' : Mm} {H : Heap} (hc : clo L) (ha : ∀ i ∈ L, ad i = ad' i) (hM : ∀ i ∈ L, M i = M' i) (h : va_P G vwCl (wsO L ad cs M) H) : va_P G vwCl (wsO L ad' cs M') H := by
  rw [wsO_P] at h ⊢
  intro i hi
  rw [← hM i hi]
  exact cel_tr (hc i hi).1 (ha i hi) (fun r hr => ha r ((hc i hi).2 r hr)) (h i hi)
theorem wsO_app {L1 L2 : List Nat} {ad : Nat → Nat} {cs : Nat → ClassId} {M : Mm} : wsO (L1 ++ L2) ad cs M = wsO L1 ad cs M ++ wsO L2 ad cs M := by
  unfold wsO; rw [List.map_append]
theorem mrg_P {G : va_G} {A : Nat → Prop} {X : va_W} {L Lc : List Nat} {ad adc : Nat → Nat} {cs : Nat → ClassId} {M Mc : Mm} (hc : clo L) (hcc : clo Lc) (hd : ∀ i ∈ L, i ∉ Lc) : ∃ ad' M', (∀ i ∈ L, ad' i = ad i ∧ M' i = M i) ∧ (∀ i ∈ Lc, ad' i = adc i ∧ M' i = Mc i) ∧ ∀ H : Heap, va_P G vwCl ((X ++ wsO L ad cs M) ++ wsO Lc adc cs Mc) H → va_D A ((X ++ wsO L ad cs M) ++ wsO Lc adc cs Mc) → va_P G vwCl (X ++ wsO (L ++ Lc) ad' cs M') H ∧ va_D A (X ++ wsO (L ++ Lc) ad' cs M') := by
  refine ⟨fun i => if i ∈ Lc then adc i else ad i, fun i => if i ∈ Lc then Mc i else M i, fun i hi => ⟨if_neg (hd i hi), if_neg (hd i hi)⟩, fun i hi => ⟨if_pos hi, if_pos hi⟩, fun H hP hD => ?_⟩
  rw [va_P_app, va_P_app] at hP
  constructor
  · rw [wsO_app, ← List.append_assoc, va_P_app, va_P_app]
    exact ⟨⟨hP.1.1, wsO_tr hc (fun i hi => (if_neg (hd i hi)).symm) (fun i hi => (if_neg (hd i hi)).symm) hP.1.2⟩, wsO_tr hcc (fun i hi => (if_pos hi).symm) (fun i hi => (if_pos hi).symm) hP.2⟩
  · refine va_D_fst ?_ hD
    rw [List.map_append, List.map_append, List.map_append, wsO_fst, wsO_fst, wsO_fst, List.map_append, List.append_assoc]
    congr 2
    · apply List.map_congr_left
      intro i hi
      exact (if_neg (hd i hi)).symm
    · apply List.map_congr_left
      intro i hi
      exact (if_pos hi).symm
theorem rng_map {α : Type} (ws x : List α) : (List.range ws.length).map (fun i => (ws ++ x)[i]?) = ws.map some := by
  apply List.ext_getElem?
  intro j
  rw [List.getElem?_map, List.getElem?_map]
  by_cases h : j < ws.length
  · rw [List.getElem?_range h, List.getElem?_eq_getElem h]
    show some ((ws ++ x)[j]?) = some (some ws[j])
    rw [List.getElem?_append_left h, List.getElem?_eq_getElem h]
  · rw [List.getElem?_eq_none (by rw [List.length_range]; omega), List.getElem?_eq_none (by omega)]
    rfl
theorem nd_of : ∀ l : List Nat, l.Nodup → va_nd l = true := by
  intro l
  induction l with
  | nil => intro _; rfl
  | cons a l ih =>
    intro h
    have h2 := List.nodup_cons.mp h
    rw [va_nd, ih h2.2, decide_eq_true h2.1]; rfl
theorem join1 {A0 : Nat → Prop} {G : va_G} {ws w1 : va_W} {x : Nat × va_E} {H H1 : Heap} (hP : va_P G vwCl (ws ++ [x]) H) (hD : va_D A0 (ws ++ [x])) (hk : ∀ q : Nat, q < H.size → ¬ va_A [x] H.size q → H1[q]? = H[q]?) (hF : ∀ q, va_A [x] H.size q → A0 q) (hP1 : va_P G vwCl w1 H1) (hD1 : va_D (va_A [x] H.size) w1) : va_P G vwCl (ws ++ w1) H1 ∧ va_D A0 (ws ++ w1) := by
  refine va_join (wc := [x]) (wr := ws) hP hD [ws.length] (List.range ws.length) ?_ (rng_map ws [x]) (nd_of _ List.nodup_range) ?_ hk hF hP1 hD1
  · simp
  · intro i hi h
    rw [List.mem_range] at hi
    rw [List.mem_singleton] at h
    omega
theorem free1 {A0 : Nat → Prop} {ws : va_W} {x : Nat × va_E} {H0 H : Heap} {locs : List Loc} (hD : va_D A0 (ws ++ [x])) (hS : va_S A0 H0 H locs) (hA : ∀ q, H0.size ≤ q → A0 q) : ∀ q, va_A [x] H.size q → A0 q := va_free hD hS hA [ws.length] (by simp)
theorem sub1 {A0 : Nat → Prop} {G : va_G} {ws : va_W} {x : Nat × va_E} {H : Heap} (hP : va_P G vwCl (ws ++ [x]) H) (hD : va_D A0 (ws ++ [x])) : va_P G vwCl [x] H ∧ va_D A0 [x] := ⟨(va_P_app.mp hP).2, hD.sub [ws.length] (by simp [va_nd]) (by simp)⟩
