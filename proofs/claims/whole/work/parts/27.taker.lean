/-! what is taken, in the reference -/
theorem gD_mem' {l : Vw} {e : Int32 × Int32} (h : e ∈ l) : ∃ p, p < l.length ∧ l.getD p d0 = e := by
  obtain ⟨p, hp, he⟩ := List.getElem_of_mem h
  exact ⟨p, hp, by rw [List.getD_eq_getElem?_getD, List.getElem?_eq_getElem hp]; simpa using he⟩
theorem inV_f {x : Int32} {l : Vw} (h : inV x l = false) {p : Nat} (hp : p < l.length) : (l.getD p d0).1 ≠ x := by
  intro e
  have : inV x l = true := inV_iff.mpr ⟨_, gD_mem hp, e⟩
  rw [h] at this
  cases this
theorem dst_app {l : Vw} {e : Int32 × Int32} (hd : dst l) (h : inV e.1 l = false) : dst (l ++ [e]) := by
  intro p r hp hr heq
  rw [List.length_append] at hp hr
  simp only [List.length_cons, List.length_nil] at hp hr
  rw [gD_app, gD_app] at heq
  by_cases h1 : p < l.length
  · rw [if_pos h1] at heq
    by_cases h2 : r < l.length
    · rw [if_pos h2] at heq
      exact hd p r h1 h2 heq
    · rw [if_neg h2, if_pos (by omega)] at heq
      exact absurd heq (inV_f h h1)
  · rw [if_neg h1, if_pos (by omega)] at heq
    by_cases h2 : r < l.length
    · rw [if_pos h2] at heq
      exact absurd heq.symm (inV_f h h2)
    · omega
theorem dst_set {l : Vw} {e : Int32 × Int32} {k : Nat} (hd : dst l) (h : inV e.1 l = false) (hk : k < l.length) : dst (l.set k e) := by
  intro p r hp hr heq
  rw [List.length_set] at hp hr
  rw [gD_set hk, gD_set hk] at heq
  by_cases h1 : p = k
  · rw [if_pos h1] at heq
    by_cases h2 : r = k
    · omega
    · rw [if_neg h2] at heq
      exact absurd heq.symm (inV_f h hr)
  · rw [if_neg h1] at heq
    by_cases h2 : r = k
    · rw [if_pos h2] at heq
      exact absurd heq (inV_f h hp)
    · rw [if_neg h2] at heq
      exact hd p r hp hr heq
theorem pos_of {l : Vw} {x : Int32} {p : Nat} (hd : dst l) (hp : p < l.length) (hx : (l.getD p d0).1 = x) : pos x l = nI p := by
  rcases pos_cases x l with ⟨-, h2⟩ | ⟨j, h1, h2, h3, -⟩
  · exact absurd hx (h2 _ (gD_mem hp))
  · rw [h2, hd j p h1 hp (h3.trans hx.symm)]
/-- what one sent itself, and may give up yet -/
def ownR (D : Mm) (s : Nat) (t : Int32) (l : Vw) (q : Sq) : Prop :=
  (∀ k, k < q.length → (q.getD k e0).2 = none → D 349 (6 * s + k) ≠ 0 ∨ (q.getD k e0).1.1 = t) ∧
  (∀ k, k < q.length → ∀ p, (q.getD k e0).2 = some p → D 349 (6 * s + k) = 0 ∧ p < l.length ∧ (l.getD p d0).1 = (q.getD k e0).1.1 ∧ (q.getD k e0).1.1 ≠ t) ∧
  ∀ k j p, k < q.length → j < q.length → (q.getD k e0).2 = some p → (q.getD j e0).2 = some p → k = j
theorem giveUp_run {D : Mm} {b i s : Nat} {l : Vw} {q : Sq} (hb : b ≤ 990) (hi : i < 8) (hs : s < 2) (hR : hasR D b i l) (hT : hasT D s (fs q)) (hd : dst l) (ho : ownR D s (nI i) l q) :
    ∀ d k, k + d = q.length → run stX9_giveUp (1, [], [nI b, nI s, nI i, nI (6 * s + k)], D) = match gvi (q.drop k) k with
      | none => some (-1, D)
      | some (j, p) => some (nI p, up2 D 349 (6 * s + j) 1) := by
  have h6 : q.length ≤ 6 := by have := hT.1; rw [fs_len] at this; exact this
  have hl5 := hR.1
  intro d
  induction d with
  | zero =>
    intro k e
    rw [eX9_giveUp_1]
    simp (disch := omega) only [n6, pk_mul, gd_ok, ix_nI, hT.2.1, nI_add, fs_len]
    rw [if_pos (nI_le (by omega) (by omega)), List.drop_eq_nil_of_le (by omega)]
    rfl
  | succ d ih =>
    intro k e
    have hn : D 346 (6 * s + k) = (q.getD k e0).1.1 := by rw [(hT.2.2 k (by rw [fs_len]; omega)).1, fs_get (by omega)]
    rw [eX9_giveUp_1]
    simp (disch := omega) only [n6, pk_mul, gd_ok, ix_nI, hT.2.1, nI_add, fs_len, nI_1, hn]
    rw [if_neg (nI_ge (by omega) (by omega)), placeOf_r _ hb hi hR, cl_s, hn, dropE_cons (by omega : k < q.length)]
    have nx := ih (k + 1) (by omega)
    rw [← Nat.add_assoc] at nx
    have o1 := ho.1 k (by omega)
    have o2 := ho.2.1 k (by omega)
    rw [nx]
    generalize hq : q.getD k e0 = w at o1 o2
    obtain ⟨w1, w2⟩ := w
    by_cases ht : w1.1 = nI i
    · rw [if_pos ht]
      cases w2 with
      | none => rfl
      | some p => exact absurd ht (o2 p rfl).2.2.2
    · rw [if_neg ht]
      cases w2 with
      | none =>
        rcases o1 rfl with h1 | h1
        · rw [if_neg h1]; rfl
        · exact absurd h1 ht
      | some p =>
        obtain ⟨z1, z2, z3, z4⟩ := o2 p rfl
        rw [if_pos z1, pos_of hd z2 z3, if_neg (nI_nm1 (by omega))]
        rfl
theorem hasR_fr {D D' : Mm} {b i : Nat} {l : Vw} (h : hasR D b i l) (g : D' 339 = D 339) : hasR D' b i l := ⟨h.1, by rw [g]; exact h.2.1, fun k hk => by rw [g]; exact h.2.2 k hk⟩
theorem hasT_fr {D D' : Mm} {s : Nat} {q : Vw} (h : hasT D s q) (g1 : D' 346 = D 346) (g2 : D' 347 = D 347) (g3 : D' 348 = D 348) : hasT D' s q := ⟨h.1, by rw [g3]; exact h.2.1, fun k hk => by rw [g1, g2]; exact h.2.2 k hk⟩
theorem giveUp_r {D : Mm} {b i s : Nat} {l : Vw} {q : Sq} (hb : b ≤ 990) (hi : i < 8) (hs : s < 2) (hR : hasR D b i l) (hT : hasT D s (fs q)) (hd : dst l) (ho : ownR D s (nI i) l q) :
    (fX9_giveUp (nI b) (nI s) (nI i) D = some (-1, D) ∧ pls q = []) ∨ ∃ p D', fX9_giveUp (nI b) (nI s) (nI i) D = some (nI p, D') ∧ p < l.length ∧ pls q = p :: pls (gvq q) ∧ fs (gvq q) = fs q ∧ (∀ c, c ≠ 349 → D' c = D c) ∧ (∀ j, j < 6 * s ∨ 6 * s + 6 ≤ j → D' 349 j = D 349 j) ∧ ∀ e : Int32 × Int32, ownR D' s (nI i) (l.set p e) (gvq q) := by
  have h6 : q.length ≤ 6 := by have := hT.1; rw [fs_len] at this; exact this
  have hrun := giveUp_run hb hi hs hR hT hd ho q.length 0 (by omega)
  rw [List.drop_zero, Nat.add_zero] at hrun
  unfold fX9_giveUp
  rw [eX9_giveUp_0, n6, pk_mul, hrun]
  cases hg : gvi q 0 with
  | none => exact Or.inl ⟨rfl, gvi_none q 0 hg⟩
  | some z =>
    obtain ⟨j, p⟩ := z
    obtain ⟨-, h2, h3, h4⟩ := gvi_some q 0 j p hg
    rw [Nat.sub_zero] at h2 h3 h4
    have hgq : gvq q = q.set j ((q.getD j e0).1, none) := by unfold gvq; rw [hg]
    obtain ⟨y1, y2, y3, y4⟩ := ho.2.1 j h2 p h3
    refine Or.inr ⟨p, up2 D 349 (6 * s + j) 1, rfl, y2, by rw [hgq]; exact h4, ?_, fun c hc => up2_c hc, fun k hk => by rw [rd_j (by omega)], fun e => ?_⟩
    · rw [hgq]
      unfold fs
      apply List.ext_getElem?
      intro k
      rw [List.getElem?_map, List.getElem?_map, List.getElem?_set]
      by_cases e : j = k
      · subst e
        rw [if_pos rfl, if_pos h2, List.getElem?_eq_getElem h2]
        simp [List.getD_eq_getElem?_getD, List.getElem?_eq_getElem h2]
      · rw [if_neg e]
    · rw [hgq]
      refine ⟨fun k hk hn => ?_, fun k hk r hr => ?_, fun k m r hk hm h8 h9 => ?_⟩
      · rw [List.length_set] at hk
        rw [gDe_set h2] at hn ⊢
        by_cases e1 : k = j
        · subst e1
          left
          rw [up2_s]; decide
        · rw [if_neg e1] at hn ⊢
          rw [rd_j (by omega)]
          exact ho.1 k hk hn
      · rw [List.length_set] at hk
        rw [gDe_set h2] at hr ⊢
        by_cases e1 : k = j
        · rw [if_pos e1] at hr; cases hr
        · rw [if_neg e1] at hr ⊢
          obtain ⟨x1, x2, x3, x4⟩ := ho.2.1 k hk r hr
          have hrp : r ≠ p := fun e2 => e1 (ho.2.2 k j p hk h2 (e2 ▸ hr) h3)
          rw [rd_j (by omega), List.length_set, gD_set y2, if_neg hrp]
          exact ⟨x1, x2, x3, x4⟩
      · rw [List.length_set] at hk hm
        rw [gDe_set h2] at h8 h9
        by_cases e1 : k = j
        · rw [if_pos e1] at h8; cases h8
        · by_cases e2 : m = j
          · rw [if_pos e2] at h9; cases h9
          · rw [if_neg e1] at h8
            rw [if_neg e2] at h9
            exact ho.2.2 k m r hk hm h8 h9
theorem ownR_app {D D' : Mm} {s : Nat} {t : Int32} {l : Vw} {q : Sq} (e : Int32 × Int32) (h : ownR D s t l q) (hD : D' 349 = D 349) : ownR D' s t (l ++ [e]) q := by
  refine ⟨fun k hk hn => by rw [hD]; exact h.1 k hk hn, fun k hk p hp => ?_, h.2.2⟩
  obtain ⟨x1, x2, x3, x4⟩ := h.2.1 k hk p hp
  rw [hD]
  refine ⟨x1, by simp; omega, ?_, x4⟩
  rw [gD_app, if_pos x2]; exact x3
theorem ownR_fr {D D' : Mm} {s : Nat} {t : Int32} {l : Vw} {q : Sq} (h : ownR D s t l q) (hD : ∀ k, k < q.length → D' 349 (6 * s + k) = D 349 (6 * s + k)) : ownR D' s t l q :=
  ⟨fun k hk hn => by rw [hD k hk]; exact h.1 k hk hn, fun k hk p hp => by rw [hD k hk]; exact h.2.1 k hk p hp, h.2.2⟩
theorem takes_run {b i s o c : Nat} {q : Vw} (hb : b ≤ 990) (hi : i < 8) (hso : (s = 0 ∧ o = 1) ∨ (s = 1 ∧ o = 0)) (hc : c ≤ 5) :
    ∀ d k, k + d = q.length → ∀ (D : Mm) (l : Vw) (qo : Sq), D 338 2 = nI c → hasR D b i l → dst l → hasT D o q → hasT D s (fs qo) → ownR D s (nI i) l qo →
    ∃ D', run stX9_takes (1, [], [nI b, nI s, nI i, nI (6 * o), nI (6 * o + k)], D) = some (0, D') ∧ hasR D' b i (tkF (nI i) c (q.drop k) l (pls qo)) ∧ dst (tkF (nI i) c (q.drop k) l (pls qo)) ∧ (∀ z, z ≠ 339 → z ≠ 349 → D' z = D z) ∧ (∀ j, ¬ ofV b i j → D' 339 j = D 339 j) ∧ (∀ j, j < 6 * s ∨ 6 * s + 6 ≤ j → D' 349 j = D 349 j) := by
  have ho1 : (1 : Int32) - nI s = nI o := by rcases hso with ⟨rfl, rfl⟩ | ⟨rfl, rfl⟩ <;> decide
  intro d
  induction d with
  | zero =>
    intro k e D l qo h2 hR hd hT hO hW
    have h6 := hT.1
    rw [eX9_takes_1]
    simp (disch := omega) only [ho1, gd_ok, ix_nI, hT.2.1, nI_add]
    rw [if_pos (nI_le (by omega) (by omega)), List.drop_eq_nil_of_le (by omega)]
    exact ⟨D, rfl, hR, hd, fun _ _ _ => rfl, fun _ _ => rfl, fun _ _ => rfl⟩
  | succ d ih =>
    intro k e D l qo h2 hR hd hT hO hW
    have h6 := hT.1
    have hl5 := hR.1
    have hk := hT.2.2 k (by omega)
    have hsb : s < 2 := by omega
    rw [eX9_takes_1]
    simp (disch := omega) only [ho1, n2, gd_ok, ix_nI, hT.2.1, nI_add, hk.1, nI_1]
    rw [if_neg (nI_ge (by omega) (by omega)), drop_cons (by omega : k < q.length), tkF_c]
    have nx := ih (k + 1) (by omega)
    rw [← Nat.add_assoc] at nx
    by_cases ht : (q.getD k d0).1 = nI i
    · rw [if_pos ht, if_pos (Or.inl ht)]
      exact nx D l qo h2 hR hd hT hO hW
    · rw [if_neg ht, placeOf_r _ hb hi hR, cl_s]
      cases hin : inV (q.getD k d0).1 l with
      | true =>
        rw [if_neg (fun z => by rw [(pos_in hl5).mp z] at hin; cases hin), if_pos (Or.inr rfl)]
        exact nx D l qo h2 hR hd hT hO hW
      | false =>
        have hno : ¬ ((q.getD k d0).1 = nI i ∨ (false = true)) := fun z => z.elim ht (fun z2 => by cases z2)
        rw [if_pos ((pos_in hl5).mpr hin), if_neg hno, h2, hR.2.1]
        by_cases hl : l.length < c
        · rw [if_neg (nI_ge hl (by omega)), if_pos hl, hk.2]
          obtain ⟨D1, g1, g2, g3⟩ := put_r (x := (q.getD k d0).1) (g := (q.getD k d0).2) hb hi hR (by omega)
          rw [g1, cl_s]
          obtain ⟨D', k1, k2, k3, k4, k5, k6⟩ := nx D1 (l ++ [q.getD k d0]) qo (by rw [g3.1 338 (by decide)]; exact h2) g2 (dst_app hd hin) (hasT_fr hT (g3.1 346 (by decide)) (g3.1 347 (by decide)) (g3.1 348 (by decide))) (hasT_fr hO (g3.1 346 (by decide)) (g3.1 347 (by decide)) (g3.1 348 (by decide))) (ownR_app _ hW (g3.1 349 (by decide)))
          exact ⟨D', k1, k2, k3, fun z x1 x2 => by rw [k4 z x1 x2, g3.1 z x1], fun j hj => by rw [k5 j hj, g3.2 j hj], fun j hj => by rw [k6 j hj, g3.1 349 (by decide)]⟩
        · rw [if_pos (nI_le (by omega) (by omega)), if_neg hl]
          rcases giveUp_r hb hi hsb hR hO hd hW with ⟨z1, z2⟩ | ⟨p, D1, z1, z2, z3, z4, z5, z6, z7⟩
          · rw [z1, cl_s, if_pos rfl, z2]
            have := nx D l qo h2 hR hd hT hO hW
            rw [z2] at this
            exact this
          · rw [z1, cl_s, if_neg (nI_nm1 (by omega)), z5 347 (by decide), hk.2, z3]
            obtain ⟨D2, g1, g2, g3⟩ := replace_r (x := (q.getD k d0).1) (g := (q.getD k d0).2) hb hi (hasR_fr hR (z5 339 (by decide))) z2
            rw [g1, cl_s]
            obtain ⟨D', k1, k2, k3, k4, k5, k6⟩ := nx D2 (l.set p (q.getD k d0)) (gvq qo) (by rw [g3.1 338 (by decide), z5 338 (by decide)]; exact h2) g2 (dst_set hd hin z2)
              (hasT_fr hT ((g3.1 346 (by decide)).trans (z5 346 (by decide))) ((g3.1 347 (by decide)).trans (z5 347 (by decide))) ((g3.1 348 (by decide)).trans (z5 348 (by decide))))
              (by rw [z4]; exact hasT_fr hO ((g3.1 346 (by decide)).trans (z5 346 (by decide))) ((g3.1 347 (by decide)).trans (z5 347 (by decide))) ((g3.1 348 (by decide)).trans (z5 348 (by decide))))
              (ownR_fr (z7 _) (fun m _ => by rw [g3.1 349 (by decide)]))
            exact ⟨D', k1, k2, k3, fun z x1 x2 => by rw [k4 z x1 x2, g3.1 z x1, z5 z x2], fun j hj => by rw [k5 j hj, g3.2 j hj, z5 339 (by decide)], fun j hj => by rw [k6 j hj, g3.1 349 (by decide), z6 j hj]⟩
theorem takes_r {b i s o c : Nat} {q : Vw} (hb : b ≤ 990) (hi : i < 8) (hso : (s = 0 ∧ o = 1) ∨ (s = 1 ∧ o = 0)) (hc : c ≤ 5) {D : Mm} {l : Vw} {qo : Sq} (h2 : D 338 2 = nI c) (hR : hasR D b i l) (hd : dst l) (hT : hasT D o q) (hO : hasT D s (fs qo)) (hW : ownR D s (nI i) l qo) :
    ∃ D', fX9_takes (nI b) (nI s) (nI i) D = some (0, D') ∧ hasR D' b i (tkF (nI i) c q l (pls qo)) ∧ dst (tkF (nI i) c q l (pls qo)) ∧ (∀ z, z ≠ 339 → z ≠ 349 → D' z = D z) ∧ (∀ j, ¬ ofV b i j → D' 339 j = D 339 j) ∧ (∀ j, j < 6 * s ∨ 6 * s + 6 ≤ j → D' 349 j = D 349 j) := by
  have ho1 : (1 : Int32) - nI s = nI o := by rcases hso with ⟨rfl, rfl⟩ | ⟨rfl, rfl⟩ <;> decide
  have := takes_run hb hi hso hc q.length 0 (by omega) D l qo h2 hR hd hT hO hW
  rw [List.drop_zero, Nat.add_zero] at this
  unfold fX9_takes
  rw [eX9_takes_0, ho1, n6, pk_mul]
  exact this
