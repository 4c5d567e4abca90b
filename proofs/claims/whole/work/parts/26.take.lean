/-! what is taken -/
def gvi : Sq → Nat → Option (Nat × Nat)
  | [], _ => none
  | (_, some p) :: _, k => some (k, p)
  | (_, none) :: q, k => gvi q (k + 1)
def pls (q : Sq) : List Nat := q.filterMap (fun e => e.2)
theorem gvi_some : ∀ (q : Sq) (k j p : Nat), gvi q k = some (j, p) → k ≤ j ∧ j - k < q.length ∧ (q.getD (j - k) e0).2 = some p ∧ pls q = p :: pls (q.set (j - k) ((q.getD (j - k) e0).1, none)) := by
  intro q
  induction q with
  | nil => intro k j p h; cases h
  | cons e q ih =>
    intro k j p h
    obtain ⟨e1, o⟩ := e
    cases o with
    | some r =>
      rw [gvi] at h
      cases h
      simp [pls]
    | none =>
      rw [gvi] at h
      obtain ⟨h1, h2, h3, h4⟩ := ih (k + 1) j p h
      have e2 : j - k = (j - (k + 1)) + 1 := by omega
      refine ⟨by omega, by simp; omega, ?_, ?_⟩
      · rw [e2]; simpa using h3
      · rw [e2]
        simp only [pls, List.filterMap_cons_none, List.set_cons_succ, List.getD_cons_succ] at h4 ⊢
        exact h4
theorem gvi_none : ∀ (q : Sq) (k : Nat), gvi q k = none → pls q = [] := by
  intro q
  induction q with
  | nil => intro k h; rfl
  | cons e q ih =>
    intro k h
    obtain ⟨e1, o⟩ := e
    cases o with
    | some r => cases h
    | none =>
      rw [gvi] at h
      simp only [pls, List.filterMap_cons_none]
      exact ih (k + 1) h
theorem dropE_cons {q : Sq} {k : Nat} (h : k < q.length) : q.drop k = q.getD k e0 :: q.drop (k + 1) := by
  rw [List.drop_eq_getElem_cons h]
  simp [List.getD_eq_getElem?_getD, List.getElem?_eq_getElem h]
theorem gDe_set {q : Sq} {p k : Nat} {e : (Int32 × Int32) × Option Nat} (h : p < q.length) : (q.set p e).getD k e0 = if k = p then e else q.getD k e0 := by
  simp only [List.getD_eq_getElem?_getD, List.getElem?_set]
  by_cases h2 : p = k
  · subst h2; simp [h]
  · have h3 : ¬ k = p := fun e => h2 e.symm
    simp [h2, h3]
theorem oI_m1 {o : Option Nat} (h : ∀ p, o = some p → p < 2 ^ 31) : oI o = -1 ↔ o = none := by
  cases o with
  | none => simp [oI]
  | some p => constructor
              · intro e; exact absurd e (nI_nm1 (h p rfl))
              · intro e; cases e
/-- the first place that is given up yet, and it is given up -/
def gvq (q : Sq) : Sq := match gvi q 0 with
  | none => q
  | some (j, _) => q.set j ((q.getD j e0).1, none)
def gvo (q : Sq) : Option Nat := (gvi q 0).map (fun z => z.2)
theorem give_run {C : Mm} {s : Nat} {q : Sq} (h : hasS C s q) (hp : ∀ k, k < q.length → ∀ p, (q.getD k e0).2 = some p → p < 2 ^ 31) : ∀ d k, k + d = q.length → run stX4_giveUpPlace (1, [s], [nI k], C) = match gvi (q.drop k) k with
    | none => some (-1, C)
    | some (j, p) => some (nI p, up2 C (s + 3) j (-1)) := by
  obtain ⟨h5, h1, hk⟩ := h
  intro d
  induction d with
  | zero =>
    intro k e
    rw [eX4_giveUpPlace_1, h1, if_pos (nI_le (by omega) (by omega)), List.drop_eq_nil_of_le (by omega)]
    rfl
  | succ d ih =>
    intro k e
    rw [eX4_giveUpPlace_1, h1, if_neg (nI_ge (by omega) (by omega)), dropE_cons (by omega : k < q.length)]
    simp (disch := omega) only [gd_ok, ix_nI, nI_1]
    rw [(hk k (by omega)).2.2]
    cases ho : q.getD k e0 with
    | mk e1 o =>
      cases o with
      | none =>
        rw [if_pos (show oI (e1, (none : Option Nat)).2 = -1 from rfl), gvi]
        exact ih (k + 1) (by omega)
      | some p =>
        have := hp k (by omega) p (by rw [ho])
        rw [if_neg (show ¬ oI (some p) = -1 from nI_nm1 this), gvi]
        rfl
theorem give_c {C : Mm} {s : Nat} {q : Sq} (h : hasS C s q) (hp : ∀ k, k < q.length → ∀ p, (q.getD k e0).2 = some p → p < 2 ^ 31) : ∃ C', fX4_giveUpPlace s C = some (oI (gvo q), C') ∧ hasS C' s (gvq q) ∧ ∀ c, c ≠ s + 3 → C' c = C c := by
  unfold fX4_giveUpPlace gvo gvq
  rw [eX4_giveUpPlace_0, n0, give_run h hp q.length 0 (by omega), List.drop_zero]
  cases hg : gvi q 0 with
  | none => exact ⟨C, rfl, h, fun _ _ => rfl⟩
  | some z =>
    obtain ⟨j, p⟩ := z
    obtain ⟨-, h2, h3, -⟩ := gvi_some q 0 j p hg
    rw [Nat.sub_zero] at h2 h3
    obtain ⟨h5, h1, hk⟩ := h
    refine ⟨_, rfl, ⟨by simpa using h5, by rw [rd_c (by omega)]; simpa using h1, fun k hk2 => ?_⟩, fun c hc => up2_c hc⟩
    have hk3 : k < q.length := by simpa using hk2
    rw [gDe_set h2]
    by_cases e : k = j
    · subst e
      simp (disch := omega) only [rd_c, up2_s, if_true]
      exact ⟨(hk k hk3).1, (hk k hk3).2.1, rfl⟩
    · simp (disch := omega) only [rd_c, rd_j, if_neg e]
      exact hk k hk3
/-- a replacement at any place -/
theorem replace_any {C : Mm} {a p : Nat} {l : Vw} {x g : Int32} (h : hasV C a l) (hp : p < 2 ^ 31) : ∃ C', fX7_replace a (nI p) x g C = some (0, C') ∧ hasV C' a (l.set p (x, g)) ∧ frV C C' a := by
  by_cases hl : p < l.length
  · exact replace_c h hl
  · refine ⟨C, ?_, ?_, frV.rf⟩
    · unfold fX7_replace
      rw [if_neg (nI_pos hp), h.2.1, if_pos (nI_le (by omega) hp)]
    · rw [List.set_eq_of_length_le (by omega)]; exact h
/-- one by one -/
def tkF (t : Int32) (c : Nat) : Vw → Vw → List Nat → Vw
  | [], l, _ => l
  | e :: h, l, ps => if e.1 = t ∨ inV e.1 l = true then tkF t c h l ps
    else if l.length < c then tkF t c h (l ++ [e]) ps
    else match ps with
      | [] => tkF t c h l []
      | p :: ps => tkF t c h (l.set p e) ps
theorem tkF_c (t : Int32) (c : Nat) (e : Int32 × Int32) (h l : Vw) (ps : List Nat) : tkF t c (e :: h) l ps = if e.1 = t ∨ inV e.1 l = true then tkF t c h l ps else if l.length < c then tkF t c h (l ++ [e]) ps else match ps with
      | [] => tkF t c h l []
      | p :: ps => tkF t c h (l.set p e) ps := by cases ps <;> rfl
theorem pls_gv {q : Sq} : (gvo q = none ∧ pls q = [] ∧ gvq q = q) ∨ ∃ p, gvo q = some p ∧ pls q = p :: pls (gvq q) := by
  unfold gvo gvq
  cases hg : gvi q 0 with
  | none => exact Or.inl ⟨rfl, gvi_none q 0 hg, rfl⟩
  | some z =>
    obtain ⟨j, p⟩ := z
    obtain ⟨-, -, -, h4⟩ := gvi_some q 0 j p hg
    rw [Nat.sub_zero] at h4
    exact Or.inr ⟨p, rfl, h4⟩
def smallQ (q : Sq) : Prop := ∀ k, k < q.length → ∀ p, (q.getD k e0).2 = some p → p < 2 ^ 31
theorem smallQ_gv {q : Sq} (h : smallQ q) : smallQ (gvq q) := by
  unfold gvq
  cases hg : gvi q 0 with
  | none => exact h
  | some z =>
    obtain ⟨j, p⟩ := z
    obtain ⟨-, h2, -, -⟩ := gvi_some q 0 j p hg
    rw [Nat.sub_zero] at h2
    intro k hk r hr
    have hk3 : k < q.length := by simpa using hk
    simp only [gDe_set h2] at hr
    split at hr
    · cases hr
    · exact h k hk3 r hr
theorem gvo_small {q : Sq} (h : smallQ q) {p : Nat} (hp : gvo q = some p) : p < 2 ^ 31 := by
  unfold gvo at hp
  cases hg : gvi q 0 with
  | none => rw [hg] at hp; cases hp
  | some z =>
    obtain ⟨j, r⟩ := z
    rw [hg] at hp
    have e1 : r = p := Option.some.inj hp
    obtain ⟨-, h2, h3, -⟩ := gvi_some q 0 j r hg
    rw [Nat.sub_zero] at h2 h3
    rw [← e1]
    exact h j h2 r h3
theorem hasS_fr {C C' : Mm} {s : Nat} {q : Sq} (h : hasS C s q) (h0 : C' s = C s) (h1 : C' (s + 1) = C (s + 1)) (h2 : C' (s + 2) = C (s + 2)) (h3 : C' (s + 3) = C (s + 3)) : hasS C' s q :=
  ⟨h.1, by rw [h0]; exact h.2.1, fun k hk => by rw [h1, h2, h3]; exact h.2.2 k hk⟩
theorem hasV_fr {C C' : Mm} {s : Nat} {q : Vw} (h : hasV C s q) (h0 : C' s = C s) (h1 : C' (s + 1) = C (s + 1)) (h2 : C' (s + 2) = C (s + 2)) : hasV C' s q :=
  ⟨h.1, by rw [h0]; exact h.2.1, fun k hk => by rw [h1, h2]; exact h.2.2 k hk⟩
def fs (q : Sq) : Vw := q.map (fun e => e.1)
theorem fs_len (q : Sq) : (fs q).length = q.length := by simp [fs]
theorem fs_get {q : Sq} {k : Nat} (h : k < q.length) : (fs q).getD k d0 = (q.getD k e0).1 := by
  simp [fs, List.getD_eq_getElem?_getD, List.getElem?_map, List.getElem?_eq_getElem h]
theorem fs_gvq (q : Sq) : fs (gvq q) = fs q := by
  unfold gvq
  cases hg : gvi q 0 with
  | none => rfl
  | some z =>
    obtain ⟨j, p⟩ := z
    obtain ⟨-, h2, -, -⟩ := gvi_some q 0 j p hg
    rw [Nat.sub_zero] at h2
    show fs (q.set j ((q.getD j e0).1, none)) = fs q
    unfold fs
    apply List.ext_getElem?
    intro k
    rw [List.getElem?_map, List.getElem?_map, List.getElem?_set]
    by_cases e : j = k
    · subst e
      rw [if_pos rfl, if_pos h2, List.getElem?_eq_getElem h2]
      simp [List.getD_eq_getElem?_getD, List.getElem?_eq_getElem h2]
    · rw [if_neg e]
theorem take_run {a h o v c : Nat} {t : Int32} {q : Sq} (ho : (h = 7 ∧ o = 11) ∨ (h = 11 ∧ o = 7)) (ha : 26 ≤ a) (hv : a + 2 ≤ v) (hc : c ≤ 5) :
    ∀ d k, k + d = q.length → ∀ (C : Mm) (l : Vw) (qo : Sq), C a 2 = nI c → hasV C v l → hasS C h q → hasS C o qo → smallQ qo →
    ∃ C', run stX5_takeAll (1, [a, h, o, v], [t, nI k], C) = some (0, C') ∧ hasV C' v (tkF t c ((q.drop k).map (fun e => e.1)) l (pls qo)) ∧ (∃ q2, hasS C' o q2 ∧ fs q2 = fs qo) ∧ ∀ z, z ≠ v → z ≠ v + 1 → z ≠ v + 2 → z ≠ o + 3 → C' z = C z := by
  intro d
  induction d with
  | zero =>
    intro k e C l qo h2 hV hS hO hP
    have h5 := hS.1
    rw [eX5_takeAll_1, hS.2.1, if_pos (nI_le (by omega) (by omega)), List.drop_eq_nil_of_le (by omega)]
    exact ⟨C, rfl, hV, ⟨qo, hO, rfl⟩, fun _ _ _ _ _ => rfl⟩
  | succ d ih =>
    intro k e C l qo h2 hV hS hO hP
    have h5 := hS.1
    have hk := hS.2.2 k (by omega)
    have hV5 := hV.1
    rw [eX5_takeAll_1, hS.2.1, if_neg (nI_ge (by omega) (by omega)), dropE_cons (by omega : k < q.length), List.map_cons, tkF_c]
    simp (disch := omega) only [gd_ok, ix_nI, nI_1]
    rw [hk.1]
    by_cases ht : (q.getD k e0).1.1 = t
    · rw [if_pos ht, if_pos (Or.inl ht)]
      exact ih (k + 1) (by omega) C l qo h2 hV hS hO hP
    · rw [if_neg ht, holds_c _ hV, cl_s]
      cases hin : inV (q.getD k e0).1.1 l with
      | true =>
        rw [if_neg (show ¬ bI true = 0 by decide), if_pos (Or.inr rfl)]
        exact ih (k + 1) (by omega) C l qo h2 hV hS hO hP
      | false =>
        have hno : ¬ ((q.getD k e0).1.1 = t ∨ (false = true)) := fun z => z.elim ht (fun z2 => by cases z2)
        rw [if_pos (show bI false = 0 from rfl), if_neg hno, h2, hV.2.1, hk.2.1]
        by_cases hl : l.length < c
        · rw [if_neg (nI_ge hl (by omega)), if_pos hl]
          obtain ⟨C1, g1, g2, g3⟩ := append_c (x := (q.getD k e0).1.1) (g := (q.getD k e0).1.2) hV (by omega)
          rw [g1, cl_s]
          obtain ⟨C', k1, k2, k0, k3⟩ := ih (k + 1) (by omega) C1 (l ++ [(q.getD k e0).1]) qo (by rw [g3 a (by omega) (by omega) (by omega)]; exact h2) g2 (hasS_fr hS (g3 _ (by omega) (by omega) (by omega)) (g3 _ (by omega) (by omega) (by omega)) (g3 _ (by omega) (by omega) (by omega)) (g3 _ (by omega) (by omega) (by omega))) (hasS_fr hO (g3 _ (by omega) (by omega) (by omega)) (g3 _ (by omega) (by omega) (by omega)) (g3 _ (by omega) (by omega) (by omega)) (g3 _ (by omega) (by omega) (by omega))) hP
          exact ⟨C', k1, k2, k0, fun z x1 x2 x3 x4 => by rw [k3 z x1 x2 x3 x4, g3 z x1 x2 x3]⟩
        · rw [if_pos (nI_le (by omega) (by omega)), if_neg hl]
          obtain ⟨C1, g1, g2, g3⟩ := give_c hO hP
          rw [g1, cl_s]
          have hV1 : hasV C1 v l := hasV_fr hV (g3 _ (by omega)) (g3 _ (by omega)) (g3 _ (by omega))
          have hS1 : hasS C1 h q := hasS_fr hS (g3 _ (by omega)) (g3 _ (by omega)) (g3 _ (by omega)) (g3 _ (by omega))
          rw [(hS1.2.2 k (by omega)).2.1]
          rcases pls_gv (q := qo) with ⟨z1, z2, z3⟩ | ⟨p, z1, z2⟩
          · rw [z1, show oI none = -1 from rfl, replace_m1, cl_s, z2]
            obtain ⟨C', k1, k2, k0, k3⟩ := ih (k + 1) (by omega) C1 l (gvq qo) (by rw [g3 a (by omega)]; exact h2) hV1 hS1 g2 (smallQ_gv hP)
            rw [fs_gvq] at k0
            rw [z3, z2] at k2
            exact ⟨C', k1, k2, k0, fun z x1 x2 x3 x4 => by rw [k3 z x1 x2 x3 x4, g3 z x4]⟩
          · obtain ⟨C2, f1, f2, f3⟩ := replace_any (x := (q.getD k e0).1.1) (g := (q.getD k e0).1.2) hV1 (gvo_small hP z1)
            rw [z1, show oI (some p) = nI p from rfl, f1, cl_s, z2]
            obtain ⟨C', k1, k2, k0, k3⟩ := ih (k + 1) (by omega) C2 (l.set p (q.getD k e0).1) (gvq qo) (by rw [f3 a (by omega) (by omega) (by omega), g3 a (by omega)]; exact h2) f2 (hasS_fr hS1 (f3 _ (by omega) (by omega) (by omega)) (f3 _ (by omega) (by omega) (by omega)) (f3 _ (by omega) (by omega) (by omega)) (f3 _ (by omega) (by omega) (by omega))) (hasS_fr g2 (f3 _ (by omega) (by omega) (by omega)) (f3 _ (by omega) (by omega) (by omega)) (f3 _ (by omega) (by omega) (by omega)) (f3 _ (by omega) (by omega) (by omega))) (smallQ_gv hP)
            rw [fs_gvq] at k0
            exact ⟨C', k1, k2, k0, fun z x1 x2 x3 x4 => by rw [k3 z x1 x2 x3 x4, f3 z x1 x2 x3, g3 z x4]⟩
