/-! what a clause does -/
def lnk (c : Nat) (l : Vw) (x g : Int32) : Vw := if inV x l = true then l.set (ix (pos x l)) (x, g) else if l.length < c then l ++ [(x, g)] else l.set (l.length - 1) (x, g)
def ct (l : Vw) (x : Int32) : Vw := if inV x l = true then l.eraseIdx (ix (pos x l)) else l
def dO (S : Pq × Nq) (x : Nat × (Nat → Nat)) : Pq × Nq :=
  if x.1 = 0 then ((x.2 0, x.2 1, x.2 2, fun _ => false), (x.2 3, fun _ => false, ini (x.2 0) (x.2 1)))
  else if x.1 = 1 then (S.1, (S.2.1, va_up S.2.2.1 (x.2 0) true, S.2.2.2))
  else if x.1 = 2 then ((S.1.1, S.1.2.1, S.1.2.2.1, va_up S.1.2.2.2 (x.2 0) true), S.2)
  else if x.1 = 3 then (S.1, (S.2.1, S.2.2.1, va_up S.2.2.2 (x.2 0) (lnk S.1.2.1 (S.2.2.2 (x.2 0)) (nI (x.2 1)) (nI (x.2 2)))))
  else (S.1, (S.2.1, S.2.2.1, va_up S.2.2.2 (x.2 0) (ct (S.2.2.2 (x.2 0)) (nI (x.2 1)))))
theorem pos_some {x : Int32} {l : Vw} (hl : l.length ≤ 5) (h : inV x l = true) : ∃ p, p < l.length ∧ pos x l = nI p ∧ (l.getD p d0).1 = x ∧ ix (pos x l) = p := by
  rcases pos_cases x l with ⟨h1, h2⟩ | ⟨p, h1, h2, h3, -⟩
  · rw [(pos_in hl).mp h1] at h; cases h
  · exact ⟨p, h1, h2, h3, by rw [h2, ix_nI (by omega)]⟩
theorem wfV_set {P : Pq} {i p x g : Nat} {l : Vw} (hx : x < P.1) (hxi : x ≠ i) (hg : g ≤ 99) (h : wfV P i l) (hp : p < l.length) (he : (l.getD p d0).1 = nI x) : wfV P i (l.set p (nI x, nI g)) := by
  obtain ⟨h1, h2, h3⟩ := h
  refine ⟨by simpa using h1, fun e he2 => ?_, fun a b ha hb hab => ?_⟩
  · rcases List.mem_or_eq_of_mem_set he2 with h4 | h4
    · exact h2 e h4
    · exact ⟨x, g, hx, hxi, hg, h4⟩
  · have ha2 : a < l.length := by simpa using ha
    have hb2 : b < l.length := by simpa using hb
    rw [gD_set hp, gD_set hp] at hab
    apply h3 a b ha2 hb2
    by_cases c1 : a = p
    · rw [if_pos c1] at hab
      by_cases c2 : b = p
      · rw [c1, c2]
      · rw [if_neg c2] at hab; rw [c1, he]; exact hab
    · rw [if_neg c1] at hab
      by_cases c2 : b = p
      · rw [if_pos c2] at hab; rw [c2, he]; exact hab
      · rw [if_neg c2] at hab; exact hab
theorem lnk_wf {P : Pq} {i x g : Nat} {l : Vw} (hp : wfP P) (hi : i < P.1) (hx : x < P.1) (hxi : x ≠ i) (hg : g ≤ 99) (h : wfV P i l) : wfV P i (lnk P.2.1 l (nI x) (nI g)) := by
  have h8 := hp.2.1
  have hl5 : l.length ≤ 5 := Nat.le_trans h.1 hp.2.2.2.1
  cases hv : inV (nI x) l with
  | true =>
    obtain ⟨p, p1, p2, p3, p4⟩ := pos_some hl5 hv
    rw [lnk, if_pos hv, p4]
    exact wfV_set hx hxi hg h p1 p3
  | false =>
    have hne : ¬ ((nI x, nI g).1 = nI i ∨ inV (nI x, nI g).1 l = true) := by
      intro z
      rcases z with z | z
      · exact hxi ((nI_eq (by omega) (by omega)).mp z)
      · rw [show inV (nI x, nI g).1 l = inV (nI x) l from rfl, hv] at z; cases z
    have e1 : lnk P.2.1 l (nI x) (nI g) = tkF (nI i) P.2.1 [(nI x, nI g)] l [l.length - 1] := by
      rw [lnk, if_neg (by rw [hv]; decide), tkF_c, if_neg hne]
      by_cases h2 : l.length < P.2.1
      · rw [if_pos h2, if_pos h2]; rfl
      · rw [if_neg h2, if_neg h2]; rfl
    rw [e1]
    exact wfV_tk (by omega) h8 _ _ _ h (fun e he => by
      have : e = (nI x, nI g) := by simpa using he
      exact ⟨x, g, hx, hg, this⟩)
theorem ct_wf {P : Pq} {i : Nat} {x : Int32} {l : Vw} (hp : wfP P) (h : wfV P i l) : wfV P i (ct l x) := by
  have hl5 : l.length ≤ 5 := Nat.le_trans h.1 hp.2.2.2.1
  cases hv : inV x l with
  | true =>
    obtain ⟨p, p1, p2, p3, p4⟩ := pos_some hl5 hv
    rw [ct, if_pos hv, p4]
    exact wfV_del h p1
  | false => rw [ct, if_neg (by rw [hv]; decide)]; exact h
theorem ini_wf {n c l i : Nat} {s : Nat → Bool} (hn : 2 ≤ n) (hn8 : n ≤ 8) (hi : i < n) : wfV (n, c, l, s) i (ini n c i) := by
  have hl := inF_len n i (min c (n - 1))
  rw [ini, if_pos hi]
  have md : ∀ j, j + 1 < n → (i + (j + 1)) % n = if i + (j + 1) < n then i + (j + 1) else i + (j + 1) - n := by
    intro j hj
    by_cases h : i + (j + 1) < n
    · rw [if_pos h, mod_lo h]
    · rw [if_neg h, mod_hi (by omega) (by omega)]
  refine ⟨by rw [hl]; exact Nat.min_le_left _ _, fun e he => ?_, fun a b ha hb hab => ?_⟩
  · simp only [inF, List.mem_map, List.mem_range] at he
    obtain ⟨d, hd, rfl⟩ := he
    have h2 := md d (by omega)
    refine ⟨(i + (d + 1)) % n, 0, Nat.mod_lt _ (by omega), ?_, by omega, rfl⟩
    rw [h2]
    split <;> omega
  · rw [hl] at ha hb
    rw [inF_get ha, inF_get hb] at hab
    have h2 := md a (by omega)
    have h3 := md b (by omega)
    have hn31 : n < 2 ^ 31 := by omega
    have h4 := (nI_eq (Nat.lt_trans (Nat.mod_lt _ (by omega)) hn31) (Nat.lt_trans (Nat.mod_lt _ (by omega)) hn31)).mp hab
    rw [h2, h3] at h4
    revert h4
    repeat' split
    all_goals omega
theorem fit_0 {m : Nat} {q : Nat → Nat} (h : fit8 0 m q) : 2 ≤ q 0 ∧ q 0 ≤ 8 ∧ 1 ≤ q 1 ∧ q 1 ≤ 5 ∧ 1 ≤ q 2 ∧ q 2 ≤ q 1 ∧ q 3 ≤ 999 := by
  have a0 := h 0 (by decide)
  have a1 := h 1 (by decide)
  have a2 := h 2 (by decide)
  have a3 := h 3 (by decide)
  simp [fit, loN, hiN] at a0 a1 a2 a3
  omega
theorem fit_n0 {w m : Nat} {q : Nat → Nat} (hw : w ≠ 0) (h : fit8 w m q) : q 0 < m := by
  have a0 := h 0 (cn_4 w).1
  rw [fit, if_neg hw, if_neg (by decide), decide_eq_true_eq] at a0
  exact a0.1
theorem fit_n1 {w m : Nat} {q : Nat → Nat} (hw : w = 3 ∨ w = 4) (h : fit8 w m q) : q 1 < m ∧ q 1 ≠ q 0 := by
  have a0 := h 1 (by rcases hw with rfl | rfl <;> decide)
  rw [fit, if_neg (by omega), if_neg (by decide), decide_eq_true_eq] at a0
  omega
theorem fit_n2 {m : Nat} {q : Nat → Nat} (h : fit8 3 m q) : q 2 ≤ 99 := by
  have a0 := h 2 (by decide)
  rw [fit, if_neg (by decide), if_pos rfl, decide_eq_true_eq] at a0
  exact a0
theorem dO_0 {S : Pq × Nq} {q : Nat → Nat} : dO S (0, q) = ((q 0, q 1, q 2, fun _ => false), (q 3, fun _ => false, ini (q 0) (q 1))) := rfl
theorem dO_1 {S : Pq × Nq} {q : Nat → Nat} : dO S (1, q) = (S.1, (S.2.1, va_up S.2.2.1 (q 0) true, S.2.2.2)) := rfl
theorem dO_2 {S : Pq × Nq} {q : Nat → Nat} : dO S (2, q) = ((S.1.1, S.1.2.1, S.1.2.2.1, va_up S.1.2.2.2 (q 0) true), S.2) := rfl
theorem dO_3 {S : Pq × Nq} {q : Nat → Nat} : dO S (3, q) = (S.1, (S.2.1, S.2.2.1, va_up S.2.2.2 (q 0) (lnk S.1.2.1 (S.2.2.2 (q 0)) (nI (q 1)) (nI (q 2))))) := rfl
theorem dO_4 {S : Pq × Nq} {q : Nat → Nat} : dO S (4, q) = (S.1, (S.2.1, S.2.2.1, va_up S.2.2.2 (q 0) (ct (S.2.2.2 (q 0)) (nI (q 1))))) := rfl
theorem dO_wf {S : Pq × Nq} {w : Nat} {q : Nat → Nat} (hw : w < 5) (hf : fit8 w S.1.1 q) (hp : wfP S.1) (hN : wfN S.1 S.2) : wfP (dO S (w, q)).1 ∧ wfN (dO S (w, q)).1 (dO S (w, q)).2 ∧ (dO S (w, q)).1.1 = nwM w S.1.1 q := by
  rcases (by omega : w = 0 ∨ w = 1 ∨ w = 2 ∨ w = 3 ∨ w = 4) with rfl | rfl | rfl | rfl | rfl
  · obtain ⟨a1, a2, a3, a4, a5, a6, a7⟩ := fit_0 hf
    rw [dO_0]
    refine ⟨⟨a1, a2, a3, a4, a5, a6⟩, ⟨show q 3 < 65537 by omega, fun i hi => ini_wf a1 a2 hi, fun i hi => ?_⟩, rfl⟩
    show ini (q 0) (q 1) i = []
    rw [ini, if_neg (by have : q 0 ≤ i := hi; omega)]
  · exact ⟨hp, hN, rfl⟩
  · exact ⟨hp, hN, rfl⟩
  · have h0 := fit_n0 (by decide) hf
    have h1 := fit_n1 (Or.inl rfl) hf
    exact ⟨hp, wfN_up hN h0 (lnk_wf hp h0 h1.1 h1.2 (fit_n2 hf) (hN.2.1 _ h0)), rfl⟩
  · have h0 := fit_n0 (by decide) hf
    exact ⟨hp, wfN_up hN h0 (ct_wf hp (hN.2.1 _ h0)), rfl⟩
theorem msk_set {f : Nat → Bool} {n i : Nat} (hi : i < n) : msk f n ||| 2 ^ i = msk (va_up f i true) n := by
  apply Nat.eq_of_testBit_eq
  intro j
  rw [Nat.testBit_or, msk_bit, msk_bit, Nat.testBit_two_pow]
  by_cases h : j = i
  · rw [h, va_up_self]; simp [hi]
  · have h2 : ¬ i = j := fun z => h z.symm
    rw [va_up_ne _ _ h]; simp [h2]
theorem msk_clr {f : Nat → Bool} {n i : Nat} (hn : n ≤ 8) : msk f n &&& (255 ^^^ 2 ^ i) = msk (va_up f i false) n := by
  apply Nat.eq_of_testBit_eq
  intro j
  rw [Nat.testBit_and, Nat.testBit_xor, msk_bit, msk_bit, Nat.testBit_two_pow, show (255 : Nat) = 2 ^ 8 - 1 from rfl, Nat.testBit_two_pow_sub_one]
  by_cases h : j = i
  · rw [h, va_up_self]
    by_cases h8 : i < 8
    · simp [h8]
    · have : ¬ i < n := by omega
      simp [this]
  · have h2 : ¬ i = j := fun z => h z.symm
    rw [va_up_ne _ _ h]
    by_cases h8 : j < 8
    · simp [h8, h2]
    · have : ¬ j < n := by omega
      simp [this]
theorem not_up {dd : Nat → Bool} {i : Nat} {b : Bool} : (fun j => !va_up dd i b j) = va_up (fun j => !dd j) i (!b) := by
  funext j
  by_cases h : j = i
  · rw [h, va_up_self, va_up_self]
  · rw [va_up_ne _ _ h, va_up_ne _ _ h]
