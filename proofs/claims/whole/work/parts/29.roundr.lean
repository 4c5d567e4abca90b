/-! what a round keeps -/
theorem agd_ok {g : Nat} (h : g ≤ 99) : ∃ g', g' ≤ 99 ∧ imin (nI g + 1) 99 = nI g' := by
  unfold imin
  rw [n99, nI_1]
  by_cases h1 : nI 99 < nI (g + 1)
  · rw [if_pos h1]; exact ⟨99, by omega, rfl⟩
  · rw [if_neg h1]
    have : g + 1 ≤ 99 := Nat.not_lt.mp (fun z => h1 (nI_lt z (by omega)))
    exact ⟨g + 1, this, rfl⟩
theorem wfV_agd {P : Pq} {i : Nat} {l : Vw} (h : wfV P i l) : wfV P i (l.map agd) := by
  refine ⟨by rw [List.length_map]; exact h.1, fun e he => ?_, fun p r hp hr heq => ?_⟩
  · obtain ⟨e1, h1, rfl⟩ := List.mem_map.mp he
    obtain ⟨x, g, hx, hxi, hg, rfl⟩ := h.2.1 e1 h1
    obtain ⟨g', hg', e2⟩ := agd_ok hg
    exact ⟨x, g', hx, hxi, hg', by unfold agd; rw [e2]⟩
  · rw [List.length_map] at hp hr
    rw [gD_map hp, gD_map hr] at heq
    exact h.2.2 p r hp hr heq
theorem mem_del {l : Vw} {p : Nat} {e : Int32 × Int32} (h : e ∈ l.eraseIdx p) : e ∈ l := List.mem_of_mem_eraseIdx h
theorem wfV_del {P : Pq} {i p : Nat} {l : Vw} (h : wfV P i l) (hp : p < l.length) : wfV P i (l.eraseIdx p) := by
  refine ⟨by rw [len_del hp]; have := h.1; omega, fun e he => h.2.1 e (mem_del he), fun k r hk hr heq => ?_⟩
  rw [len_del hp] at hk hr
  rw [gD_del, gD_del] at heq
  by_cases h1 : k < p
  · rw [if_pos h1] at heq
    by_cases h2 : r < p
    · rw [if_pos h2] at heq
      exact h.2.2 k r (by omega) (by omega) heq
    · rw [if_neg h2] at heq
      have := h.2.2 k (r + 1) (by omega) (by omega) heq
      omega
  · rw [if_neg h1] at heq
    by_cases h2 : r < p
    · rw [if_pos h2] at heq
      have := h.2.2 (k + 1) r (by omega) (by omega) heq
      omega
    · rw [if_neg h2] at heq
      have := h.2.2 (k + 1) (r + 1) (by omega) (by omega) heq
      omega
theorem wfV_tk {P : Pq} {t : Nat} (ht : t < 2 ^ 31) (hn : P.1 ≤ 8) : ∀ (h l : Vw) (ps : List Nat), wfV P t l → (∀ e ∈ h, ∃ x g, x < P.1 ∧ g ≤ 99 ∧ e = (nI x, nI g)) → wfV P t (tkF (nI t) P.2.1 h l ps) := by
  intro h
  induction h with
  | nil => intro l ps hl _; exact hl
  | cons e h ih =>
    intro l ps hl hh
    have hh' : ∀ e ∈ h, ∃ x g, x < P.1 ∧ g ≤ 99 ∧ e = (nI x, nI g) := fun e he => hh e (List.mem_cons_of_mem _ he)
    rw [tkF_c]
    by_cases hc : e.1 = nI t ∨ inV e.1 l = true
    · rw [if_pos hc]; exact ih l ps hl hh'
    · rw [if_neg hc]
      have hin : inV e.1 l = false := by
        cases hb : inV e.1 l with
        | false => rfl
        | true => exact absurd (Or.inr hb) hc
      obtain ⟨x, g, hx, hg, he⟩ := hh e List.mem_cons_self
      have hxt : x ≠ t := fun z => hc (Or.inl (by rw [he, z]))
      by_cases hlc : l.length < P.2.1
      · rw [if_pos hlc]
        refine ih _ ps ⟨by simp; omega, fun e2 he2 => ?_, dst_app hl.2.2 hin⟩ hh'
        rcases List.mem_append.mp he2 with z | z
        · exact hl.2.1 e2 z
        · have : e2 = e := by simpa using z
          rw [this]; exact ⟨x, g, hx, hxt, hg, he⟩
      · rw [if_neg hlc]
        cases ps with
        | nil => exact ih l [] hl hh'
        | cons p ps =>
          show wfV P t (tkF (nI t) P.2.1 h (l.set p e) ps)
          by_cases hpl : p < l.length
          · refine ih _ ps ⟨by rw [List.length_set]; exact hl.1, fun e2 he2 => ?_, dst_set hl.2.2 hin hpl⟩ hh'
            rcases List.mem_or_eq_of_mem_set he2 with z | z
            · exact hl.2.1 e2 z
            · rw [z]; exact ⟨x, g, hx, hxt, hg, he⟩
          · rw [List.set_eq_of_length_le (by omega)]
            exact ih l ps hl hh'
theorem sent_ok {P : Pq} {j : Nat} {l : Vw} {ps : List Nat} (hl : wfV P j l) (hps : ∀ p ∈ ps, p < l.length) : ∀ e ∈ ps.map (fun p => l.getD p d0), ∃ x g, x < P.1 ∧ g ≤ 99 ∧ e = (nI x, nI g) := by
  intro e he
  obtain ⟨p, hp, rfl⟩ := List.mem_map.mp he
  obtain ⟨x, g, hx, -, hg, e1⟩ := hl.2.1 _ (gD_mem (hps p hp))
  exact ⟨x, g, hx, hg, e1⟩
theorem wfN_up {P : Pq} {N : Nq} {i : Nat} {l : Vw} (hw : wfN P N) (hi : i < P.1) (hl : wfV P i l) : wfN P (N.1, N.2.1, va_up N.2.2 i l) := by
  refine ⟨hw.1, fun j hj => ?_, fun j hj => ?_⟩
  · by_cases e : j = i
    · rw [e]; show wfV P i (va_up N.2.2 i l i); rw [va_up_self]; exact hl
    · show wfV P j (va_up N.2.2 i l j); rw [va_up_ne _ _ e]; exact hw.2.1 j hj
  · show va_up N.2.2 i l j = []
    rw [va_up_ne _ _ (by omega)]; exact hw.2.2 j hj
theorem swp_wf {P : Pq} {N : Nq} {i q : Nat} (hp : wfP P) (hw : wfN P N) (hi : i < P.1) (hq : q < P.1) : wfN P (swp P N i q) := by
  have h8 := hp.2.1
  obtain ⟨a1, a2, a3⟩ := sdI_ok (P := P) (i := i) (l := N.2.2 i) (dr := N.1) (k := 1) hw.1
  obtain ⟨b1, b2, b3⟩ := sdI_ok (P := P) (i := q) (l := N.2.2 q) (dr := (sdI P i (N.2.2 i) N.1 1).1) (k := 0) a1
  have w1 := wfN_up (N := ((sdI P q (N.2.2 q) (sdI P i (N.2.2 i) N.1 1).1 0).1, N.2.1, N.2.2)) ⟨b1, hw.2.1, hw.2.2⟩ hq (wfV_tk (P := P) (t := q) (by omega) h8 ((nI i, 0) :: (sdI P i (N.2.2 i) N.1 1).2.map (fun p => (N.2.2 i).getD p d0)) (N.2.2 q) (sdI P q (N.2.2 q) (sdI P i (N.2.2 i) N.1 1).1 0).2 (hw.2.1 q hq) (fun e he => by
    rcases List.mem_cons.mp he with z | z
    · exact ⟨i, 0, hi, by omega, by rw [z]; rfl⟩
    · exact sent_ok (hw.2.1 i hi) a3 e z))
  exact wfN_up w1 hi (wfV_tk (P := P) (t := i) (by omega) h8 _ (N.2.2 i) _ (hw.2.1 i hi) (fun e he => by
    unfold qSent at he
    by_cases hs : P.2.2.2 q = true
    · rw [if_pos hs] at he
      have : e = (nI q, 0) := by simpa using he
      exact ⟨q, 0, hq, by omega, by rw [this]; rfl⟩
    · rw [if_neg hs] at he
      exact sent_ok (hw.2.1 q hq) b3 e he))
theorem rnd_wf {P : Pq} {N : Nq} {i : Nat} (hp : wfP P) (hw : wfN P N) (hi : i < P.1) : wfN P (rnd P N i).2 := by
  have wa := wfV_agd (hw.2.1 i hi)
  cases ho : old ((N.2.2 i).map agd) with
  | none => rw [rnd_none ho]; exact wfN_up hw hi wa
  | some p =>
    have hpl := old_lt ho
    obtain ⟨q1, q2, q3⟩ := wfV_q hp (hw.2.1 i hi) hpl
    rw [rnd_some ho rfl]
    have wd := wfN_up hw hi (wfV_del wa hpl)
    by_cases hd : N.2.1 (ix (((N.2.2 i).map agd).getD p d0).1) = true
    · rw [if_pos hd]; exact wd
    · rw [if_neg hd]; exact swp_wf hp wd hi q1
/-! the reference -/
theorem has_r {P : Pq} {f : Nat → Bool} {j : Nat} {D : Mm} (hp : wfP P) (hj : j < P.1) : fX9_has (nI (msk f P.1)) (nI j) D = some (bI (f j), D) := by
  unfold fX9_has
  rw [alive_bit hp hj]
  cases f j <;> rfl
theorem isDead_r {D : Mm} {b j : Nat} {P : Pq} {N : Nq} (hb : b ≤ 990) (hp : wfP P) (hB : hasB D b P N) (hj : j < P.1) : fX9_isDead (nI b) (nI j) D = some (bI (N.2.1 j), D) := by
  unfold fX9_isDead
  simp (disch := omega) only [nI_1, gd_ok, ix_nI, hB.2.1]
  rw [has_r hp hj, cl_s, gd_t (okZ_bI _)]
def frD (D D' : Mm) (b : Nat) : Prop := (∀ z, z ≠ 339 → z ≠ 346 → z ≠ 347 → z ≠ 348 → z ≠ 349 → D' z = D z) ∧ ∀ j, j < b ∨ b + 90 ≤ j → D' 339 j = D 339 j
theorem frD.rf {D : Mm} {b : Nat} : frD D D b := ⟨fun _ _ _ _ _ _ => rfl, fun _ _ => rfl⟩
theorem frD.tr {D D1 D2 : Mm} {b : Nat} (h : frD D D1 b) (g : frD D1 D2 b) : frD D D2 b := ⟨fun z x1 x2 x3 x4 x5 => (g.1 z x1 x2 x3 x4 x5).trans (h.1 z x1 x2 x3 x4 x5), fun j x => (g.2 j x).trans (h.2 j x)⟩
theorem hasR_off {D D' : Mm} {b i : Nat} {l : Vw} (h : hasR D b i l) (g : ∀ j, ofV b i j → D' 339 j = D 339 j) : hasR D' b i l := by
  have h5 := h.1
  refine ⟨h.1, by rw [g _ (Or.inl rfl)]; exact h.2.1, fun k hk => ?_⟩
  rw [g _ (Or.inr (Or.inl (by omega))), g _ (Or.inr (Or.inr (by omega)))]
  exact h.2.2 k hk
theorem hasB_view {D D' : Mm} {b i : Nat} {P : Pq} {N : Nq} {l : Vw} (hB : hasB D b P N) (hi : i < 8) (hR : hasR D' b i l) (hf : ∀ j, ¬ ofV b i j → D' 339 j = D 339 j) : hasB D' b P (N.1, N.2.1, va_up N.2.2 i l) := by
  refine ⟨by rw [hf b (by unfold ofV; omega)]; exact hB.1, by rw [hf (b + 1) (by unfold ofV; omega)]; exact hB.2.1, fun j hj => ?_⟩
  by_cases e : j = i
  · rw [e]; show hasR D' b i (va_up N.2.2 i l i); rw [va_up_self]; exact hR
  · show hasR D' b j (va_up N.2.2 i l j)
    rw [va_up_ne _ _ e]
    exact hasR_off (hB.2.2 j hj) (fun k hk => hf k (by unfold ofV at hk ⊢; omega))
theorem hasB_fr {D D' : Mm} {b : Nat} {P : Pq} {N : Nq} (hB : hasB D b P N) (hf : ∀ j, b ≤ j → j < b + 90 → D' 339 j = D 339 j) : hasB D' b P N :=
  ⟨by rw [hf b (by omega) (by omega)]; exact hB.1, by rw [hf (b + 1) (by omega) (by omega)]; exact hB.2.1, fun j hj => hasR_off (hB.2.2 j hj) (fun k hk => hf k (by unfold ofV at hk; omega) (by unfold ofV at hk; omega))⟩
theorem hasP_fr {D D' : Mm} {P : Pq} (h : hasP D P) (hf : D' 338 = D 338) : hasP D' P := by
  unfold hasP; rw [hf]; exact h
theorem sends_r {D : Mm} {b s j : Nat} {P : Pq} {N : Nq} {q0 : Vw} (hb : b ≤ 990) (hs : s < 2) (hp : wfP P) (hw : wfN P N) (hB : hasB D b P N) (hP : hasP D P) (hj : j < P.1) (hT : hasT D s q0) (hU : unT D s q0.length) (h0 : ∀ e ∈ N.2.2 j, inV e.1 q0 = false) (hsly : P.2.2.2 j = false) :
    ∃ D', fX9_sends (nI b) (nI s) (nI j) D = some (0, D') ∧ hasB D' b P ((sdI P j (N.2.2 j) N.1 q0.length).1, N.2.1, N.2.2) ∧ hasT D' s (q0 ++ (sdI P j (N.2.2 j) N.1 q0.length).2.map (fun p => (N.2.2 j).getD p d0)) ∧ unT D' s (q0.length + (sdI P j (N.2.2 j) N.1 q0.length).2.length) ∧ frD D D' b ∧ (∀ k, k < 6 * s ∨ 6 * s + 6 ≤ k → D' 346 k = D 346 k ∧ D' 347 k = D 347 k ∧ D' 349 k = D 349 k) ∧ (∀ k, k ≠ s → D' 348 k = D 348 k) := by
  have h8 := hp.2.1
  obtain ⟨p1, p2, p3, p4, p5, p6⟩ := hp
  have hR := hB.2.2 j (by omega)
  unfold fX9_sends sdI
  rw [if_neg (by rw [hsly]; decide), eX9_sends_0]
  simp (disch := omega) only [n2, nI_add, gd_ok, ix_nI, hR.2.1]
  obtain ⟨D', k1, k2, k3, k4, k5, k6⟩ := sends_run (b := b) (s := s) (i := j) (sl := P.2.2.1) (l := N.2.2 j) (q0 := q0) hb hs (by omega) hR.1 (by omega) (hw.2.1 j hj).2.2 h0 (N.2.2 j).length N.1 [] hw.1 (fun p hp => by cases hp) (by
      have : (fun p => ([] : List Nat).contains p) = fun _ => false := by funext p; rfl
      rw [this, cnt_0]) D hP.2.2.1 hB.1 hR (by simpa using hT) (by simpa using hU)
  rw [List.length_nil, Nat.add_zero] at k2 k3 k4
  refine ⟨D', k1, ⟨k2, by rw [k6 (b + 1) (by omega)]; exact hB.2.1, fun i hi => hasR_off (hB.2.2 i hi) (fun k hk => k6 k (by unfold ofV at hk; omega))⟩, k3, k4, ⟨fun z x1 x2 x3 x4 x5 => ?_, fun k hk => k6 k (by omega)⟩, fun k hk => ?_, fun k hk => ?_⟩
  · have := k5.1 z x2 x3 x4 x5
    rw [this]; simp [x1]
  · have := k5.2.1 k hk
    simpa using this
  · have := k5.2.2 k hk
    simpa using this
