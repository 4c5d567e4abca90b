/-! a round of the reference -/
theorem ownR_sq {D : Mm} {s : Nat} {t : Int32} {l : Vw} {ps : List Nat} {q0 : Sq} (h0 : ∀ e ∈ q0, e.2 = none ∧ e.1.1 = t) (hU : unT D s (q0.length + ps.length)) (hn : ps.Nodup) (hp : ∀ p ∈ ps, p < l.length) (hl : ∀ e ∈ l, e.1 ≠ t) : ownR D s t l (q0 ++ sq l ps) := by
  have hlen : (q0 ++ sq l ps).length = q0.length + ps.length := by simp [sq]
  have lo : ∀ k, k < q0.length → (q0 ++ sq l ps).getD k e0 ∈ q0 := by
    intro k hk
    rw [List.getD_eq_getElem?_getD, List.getElem?_append_left hk, List.getElem?_eq_getElem hk]
    exact List.getElem_mem hk
  have hi : ∀ k, q0.length ≤ k → k < q0.length + ps.length → ∃ p, ps[k - q0.length]? = some p ∧ (q0 ++ sq l ps).getD k e0 = (l.getD p d0, some p) := by
    intro k h1 h2
    have h3 : k - q0.length < ps.length := by omega
    refine ⟨ps[k - q0.length], List.getElem?_eq_getElem h3, ?_⟩
    rw [List.getD_eq_getElem?_getD, List.getElem?_append_right h1]
    simp [sq, List.getElem?_map, List.getElem?_eq_getElem h3]
  refine ⟨fun k hk hno => ?_, fun k hk p hpk => ?_, fun k j p hk hj h1 h2 => ?_⟩
  · rw [hlen] at hk
    by_cases h1 : k < q0.length
    · exact Or.inr (h0 _ (lo k h1)).2
    · obtain ⟨p, -, e⟩ := hi k (by omega) hk
      rw [e] at hno; cases hno
  · rw [hlen] at hk
    by_cases h1 : k < q0.length
    · rw [(h0 _ (lo k h1)).1] at hpk; cases hpk
    · obtain ⟨r, hr, e⟩ := hi k (by omega) hk
      rw [e] at hpk ⊢
      have e1 : r = p := Option.some.inj hpk
      rw [e1] at hr ⊢
      have hm := List.mem_of_getElem? hr
      exact ⟨hU k hk, hp p hm, rfl, hl _ (gD_mem (hp p hm))⟩
  · rw [hlen] at hk hj
    by_cases a1 : k < q0.length
    · rw [(h0 _ (lo k a1)).1] at h1; cases h1
    · by_cases a2 : j < q0.length
      · rw [(h0 _ (lo j a2)).1] at h2; cases h2
      · obtain ⟨r, hr, e⟩ := hi k (by omega) hk
        obtain ⟨r2, hr2, e2⟩ := hi j (by omega) hj
        rw [e] at h1
        rw [e2] at h2
        have q1 : r = p := Option.some.inj h1
        have q2 : r2 = p := Option.some.inj h2
        rw [q1] at hr
        rw [q2] at hr2
        have := nd_get hn hr hr2
        omega
theorem own1 (x : Int32) : ∀ e ∈ ([((x, 0), none)] : Sq), e.2 = none ∧ e.1.1 = x := by
  intro e he
  have z : e = ((x, 0), none) := by simpa using he
  rw [z]
  exact ⟨rfl, rfl⟩
noncomputable def kU (b i q : Nat) (M : Mm) : Option Rst := cl (fX9_takes (nI b) (1 : Int32) (nI q) M) (fun _ M17 => cl (fX9_takes (nI b) (0 : Int32) (nI i) M17) (fun _ M18 => some (nI q, M18)))
noncomputable def kD (b i q : Nat) (M14 : Mm) : Option Rst := cl (fX9_has (M14 338 4) (nI q) M14) (fun r15 M15 => if r15 = 0 then (cl (fX9_sends (nI b) (1 : Int32) (nI q) M15) (fun _ M16 => kU b i q M16)) else (cl (fX9_send (1 : Int32) (nI q) (0 : Int32) M15) (fun _ M19 => kU b i q M19)))
theorem kU_r {D : Mm} {b i q : Nat} {P : Pq} {N : Nq} {qi qq : Sq} (hb : b ≤ 990) (hp : wfP P) (hw : wfN P N) (hB : hasB D b P N) (hP : hasP D P) (hi : i < P.1) (hq : q < P.1) (hiq : i ≠ q) (t0 : hasT D 0 (fs qi)) (t1 : hasT D 1 (fs qq)) (o0 : ownR D 0 (nI i) (N.2.2 i) qi) (o1 : ownR D 1 (nI q) (N.2.2 q) qq) :
    ∃ D', kU b i q D = some (nI q, D') ∧ hasB D' b P (N.1, N.2.1, va_up (va_up N.2.2 q (tkF (nI q) P.2.1 (fs qi) (N.2.2 q) (pls qq))) i (tkF (nI i) P.2.1 (fs qq) (N.2.2 i) (pls qi))) ∧ frD D D' b := by
  have h8 := hp.2.1
  have c5 : P.2.1 ≤ 5 := hp.2.2.2.1
  have l6 : qi.length ≤ 6 := by have := t0.1; rw [fs_len] at this; exact this
  unfold kU
  obtain ⟨D1, g1, g2, -, g4, g5, g6⟩ := takes_r (b := b) (i := q) (s := 1) (o := 0) (c := P.2.1) hb (by omega) (Or.inr ⟨rfl, rfl⟩) c5 hP.2.1 (hB.2.2 q (by omega)) (hw.2.1 q hq).2.2 t0 t1 o1
  rw [show (1 : Int32) = nI 1 from rfl, g1, cl_s]
  have hB1 := hasB_view hB (by omega) g2 g5
  have hRi : hasR D1 b i (N.2.2 i) := hasR_off (hB.2.2 i (by omega)) (fun k hk => g5 k (by unfold ofV at hk ⊢; omega))
  obtain ⟨D2, k1, k2, -, k4, k5, k6⟩ := takes_r (b := b) (i := i) (s := 0) (o := 1) (c := P.2.1) hb (by omega) (Or.inl ⟨rfl, rfl⟩) c5 (by rw [g4 338 (by decide) (by decide)]; exact hP.2.1) hRi (hw.2.1 i hi).2.2 (hasT_fr t1 (g4 _ (by decide) (by decide)) (g4 _ (by decide) (by decide)) (g4 _ (by decide) (by decide))) (hasT_fr t0 (g4 _ (by decide) (by decide)) (g4 _ (by decide) (by decide)) (g4 _ (by decide) (by decide))) (ownR_fr o0 (fun k hk => g6 (6 * 0 + k) (by omega)))
  rw [show (0 : Int32) = nI 0 from rfl, k1, cl_s]
  refine ⟨D2, rfl, hasB_view hB1 (by omega) k2 k5, ⟨fun z x1 x2 x3 x4 x5 => by rw [k4 z x1 x5, g4 z x1 x5], fun j hj => ?_⟩⟩
  rw [k5 j (by unfold ofV; omega), g5 j (by unfold ofV; omega)]
theorem fs_app (a b : Sq) : fs (a ++ b) = fs a ++ fs b := by simp [fs]
theorem pls_app (a b : Sq) : pls (a ++ b) = pls a ++ pls b := by simp [pls]
theorem inV_own {P : Pq} {j : Nat} {l : Vw} (hw : wfV P j l) (hp : P.1 ≤ 8) (hj : j < 8) : ∀ e ∈ l, e.1 ≠ nI j := by
  intro e he z
  obtain ⟨x, g, hx, hxj, -, rfl⟩ := hw.2.1 e he
  exact hxj ((nI_eq (by omega) (by omega)).mp z)
theorem kD_r {D : Mm} {b i q : Nat} {P : Pq} {N : Nq} (hb : b ≤ 990) (hp : wfP P) (hw : wfN P N) (hi : i < P.1) (hq : q < P.1) (hiq : i ≠ q) (hB : hasB D b P ((sdI P i (N.2.2 i) N.1 1).1, N.2.1, N.2.2)) (hP : hasP D P) (t0 : hasT D 0 ((nI i, 0) :: (sdI P i (N.2.2 i) N.1 1).2.map (fun p => (N.2.2 i).getD p d0))) (u0 : unT D 0 (1 + (sdI P i (N.2.2 i) N.1 1).2.length)) (t1 : hasT D 1 []) :
    ∃ D', kD b i q D = some (nI q, D') ∧ hasB D' b P (swp P N i q) ∧ frD D D' b := by
  have h8 := hp.2.1
  obtain ⟨a1, a2, a3⟩ := sdI_ok (P := P) (i := i) (l := N.2.2 i) (dr := N.1) (k := 1) hw.1
  obtain ⟨b1, b2, b3⟩ := sdI_ok (P := P) (i := q) (l := N.2.2 q) (dr := (sdI P i (N.2.2 i) N.1 1).1) (k := 0) a1
  have hw1 : wfN P ((sdI P i (N.2.2 i) N.1 1).1, N.2.1, N.2.2) := ⟨a1, hw.2.1, hw.2.2⟩
  have hw2 : wfN P ((sdI P q (N.2.2 q) (sdI P i (N.2.2 i) N.1 1).1 0).1, N.2.1, N.2.2) := ⟨b1, hw.2.1, hw.2.2⟩
  have e1 : fs ([((nI i, 0), none)] ++ sq (N.2.2 i) (sdI P i (N.2.2 i) N.1 1).2) = (nI i, 0) :: (sdI P i (N.2.2 i) N.1 1).2.map (fun p => (N.2.2 i).getD p d0) := by rw [fs_app, fs_sq]; rfl
  have e2 : pls ([((nI i, 0), none)] ++ sq (N.2.2 i) (sdI P i (N.2.2 i) N.1 1).2) = (sdI P i (N.2.2 i) N.1 1).2 := by rw [pls_app, pls_sq]; rfl
  have l6 : 1 + (sdI P i (N.2.2 i) N.1 1).2.length ≤ 6 := by have := t0.1; simp at this; omega
  unfold kD
  rw [hP.2.2.2, has_r hp hq, cl_s]
  have fin : ∀ (D5 : Mm) (qq : Sq), hasB D5 b P ((sdI P q (N.2.2 q) (sdI P i (N.2.2 i) N.1 1).1 0).1, N.2.1, N.2.2) → frD D D5 b → hasT D5 0 ((nI i, 0) :: (sdI P i (N.2.2 i) N.1 1).2.map (fun p => (N.2.2 i).getD p d0)) → unT D5 0 (1 + (sdI P i (N.2.2 i) N.1 1).2.length) → hasT D5 1 (fs qq) → ownR D5 1 (nI q) (N.2.2 q) qq → fs qq = qSent P q (N.2.2 q) (sdI P q (N.2.2 q) (sdI P i (N.2.2 i) N.1 1).1 0).2 → pls qq = (sdI P q (N.2.2 q) (sdI P i (N.2.2 i) N.1 1).1 0).2 → ∃ D', kU b i q D5 = some (nI q, D') ∧ hasB D' b P (swp P N i q) ∧ frD D D' b := by
    intro D5 qq hB5 f5 t5 u5 v5 o5 hfs hpl
    obtain ⟨D', k1, k2, k3⟩ := kU_r (qi := [((nI i, 0), none)] ++ sq (N.2.2 i) (sdI P i (N.2.2 i) N.1 1).2) (qq := qq) hb hp hw2 hB5 (hasP_fr hP (f5.1 338 (by decide) (by decide) (by decide) (by decide) (by decide))) hi hq hiq (by rw [e1]; exact t5) v5 (ownR_sq (own1 (nI i)) u5 a2 a3 (inV_own (hw.2.1 i hi) h8 (by omega))) o5
    rw [hfs, hpl, e1, e2] at k2
    exact ⟨D', k1, k2, frD.tr f5 k3⟩
  cases hsq : P.2.2.2 q with
  | false =>
    rw [if_pos (show bI false = 0 from rfl), show (1 : Int32) = nI 1 from rfl]
    obtain ⟨D5, m1, m2, m3, m4, m5, m6, m7⟩ := sends_r (s := 1) (q0 := []) hb (by decide) hp hw1 hB hP hq t1 (fun k hk => by cases hk) (fun e _ => rfl) hsq
    rw [m1, cl_s]
    have hlen0 : ([] : Vw).length = 0 := rfl
    rw [hlen0] at m2 m3 m4
    refine fin D5 (sq (N.2.2 q) (sdI P q (N.2.2 q) (sdI P i (N.2.2 i) N.1 1).1 0).2) m2 m5 ⟨t0.1, by rw [m7 0 (by decide)]; exact t0.2.1, fun k hk => ?_⟩ (fun k hk => ?_) (by rw [fs_sq]; exact m3) ?_ ?_ (pls_sq _ _)
    · have hk6 : k < 6 := by have := t0.1; omega
      rw [(m6 (6 * 0 + k) (by omega)).1, (m6 (6 * 0 + k) (by omega)).2.1]; exact t0.2.2 k hk
    · rw [(m6 (6 * 0 + k) (by omega)).2.2]; exact u0 k hk
    · have := ownR_sq (D := D5) (s := 1) (t := nI q) (l := N.2.2 q) (ps := (sdI P q (N.2.2 q) (sdI P i (N.2.2 i) N.1 1).1 0).2) (q0 := []) (fun e he => by cases he) m4 b2 b3 (inV_own (hw.2.1 q hq) h8 (by omega))
      exact this
    · rw [fs_sq, qSent, if_neg (by rw [hsq]; decide)]
  | true =>
    rw [if_neg (show ¬ bI true = 0 by decide), show (1 : Int32) = nI 1 from rfl]
    obtain ⟨D5, m1, m2, m3, m4⟩ := send_r (s := 1) (q := []) (x := nI q) (g := 0) (by decide) t1 (fun k hk => by cases hk) (by decide)
    rw [m1, cl_s]
    have eB : sdI P q (N.2.2 q) (sdI P i (N.2.2 i) N.1 1).1 0 = ((sdI P i (N.2.2 i) N.1 1).1, []) := by unfold sdI; rw [if_pos hsq]
    have g339 : D5 339 = D 339 := m4.1 339 (by decide) (by decide) (by decide) (by decide)
    refine fin D5 [((nI q, 0), none)] (by rw [eB]; exact hasB_fr hB (fun j _ _ => by rw [g339])) ⟨fun z x1 x2 x3 x4 x5 => m4.1 z x2 x3 x4 x5, fun j _ => by rw [g339]⟩ ⟨t0.1, by rw [m4.2.2 0 (by decide)]; exact t0.2.1, fun k hk => ?_⟩ (fun k hk => ?_) m2 ?_ ?_ ?_
    · have hk6 : k < 6 := by have := t0.1; omega
      rw [(m4.2.1 (6 * 0 + k) (by omega)).1, (m4.2.1 (6 * 0 + k) (by omega)).2.1]; exact t0.2.2 k hk
    · rw [(m4.2.1 (6 * 0 + k) (by omega)).2.2]; exact u0 k hk
    · have := ownR_sq (D := D5) (s := 1) (t := nI q) (l := N.2.2 q) (ps := []) (q0 := [((nI q, 0), none)]) (own1 (nI q)) m3 List.nodup_nil (fun p hp => by cases hp) (inV_own (hw.2.1 q hq) h8 (by omega))
      exact this
    · rw [qSent, if_pos hsq]; rfl
    · rw [eB]; rfl
noncomputable def kV (b i q : Nat) (M4 : Mm) : Option Rst := cl (fX9_send (0 : Int32) (nI i) (0 : Int32) (up2 (up2 M4 348 (ix (0 : Int32)) (0 : Int32)) 348 (ix (1 : Int32)) (0 : Int32))) (fun _ M5 => cl (fX9_has (M5 338 4) (nI i) M5) (fun r6 M6 => if r6 = 0 then (cl (fX9_sends (nI b) (0 : Int32) (nI i) M6) (fun _ M14 => kD b i q M14)) else kD b i q M6))
theorem kV_r {D : Mm} {b i q : Nat} {P : Pq} {N : Nq} (hb : b ≤ 990) (hp : wfP P) (hw : wfN P N) (hi : i < P.1) (hq : q < P.1) (hiq : i ≠ q) (hB : hasB D b P N) (hP : hasP D P) :
    ∃ D', kV b i q D = some (nI q, D') ∧ hasB D' b P (swp P N i q) ∧ frD D D' b := by
  have h8 := hp.2.1
  unfold kV
  have i0 : ix (0 : Int32) = 0 := by decide
  have i1 : ix (1 : Int32) = 1 := by decide
  rw [i0, i1]
  have z0 : hasT (up2 (up2 D 348 0 0) 348 1 0) 0 [] := ⟨by simp, by rw [rd_j (by decide), up2_s]; rfl, fun k hk => by cases hk⟩
  obtain ⟨D5, m1, m2, m3, m4⟩ := send_r (s := 0) (q := []) (x := nI i) (g := 0) (by decide) z0 (fun k hk => by cases hk) (by decide)
  rw [show (0 : Int32) = nI 0 from rfl] at m1 ⊢
  rw [m1, cl_s]
  have g339 : D5 339 = D 339 := by rw [m4.1 339 (by decide) (by decide) (by decide) (by decide), up2_c (by decide), up2_c (by decide)]
  have g338 : D5 338 = D 338 := by rw [m4.1 338 (by decide) (by decide) (by decide) (by decide), up2_c (by decide), up2_c (by decide)]
  have hB5 : hasB D5 b P N := hasB_fr hB (fun j _ _ => by rw [g339])
  have hP5 : hasP D5 P := hasP_fr hP g338
  have t15 : hasT D5 1 [] := ⟨by simp, by rw [m4.2.2 1 (by decide), up2_s]; rfl, fun k hk => by cases hk⟩
  have f5 : frD D D5 b := ⟨fun z x1 x2 x3 x4 x5 => by rw [m4.1 z x2 x3 x4 x5, up2_c x4, up2_c x4], fun j _ => by rw [g339]⟩
  rw [hP5.2.2.2, has_r hp hi, cl_s]
  have own := inV_own (hw.2.1 i hi) h8 (by omega)
  cases hsi : P.2.2.2 i with
  | false =>
    rw [if_pos (show bI false = nI 0 from rfl)]
    obtain ⟨D6, k1, k2, k3, k4, k5, k6, k7⟩ := sends_r (s := 0) (j := i) (q0 := [(nI i, 0)]) hb (by decide) hp hw hB5 hP5 hi m2 m3 (fun e he => by
      cases hb2 : inV e.1 [(nI i, 0)] with
      | false => rfl
      | true =>
        obtain ⟨e2, h1, h2⟩ := inV_iff.mp hb2
        have z : e2 = (nI i, 0) := by simpa using h1
        rw [z] at h2
        exact absurd h2.symm (own e he)) hsi
    rw [k1, cl_s]
    have hl1 : ([(nI i, (0 : Int32))] : Vw).length = 1 := rfl
    rw [hl1] at k2 k3 k4
    obtain ⟨D', y1, y2, y3⟩ := kD_r hb hp hw hi hq hiq k2 (hasP_fr hP5 (k5.1 338 (by decide) (by decide) (by decide) (by decide) (by decide))) k3 k4 ⟨by simp, by rw [k7 1 (by decide)]; exact t15.2.1, fun k hk => by cases hk⟩
    exact ⟨D', y1, y2, frD.tr f5 (frD.tr k5 y3)⟩
  | true =>
    rw [if_neg (show ¬ bI true = nI 0 by decide)]
    have eA : sdI P i (N.2.2 i) N.1 1 = (N.1, []) := by unfold sdI; rw [if_pos hsi]
    obtain ⟨D', y1, y2, y3⟩ := kD_r hb hp hw hi hq hiq (by rw [eA]; exact hB5) hP5 (by rw [eA]; exact m2) (by rw [eA]; exact m3) t15
    exact ⟨D', y1, y2, frD.tr f5 y3⟩
theorem round_r {D : Mm} {b i : Nat} {P : Pq} {N : Nq} (hb : b ≤ 990) (hp : wfP P) (hw : wfN P N) (hB : hasB D b P N) (hP : hasP D P) (hi : i < P.1) :
    ∃ D', fX9_rounds (nI b) (nI i) D = some ((rnd P N i).1, D') ∧ hasB D' b P (rnd P N i).2 ∧ frD D D' b := by
  have h8 := hp.2.1
  unfold fX9_rounds
  have wv := hw.2.1 i hi
  have ok1 : ∀ e ∈ N.2.2 i, eOK e := fun e he => by obtain ⟨x, g, hx, -, hg, e1⟩ := wv.2.1 e he; exact ⟨x, g, by omega, hg, e1⟩
  have ok2 : ∀ e ∈ (N.2.2 i).map agd, eOK e := fun e he => by obtain ⟨x, g, hx, -, hg, e1⟩ := (wfV_agd wv).2.1 e he; exact ⟨x, g, by omega, hg, e1⟩
  obtain ⟨D1, g1, g2, g3⟩ := ages_r hb (by omega) (hB.2.2 i (by omega)) ok1
  rw [g1, cl_s, oldest_r hb (by omega) g2 ok2, cl_s]
  have hB1 := hasB_view hB (by omega) g2 g3.2
  have f1 : frD D D1 b := ⟨fun z x1 _ _ _ _ => g3.1 z x1, fun j hj => g3.2 j (by unfold ofV; omega)⟩
  cases ho : old ((N.2.2 i).map agd) with
  | none =>
    rw [rnd_none ho, if_pos (show oI none = -1 from rfl)]
    exact ⟨D1, rfl, hB1, f1⟩
  | some p =>
    have hpl := old_lt ho
    have hl5 := g2.1
    obtain ⟨q1, q2, q3⟩ := wfV_q hp wv hpl
    generalize hqe : ix (((N.2.2 i).map agd).getD p d0).1 = q at q1 q2 q3
    have hne : ¬ oI (some p) = -1 := nI_nm1 (by omega)
    rw [rnd_some ho hqe, if_neg hne, show oI (some p) = nI p from rfl]
    have hx : D1 339 (b + 10 + 5 * i + p) = nI q := by rw [(g2.2.2 p hpl).1, q3]
    have hidx : ((nI b + (10 : Int32)) + ((5 : Int32) * nI i)) + nI p = nI (b + 10 + 5 * i + p) := by rw [n10, n5, pk_mul, nI_add, nI_add, nI_add]
    rw [hidx, ix_nI (by omega), hx, gd_ok (by omega) (by omega)]
    obtain ⟨D2, k1, k2, k3⟩ := strike_r hb (by omega) g2 hpl
    rw [k1, cl_s]
    have e1 : va_up (va_up N.2.2 i ((N.2.2 i).map agd)) i (((N.2.2 i).map agd).eraseIdx p) = va_up N.2.2 i (((N.2.2 i).map agd).eraseIdx p) := bx_uu _ _ _ _
    have hB2 : hasB D2 b P (N.1, N.2.1, va_up N.2.2 i (((N.2.2 i).map agd).eraseIdx p)) := by
      have : hasB D2 b P (N.1, N.2.1, va_up (va_up N.2.2 i ((N.2.2 i).map agd)) i (((N.2.2 i).map agd).eraseIdx p)) := hasB_view hB1 (by omega) k2 k3.2
      rw [e1] at this; exact this
    have f2 : frD D D2 b := frD.tr f1 ⟨fun z x1 _ _ _ _ => k3.1 z x1, fun j hj => k3.2 j (by unfold ofV; omega)⟩
    have hP2 : hasP D2 P := hasP_fr hP (f2.1 338 (by decide) (by decide) (by decide) (by decide) (by decide))
    have hw2 : wfN P (N.1, N.2.1, va_up N.2.2 i (((N.2.2 i).map agd).eraseIdx p)) := wfN_up hw hi (wfV_del (wfV_agd wv) hpl)
    rw [isDead_r hb hp hB2 q1, cl_s]
    cases hdq : N.2.1 q with
    | true =>
      rw [if_neg (show ¬ bI true = 0 by decide)]
      refine ⟨D2, rfl, ?_, f2⟩
      simp only [if_true]
      exact hB2
    | false =>
      rw [if_pos (show bI false = 0 from rfl)]
      obtain ⟨D3, m1, m2, m3⟩ := kV_r hb hp hw2 hi q1 (fun e => q2 e.symm) hB2 hP2
      refine ⟨D3, m1, ?_, frD.tr f2 m3⟩
      simp only [Bool.false_eq_true, if_false]
      exact m2
