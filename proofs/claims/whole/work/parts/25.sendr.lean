/-! what a node sends, in the reference -/
def hasT (D : Mm) (s : Nat) (q : Vw) : Prop := q.length ≤ 6 ∧ D 348 s = nI q.length ∧ ∀ k, k < q.length → D 346 (6 * s + k) = (q.getD k d0).1 ∧ D 347 (6 * s + k) = (q.getD k d0).2
def unT (D : Mm) (s n : Nat) : Prop := ∀ k, k < n → D 349 (6 * s + k) = 0
def frT (D D' : Mm) (s : Nat) : Prop := (∀ c, c ≠ 346 → c ≠ 347 → c ≠ 348 → c ≠ 349 → D' c = D c) ∧ (∀ j, j < 6 * s ∨ 6 * s + 6 ≤ j → D' 346 j = D 346 j ∧ D' 347 j = D 347 j ∧ D' 349 j = D 349 j) ∧ ∀ j, j ≠ s → D' 348 j = D 348 j
theorem frT.rf {D : Mm} {s : Nat} : frT D D s := ⟨fun _ _ _ _ _ => rfl, fun _ _ => ⟨rfl, rfl, rfl⟩, fun _ _ => rfl⟩
theorem frT.tr {D D1 D2 : Mm} {s : Nat} (h : frT D D1 s) (g : frT D1 D2 s) : frT D D2 s :=
  ⟨fun c x y z w => (g.1 c x y z w).trans (h.1 c x y z w), fun j x => ⟨((g.2.1 j x).1).trans (h.2.1 j x).1, ((g.2.1 j x).2.1).trans (h.2.1 j x).2.1, ((g.2.1 j x).2.2).trans (h.2.1 j x).2.2⟩, fun j x => (g.2.2 j x).trans (h.2.2 j x)⟩
theorem send_r {D : Mm} {s : Nat} {q : Vw} {x g : Int32} (hs : s < 2) (h : hasT D s q) (hu : unT D s q.length) (hl : q.length < 6) : ∃ D', fX9_send (nI s) x g D = some (0, D') ∧ hasT D' s (q ++ [(x, g)]) ∧ unT D' s (q.length + 1) ∧ frT D D' s := by
  obtain ⟨h6, h1, hk⟩ := h
  unfold fX9_send
  simp (disch := omega) only [n6, pk_mul, gd_ok, ix_nI, h1, nI_add, rd_c, nI_1]
  refine ⟨_, rfl, ⟨by simp; omega, by rw [up2_s]; simp, fun k hk2 => ?_⟩, fun k hk2 => ?_, ⟨fun c x y z w => by rw [up2_c z, up2_c w, up2_c y, up2_c x], fun j hj => ?_, fun j hj => ?_⟩⟩
  · have hk3 : k < q.length + 1 := by simpa using hk2
    rw [gD_app]
    by_cases h7 : k < q.length
    · simp (disch := omega) only [if_pos h7, rd_c, rd_j]
      exact hk k h7
    · have h8 : k = q.length := by omega
      subst h8
      simp (disch := omega) only [if_neg h7, rd_c, up2_s, if_true]
      exact ⟨trivial, trivial⟩
  · by_cases h7 : k < q.length
    · simp (disch := omega) only [rd_c, rd_j]
      exact hu k h7
    · have h8 : k = q.length := by omega
      subst h8
      simp (disch := omega) only [rd_c, up2_s]
  · simp (disch := omega) only [rd_c, rd_j]
    exact ⟨trivial, trivial, trivial⟩
  · simp (disch := omega) only [rd_c, rd_j]
theorem isSent_run {D : Mm} {s : Nat} {q : Vw} {x : Int32} (hs : s < 2) (h : hasT D s q) : ∀ d k (r : Bool), k + d = q.length → run stX9_isSent (1, [], [nI s, x, bI r, nI k], D) = some (bI (r || inV x (q.drop k)), D) := by
  obtain ⟨h6, h1, hk⟩ := h
  intro d
  induction d with
  | zero =>
    intro k r e
    rw [eX9_isSent_1]
    simp (disch := omega) only [n6, pk_mul, gd_ok, ix_nI, h1, nI_add]
    rw [if_pos (nI_le (by omega) (by omega)), gd_t (okZ_bI r), List.drop_eq_nil_of_le (by omega)]
    simp [inV]
  | succ d ih =>
    intro k r e
    rw [eX9_isSent_1]
    simp (disch := omega) only [n6, pk_mul, gd_ok, ix_nI, h1, nI_add, nI_1]
    rw [if_neg (nI_ge (by omega) (by omega)), (hk k (by omega)).1, drop_cons (by omega : k < q.length)]
    have e1 : ∀ b : Bool, run stX9_isSent (1, [], [nI s, x, bI b, nI (k + 1)], D) = some (bI (b || inV x (q.drop (k + 1))), D) := fun b => ih (k + 1) b (by omega)
    have et := e1 true
    have ef := e1 false
    have et' : run stX9_isSent (1, [], [nI s, x, (1 : Int32), nI (k + 1)], D) = some (bI true, D) := by rw [Bool.true_or] at et; exact et
    have ef' : run stX9_isSent (1, [], [nI s, x, (0 : Int32), nI (k + 1)], D) = some (bI (inV x (q.drop (k + 1))), D) := by rw [Bool.false_or] at ef; exact ef
    cases r with
    | true => rw [if_neg (show ¬ bI true = 0 by decide), et']; simp
    | false =>
      rw [if_pos (show bI false = 0 from rfl), et', ef']
      by_cases hx : (q.getD k d0).1 = x
      · rw [if_pos hx]
        have hx2 : ((q.getD k d0).1 == x) = true := by simpa using hx
        simp only [inV, List.any_cons, hx2, Bool.true_or, Bool.false_or]
      · rw [if_neg hx]
        have hx2 : ((q.getD k d0).1 == x) = false := by simpa using hx
        simp only [inV, List.any_cons, hx2, Bool.false_or]
theorem isSent_r {D : Mm} {s : Nat} {q : Vw} (x : Int32) (hs : s < 2) (h : hasT D s q) : fX9_isSent (nI s) x D = some (bI (inV x q), D) := by
  unfold fX9_isSent
  rw [eX9_isSent_0]
  have := isSent_run (x := x) hs h q.length 0 false (by omega)
  rw [Bool.false_or, List.drop_zero] at this
  exact this
/-- whether a place of the view is sent, by its node -/
theorem sent_iff {l q0 : Vw} {ps : List Nat} {p : Nat} (hd : dst l) (h0 : ∀ e ∈ l, inV e.1 q0 = false) (hps : ∀ p ∈ ps, p < l.length) (hp : p < l.length) : inV (l.getD p d0).1 (q0 ++ ps.map (fun p => l.getD p d0)) = ps.contains p := by
  have e1 : inV (l.getD p d0).1 (q0 ++ ps.map (fun p => l.getD p d0)) = (inV (l.getD p d0).1 q0 || inV (l.getD p d0).1 (ps.map (fun p => l.getD p d0))) := by simp [inV, List.any_append]
  rw [e1, h0 _ (gD_mem hp), Bool.false_or]
  apply Bool.eq_iff_iff.mpr
  rw [inV_iff, List.contains_iff_mem]
  constructor
  · rintro ⟨e, h1, h2⟩
    obtain ⟨r, h3, rfl⟩ := List.mem_map.mp h1
    have := hd r p (hps r h3) hp h2
    subst this
    exact h3
  · intro h
    exact ⟨l.getD p d0, List.mem_map.mpr ⟨p, h, rfl⟩, rfl⟩
theorem find_run {D : Mm} {b s i : Nat} {l q : Vw} {f : Nat → Bool} {x4 : Int32} (hb : b ≤ 990) (hs : s < 2) (hi : i < 8) (hR : hasR D b i l) (hT : hasT D s q) (hf : ∀ p, p < l.length → inV (l.getD p d0).1 q = f p) :
    ∀ d k w p, k + d = l.length → w < 2 ^ 31 → kth f d k w = some p → run stX9_sends (2, [], [nI b, nI s, nI i, x4, nI w, nI k], D) = run stX9_sends (2, [], [nI b, nI s, nI i, x4, nI 0, nI p], D) := by
  obtain ⟨h5, h1, hk⟩ := hR
  intro d
  induction d with
  | zero => intro k w p e hw h; cases h
  | succ d ih =>
    intro k w p e hw h
    have step : run stX9_sends (3, [], [nI b, nI s, nI i, x4, nI w, nI k], D) = if f k then run stX9_sends (2, [], [nI b, nI s, nI i, x4, nI w, nI (k + 1)], D) else run stX9_sends (2, [], [nI b, nI s, nI i, x4, nI w - 1, nI (k + 1)], D) := by
      rw [eX9_sends_3]
      simp (disch := omega) only [n5, n10, pk_mul, nI_add, gd_ok, ix_nI, nI_1]
      rw [(hk k (by omega)).1, isSent_r _ hs hT, cl_s, hf k (by omega)]
      cases f k with
      | true => rw [if_neg (show ¬ bI true = 0 by decide), if_pos rfl, n0, pk_sub (Nat.zero_le w)]; rfl
      | false => rw [if_pos (show bI false = 0 from rfl), if_neg (by decide)]
    rw [kth] at h
    by_cases hw0 : w = 0
    · subst hw0
      cases hfk : f k with
      | true =>
        rw [hfk, if_pos rfl] at h
        rw [eX9_sends_2]
        simp (disch := omega) only [n5, n10, pk_mul, nI_add, gd_ok, ix_nI, nI_1]
        rw [if_neg (show ¬ (0 : Int32) < nI 0 by decide), (hk k (by omega)).1, isSent_r _ hs hT, cl_s, hf k (by omega), hfk, if_neg (show ¬ bI true = 0 by decide), step, hfk, if_pos rfl]
        exact ih (k + 1) 0 p (by omega) (by omega) h
      | false =>
        rw [hfk, if_neg (by decide), if_pos rfl] at h
        cases h
        rfl
    · rw [eX9_sends_2, if_pos (by rw [n0]; exact nI_lt (by omega) hw), step]
      rw [if_neg hw0] at h
      cases hfk : f k with
      | true =>
        rw [hfk, if_pos rfl] at h
        rw [if_pos rfl]
        exact ih (k + 1) w p (by omega) hw h
      | false =>
        rw [hfk, if_neg (by decide)] at h
        rw [if_neg (by decide), n1, pk_sub (by omega)]
        exact ih (k + 1) (w - 1) p (by omega) (by omega) h
/-- the reference sends -/
theorem sends_run {b s i sl : Nat} {l q0 : Vw} (hb : b ≤ 990) (hs : s < 2) (hi : i < 8) (hl5 : l.length ≤ 5) (hsl : sl ≤ 5) (hd : dst l) (h0 : ∀ e ∈ l, inV e.1 q0 = false) :
    ∀ left dr ps, dr < 65537 → (∀ p ∈ ps, p < l.length) → cnt (fun p => ps.contains p) l.length 0 = left → ∀ (D : Mm), D 338 3 = nI sl → D 339 b = nI dr → hasR D b i l → hasT D s (q0 ++ ps.map (fun p => l.getD p d0)) → unT D s (q0.length + ps.length) →
    ∃ D', run stX9_sends (1, [], [nI b, nI s, nI i, nI left], D) = some (0, D') ∧ D' 339 b = nI (sndF l.length sl left dr ps (q0.length + ps.length)).1 ∧ hasT D' s (q0 ++ (sndF l.length sl left dr ps (q0.length + ps.length)).2.map (fun p => l.getD p d0)) ∧ unT D' s (q0.length + (sndF l.length sl left dr ps (q0.length + ps.length)).2.length) ∧ frT (fun c => if c = 339 then D' 339 else D c) D' s ∧ ∀ j, j ≠ b → D' 339 j = D 339 j := by
  intro left
  induction left with
  | zero =>
    intro dr ps hdr hps hc D h3 h4 hR hT hU
    rw [eX9_sends_1, if_pos (show nI 0 ≤ 0 by decide)]
    refine ⟨D, rfl, h4, hT, hU, ?_, fun _ _ => rfl⟩
    have : (fun c => if c = 339 then D 339 else D c) = D := by funext c; split <;> simp_all
    rw [this]; exact frT.rf
  | succ left ih =>
    intro dr ps hdr hps hc D h3 h4 hR hT hU
    have hq : (q0 ++ ps.map (fun p => l.getD p d0)).length = q0.length + ps.length := by simp
    have hq6 : q0.length + ps.length ≤ 6 := by rw [← hq]; exact hT.1
    rw [eX9_sends_1, if_neg (nI_nle (by omega) (by
      have : ∀ (f : Nat → Bool) d k, cnt f d k ≤ d := by
        intro f d
        induction d with
        | zero => intro k; simp [cnt]
        | succ d ih => intro k; rw [cnt]; have := ih (k + 1); split <;> omega
      have := this (fun p => ps.contains p) l.length 0
      omega))]
    simp (disch := omega) only [gd_ok, ix_nI, h3, hT.2.1, hq]
    rw [sndF]
    by_cases hk : q0.length + ps.length < sl
    · have hw : nxt dr / 2 % (left + 1) < left + 1 := Nat.mod_lt _ (by omega)
      obtain ⟨p, hp1, -, hp2, hp3⟩ := kth_some l.length 0 (nxt dr / 2 % (left + 1)) (by rw [hc]; exact hw)
      rw [Nat.zero_add] at hp2
      have hcl : left + 1 < 2 ^ 31 := by
        have : ∀ (f : Nat → Bool) d k, cnt f d k ≤ d := by
          intro f d
          induction d with
          | zero => intro k; simp [cnt]
          | succ d ih => intro k; rw [cnt]; have := ih (k + 1); split <;> omega
        have := this (fun p => ps.contains p) l.length 0
        omega
      rw [if_neg (nI_ge hk (by omega)), if_pos hk, draw_r hb hdr h4 (by omega) hcl, cl_s, hp1]
      have hR1 : hasR (up2 D 339 b (nI (nxt dr))) b i l := ⟨hR.1, by rw [rd_j (by omega)]; exact hR.2.1, fun k hk => by rw [rd_j (by omega), rd_j (by omega)]; exact hR.2.2 k hk⟩
      have hT1 : hasT (up2 D 339 b (nI (nxt dr))) s (q0 ++ ps.map (fun p => l.getD p d0)) := ⟨hT.1, by rw [rd_c (by omega)]; exact hT.2.1, fun k hk => by rw [rd_c (by omega), rd_c (by omega)]; exact hT.2.2 k hk⟩
      have hU1 : unT (up2 D 339 b (nI (nxt dr))) s (q0 ++ ps.map (fun p => l.getD p d0)).length := fun k hk => by rw [rd_c (by omega)]; exact hU k (by rw [hq] at hk; exact hk)
      have hf : ∀ r, r < l.length → inV (l.getD r d0).1 (q0 ++ ps.map (fun p => l.getD p d0)) = ps.contains r := fun r hr => sent_iff hd h0 hps hr
      rw [n0, find_run hb hs hi hR1 hT1 hf l.length 0 _ p (by omega) (by omega) hp1, eX9_sends_2]
      simp (disch := omega) only [n5, n10, n50, pk_mul, nI_add, gd_ok, ix_nI, nI_1]
      rw [if_neg (show ¬ (0 : Int32) < nI 0 by decide), (hR1.2.2 p hp2).1, isSent_r _ hs hT1, cl_s, hf p hp2]
      have hp3' : ps.contains p = false := hp3
      obtain ⟨D2, g1, g2, g3, g4⟩ := send_r (x := (l.getD p d0).1) (g := (l.getD p d0).2) hs hT1 hU1 (by rw [hq]; omega)
      rw [hp3', if_pos (show bI false = 0 from rfl), (hR1.2.2 p hp2).1, (hR1.2.2 p hp2).2, g1, cl_s, show nI (left + 1) + (-1 : Int32) = nI left from pk_m1 left]
      have hc2 : cnt (fun q => (ps ++ [p]).contains q) l.length 0 = left := by
        have := cnt_add (f := fun q => ps.contains q) (g := fun q => (ps ++ [p]).contains q) (q := p) (fun q => contains_app ps q p) hp3 l.length 0 (by omega) (by omega)
        omega
      have e3 : q0.length + (ps ++ [p]).length = q0.length + ps.length + 1 := by simp; omega
      have g339 : D2 339 = up2 D 339 b (nI (nxt dr)) 339 := g4.1 339 (by omega) (by omega) (by omega) (by omega)
      have hT2 : hasT D2 s (q0 ++ (ps ++ [p]).map (fun p => l.getD p d0)) := by
        have : q0 ++ (ps ++ [p]).map (fun p => l.getD p d0) = q0 ++ ps.map (fun p => l.getD p d0) ++ [((l.getD p d0).1, (l.getD p d0).2)] := by simp
        rw [this]; exact g2
      obtain ⟨D', k1, k2, k3, k4, k5, k6⟩ := ih (nxt dr) (ps ++ [p]) (nxt_lt dr) (fun r hr => by
          rcases List.mem_append.mp hr with h | h
          · exact hps r h
          · simp at h; subst h; exact hp2) hc2 D2 (by rw [g4.1 338 (by omega) (by omega) (by omega) (by omega), rd_c (by omega)]; exact h3) (by rw [g339, up2_s]) ⟨hR1.1, by rw [g339]; exact hR1.2.1, fun k hk => by rw [g339]; exact hR1.2.2 k hk⟩ hT2 (by rw [e3]; rw [hq] at g3; exact g3)
      rw [e3] at k2 k3 k4
      refine ⟨D', k1, k2, k3, k4, ⟨fun c x y z w => ?_, fun j hj => ?_, fun j hj => ?_⟩, fun j hj => ?_⟩
      · have := k5.1 c x y z w
        rw [this]
        by_cases e : c = 339
        · simp [e]
        · simp only [e, if_false]
          rw [g4.1 c x y z w, up2_c e]
      · obtain ⟨a1, a2, a3⟩ := k5.2.1 j hj
        obtain ⟨b1, b2, b3⟩ := g4.2.1 j hj
        simp only [show ¬ (346 = 339) by decide, show ¬ (347 = 339) by decide, show ¬ (349 = 339) by decide, if_false] at a1 a2 a3 ⊢
        rw [a1, a2, a3, b1, b2, b3, rd_c (by omega), rd_c (by omega), rd_c (by omega)]
        exact ⟨rfl, rfl, rfl⟩
      · have a1 := k5.2.2 j hj
        simp only [show ¬ (348 = 339) by decide, if_false] at a1 ⊢
        rw [a1, g4.2.2 j hj, rd_c (by omega)]
      · rw [k6 j hj, g339, rd_j hj]
    · rw [if_pos (nI_le (by omega) (by omega)), if_neg hk]
      refine ⟨D, rfl, h4, hT, hU, ?_, fun _ _ => rfl⟩
      have : (fun c => if c = 339 then D 339 else D c) = D := by funext c; split <;> simp_all
      rw [this]; exact frT.rf
