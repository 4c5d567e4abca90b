/-! a round, as a spec -/
def sdI (P : Pq) (i : Nat) (l : Vw) (dr k : Nat) : Nat × List Nat := if P.2.2.2 i then (dr, []) else sndF l.length P.2.2.1 l.length dr [] k
def qSent (P : Pq) (q : Nat) (l : Vw) (ps : List Nat) : Vw := if P.2.2.2 q then [(nI q, 0)] else ps.map (fun p => l.getD p d0)
def swp (P : Pq) (N : Nq) (i q : Nat) : Nq :=
  ((sdI P q (N.2.2 q) (sdI P i (N.2.2 i) N.1 1).1 0).1, N.2.1,
    va_up (va_up N.2.2 q (tkF (nI q) P.2.1 ((nI i, 0) :: (sdI P i (N.2.2 i) N.1 1).2.map (fun p => (N.2.2 i).getD p d0)) (N.2.2 q) (sdI P q (N.2.2 q) (sdI P i (N.2.2 i) N.1 1).1 0).2)) i
      (tkF (nI i) P.2.1 (qSent P q (N.2.2 q) (sdI P q (N.2.2 q) (sdI P i (N.2.2 i) N.1 1).1 0).2) (N.2.2 i) (sdI P i (N.2.2 i) N.1 1).2))
def rnd (P : Pq) (N : Nq) (i : Nat) : Int32 × Nq := match old ((N.2.2 i).map agd) with
  | none => (-1, (N.1, N.2.1, va_up N.2.2 i ((N.2.2 i).map agd)))
  | some p => (nI (ix (((N.2.2 i).map agd).getD p d0).1), if N.2.1 (ix (((N.2.2 i).map agd).getD p d0).1) then (N.1, N.2.1, va_up N.2.2 i (((N.2.2 i).map agd).eraseIdx p)) else swp P (N.1, N.2.1, va_up N.2.2 i (((N.2.2 i).map agd).eraseIdx p)) i (ix (((N.2.2 i).map agd).getD p d0).1))
theorem rnd_none {P : Pq} {N : Nq} {i : Nat} (h : old ((N.2.2 i).map agd) = none) : rnd P N i = (-1, (N.1, N.2.1, va_up N.2.2 i ((N.2.2 i).map agd))) := by unfold rnd; rw [h]
theorem rnd_some {P : Pq} {N : Nq} {i p q : Nat} (h : old ((N.2.2 i).map agd) = some p) (hq : ix (((N.2.2 i).map agd).getD p d0).1 = q) : rnd P N i = (nI q, if N.2.1 q then (N.1, N.2.1, va_up N.2.2 i (((N.2.2 i).map agd).eraseIdx p)) else swp P (N.1, N.2.1, va_up N.2.2 i (((N.2.2 i).map agd).eraseIdx p)) i q) := by unfold rnd; rw [h]; simp only [hq]
/-! which places are sent -/
theorem sndF_ok {s sl : Nat} : ∀ left dr ps k, dr < 65537 → ps.Nodup → (∀ p ∈ ps, p < s) → (sndF s sl left dr ps k).1 < 65537 ∧ (sndF s sl left dr ps k).2.Nodup ∧ ∀ p ∈ (sndF s sl left dr ps k).2, p < s := by
  intro left
  induction left with
  | zero => intro dr ps k h1 h2 h3; exact ⟨h1, h2, h3⟩
  | succ left ih =>
    intro dr ps k h1 h2 h3
    rw [sndF]
    by_cases hk : k < sl
    · rw [if_pos hk]
      cases hg : kth (fun p => ps.contains p) s 0 (nxt dr / 2 % (left + 1)) with
      | none => exact ⟨h1, h2, h3⟩
      | some p =>
        have hp : p < s ∧ ps.contains p = false := by
          have key : ∀ (f : Nat → Bool) d k w r, kth f d k w = some r → r < k + d ∧ f r = false := by
            intro f d
            induction d with
            | zero => intro k w r h; cases h
            | succ d ih2 =>
              intro k w r h
              rw [kth] at h
              by_cases hf : f k = true
              · rw [if_pos hf] at h
                obtain ⟨x1, x2⟩ := ih2 (k + 1) w r h
                exact ⟨by omega, x2⟩
              · rw [if_neg hf] at h
                by_cases hw : w = 0
                · rw [if_pos hw] at h
                  have e1 : k = r := Option.some.inj h
                  rw [← e1]
                  exact ⟨by omega, by simpa using hf⟩
                · rw [if_neg hw] at h
                  obtain ⟨x1, x2⟩ := ih2 (k + 1) (w - 1) r h
                  exact ⟨by omega, x2⟩
          obtain ⟨x1, x2⟩ := key _ _ _ _ _ hg
          exact ⟨by omega, x2⟩
        refine ih (nxt dr) (ps ++ [p]) (k + 1) (nxt_lt dr) ?_ ?_
        · rw [List.nodup_append]
          refine ⟨h2, by simp, fun x hx y hy e => ?_⟩
          have e2 : y = p := by simpa using hy
          have : ps.contains p = true := List.contains_iff_mem.mpr (by rw [← e2, ← e]; exact hx)
          rw [hp.2] at this
          cases this
        · intro x hx
          rcases List.mem_append.mp hx with h | h
          · exact h3 x h
          · have e2 : x = p := by simpa using h
            rw [e2]; exact hp.1
    · rw [if_neg hk]; exact ⟨h1, h2, h3⟩
theorem sdI_ok {P : Pq} {i : Nat} {l : Vw} {dr k : Nat} (h : dr < 65537) : (sdI P i l dr k).1 < 65537 ∧ (sdI P i l dr k).2.Nodup ∧ ∀ p ∈ (sdI P i l dr k).2, p < l.length := by
  unfold sdI
  by_cases hs : P.2.2.2 i = true
  · rw [if_pos hs]; exact ⟨h, List.nodup_nil, fun p hp => by cases hp⟩
  · rw [if_neg hs]; exact sndF_ok l.length dr [] k h List.nodup_nil (fun p hp => by cases hp)
/-! the class -/
def frC (C C' : Mm) (a : Nat) : Prop := ∀ z, (z < 7 ∨ 15 ≤ z) → (z < a ∨ a + 26 ≤ z) → C' z = C z
theorem frC.rf {C : Mm} {a : Nat} : frC C C a := fun _ _ _ => rfl
theorem frC.tr {C C1 C2 : Mm} {a : Nat} (h : frC C C1 a) (g : frC C1 C2 a) : frC C C2 a := fun z x y => (g z x y).trans (h z x y)
theorem hasN_view {C C' : Mm} {a i : Nat} {P : Pq} {N : Nq} {l : Vw} (hN : hasN C a P N) (hi : i < 8) (ha : 26 ≤ a) (hV : hasV C' (a + 2 + 3 * i) l) (hf : ∀ z, z ≠ a + 2 + 3 * i → z ≠ a + 2 + 3 * i + 1 → z ≠ a + 2 + 3 * i + 2 → 15 ≤ z → C' z = C z) : hasN C' a P (N.1, N.2.1, va_up N.2.2 i l) := by
  obtain ⟨h1, h2, h3, h4, h5, h6, h7⟩ := hN
  have e := hf a (by omega) (by omega) (by omega) (by omega)
  refine ⟨by rw [e]; exact h1, by rw [e]; exact h2, by rw [e]; exact h3, by rw [e]; exact h4, by rw [e]; exact h5, by rw [e]; exact h6, fun j hj => ?_⟩
  by_cases hij : j = i
  · rw [hij]
    show hasV C' (a + 2 + 3 * i) (va_up N.2.2 i l i)
    rw [va_up_self]; exact hV
  · show hasV C' (a + 2 + 3 * j) (va_up N.2.2 i l j)
    rw [va_up_ne _ _ hij]
    exact hasV_fr (h7 j hj) (hf _ (by omega) (by omega) (by omega) (by omega)) (hf _ (by omega) (by omega) (by omega) (by omega)) (hf _ (by omega) (by omega) (by omega) (by omega))
theorem hasN_fr {C C' : Mm} {a : Nat} {P : Pq} {N : Nq} (hN : hasN C a P N) (hf : ∀ z, a ≤ z → z < a + 26 → C' z = C z) : hasN C' a P N := by
  obtain ⟨h1, h2, h3, h4, h5, h6, h7⟩ := hN
  have e := hf a (by omega) (by omega)
  exact ⟨by rw [e]; exact h1, by rw [e]; exact h2, by rw [e]; exact h3, by rw [e]; exact h4, by rw [e]; exact h5, by rw [e]; exact h6, fun j hj => hasV_fr (h7 j hj) (hf _ (by omega) (by omega)) (hf _ (by omega) (by omega)) (hf _ (by omega) (by omega))⟩
theorem pls_sq (l : Vw) (ps : List Nat) : pls (sq l ps) = ps := by
  induction ps with
  | nil => rfl
  | cons p ps ih =>
    have e : pls (sq l (p :: ps)) = p :: pls (sq l ps) := rfl
    rw [e, ih]
theorem fs_sq (l : Vw) (ps : List Nat) : fs (sq l ps) = ps.map (fun p => l.getD p d0) := by simp [fs, sq]
theorem smallQ_sq {l : Vw} {ps : List Nat} {q0 : Sq} (h0 : ∀ e ∈ q0, e.2 = none) (hl : l.length ≤ 5) (hp : ∀ p ∈ ps, p < l.length) : smallQ (q0 ++ sq l ps) := by
  intro k hk p hpk
  have hm : (q0 ++ sq l ps).getD k e0 ∈ q0 ++ sq l ps := by
    rw [List.getD_eq_getElem?_getD, List.getElem?_eq_getElem hk]; exact List.getElem_mem hk
  rcases List.mem_append.mp hm with h | h
  · rw [h0 _ h] at hpk; cases hpk
  · obtain ⟨r, hr, he⟩ := List.mem_map.mp (show (q0 ++ sq l ps).getD k e0 ∈ ps.map (fun p => (l.getD p d0, some p)) from h)
    have e1 : r = p := by
      have e2 : ((l.getD r d0, some r) : (Int32 × Int32) × Option Nat).2 = some p := by rw [he]; exact hpk
      exact Option.some.inj e2
    have := hp r hr
    omega
theorem drawn_c {C : Mm} {a s j : Nat} {P : Pq} {N : Nq} {q0 : Sq} (hs : s = 7 ∨ s = 11) (ha : 26 ≤ a) (hp : wfP P) (hdr : N.1 < 65537) (hN : hasN C a P N) (hj : j < 8) (hS : hasS C s q0) (hsly : P.2.2.2 j = false) :
    ∃ C', fX4_putDrawn s a (a + 2 + 3 * j) C = some (0, C') ∧ hasN C' a P ((sdI P j (N.2.2 j) N.1 q0.length).1, N.2.1, N.2.2) ∧ hasS C' s (q0 ++ sq (N.2.2 j) (sdI P j (N.2.2 j) N.1 q0.length).2) ∧ ∀ z, z ≠ s → z ≠ s + 1 → z ≠ s + 2 → z ≠ s + 3 → z ≠ a → C' z = C z := by
  obtain ⟨h1, h2, h3, h4, h5, h6, h7⟩ := hN
  obtain ⟨p1, p2, p3, p4, p5, p6⟩ := hp
  have hV := h7 j hj
  unfold fX4_putDrawn sdI
  rw [if_neg (by rw [hsly]; decide), eX4_putDrawn_0, hV.2.1, n0]
  obtain ⟨C', k1, k2, k3, k4, k5⟩ := drawn_run (a := a) (s := s) (v := a + 2 + 3 * j) (sl := P.2.2.1) (l := N.2.2 j) (q0 := q0) hs ha (by omega) hV.1 (by omega) (N.2.2 j).length N.1 [] hdr (by
      have : (fun p => ([] : List Nat).contains p) = fun _ => false := by funext p; rfl
      rw [this, cnt_0]) C 0 (by decide) (fun p _ => by simp) h3 h4 hV (by simpa [sq] using hS)
  rw [List.length_nil, Nat.add_zero] at k2 k3
  refine ⟨C', k1, ⟨by rw [k5 1 (by decide)]; exact h1, by rw [k5 2 (by decide)]; exact h2, by rw [k5 3 (by decide)]; exact h3, k2, by rw [k5 5 (by decide)]; exact h5, by rw [k5 6 (by decide)]; exact h6, fun i hi => ?_⟩, k3, k4⟩
  exact hasV_fr (h7 i hi) (k4 _ (by omega) (by omega) (by omega) (by omega) (by omega)) (k4 _ (by omega) (by omega) (by omega) (by omega) (by omega)) (k4 _ (by omega) (by omega) (by omega) (by omega) (by omega))
theorem take_c {C : Mm} {a h o t : Nat} {P : Pq} {N : Nq} {q qo : Sq} (ho : (h = 7 ∧ o = 11) ∨ (h = 11 ∧ o = 7)) (ha : 26 ≤ a) (hp : wfP P) (hN : hasN C a P N) (ht : t < P.1) (hS : hasS C h q) (hO : hasS C o qo) (hs : smallQ qo) :
    ∃ C', fX5_takeAll a (nI t) h o C = some (0, C') ∧ hasN C' a P (N.1, N.2.1, va_up N.2.2 t (tkF (nI t) P.2.1 (fs q) (N.2.2 t) (pls qo))) ∧ (∃ q2, hasS C' o q2 ∧ fs q2 = fs qo) ∧ ∀ z, z ≠ a + 2 + 3 * t → z ≠ a + 2 + 3 * t + 1 → z ≠ a + 2 + 3 * t + 2 → z ≠ o + 3 → C' z = C z := by
  have hp' := hp
  obtain ⟨p1, p2, p3, p4, p5, p6⟩ := hp
  unfold fX5_takeAll
  rw [eX5_takeAll_0, has_c hp' hN, cl_s, okI_nI ht (by omega), if_neg (show ¬ bI true = 0 by decide), gd_ok (by omega) (by omega), ix_nI (by omega), n0]
  obtain ⟨C', k1, k2, k0, k3⟩ := take_run (a := a) (h := h) (o := o) (v := a + 2 + 3 * t) (c := P.2.1) (t := nI t) (q := q) ho ha (by omega) (by omega) q.length 0 (by omega) C (N.2.2 t) qo hN.2.1 (hN.2.2.2.2.2.2 t (by omega)) hS hO hs
  rw [List.drop_zero] at k2
  exact ⟨C', k1, hasN_view hN (by omega) ha k2 (fun z x1 x2 x3 x4 => k3 z x1 x2 x3 (by omega)), k0, k3⟩
noncomputable def kT (a : Nat) (x2 x3 : Int32) (M : Mm) : Option Rst := cl (fX5_takeAll a x3 7 11 M) (fun _ M8 => cl (fX5_takeAll a x2 11 7 M8) (fun _ M9 => some ((0 : Int32), M9)))
noncomputable def kC (a : Nat) (x2 x3 : Int32) (M : Mm) : Option Rst := cl (fX4_clear 11 M) (fun _ M5 => cl (fX1_isSly a x3 M5) (fun r6 M6 => if r6 = 0 then (gd (okI x3 8) (cl (fX4_putDrawn 11 a (a + 2 + 3 * ix (x3)) M6) (fun _ M7 => kT a x2 x3 M7))) else (cl (fX4_putItself 11 x3 M6) (fun _ M10 => kT a x2 x3 M10))))
theorem swap_eq (a : Nat) (x2 x3 : Int32) (M : Mm) : fX5_swap a x2 x3 M = cl (fX1_hasTwo a x2 x3 M) (fun r1 M1 => if r1 = 0 then (some ((0 : Int32), M1)) else (cl (fX4_clear 7 M1) (fun _ M2 => cl (fX4_putItself 7 x2 M2) (fun _ M3 => cl (fX1_isSly a x2 M3) (fun r4 M4 => if r4 = 0 then (gd (okI x2 8) (cl (fX4_putDrawn 7 a (a + 2 + 3 * ix (x2)) M4) (fun _ M13 => kC a x2 x3 M13))) else kC a x2 x3 M4))))) := rfl
theorem itself_c {C : Mm} {s : Nat} {x : Int32} (h : hasS C s []) : ∃ C', fX4_putItself s x C = some (0, C') ∧ hasS C' s [((x, 0), none)] ∧ frS C C' s := by
  obtain ⟨C', g1, g2, g3⟩ := sput_c (x := x) (g := 0) none h (by decide)
  unfold fX4_putItself
  rw [show (-1 : Int32) = oI none from rfl, g1, cl_s]
  exact ⟨C', rfl, g2, g3⟩
/-- both take -/
theorem kT_c {C : Mm} {a i q : Nat} {P : Pq} {N : Nq} {qi qq : Sq} (ha : 26 ≤ a) (hp : wfP P) (hN : hasN C a P N) (hi : i < P.1) (hq : q < P.1) (hiq : i ≠ q) (h7 : hasS C 7 qi) (h11 : hasS C 11 qq) (s7 : smallQ qi) (s11 : smallQ qq) :
    ∃ C', kT a (nI i) (nI q) C = some (0, C') ∧ hasN C' a P (N.1, N.2.1, va_up (va_up N.2.2 q (tkF (nI q) P.2.1 (fs qi) (N.2.2 q) (pls qq))) i (tkF (nI i) P.2.1 (fs qq) (N.2.2 i) (pls qi))) ∧ frC C C' a := by
  have h8 := hp.2.1
  obtain ⟨C1, g1, g2, ⟨q2, hq2, hfs⟩, g3⟩ := take_c (h := 7) (o := 11) (Or.inl ⟨rfl, rfl⟩) ha hp hN hq h7 h11 s11
  have k7 : hasS C1 7 qi := hasS_fr h7 (g3 _ (by omega) (by omega) (by omega) (by omega)) (g3 _ (by omega) (by omega) (by omega) (by omega)) (g3 _ (by omega) (by omega) (by omega) (by omega)) (g3 _ (by omega) (by omega) (by omega) (by omega))
  obtain ⟨C', k1, k2, -, k3⟩ := take_c (h := 11) (o := 7) (Or.inr ⟨rfl, rfl⟩) ha hp g2 hi hq2 k7 s7
  unfold kT
  rw [g1, cl_s, k1, cl_s]
  rw [hfs] at k2
  have e1 : va_up N.2.2 q (tkF (nI q) P.2.1 (fs qi) (N.2.2 q) (pls qq)) i = N.2.2 i := va_up_ne _ _ hiq
  have k2' : hasN C' a P (N.1, N.2.1, va_up (va_up N.2.2 q (tkF (nI q) P.2.1 (fs qi) (N.2.2 q) (pls qq))) i (tkF (nI i) P.2.1 (fs qq) (va_up N.2.2 q (tkF (nI q) P.2.1 (fs qi) (N.2.2 q) (pls qq)) i) (pls qi))) := k2
  rw [e1] at k2'
  refine ⟨C', rfl, k2', fun z x y => ?_⟩
  rw [k3 z (by omega) (by omega) (by omega) (by omega), g3 z (by omega) (by omega) (by omega) (by omega)]
/-- what the class swaps -/
theorem swap_c {C : Mm} {a i q : Nat} {P : Pq} {N : Nq} (ha : 26 ≤ a) (hp : wfP P) (hdr : N.1 < 65537) (hN : hasN C a P N) (hi : i < P.1) (hq : q < P.1) (hiq : i ≠ q) :
    ∃ C', fX5_swap a (nI i) (nI q) C = some (0, C') ∧ hasN C' a P (swp P N i q) ∧ frC C C' a := by
  have h8 := hp.2.1
  have hne : ¬ nI i = nI q := fun e => hiq ((nI_eq (by omega) (by omega)).mp e)
  rw [swap_eq, hasTwo_c hp hN, cl_s, okI_nI hi (by omega), okI_nI hq (by omega)]
  rw [if_neg (by simp [hne, bI])]
  obtain ⟨c1, c2, c3⟩ := sclear_c (C := C) (s := 7)
  rw [c1, cl_s]
  obtain ⟨C2, g1, g2, g3⟩ := itself_c (x := nI i) c2
  rw [g1, cl_s]
  have hN2 : hasN C2 a P N := hasN_fr hN (fun z x y => by rw [g3 z (by omega) (by omega) (by omega) (by omega), c3 z (by omega) (by omega) (by omega) (by omega)])
  have f2 : frC C C2 a := fun z x y => by rw [g3 z (by omega) (by omega) (by omega) (by omega), c3 z (by omega) (by omega) (by omega) (by omega)]
  rw [isSly_c hp hN2, cl_s, okI_nI hi (by omega), ix_nI (by omega), Bool.true_and]
  -- the asked one's part, from any state where i has sent
  have rest : ∀ (C3 : Mm), hasN C3 a P ((sdI P i (N.2.2 i) N.1 1).1, N.2.1, N.2.2) → hasS C3 7 ([((nI i, 0), none)] ++ sq (N.2.2 i) (sdI P i (N.2.2 i) N.1 1).2) → frC C C3 a → ∃ C', kC a (nI i) (nI q) C3 = some (0, C') ∧ hasN C' a P (swp P N i q) ∧ frC C C' a := by
    intro C3 hN3 hS3 f3
    obtain ⟨a1, a2, a3⟩ := sdI_ok (P := P) (i := i) (l := N.2.2 i) (dr := N.1) (k := 1) hdr
    obtain ⟨b1, b2, b3⟩ := sdI_ok (P := P) (i := q) (l := N.2.2 q) (dr := (sdI P i (N.2.2 i) N.1 1).1) (k := 0) a1
    have l5i := (hN.2.2.2.2.2.2 i (by omega)).1
    have l5q := (hN.2.2.2.2.2.2 q (by omega)).1
    obtain ⟨d1, d2, d3⟩ := sclear_c (C := C3) (s := 11)
    unfold kC
    rw [d1, cl_s]
    have hN4 : hasN (up2 C3 11 3 0) a P ((sdI P i (N.2.2 i) N.1 1).1, N.2.1, N.2.2) := hasN_fr hN3 (fun z x y => d3 z (by omega) (by omega) (by omega) (by omega))
    have hS4 : hasS (up2 C3 11 3 0) 7 ([((nI i, 0), none)] ++ sq (N.2.2 i) (sdI P i (N.2.2 i) N.1 1).2) := hasS_fr hS3 (d3 _ (by omega) (by omega) (by omega) (by omega)) (d3 _ (by omega) (by omega) (by omega) (by omega)) (d3 _ (by omega) (by omega) (by omega) (by omega)) (d3 _ (by omega) (by omega) (by omega) (by omega))
    have sm7 : smallQ ([((nI i, 0), none)] ++ sq (N.2.2 i) (sdI P i (N.2.2 i) N.1 1).2) := smallQ_sq (fun e he => by simp at he; rw [he]) l5i a3
    rw [isSly_c hp hN4, cl_s, okI_nI hq (by omega), ix_nI (by omega), Bool.true_and]
    have fin : ∀ (C5 : Mm) (qq : Sq), hasN C5 a P ((sdI P q (N.2.2 q) (sdI P i (N.2.2 i) N.1 1).1 0).1, N.2.1, N.2.2) → hasS C5 7 ([((nI i, 0), none)] ++ sq (N.2.2 i) (sdI P i (N.2.2 i) N.1 1).2) → hasS C5 11 qq → smallQ qq → fs qq = qSent P q (N.2.2 q) (sdI P q (N.2.2 q) (sdI P i (N.2.2 i) N.1 1).1 0).2 → pls qq = (sdI P q (N.2.2 q) (sdI P i (N.2.2 i) N.1 1).1 0).2 → frC C C5 a → ∃ C', kT a (nI i) (nI q) C5 = some (0, C') ∧ hasN C' a P (swp P N i q) ∧ frC C C' a := by
      intro C5 qq n5 s5 t5 sm hfs hpl f5
      obtain ⟨C', k1, k2, k3⟩ := kT_c ha hp n5 hi hq hiq s5 t5 sm7 sm
      refine ⟨C', k1, ?_, frC.tr f5 k3⟩
      rw [hfs, hpl] at k2
      have e1 : fs ([((nI i, 0), none)] ++ sq (N.2.2 i) (sdI P i (N.2.2 i) N.1 1).2) = (nI i, 0) :: (sdI P i (N.2.2 i) N.1 1).2.map (fun p => (N.2.2 i).getD p d0) := by
        have := fs_sq (N.2.2 i) (sdI P i (N.2.2 i) N.1 1).2
        rw [← this]; simp [fs]
      have e2 : pls ([((nI i, 0), none)] ++ sq (N.2.2 i) (sdI P i (N.2.2 i) N.1 1).2) = (sdI P i (N.2.2 i) N.1 1).2 := by
        have := pls_sq (N.2.2 i) (sdI P i (N.2.2 i) N.1 1).2
        rw [show pls ([((nI i, 0), none)] ++ sq (N.2.2 i) (sdI P i (N.2.2 i) N.1 1).2) = pls (sq (N.2.2 i) (sdI P i (N.2.2 i) N.1 1).2) from rfl, this]
      rw [e1, e2] at k2
      exact k2
    cases hsq : P.2.2.2 q with
    | false =>
      rw [if_pos (show bI false = 0 from rfl), gd_ok (by omega) (by omega)]
      obtain ⟨C5, m1, m2, m3, m4⟩ := drawn_c (s := 11) (j := q) (q0 := []) (Or.inr rfl) ha hp a1 hN4 (by omega) d2 hsq
      rw [m1, cl_s]
      refine fin C5 (sq (N.2.2 q) (sdI P q (N.2.2 q) (sdI P i (N.2.2 i) N.1 1).1 0).2) m2 (hasS_fr hS4 (m4 _ (by omega) (by omega) (by omega) (by omega) (by omega)) (m4 _ (by omega) (by omega) (by omega) (by omega) (by omega)) (m4 _ (by omega) (by omega) (by omega) (by omega) (by omega)) (m4 _ (by omega) (by omega) (by omega) (by omega) (by omega))) m3 ?_ ?_ (pls_sq _ _) (fun z x y => by rw [m4 z (by omega) (by omega) (by omega) (by omega) (by omega), d3 z (by omega) (by omega) (by omega) (by omega), f3 z x y])
      · have := smallQ_sq (q0 := []) (fun e he => by cases he) l5q b3
        exact this
      · rw [fs_sq, qSent, if_neg (by rw [hsq]; decide)]
    | true =>
      rw [if_neg (show ¬ bI true = 0 by decide)]
      obtain ⟨C5, m1, m2, m3⟩ := itself_c (x := nI q) d2
      rw [m1, cl_s]
      have eB : sdI P q (N.2.2 q) (sdI P i (N.2.2 i) N.1 1).1 0 = ((sdI P i (N.2.2 i) N.1 1).1, []) := by unfold sdI; rw [if_pos hsq]
      refine fin C5 [((nI q, 0), none)] ?_ (hasS_fr hS4 (m3 _ (by omega) (by omega) (by omega) (by omega)) (m3 _ (by omega) (by omega) (by omega) (by omega)) (m3 _ (by omega) (by omega) (by omega) (by omega)) (m3 _ (by omega) (by omega) (by omega) (by omega))) m2 ?_ ?_ ?_ (fun z x y => by rw [m3 z (by omega) (by omega) (by omega) (by omega), d3 z (by omega) (by omega) (by omega) (by omega), f3 z x y])
      · rw [eB]; exact hasN_fr hN4 (fun z x y => m3 z (by omega) (by omega) (by omega) (by omega))
      · intro k hk p hpk
        have : k = 0 := by simp at hk; exact hk
        subst this
        cases hpk
      · rw [qSent, if_pos hsq]; rfl
      · rw [eB]; rfl
  cases hsi : P.2.2.2 i with
  | false =>
    rw [if_pos (show bI false = 0 from rfl), gd_ok (by omega) (by omega)]
    obtain ⟨C3, m1, m2, m3, m4⟩ := drawn_c (s := 7) (j := i) (q0 := [((nI i, 0), none)]) (Or.inl rfl) ha hp hdr hN2 (by omega) g2 hsi
    rw [m1, cl_s]
    exact rest C3 m2 m3 (fun z x y => by rw [m4 z (by omega) (by omega) (by omega) (by omega) (by omega), f2 z x y])
  | true =>
    rw [if_neg (show ¬ bI true = 0 by decide)]
    have eA : sdI P i (N.2.2 i) N.1 1 = (N.1, []) := by unfold sdI; rw [if_pos hsi]
    exact rest C2 (by rw [eA]; exact hN2) (by rw [eA]; exact g2) f2
theorem wfV_q {P : Pq} {i p : Nat} {l : Vw} (hp : wfP P) (h : wfV P i l) (hl : p < (l.map agd).length) : ix ((l.map agd).getD p d0).1 < P.1 ∧ ix ((l.map agd).getD p d0).1 ≠ i ∧ ((l.map agd).getD p d0).1 = nI (ix ((l.map agd).getD p d0).1) := by
  have h8 := hp.2.1
  rw [List.length_map] at hl
  rw [gD_map hl]
  obtain ⟨x, g, hx, hxi, hg, he⟩ := h.2.1 _ (gD_mem hl)
  show ix (l.getD p d0).1 < P.1 ∧ ix (l.getD p d0).1 ≠ i ∧ (l.getD p d0).1 = nI (ix (l.getD p d0).1)
  rw [he]
  show ix (nI x) < P.1 ∧ ix (nI x) ≠ i ∧ nI x = nI (ix (nI x))
  rw [ix_nI (by omega)]
  exact ⟨hx, hxi, rfl⟩
theorem round_c {C : Mm} {a i : Nat} {P : Pq} {N : Nq} (ha : 26 ≤ a) (hp : wfP P) (hw : wfN P N) (hN : hasN C a P N) (hi : i < P.1) :
    ∃ C', fX5_roundOf a (nI i) C = some ((rnd P N i).1, C') ∧ hasN C' a P (rnd P N i).2 ∧ frC C C' a := by
  have h8 := hp.2.1
  unfold fX5_roundOf
  rw [has_c hp hN, cl_s, okI_nI hi (by omega), if_neg (show ¬ bI true = 0 by decide), gd_ok (by omega) (by omega), ix_nI (by omega)]
  obtain ⟨C1, g1, g2, g3⟩ := grow_c (hN.2.2.2.2.2.2 i (by omega))
  rw [g1, cl_s, oldest_c g2, cl_s]
  have hN1 := hasN_view hN (by omega) ha g2 (fun z x1 x2 x3 _ => g3 z x1 x2 x3)
  have f1 : frC C C1 a := fun z x y => g3 z (by omega) (by omega) (by omega)
  cases ho : old ((N.2.2 i).map agd) with
  | none =>
    rw [rnd_none ho, if_pos (show oI none < 0 by decide)]
    exact ⟨C1, rfl, hN1, f1⟩
  | some p =>
    have hpl := old_lt ho
    have hl5 := g2.1
    obtain ⟨q1, q2, q3⟩ := wfV_q hp (hw.2.1 i hi) hpl
    generalize hqe : ix (((N.2.2 i).map agd).getD p d0).1 = q at q1 q2 q3
    rw [rnd_some ho hqe, show oI (some p) = nI p from rfl, if_neg (nI_pos (by omega)), g2.2.1, if_pos (nI_lt hpl (by omega)), gd_ok (by omega) (by omega), ix_nI (by omega), (g2.2.2 p hpl).1, q3]
    obtain ⟨C2, k1, k2, k3⟩ := strike_c g2 hpl
    rw [k1, cl_s]
    have hN2 := hasN_view hN1 (by omega) ha k2 (fun z x1 x2 x3 _ => k3 z x1 x2 x3)
    have e1 : va_up (va_up N.2.2 i ((N.2.2 i).map agd)) i (((N.2.2 i).map agd).eraseIdx p) = va_up N.2.2 i (((N.2.2 i).map agd).eraseIdx p) := bx_uu _ _ _ _
    have hN2' : hasN C2 a P (N.1, N.2.1, va_up N.2.2 i (((N.2.2 i).map agd).eraseIdx p)) := by
      have : hasN C2 a P (N.1, N.2.1, va_up (va_up N.2.2 i ((N.2.2 i).map agd)) i (((N.2.2 i).map agd).eraseIdx p)) := hN2
      rw [e1] at this; exact this
    have f2 : frC C C2 a := fun z x y => by rw [k3 z (by omega) (by omega) (by omega), f1 z x y]
    rw [isAlive_c hp hN2', cl_s, okI_nI q1 (by omega), ix_nI (by omega), Bool.true_and]
    cases hdq : N.2.1 q with
    | true =>
      rw [if_pos (show bI (!true) = 0 from rfl)]
      refine ⟨C2, rfl, ?_, f2⟩
      simp only [if_true]
      exact hN2'
    | false =>
      rw [if_neg (show ¬ bI (!false) = 0 by decide)]
      obtain ⟨C3, m1, m2, m3⟩ := swap_c ha hp (show (N.1, N.2.1, va_up N.2.2 i (((N.2.2 i).map agd).eraseIdx p)).1 < 65537 from hw.1) hN2' hi q1 (fun e => q2 e.symm)
      rw [m1, cl_s]
      refine ⟨C3, rfl, ?_, frC.tr f2 m3⟩
      simp only [Bool.false_eq_true, if_false]
      exact m2
