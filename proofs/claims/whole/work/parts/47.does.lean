/-! both do what a clause says -/
theorem links_r {D : Mm} {P : Pq} {N : Nq} {i x g : Nat} (hp : wfP P) (hw : wfN P N) (hB : hasB D 0 P N) (hP : hasP D P) (hi : i < P.1) : ∃ D', fX9_links (nI i) (nI x) (nI g) D = some (0, D') ∧ hasB D' 0 P (N.1, N.2.1, va_up N.2.2 i (lnk P.2.1 (N.2.2 i) (nI x) (nI g))) ∧ (∀ z, z ≠ 339 → D' z = D z) ∧ ∀ j, 90 ≤ j → D' 339 j = D 339 j := by
  have h8 := hp.2.1
  have hc1 := hp.2.2.1
  have hc5 := hp.2.2.2.1
  have hR := hB.2.2 i (by omega)
  have hl5 := hR.1
  have hlc := (hw.2.1 i hi).1
  have e0 : D 339 (2 + i) = nI (N.2.2 i).length := by have := hR.2.1; rw [Nat.zero_add] at this; exact this
  unfold fX9_links
  rw [show fX9_placeOf 0 (nI i) (nI x) D = _ from placeOf_r (b := 0) (nI x) (by decide) (by omega) hR, cl_s, n2, nI_add, gd_ok (by omega) (by decide), ix_nI (by omega), e0, hP.2.1]
  have fin : ∀ (l : Vw) (D' : Mm), hasR D' 0 i l → frR D D' 0 i → hasB D' 0 P (N.1, N.2.1, va_up N.2.2 i l) ∧ (∀ z, z ≠ 339 → D' z = D z) ∧ ∀ j, 90 ≤ j → D' 339 j = D 339 j := fun l D' h1 h2 => ⟨hasB_view hB (by omega) h1 h2.2, h2.1, fun j hj => h2.2 j (fun z => by unfold ofV at z; omega)⟩
  cases hv : inV (nI x) (N.2.2 i) with
  | true =>
    obtain ⟨p, p1, p2, p3, p4⟩ := pos_some hl5 hv
    obtain ⟨D', r, v, f⟩ := replace_r (x := nI x) (g := nI g) (by omega) (by omega) hR p1
    rw [p2, if_neg (nI_nm1 (by omega)), show fX9_replace 0 (nI i) (nI p) (nI x) (nI g) D = _ from r, cl_s, lnk, if_pos hv, p4]
    exact ⟨D', rfl, fin _ D' v f⟩
  | false =>
    rw [(pos_in hl5).mpr hv, if_pos rfl, lnk, if_neg (show ¬ inV (nI x) (N.2.2 i) = true by rw [hv]; decide)]
    by_cases h2 : (N.2.2 i).length < P.2.1
    · obtain ⟨D', r, v, f⟩ := put_r (x := nI x) (g := nI g) (by omega) (by omega) hR (by omega)
      rw [if_neg (nI_ge h2 (by omega)), show fX9_put 0 (nI i) (nI x) (nI g) D = _ from r, cl_s, if_pos h2]
      exact ⟨D', rfl, fin _ D' v f⟩
    · obtain ⟨D', r, v, f⟩ := replace_r (p := (N.2.2 i).length - 1) (x := nI x) (g := nI g) (by omega) (by omega) hR (by omega)
      rw [if_pos (nI_le (by omega) (by omega)), n1, pk_sub (by omega), show fX9_replace 0 (nI i) (nI ((N.2.2 i).length - 1)) (nI x) (nI g) D = _ from r, cl_s, if_neg h2]
      exact ⟨D', rfl, fin _ D' v f⟩
theorem cuts_r {D : Mm} {P : Pq} {N : Nq} {i x : Nat} (hp : wfP P) (hB : hasB D 0 P N) (hi : i < P.1) (h0 : D 344 0 = nI i) (h1 : D 344 1 = nI x) : ∃ D', fX9_does 4 D = some (0, D') ∧ hasB D' 0 P (N.1, N.2.1, va_up N.2.2 i (ct (N.2.2 i) (nI x))) ∧ (∀ z, z ≠ 339 → D' z = D z) ∧ ∀ j, 90 ≤ j → D' 339 j = D 339 j := by
  have h8 := hp.2.1
  have hR := hB.2.2 i (by omega)
  have hl5 := hR.1
  have fin : ∀ (l : Vw) (D' : Mm), hasR D' 0 i l → frR D D' 0 i → hasB D' 0 P (N.1, N.2.1, va_up N.2.2 i l) ∧ (∀ z, z ≠ 339 → D' z = D z) ∧ ∀ j, 90 ≤ j → D' 339 j = D 339 j := fun l D' h1 h2 => ⟨hasB_view hB (by omega) h1 h2.2, h2.1, fun j hj => h2.2 j (fun z => by unfold ofV at z; omega)⟩
  have hr : fX9_does 4 D = cl (fX9_placeOf (0 : Int32) (D 344 0) (D 344 1) D) (fun r3 M3 => if r3 = (-1 : Int32) then (some ((0 : Int32), M3)) else (cl (fX9_strike (0 : Int32) (M3 344 0) r3 M3) (fun r4 M4 => some ((0 : Int32), M4)))) := rfl
  rw [hr, h0, h1, show fX9_placeOf 0 (nI i) (nI x) D = _ from placeOf_r (b := 0) (nI x) (by decide) (by omega) hR, cl_s, h0]
  cases hv : inV (nI x) (N.2.2 i) with
  | true =>
    obtain ⟨p, p1, p2, p3, p4⟩ := pos_some hl5 hv
    obtain ⟨D', r, v, f⟩ := strike_r (by omega) (by omega) hR p1
    rw [p2, if_neg (nI_nm1 (by omega)), show fX9_strike 0 (nI i) (nI p) D = _ from r, cl_s, ct, if_pos hv, p4]
    exact ⟨D', rfl, fin _ D' v f⟩
  | false =>
    rw [(pos_in hl5).mpr hv, if_pos rfl, ct, if_neg (by rw [hv]; decide)]
    exact ⟨D, rfl, fin _ D hR frR.rf⟩
theorem does_r {D : Mm} {S : Pq × Nq} {w : Nat} {q : Nat → Nat} (hw5 : w < 5) (hf : fit8 w S.1.1 q) (hp : wfP S.1) (hw : wfN S.1 S.2) (hB : hasB D 0 S.1 S.2) (hP : hasP D S.1) (hq : ∀ k, k < cn w → D 344 k = nI (q k)) :
    ∃ D', fX9_does (nI w) D = some (0, D') ∧ hasB D' 0 (dO S (w, q)).1 (dO S (w, q)).2 ∧ hasP D' (dO S (w, q)).1 ∧ frA D D' := by
  have h8 := hp.2.1
  rcases (by omega : w = 0 ∨ w = 1 ∨ w = 2 ∨ w = 3 ∨ w = 4) with rfl | rfl | rfl | rfl | rfl
  · obtain ⟨a1, a2, a3, a4, a5, a6, a7⟩ := fit_0 hf
    obtain ⟨D', r, v, p, f⟩ := anew_r (D := D) (l := q 2) (sd := q 3) a1 a2 a4
    have hr : fX9_does (nI 0) D = cl (fX9_anew (D 344 0) (D 344 1) (D 344 2) (D 344 3) D) (fun r1 M1 => some ((0 : Int32), M1)) := rfl
    rw [hr, hq 0 (by decide), hq 1 (by decide), hq 2 (by decide), hq 3 (by decide), r, cl_s]
    exact ⟨D', rfl, v, p, f⟩
  · have h0 := fit_n0 (by decide) hf
    have hr : fX9_does (nI 1) D = some (0, up2 D 339 1 (D 339 1 ||| ish 1 (D 344 0))) := rfl
    have hm : D 339 1 = nI (msk S.2.2.1 S.1.1) := hB.2.1
    rw [hr, hq 0 (by decide), bt_one _ (by omega), hm, fa_or, msk_set h0, dO_1]
    refine ⟨_, rfl, ⟨?_, ?_, fun i hi => ?_⟩, ?_, fun z _ hz => up2_c hz, fun j _ => rd_c (by decide), fun j hj => rd_j (by omega)⟩
    · rw [rd_j (by decide)]; exact hB.1
    · exact up2_s _ _ _ _
    · exact hasR_off (hB.2.2 i hi) (fun j hj => rd_j (by unfold ofV at hj; omega))
    · exact hasP_fr hP (up2_c (by decide))
  · have h0 := fit_n0 (by decide) hf
    have hr : fX9_does (nI 2) D = some (0, up2 D 338 4 (D 338 4 ||| ish 1 (D 344 0))) := rfl
    rw [hr, hq 0 (by decide), bt_one _ (by omega), hP.2.2.2, fa_or, msk_set h0, dO_2]
    refine ⟨_, rfl, hasB_fr hB (fun j _ _ => rd_c (by decide)), ⟨?_, ?_, ?_, ?_⟩, fun z hz _ => up2_c hz, fun j hj => rd_j (by omega), fun j _ => rd_c (by decide)⟩
    · rw [rd_j (by decide)]; exact hP.1
    · rw [rd_j (by decide)]; exact hP.2.1
    · rw [rd_j (by decide)]; exact hP.2.2.1
    · exact up2_s _ _ _ _
  · have h0 := fit_n0 (by decide) hf
    obtain ⟨D', r, v, f, g⟩ := links_r (x := q 1) (g := q 2) hp hw hB hP h0
    have hr : fX9_does (nI 3) D = cl (fX9_links (D 344 0) (D 344 1) (D 344 2) D) (fun r2 M2 => some ((0 : Int32), M2)) := rfl
    rw [hr, hq 0 (by decide), hq 1 (by decide), hq 2 (by decide), r, cl_s, dO_3]
    exact ⟨D', rfl, v, hasP_fr hP (f 338 (by decide)), fun z _ hz => f z hz, fun j _ => by rw [f 338 (by decide)], g⟩
  · have h0 := fit_n0 (by decide) hf
    obtain ⟨D', r, v, f, g⟩ := cuts_r (x := q 1) hp hB h0 (hq 0 (by decide)) (hq 1 (by decide))
    rw [show fX9_does (nI 4) D = _ from r, dO_4]
    exact ⟨D', rfl, v, hasP_fr hP (f 338 (by decide)), fun z _ hz => f z hz, fun j _ => by rw [f 338 (by decide)], g⟩
theorem setAlive_c {C : Mm} {a i : Nat} {P : Pq} {N : Nq} (b : Bool) (hp : wfP P) (hN : hasN C a P N) (hi : i < P.1) : ∃ C', fX1_setAlive a (nI i) (bI b) C = some (0, C') ∧ hasN C' a P (N.1, va_up N.2.1 i (!b), N.2.2) ∧ ∀ z, z < a ∨ a + 26 ≤ z → C' z = C z := by
  have h8 := hp.2.1
  have hm := msk_256 (fun j => !N.2.1 j) h8
  have fin : hasN (up2 C a 5 (nI (msk (fun j => !va_up N.2.1 i (!b) j) P.1))) a P (N.1, va_up N.2.1 i (!b), N.2.2) := by
    refine ⟨?_, ?_, ?_, ?_, up2_s _ _ _ _, ?_, fun j hj => ?_⟩
    · rw [rd_j (by decide)]; exact hN.1
    · rw [rd_j (by decide)]; exact hN.2.1
    · rw [rd_j (by decide)]; exact hN.2.2.1
    · rw [rd_j (by decide)]; exact hN.2.2.2.1
    · rw [rd_j (by decide)]; exact hN.2.2.2.2.2.1
    · exact hasV_fr (hN.2.2.2.2.2.2 j hj) (up2_c (by omega)) (up2_c (by omega)) (up2_c (by omega))
  unfold fX1_setAlive
  rw [has_c hp hN, cl_s, okI_nI hi (by omega), if_neg (by decide), hN.2.2.2.2.1]
  refine ⟨_, ?_, fin, fun z hz => up2_c (by omega)⟩
  rw [not_up]
  cases b with
  | false => rw [if_pos (show bI false = 0 from rfl), bt_not _ hm i (by omega), msk_clr h8]; rfl
  | true => rw [if_neg (by decide), bt_one _ (by omega), fa_or, msk_set hi]; rfl
theorem setSly_c {C : Mm} {a i : Nat} {P : Pq} {N : Nq} (hp : wfP P) (hN : hasN C a P N) (hi : i < P.1) : ∃ C', fX1_setSly a (nI i) C = some (0, C') ∧ hasN C' a (P.1, P.2.1, P.2.2.1, va_up P.2.2.2 i true) N ∧ ∀ z, z < a ∨ a + 26 ≤ z → C' z = C z := by
  have h8 := hp.2.1
  unfold fX1_setSly
  rw [has_c hp hN, cl_s, okI_nI hi (by omega), if_neg (by decide), hN.2.2.2.2.2.1, bt_one _ (by omega), fa_or, msk_set hi]
  refine ⟨_, rfl, ⟨?_, ?_, ?_, ?_, ?_, up2_s _ _ _ _, fun j hj => ?_⟩, fun z hz => up2_c (by omega)⟩
  · rw [rd_j (by decide)]; exact hN.1
  · rw [rd_j (by decide)]; exact hN.2.1
  · rw [rd_j (by decide)]; exact hN.2.2.1
  · rw [rd_j (by decide)]; exact hN.2.2.2.1
  · rw [rd_j (by decide)]; exact hN.2.2.2.2.1
  · exact hasV_fr (hN.2.2.2.2.2.2 j hj) (up2_c (by omega)) (up2_c (by omega)) (up2_c (by omega))
theorem putLink_c {C : Mm} {a i x g : Nat} {P : Pq} {N : Nq} (ha : 26 ≤ a) (hp : wfP P) (hw : wfN P N) (hN : hasN C a P N) (hi : i < P.1) (hx : x < P.1) (hxi : x ≠ i) : ∃ C', fX1_putLink a (nI i) (nI x) (nI g) C = some (0, C') ∧ hasN C' a P (N.1, N.2.1, va_up N.2.2 i (lnk P.2.1 (N.2.2 i) (nI x) (nI g))) ∧ ∀ z, z < a ∨ a + 26 ≤ z → C' z = C z := by
  have h8 := hp.2.1
  have hc1 := hp.2.2.1
  have hc5 := hp.2.2.2.1
  have hV := hN.2.2.2.2.2.2 i (by omega)
  have hl5 := hV.1
  have hlc := (hw.2.1 i hi).1
  have fin : ∀ (l : Vw) (C' : Mm), hasV C' (a + 2 + 3 * i) l → frV C C' (a + 2 + 3 * i) → hasN C' a P (N.1, N.2.1, va_up N.2.2 i l) ∧ ∀ z, z < a ∨ a + 26 ≤ z → C' z = C z := fun l C' h1 h2 => ⟨hasN_view hN (by omega) ha h1 (fun z x1 x2 x3 _ => h2 z x1 x2 x3), fun z hz => h2 z (by omega) (by omega) (by omega)⟩
  unfold fX1_putLink
  rw [hasTwo_c hp hN, cl_s, okI_nI hi (by omega), okI_nI hx (by omega), decide_eq_false (fun z => hxi ((nI_eq (by omega) (by omega)).mp z).symm), if_neg (by decide), gd_ok (by omega) (by decide), ix_nI (by omega), holds_c (nI x) hV, cl_s, hV.2.1, hN.2.1]
  cases hv : inV (nI x) (N.2.2 i) with
  | true =>
    obtain ⟨p, p1, p2, p3, p4⟩ := pos_some hl5 hv
    obtain ⟨C', r, v, f⟩ := replace_c (x := nI x) (g := nI g) hV p1
    rw [if_neg (by decide), placeOf_c (nI x) hV, cl_s, p2, r, cl_s, lnk, if_pos hv, p4]
    exact ⟨C', rfl, fin _ C' v f⟩
  | false =>
    rw [if_pos (show bI false = 0 from rfl), lnk, if_neg (show ¬ inV (nI x) (N.2.2 i) = true by rw [hv]; decide)]
    by_cases h2 : (N.2.2 i).length < P.2.1
    · obtain ⟨C', r, v, f⟩ := append_c (x := nI x) (g := nI g) hV (by omega)
      rw [if_neg (nI_ge h2 (by omega)), r, cl_s, if_pos h2]
      exact ⟨C', rfl, fin _ C' v f⟩
    · obtain ⟨C', r, v, f⟩ := replace_c (p := (N.2.2 i).length - 1) (x := nI x) (g := nI g) hV (by omega)
      rw [if_pos (nI_le (by omega) (by omega)), n1, pk_sub (by omega), r, cl_s, if_neg h2]
      exact ⟨C', rfl, fin _ C' v f⟩
theorem cutLink_c {C : Mm} {a i x : Nat} {P : Pq} {N : Nq} (ha : 26 ≤ a) (hp : wfP P) (hN : hasN C a P N) (hi : i < P.1) : ∃ C', fX1_cutLink a (nI i) (nI x) C = some (0, C') ∧ hasN C' a P (N.1, N.2.1, va_up N.2.2 i (ct (N.2.2 i) (nI x))) ∧ ∀ z, z < a ∨ a + 26 ≤ z → C' z = C z := by
  have h8 := hp.2.1
  have hV := hN.2.2.2.2.2.2 i (by omega)
  have hl5 := hV.1
  have fin : ∀ (l : Vw) (C' : Mm), hasV C' (a + 2 + 3 * i) l → frV C C' (a + 2 + 3 * i) → hasN C' a P (N.1, N.2.1, va_up N.2.2 i l) ∧ ∀ z, z < a ∨ a + 26 ≤ z → C' z = C z := fun l C' h1 h2 => ⟨hasN_view hN (by omega) ha h1 (fun z x1 x2 x3 _ => h2 z x1 x2 x3), fun z hz => h2 z (by omega) (by omega) (by omega)⟩
  unfold fX1_cutLink
  rw [has_c hp hN, cl_s, okI_nI hi (by omega), if_neg (by decide), gd_ok (by omega) (by decide), gd_ok (by omega) (by decide), ix_nI (by omega), placeOf_c (nI x) hV, cl_s]
  cases hv : inV (nI x) (N.2.2 i) with
  | true =>
    obtain ⟨p, p1, p2, p3, p4⟩ := pos_some hl5 hv
    obtain ⟨C', r, v, f⟩ := strike_c hV p1
    rw [p2, r, cl_s, ct, if_pos hv, p4]
    exact ⟨C', rfl, fin _ C' v f⟩
  | false =>
    rw [(pos_in hl5).mpr hv, strike_m1, cl_s, ct, if_neg (by rw [hv]; decide)]
    exact ⟨C, rfl, fin _ C hV frV.rf⟩
theorem doOne_c {C : Mm} {S : Pq × Nq} {c w : Nat} {q : Nat → Nat} (hc : c < 24) (hw5 : w < 5) (hf : fit8 w S.1.1 q) (hp : wfP S.1) (hw : wfN S.1 S.2) (hN : hasN C 26 S.1 S.2) (h4 : C 4 c = nI w) (hq : ∀ k, k < cn w → C 5 (c * 4 + k) = nI (q k)) :
    ∃ C', fX0_doOne 26 (nI c) C = some (0, C') ∧ hasN C' 26 (dO S (w, q)).1 (dO S (w, q)).2 ∧ ∀ z, z < 26 ∨ 52 ≤ z → C' z = C z := by
  have h8 := hp.2.1
  unfold fX0_doOne
  rw [show fX0_numberOf (nI c) 0 C = _ from numberOf_c (j := 0) hc (by decide), cl_s, show fX0_numberOf (nI c) 1 C = _ from numberOf_c (j := 1) hc (by decide), cl_s, show fX0_numberOf (nI c) 2 C = _ from numberOf_c (j := 2) hc (by decide), cl_s, formAt_c hc, cl_s, h4]
  rcases (by omega : w = 0 ∨ w = 1 ∨ w = 2 ∨ w = 3 ∨ w = 4) with rfl | rfl | rfl | rfl | rfl
  · obtain ⟨a1, a2, a3, a4, a5, a6, a7⟩ := fit_0 hf
    obtain ⟨C', r, v, f⟩ := begin_c (C := C) (a := 26) (l := q 2) (sd := q 3) a1 a2 a4
    rw [if_pos (show nI 0 = 0 from rfl), show fX0_numberOf (nI c) 3 C = _ from numberOf_c (j := 3) hc (by decide), cl_s, hq 0 (by decide), hq 1 (by decide), hq 2 (by decide), hq 3 (by decide), r, cl_s]
    exact ⟨C', rfl, v, fun z hz => f z (by omega)⟩
  · obtain ⟨C', r, v, f⟩ := setAlive_c (i := q 0) false hp hN (fit_n0 (by decide) hf)
    rw [if_neg (by decide), if_pos (show nI 1 = 1 from rfl), hq 0 (by decide), show fX1_setAlive 26 (nI (q 0)) 0 C = _ from r, cl_s]
    exact ⟨C', rfl, v, fun z hz => f z (by omega)⟩
  · obtain ⟨C', r, v, f⟩ := setSly_c (i := q 0) hp hN (fit_n0 (by decide) hf)
    rw [if_neg (by decide), if_neg (by decide), if_pos (show nI 2 = 2 from rfl), hq 0 (by decide), r, cl_s]
    exact ⟨C', rfl, v, fun z hz => f z (by omega)⟩
  · have h1 := fit_n1 (Or.inl rfl) hf
    obtain ⟨C', r, v, f⟩ := putLink_c (i := q 0) (x := q 1) (g := q 2) (by decide) hp hw hN (fit_n0 (by decide) hf) h1.1 h1.2
    rw [if_neg (by decide), if_neg (by decide), if_neg (by decide), if_pos (show nI 3 = 3 from rfl), hq 0 (by decide), hq 1 (by decide), hq 2 (by decide), r, cl_s]
    exact ⟨C', rfl, v, fun z hz => f z (by omega)⟩
  · obtain ⟨C', r, v, f⟩ := cutLink_c (i := q 0) (x := q 1) (by decide) hp hN (fit_n0 (by decide) hf)
    rw [if_neg (by decide), if_neg (by decide), if_neg (by decide), if_neg (by decide), if_pos (show nI 4 = 4 from rfl), hq 0 (by decide), hq 1 (by decide), r, cl_s]
    exact ⟨C', rfl, v, fun z hz => f z (by omega)⟩
