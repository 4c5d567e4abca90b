/-! link, undo, keep, back -/
theorem link_ok (x y : Int32) : ∀ C D, RE C D → okK (fX8_link x y) (fX9_link x y) C D := by
  intro C D h
  have hE := h
  obtain ⟨S, H, K, rg, T, n, hA⟩ := h
  obtain ⟨⟨⟨hp, hw⟩, hN, hD⟩, -⟩ := id hA
  have h8 := hp.2.1
  have hc5 := hp.2.2.2.1
  by_cases hc : (okI x S.1.1 && okI y S.1.1 && !decide (x = y)) = true
  · have hc2 := hc
    simp only [Bool.and_eq_true, Bool.not_eq_true', decide_eq_false_iff_not] at hc2
    obtain ⟨⟨ho, ho2⟩, hne⟩ := hc2
    obtain ⟨j, hj, rfl⟩ := okI_of ho (by omega)
    obtain ⟨k, hk, rfl⟩ := okI_of ho2 (by omega)
    have hjk : k ≠ j := fun z => hne (by rw [z])
    have hV := hN.2.2.2.2.2.2 j (by omega)
    have hR := hD.1.2.2 j (by omega)
    have hlc := (hw.2.1 j hj).1
    have hm : D 339 (2 + j) = nI (S.2.2.2 j).length := by have := hR.2.1; rw [Nat.zero_add] at this; exact this
    have e9 : fX9_link (nI j) (nI k) D = if pos (nI k) (S.2.2.2 j) = -1 then (if nI (S.2.2.2 j).length = nI S.1.2.1 then some (-5, D) else (cl (fX9_keepPast D) (fun _ M4 => cl (fX9_put 0 (nI j) (nI k) 0 M4) (fun _ M5 => some (M5 339 (2 + j), M5))))) else some (-4, D) := by
      unfold fX9_link
      rw [isNode_r hp hD.2, cl_s, ho, if_neg (by decide), isNode_r hp hD.2, cl_s, ho2, if_neg (by decide), if_neg hne, show fX9_placeOf 0 (nI j) (nI k) D = _ from placeOf_r (b := 0) (nI k) (by decide) (by omega) hR, cl_s, n2, nI_add, gd_ok (by omega) (by decide), ix_nI (by omega), hm, hD.2.2.1]
      simp only [gd_ok (show 2 + j < 1080 by omega) (by decide)]
    have e8 : fX8_link (nI j) (nI k) C = if inV (nI k) (S.2.2.2 j) = false then (if nI (S.2.2.2 j).length < nI S.1.2.1 then (cl (fX2_push 26 C) (fun _ M3 => cl (fX7_append (26 + 2 + 3 * j) (nI k) 0 M3) (fun _ M4 => some (M4 (26 + 2 + 3 * j) 2, M4)))) else some (-5, C)) else some (-4, C) := by
      unfold fX8_link
      rw [hasTwo_c hp hN, cl_s, hc, if_neg (by decide), gd_ok (by omega) (by decide), ix_nI (by omega), holds_c (nI k) hV, cl_s, hV.2.1, hN.2.1]
      cases inV (nI k) (S.2.2.2 j) <;> rfl
    cases hv : inV (nI k) (S.2.2.2 j) with
    | true => exact okK_no (-4) hE (by rw [e8, hv, if_neg (by decide)]) (by rw [e9, if_neg (fun z => by rw [(pos_in hV.1).mp z] at hv; cases hv)])
    | false =>
      rw [(pos_in hV.1).mpr hv, if_pos rfl] at e9
      rw [hv, if_pos rfl] at e8
      by_cases h2 : (S.2.2.2 j).length < S.1.2.1
      · obtain ⟨C1, D1, p1, p2, hA1, o1⟩ := push_b hA
        obtain ⟨⟨-, hN1, hD1⟩, -⟩ := id hA1
        obtain ⟨C2, r2, v2, f2⟩ := append_c (x := nI k) (g := 0) (hN1.2.2.2.2.2.2 j (by omega)) (by omega)
        obtain ⟨D2, r3, v3, f3⟩ := put_r (b := 0) (x := nI k) (g := 0) (by decide) (by omega) (hD1.1.2.2 j (by omega)) (by omega)
        have el : lnk S.1.2.1 (S.2.2.2 j) (nI k) (nI 0) = S.2.2.2 j ++ [(nI k, 0)] := by rw [lnk, if_neg (show ¬ inV (nI k) (S.2.2.2 j) = true by rw [hv]; decide), if_pos h2]; rfl
        have hwl : wfV S.1 j (S.2.2.2 j ++ [(nI k, 0)]) := by rw [← el]; exact lnk_wf hp hj hk hjk (by omega) (hw.2.1 j hj)
        have fC : frC C1 C2 26 := fun z _ hz => f2 z (by omega) (by omega) (by omega)
        have fD : frD D1 D2 0 := ⟨fun z h _ _ _ _ => f3.1 z h, fun q hq => f3.2 q (fun z => by unfold ofV at z; omega)⟩
        refine ⟨nI ((S.2.2.2 j).length + 1), C2, D2, ?_, ?_, ⟨_, _, _, _, _, _, mkS (N' := (S.2.1, S.2.2.1, va_up S.2.2.2 j (S.2.2.2 j ++ [(nI k, 0)]))) hA1 (wfN_up hw hj hwl) (hasN_view hN1 (by omega) (by decide) v2 (fun z x1 x2 x3 _ => f2 z x1 x2 x3)) (hasB_view hD1.1 (by omega) v3 f3.2) fC fD⟩, o1.tr (outs_f (by decide) fC fD)⟩
        · rw [e8, if_pos (nI_lt h2 (by omega)), p1, cl_s, r2, cl_s, v2.2.1]; simp
        · have := v3.2.1
          rw [Nat.zero_add] at this
          rw [e9, if_neg (fun z => by have := (nI_eq (by omega) (by omega)).mp z; omega), p2, cl_s, show fX9_put 0 (nI j) (nI k) 0 D1 = _ from r3, cl_s, this]; simp
      · exact okK_no (-5) hE (by rw [e8, if_neg (nI_nlt (by omega) (by omega))]) (by rw [e9, if_pos (by rw [show (S.2.2.2 j).length = S.1.2.1 by omega])])
  · have hc3 : (okI x S.1.1 && okI y S.1.1 && !decide (x = y)) = false := by simpa using hc
    refine okK_no (-2) hE ?_ ?_
    · unfold fX8_link
      rw [hasTwo_c hp hN, cl_s, hc3, if_pos (show bI false = 0 from rfl)]
    · unfold fX9_link
      rw [isNode_r hp hD.2, cl_s, isNode_r hp hD.2, cl_s]
      cases ho : okI x S.1.1 with
      | false => rw [if_pos (show bI false = 0 from rfl)]
      | true =>
        rw [if_neg (by decide)]
        cases ho2 : okI y S.1.1 with
        | false => rw [if_pos (show bI false = 0 from rfl)]
        | true =>
          rw [ho, ho2] at hc3
          rw [if_neg (by decide), if_pos (by simpa using hc3)]
theorem undo_ok : ∀ C D, RE C D → okK fX8_undo fX9_undo C D := by
  intro C D h
  have hE := h
  obtain ⟨S, H, K, rg, T, n, hA⟩ := h
  obtain ⟨⟨⟨hp, hw⟩, hN, hD⟩, ⟨hH, hU, hW⟩, h3, h4, h5⟩ := id hA
  obtain ⟨h8, top, t1, t2, t3, t4⟩ := id hH
  by_cases h0 : H.1 = 0
  · exact okK_no (-4) hE (by unfold fX8_undo; rw [t3, h0, if_pos (show nI 0 = 0 from rfl)]) (by unfold fX9_undo; rw [hU.1, h0, if_pos (show nI 0 = 0 from rfl)])
  · obtain ⟨C1, r1, v1, u1, f1⟩ := pop_c hH (by omega)
    have e5 : (up2 D 338 5 (nI (H.1 - 1))) 338 5 = nI (H.1 - 1) := up2_s _ _ _ _
    obtain ⟨D1, r2, f2, g2, k2⟩ := copyRow_r (D := up2 D 338 5 (nI (H.1 - 1))) (x := 90 + 90 * (H.1 - 1)) (y := 0) (by omega) (by omega) (by omega)
    have hB1 : hasB D1 0 S.1 (H.2 (H.1 - 1)) := hasB_mv (hU.2 (H.1 - 1) (by omega)) (fun j hj => by rw [k2 j hj, rd_c (by decide)])
    have d338 : ∀ j, j ≠ 5 → D1 338 j = D 338 j := fun j hj => by rw [f2 338 (by decide), rd_j hj]
    have dz : ∀ z, z ≠ 338 → z ≠ 339 → D1 z = D z := fun z q1 q2 => by rw [f2 z q2, up2_c q1]
    have dj : ∀ j, 90 ≤ j → D1 339 j = D 339 j := fun j hj => by rw [g2 j (by omega), rd_c (by decide)]
    obtain ⟨-, top2, -, -, s3, -⟩ := id u1
    refine ⟨nI (H.1 - 1), C1, D1, ?_, ?_, ⟨(S.1, H.2 (H.1 - 1)), (H.1 - 1, H.2), K, rg, T, n, ⟨⟨hp, hW _ (by omega)⟩, v1, hB1, ?_⟩, ⟨u1, ⟨?_, fun k hk => ?_⟩, fun k hk => hW k (by have : k < H.1 - 1 := hk; omega)⟩, fun k hk => kpt_fr hk (h3 k hk) (f1 _ (by omega) (by omega)) (dz _ (by decide) (by decide)) (fun z _ _ => f1 z (by omega) (by omega)) (fun j _ _ => dj j (by omega)), RG_fr h4 (fun z _ _ => f1 z (by omega) (by omega)) (dz _ (by decide) (by decide)) (dz _ (by decide) (by decide)), RT_fr h5 (by rw [f1 1 (by omega) (by omega)]) (f1 _ (by omega) (by omega)) (d338 8 (by decide)) (dz _ (by decide) (by decide)) (dz _ (by decide) (by decide))⟩, fun z hz => f1 z (by omega) (by omega), fun z hz => dz z (by omega) (by omega)⟩
    · unfold fX8_undo
      rw [t3, if_neg (nI_ne0 (by omega) (by omega)), r1, cl_s, s3]
    · unfold fX9_undo
      rw [hU.1, if_neg (nI_ne0 (by omega) (by omega)), n1, pk_sub (by omega), e5, n90, pk_mul, nI_add, show fX9_copyRow (nI (90 + 90 * (H.1 - 1))) 0 (up2 D 338 5 (nI (H.1 - 1))) = _ from r2, cl_s, f2 338 (by decide), e5]
    · obtain ⟨p1, p2, p3, p4⟩ := hD.2
      exact ⟨by rw [d338 1 (by decide)]; exact p1, by rw [d338 2 (by decide)]; exact p2, by rw [d338 3 (by decide)]; exact p3, by rw [d338 4 (by decide)]; exact p4⟩
    · rw [f2 338 (by decide), e5]
    · exact hasB_fr (hU.2 k (by have : k < H.1 - 1 := hk; omega)) (fun j q1 q2 => dj j (by omega))
theorem keep_ok (x : Int32) : ∀ C D, RE C D → okK (fX8_keep x) (fX9_keep x) C D := by
  intro C D h
  have hE := h
  obtain ⟨S, H, K, rg, T, n, hA⟩ := h
  obtain ⟨⟨⟨hp, hw⟩, hN, hD⟩, h2, h3, h4, h5⟩ := id hA
  have e9 : ∀ b, okI x 2 = b → fX9_in x.toInt64 0 1 D = some (bI b, D) := fun b hb => by rw [in_w x 0 (nI 1) (by decide) (by decide), rng_okI x (by decide), hb]
  rcases okI_cases x (n := 2) (by decide) with ⟨c2, c3⟩ | ⟨k, hk, rfl, c3⟩ | ⟨c2, c4, c3⟩
  · exact okK_no (-2) hE (by unfold fX8_keep; rw [if_pos c2]) (by unfold fX9_keep; rw [e9 false c3, cl_s, if_pos (show bI false = 0 from rfl)])
  · obtain ⟨C1, r1, v1, f1⟩ := ncopy_c (a := 286 + 26 * k) (b := 26) (by omega) hN
    obtain ⟨D1, r2, f2, g2, k2⟩ := copyRow_r (D := D) (x := 0) (y := 810 + 90 * k) (by omega) (by omega) (by omega)
    have hB1 : hasB D1 (810 + 90 * k) S.1 S.2 := hasB_mv hD.1 (fun j hj => k2 j hj)
    have cz : ∀ z, z ≠ 18 → z < 286 + 26 * k ∨ 286 + 26 * k + 26 ≤ z → (up2 C1 18 k 1) z = C z := fun z q1 q2 => by rw [up2_c q1, f1 z q2]
    have dz : ∀ z, z ≠ 340 → z ≠ 339 → (up2 D1 340 k 1) z = D z := fun z q1 q2 => by rw [up2_c q1, f2 z q2]
    have dj : ∀ j, j < 810 + 90 * k ∨ 810 + 90 * k + 90 ≤ j → (up2 D1 340 k 1) 339 j = D 339 j := fun j hj => by rw [rd_c (by decide), g2 j hj]
    have hN1 : hasN (up2 C1 18 k 1) 26 S.1 S.2 := hasN_fr hN (fun z q1 q2 => cz z (by omega) (by omega))
    have hD1 : hasD (up2 D1 340 k 1) S := hasD_fr hD (fun j _ _ => by rw [dz 338 (by decide) (by decide)]) (fun j hj => dj j (by omega))
    refine ⟨nI (ent S.1 S.2), up2 C1 18 k 1, up2 D1 340 k 1, ?_, ?_, ⟨S, H, va_up K k (some S.2), rg, T, n, ⟨⟨hp, hw⟩, hN1, hD1⟩, RH_fr h2 (cz _ (by omega) (by omega)) (fun z _ _ => cz z (by omega) (by omega)) (by rw [dz 338 (by decide) (by decide)]) (fun j _ _ => dj j (by omega)), fun i hi => ?_, RG_fr h4 (fun z _ _ => cz z (by omega) (by omega)) (dz _ (by decide) (by decide)) (dz _ (by decide) (by decide)), RT_fr h5 (by rw [cz 1 (by omega) (by omega)]) (cz _ (by omega) (by omega)) (by rw [dz 338 (by decide) (by decide)]) (dz _ (by decide) (by decide)) (dz _ (by decide) (by decide))⟩, fun z hz => cz z (by omega) (by omega), fun z hz => dz z (by omega) (by omega)⟩
    · unfold fX8_keep
      rw [if_neg (nI_pos (by omega)), if_pos (show nI k < 2 from nI_lt (b := 2) (by omega) (by decide)), gd_ok hk (by decide), ix_nI (by omega), r1, cl_s, gd_ok hk (by decide), ent_c hp hw hN1, cl_s]
    · unfold fX9_keep
      rw [e9 true c3, cl_s, if_neg (by decide), show (810 : Int32) = nI 810 from rfl, n90, pk_mul, nI_add, show fX9_copyRow 0 (nI (810 + 90 * k)) D = _ from r2, cl_s, gd_ok hk (by decide), ix_nI (by omega), ent_r hp hD1.1 hD1.2, cl_s]
    · by_cases e : i = k
      · rw [e, va_up_self]
        refine ⟨fun z => (by cases z), fun N z => ?_⟩
        cases z
        exact ⟨up2_s _ _ _ _, up2_s _ _ _ _, hw, hasN_fr v1 (fun z q1 q2 => up2_c (by omega)), hasB_fr hB1 (fun j _ _ => rd_c (by decide))⟩
      · rw [va_up_ne _ _ e]
        obtain ⟨a1, a2⟩ := h3 i hi
        have e1 : (up2 C1 18 k 1) 18 i = C 18 i := by rw [rd_j e, f1 18 (by omega)]
        have e2 : (up2 D1 340 k 1) 340 i = D 340 i := by rw [rd_j e, f2 340 (by decide)]
        refine ⟨fun z => by rw [e1, e2]; exact a1 z, fun N z => ?_⟩
        obtain ⟨b1, b2, b3, b4, b5⟩ := a2 N z
        exact ⟨by rw [e1]; exact b1, by rw [e2]; exact b2, b3, hasN_fr b4 (fun z q1 q2 => cz z (by omega) (by omega)), hasB_fr b5 (fun j q1 q2 => dj j (by omega))⟩
  · exact okK_no (-2) hE (by unfold fX8_keep; rw [if_neg c2, if_neg (show ¬ x < 2 from fun z => absurd (Int32.lt_of_le_of_lt c4 z) (show ¬ nI 2 < 2 by decide))]) (by unfold fX9_keep; rw [e9 false c3, cl_s, if_pos (show bI false = 0 from rfl)])
theorem back_ok (x : Int32) : ∀ C D, RE C D → okK (fX8_back x) (fX9_back x) C D := by
  intro C D h
  have hE := h
  obtain ⟨S, H, K, rg, T, n, hA⟩ := h
  obtain ⟨⟨⟨hp, hw⟩, hN, hD⟩, ⟨hH, hU, hW⟩, h3, h4, h5⟩ := id hA
  have e9 : ∀ b, okI x 2 = b → fX9_in x.toInt64 0 1 D = some (bI b, D) := fun b hb => by rw [in_w x 0 (nI 1) (by decide) (by decide), rng_okI x (by decide), hb]
  rcases okI_cases x (n := 2) (by decide) with ⟨c2, c3⟩ | ⟨k, hk, rfl, c3⟩ | ⟨c2, c4, c3⟩
  · exact okK_no (-2) hE (by unfold fX8_back; rw [if_pos c2]) (by unfold fX9_back; rw [e9 false c3, cl_s, if_pos (show bI false = 0 from rfl)])
  · have u8 : fX8_back (nI k) C = if C 18 k = 0 then some (-4, C) else cl (fX1_copyFrom 26 (286 + 26 * k) C) (fun _ M1 => cl (fX2_clear M1) (fun _ M2 => cl (fX1_entries 26 M2) (fun r3 M3 => some (r3, M3)))) := by
      unfold fX8_back
      rw [if_neg (nI_pos (by omega)), if_pos (show nI k < 2 from nI_lt (b := 2) (by omega) (by decide)), gd_ok hk (by decide), gd_ok hk (by decide), ix_nI (by omega)]
    have u9 : fX9_back (nI k) D = if D 340 k = 0 then some (-4, D) else cl (fX9_copyRow (nI (810 + 90 * k)) 0 D) (fun _ M2 => cl (fX9_entries (up2 M2 338 5 0)) (fun r3 M3 => some (r3, M3))) := by
      unfold fX9_back
      rw [e9 true c3, cl_s, if_neg (by decide), gd_ok hk (by decide), ix_nI (by omega), show (810 : Int32) = nI 810 from rfl, n90, pk_mul, nI_add]
    cases hK : K k with
    | none =>
      obtain ⟨a1, a2⟩ := (h3 k hk).1 hK
      exact okK_no (-4) hE (by rw [u8, a1, if_pos rfl]) (by rw [u9, a2, if_pos rfl])
    | some N =>
      obtain ⟨a1, a2, a3, a4, a5⟩ := (h3 k hk).2 N hK
      obtain ⟨C1, r1, v1, f1⟩ := ncopy_c (a := 26) (b := 286 + 26 * k) (by omega) a4
      obtain ⟨D1, r2, f2, g2, k2⟩ := copyRow_r (D := D) (x := 810 + 90 * k) (y := 0) (by omega) (by omega) (by omega)
      have cz : ∀ z, z ≠ 15 → z < 26 ∨ 52 ≤ z → (up2 C1 15 2 0) z = C z := fun z q1 q2 => by rw [up2_c q1, f1 z (by omega)]
      have dz : ∀ z, z ≠ 338 → z ≠ 339 → (up2 D1 338 5 0) z = D z := fun z q1 q2 => by rw [up2_c q1, f2 z q2]
      have dj : ∀ j, 90 ≤ j → (up2 D1 338 5 0) 339 j = D 339 j := fun j hj => by rw [rd_c (by decide), g2 j (by omega)]
      have d338 : ∀ j, j ≠ 5 → (up2 D1 338 5 0) 338 j = D 338 j := fun j hj => by rw [rd_j hj, f2 338 (by decide)]
      have hN1 : hasN (up2 C1 15 2 0) 26 S.1 N := hasN_fr v1 (fun z q1 q2 => up2_c (by omega))
      have hB1 : hasB (up2 D1 338 5 0) 0 S.1 N := hasB_mv a5 (fun j hj => by rw [rd_c (by decide)]; exact k2 j hj)
      have hP1 : hasP (up2 D1 338 5 0) S.1 := by
        obtain ⟨p1, p2, p3, p4⟩ := hD.2
        exact ⟨by rw [d338 1 (by decide)]; exact p1, by rw [d338 2 (by decide)]; exact p2, by rw [d338 3 (by decide)]; exact p3, by rw [d338 4 (by decide)]; exact p4⟩
      obtain ⟨h8, top, t1, t2, t3, t4⟩ := hH
      refine ⟨nI (ent S.1 N), up2 C1 15 2 0, up2 D1 338 5 0, ?_, ?_, ⟨(S.1, N), (0, H.2), K, rg, T, n, ⟨⟨hp, a3⟩, hN1, hB1, hP1⟩, ⟨⟨by omega, top, t1, ?_, up2_s _ _ _ _, fun k hk => absurd hk (Nat.not_lt_zero k)⟩, ⟨up2_s _ _ _ _, fun k hk => absurd hk (Nat.not_lt_zero k)⟩, fun k hk => absurd hk (Nat.not_lt_zero k)⟩, fun i hi => kpt_fr hi (h3 i hi) (cz _ (by omega) (by omega)) (dz _ (by decide) (by decide)) (fun z _ _ => cz z (by omega) (by omega)) (fun j _ _ => dj j (by omega)), RG_fr h4 (fun z _ _ => cz z (by omega) (by omega)) (dz _ (by decide) (by decide)) (dz _ (by decide) (by decide)), RT_fr h5 (by rw [cz 1 (by omega) (by omega)]) (cz _ (by omega) (by omega)) (d338 8 (by decide)) (dz _ (by decide) (by decide)) (dz _ (by decide) (by decide))⟩, fun z hz => cz z (by omega) (by omega), fun z hz => dz z (by omega) (by omega)⟩
      · rw [u8, a1, if_neg (by decide), r1, cl_s, fX2_clear, cl_s, ent_c hp a3 hN1, cl_s]
      · rw [u9, a2, if_neg (by decide), show fX9_copyRow (nI (810 + 90 * k)) 0 D = _ from r2, cl_s, ent_r hp hB1 hP1, cl_s]
      · rw [rd_j (by decide), f1 15 (by omega)]; exact t2
  · exact okK_no (-2) hE (by unfold fX8_back; rw [if_neg c2, if_neg (show ¬ x < 2 from fun z => absurd (Int32.lt_of_le_of_lt c4 z) (show ¬ nI 2 < 2 by decide))]) (by unfold fX9_back; rw [e9 false c3, cl_s, if_pos (show bI false = 0 from rfl)])
