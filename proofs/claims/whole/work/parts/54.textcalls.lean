/-! write, erase, fault, net -/
theorem write_ok (x : Int32) : ∀ C D, RE C D → okK (fX8_write x) (fX9_write x) C D := by
  intro C D h
  have hE := h
  obtain ⟨S, H, K, rg, T, n, hA⟩ := h
  obtain ⟨h1, h2, h3, h4, h5, h6, h7⟩ := id hA
  have hn := h5.1
  have e9 : ∀ b, okI x 256 = b → fX9_in x.toInt64 0 255 D = some (bI b, D) := fun b hb => by rw [in_w x 0 (nI 255) (by decide) (by decide), rng_okI x (by decide), hb]
  rcases okI_cases x (n := 256) (by decide) with ⟨c2, c3⟩ | ⟨k, hk, rfl, c3⟩ | ⟨c2, c4, c3⟩
  · exact okK_no (-3) hE (by unfold fX8_write; rw [if_pos c2]) (by unfold fX9_write; rw [e9 false c3, cl_s, if_pos (show bI false = 0 from rfl)])
  · have u8 : fX8_write (nI k) C = if nI n < 200 then (cl (fX6_append (nI k) C) (fun _ M1 => some (M1 1 1, M1))) else some (-5, C) := by
      unfold fX8_write
      rw [if_neg (nI_pos (by omega)), if_pos (show nI k ≤ 255 from nI_le (b := 255) (by omega) (by decide)), h5.2.2.1]
    have u9 : fX9_write (nI k) D = if nI n = 200 then some (-5, D) else gd (okI (nI n) 200) (some (nI (n + 1), up2 (up2 D 341 n (nI k)) 338 8 (nI (n + 1)))) := by
      unfold fX9_write
      rw [e9 true c3, cl_s, if_neg (by decide), h6.2.2.1, up2_s, rd_c (by decide), h6.2.2.1, ix_nI (by omega), nI_1]
    by_cases hl : n < 200
    · have hT : ∀ j, va_up T n k j < 256 := fun j => by
        by_cases e : j = n
        · rw [e, va_up_self]; exact hk
        · rw [va_up_ne _ _ e]; exact h5.2.1 j
      have tC : txC (up2 (up2 C 2 n (nI k)) 1 1 (nI (n + 1))) (va_up T n k) (n + 1) := ⟨by omega, hT, up2_s _ _ _ _, fun j hj => by
        rw [rd_c (by decide)]
        by_cases e : j = n
        · rw [e, up2_s, va_up_self]
        · rw [rd_j e, va_up_ne _ _ e]; exact h5.2.2.2 j (by omega)⟩
      have tD : txD (up2 (up2 D 341 n (nI k)) 338 8 (nI (n + 1))) (va_up T n k) (n + 1) := ⟨by omega, hT, up2_s _ _ _ _, fun j hj => by
        rw [rd_c (by decide)]
        by_cases e : j = n
        · rw [e, up2_s, va_up_self]
        · rw [rd_j e, va_up_ne _ _ e]; exact h6.2.2.2 j (by omega)⟩
      have cz : ∀ z, z ≠ 1 → z ≠ 2 → (up2 (up2 C 2 n (nI k)) 1 1 (nI (n + 1))) z = C z := fun z q1 q2 => by rw [up2_c q1, up2_c q2]
      have dz : ∀ z, z ≠ 338 → z ≠ 341 → (up2 (up2 D 341 n (nI k)) 338 8 (nI (n + 1))) z = D z := fun z q1 q2 => by rw [up2_c q1, up2_c q2]
      have d338 : ∀ j, j ≠ 8 → (up2 (up2 D 341 n (nI k)) 338 8 (nI (n + 1))) 338 j = D 338 j := fun j hj => by rw [rd_j hj, rd_c (by decide)]
      have d339 := dz 339 (by decide) (by decide)
      refine ⟨nI (n + 1), _, _, ?_, ?_, ⟨S, H, K, rg, va_up T n k, n + 1, RS_fr h1 (fun z _ _ => cz z (by omega) (by omega)) (fun j _ _ => d338 j (by omega)) (fun j _ => by rw [d339]), RH_fr h2 (cz _ (by omega) (by omega)) (fun z _ _ => cz z (by omega) (by omega)) (d338 5 (by decide)) (fun j _ _ => by rw [d339]), fun i hi => kpt_fr hi (h3 i hi) (cz _ (by omega) (by omega)) (dz _ (by decide) (by decide)) (fun z _ _ => cz z (by omega) (by omega)) (fun j _ _ => by rw [d339]), RG_fr h4 (fun z _ _ => cz z (by omega) (by omega)) (dz _ (by decide) (by decide)) (dz _ (by decide) (by decide)), tC, tD, wds_fr h7 (dz _ (by decide) (by decide))⟩, fun z hz => cz z (by omega) (by omega), fun z hz => dz z (by omega) (by omega)⟩
      · rw [u8, if_pos (show nI n < 200 from nI_lt (b := 200) hl (by decide)), fX6_append, h5.2.2.1, if_neg (nI_pos (by omega)), if_neg (show ¬ (200 : Int32) ≤ nI n from nI_ge (b := 200) hl (by decide)), gd_ok hl (by decide), ix_nI (by omega), rd_c (by decide), h5.2.2.1, nI_1, cl_s, up2_s]
      · rw [u9, if_neg (show ¬ nI n = 200 from fun z => by have := (nI_eq (b := 200) (by omega) (by decide)).mp z; omega), gd_ok hl (by decide)]
    · have e : n = 200 := by omega
      exact okK_no (-5) hE (by rw [u8, e, if_neg (show ¬ nI 200 < 200 by decide)]) (by rw [u9, e, if_pos (show nI 200 = 200 from rfl)])
  · exact okK_no (-3) hE (by unfold fX8_write; rw [if_neg c2, if_neg (show ¬ x ≤ 255 from fun z => absurd (Int32.le_trans c4 z) (show ¬ nI 256 ≤ 255 by decide))]) (by unfold fX9_write; rw [e9 false c3, cl_s, if_pos (show bI false = 0 from rfl)])
theorem erase_ok : ∀ C D, RE C D → okK fX8_erase fX9_erase C D := by
  intro C D h
  obtain ⟨S, H, K, rg, T, n, h1, h2, h3, h4, h5, h6, h7⟩ := h
  have d338 : ∀ j, j ≠ 8 → (up2 D 338 8 0) 338 j = D 338 j := fun j hj => rd_j hj
  have dz : ∀ z, z ≠ 338 → (up2 D 338 8 0) z = D z := fun z q1 => up2_c q1
  have cz : ∀ z, z ≠ 1 → (up2 C 1 1 0) z = C z := fun z q1 => up2_c q1
  have d339 := dz 339 (by decide)
  refine ⟨nI n, up2 C 1 1 0, up2 D 338 8 0, ?_, ?_, ⟨S, H, K, rg, T, 0, RS_fr h1 (fun z _ _ => cz z (by omega)) (fun j _ _ => d338 j (by omega)) (fun j _ => by rw [d339]), RH_fr h2 (cz _ (by omega)) (fun z _ _ => cz z (by omega)) (d338 5 (by decide)) (fun j _ _ => by rw [d339]), fun i hi => kpt_fr hi (h3 i hi) (cz _ (by omega)) (dz _ (by decide)) (fun z _ _ => cz z (by omega)) (fun j _ _ => by rw [d339]), RG_fr h4 (fun z _ _ => cz z (by omega)) (dz _ (by decide)) (dz _ (by decide)), ⟨by omega, h5.2.1, up2_s _ _ _ _, fun j hj => absurd hj (Nat.not_lt_zero j)⟩, ⟨by omega, h5.2.1, up2_s _ _ _ _, fun j hj => absurd hj (Nat.not_lt_zero j)⟩, wds_fr h7 (dz _ (by decide))⟩, fun z hz => cz z (by omega), fun z hz => dz z (by omega)⟩
  · unfold fX8_erase
    rw [fX6_clear, cl_s, h5.2.2.1]
  · unfold fX9_erase
    rw [h6.2.2.1]
theorem dL_f {S : Pq × Nq} : ∀ l, dL false S l = S := by
  intro l
  induction l with
  | nil => rfl
  | cons x l ih => exact ih
theorem fault_ok : ∀ C D, RE C D → okK fX8_fault fX9_fault C D := by
  intro C D h
  obtain ⟨S, H, K, rg, T, n, h1, h2, h3, h4, h5, h6, h7⟩ := h
  obtain ⟨hS, hN, hD⟩ := id h1
  obtain ⟨C1, r1, f1, g1, -, -, -, -⟩ := read_c (m := S.1.1) hS.1.2.1 h5
  obtain ⟨D1, r2, e2, f2, -, hD2, -⟩ := reads_r false h6 h7 hS hD
  rw [dL_f] at hD2
  refine ⟨if (rdA T n S.1.1).1 = true then -1 else nI (tkS T n (rdA T n S.1.1).2.1), C1, D1, ?_, ?_, ⟨S, H, K, rg, T, n, ⟨hS, hasN_fr hN (fun z q1 q2 => f1 z (by omega) (by omega) (by omega) (by omega)), hD2⟩, RH_fr h2 (f1 _ (by omega) (by omega) (by omega) (by omega)) (fun z _ _ => f1 z (by omega) (by omega) (by omega) (by omega)) f2.2.1 (fun j _ _ => f2.2.2.2 j (by omega)), fun i hi => kpt_fr hi (h3 i hi) (f1 _ (by omega) (by omega) (by omega) (by omega)) (f2.1 _ (by decide) (by decide) (by decide)) (fun z _ _ => f1 z (by omega) (by omega) (by omega) (by omega)) (fun j _ _ => f2.2.2.2 j (by omega)), RG_fr h4 (fun z _ _ => f1 z (by omega) (by omega) (by omega) (by omega)) (f2.1 _ (by decide) (by decide) (by decide)) (f2.1 _ (by decide) (by decide) (by decide)), txC_fr h5 g1 (f1 _ (by omega) (by omega) (by omega) (by omega)), txD_fr h6 f2.2.2.1 (f2.1 _ (by decide) (by decide) (by decide)), wds_fr h7 (f2.1 _ (by decide) (by decide) (by decide))⟩, fun z hz => f1 z (by omega) (by omega) (by omega) (by omega), fun z hz => f2.1 z (by omega) (by omega) (by omega)⟩
  · unfold fX8_fault
    rw [hN.1, r1, cl_s]
  · unfold fX9_fault
    rw [show fX9_reads 0 D = _ from r2, cl_s, e2]
    cases (rdA T n S.1.1).1 <;> rfl
theorem doAll_run : ∀ (l : Lq) c S (C : Mm), c + l.length ≤ 24 → stL C c l → okL S.1.1 l → wfS S → hasN C 26 S.1 S.2 → C 3 2 = nI (c + l.length) → ∃ C', run stX0_doAll (1, [26], [nI c], C) = some (0, C') ∧ hasN C' 26 (dL true S l).1 (dL true S l).2 ∧ wfS (dL true S l) ∧ ∀ z, z < 26 ∨ 52 ≤ z → C' z = C z := by
  intro l
  induction l with
  | nil =>
    intro c S C hc hst hok hS hN h3
    refine ⟨C, ?_, hN, hS, fun _ _ => rfl⟩
    rw [eX0_doAll_1, h3, if_pos (nI_le (by simp) (by simp at hc; omega))]
  | cons x l ih =>
    intro c S C hc hst hok hS hN h3
    obtain ⟨w, q⟩ := x
    obtain ⟨hw, hq, hf, hok2⟩ := hok
    have hlen : c + (l.length + 1) ≤ 24 := by simpa using hc
    obtain ⟨s1, s2⟩ := hst 0 (by simp)
    obtain ⟨C1, r1, v1, f1⟩ := doOne_c (c := c) (w := w) (q := q) (by omega) hw hf hS.1 hS.2 hN s1 s2
    obtain ⟨w1, w2, w3⟩ := dO_wf hw hf hS.1 hS.2
    have h3b : C 3 2 = nI (c + (l.length + 1)) := by simpa using h3
    obtain ⟨C2, r2, v2, o2, f2⟩ := ih (c + 1) (dO S (w, q)) C1 (by omega) (fun j hj => by
      have := hst (j + 1) (by simpa using hj)
      rw [f1 4 (by omega), f1 5 (by omega), show c + 1 + j = c + (j + 1) by omega]
      exact this) (by rw [w3]; exact hok2) ⟨w1, w2⟩ v1 (by rw [f1 3 (by omega), h3b]; congr 1; omega)
    refine ⟨C2, ?_, v2, o2, fun z hz => (f2 z hz).trans (f1 z hz)⟩
    rw [eX0_doAll_1, h3b, if_neg (nI_ge (by omega) (by omega)), r1, cl_s, nI_1, r2]
theorem loseC : ∀ d t (C : Mm), t + d = 3 → ∃ C', run stX8_net (2, [], [nI t], C) = some (C 3 2, C') ∧ (∀ z, z < 20 + 2 * t ∨ 26 ≤ z → C' z = C z) ∧ ∀ i, t ≤ i → i < 3 → C' (20 + 2 * i) 1 = 0 ∧ C' (20 + 2 * i) 3 = 1 := by
  intro d
  induction d with
  | zero =>
    intro t C e
    refine ⟨C, ?_, fun _ _ => rfl, fun i h1 h2 => by omega⟩
    rw [eX8_net_2, n3, if_pos (nI_le (by omega) (by omega))]
  | succ d ih =>
    intro t C e
    obtain ⟨C1, r1, f1, g1⟩ := ih (t + 1) (up2 (up2 (up2 C (20 + 2 * t) 1 0) (20 + 2 * t) 2 0) (20 + 2 * t) 3 1) (by omega)
    refine ⟨C1, ?_, fun z hz => ?_, fun i h1 h2 => ?_⟩
    · rw [eX8_net_2, n3, if_neg (nI_ge (by omega) (by omega)), gd_ok (by omega) (by decide), ix_nI (by omega), fX3_lose, cl_s, nI_1, r1, rd_c (by omega), rd_c (by omega), rd_c (by omega)]
    · rw [f1 z (by omega), up2_c (by omega), up2_c (by omega), up2_c (by omega)]
    · by_cases e2 : i = t
      · rw [e2, f1 (20 + 2 * t) (by omega)]
        simp (disch := decide) only [rd_j, up2_s]
        exact ⟨trivial, trivial⟩
      · exact g1 i (by omega) h2
theorem loseD : ∀ d t (D : Mm), t + d = 3 → ∃ D', run stX9_net (1, [], [nI t], D) = some (D 338 14, D') ∧ (∀ z, z ≠ 342 → D' z = D z) ∧ (∀ i, i < t → D' 342 i = D 342 i) ∧ ∀ i, t ≤ i → i < 3 → D' 342 i = -1 := by
  intro d
  induction d with
  | zero =>
    intro t D e
    refine ⟨D, ?_, fun _ _ => rfl, fun _ _ => rfl, fun i h1 h2 => by omega⟩
    rw [eX9_net_1, n3, if_pos (nI_le (by omega) (by omega))]
  | succ d ih =>
    intro t D e
    obtain ⟨D1, r1, f1, g1, k1⟩ := ih (t + 1) (up2 D 342 t (-1)) (by omega)
    refine ⟨D1, ?_, fun z hz => ?_, fun i hi => ?_, fun i h1 h2 => ?_⟩
    · rw [eX9_net_1, n3, if_neg (nI_ge (by omega) (by omega)), gd_ok (by omega) (by decide), ix_nI (by omega), nI_1, r1, rd_c (by decide)]
    · rw [f1 z hz, up2_c hz]
    · rw [g1 i (by omega), rd_j (by omega)]
    · by_cases e2 : i = t
      · rw [e2, g1 t (by omega), up2_s]
      · exact k1 i (by omega) h2
theorem net_ok : ∀ C D, RE C D → okK fX8_net fX9_net C D := by
  intro C D h
  obtain ⟨S, H, K, rg, T, n, h1, h2, h3, h4, h5, h6, h7⟩ := h
  obtain ⟨hS, hN, hD⟩ := id h1
  obtain ⟨C1, r1, f1, g1, sl, ol, bl, zl⟩ := read_c (m := S.1.1) hS.1.2.1 h5
  obtain ⟨D1, r2, e2, f2, -, hD2, -⟩ := reads_r false h6 h7 hS hD
  rw [dL_f] at hD2
  have hN1 : hasN C1 26 S.1 S.2 := hasN_fr hN (fun z q1 q2 => f1 z (by omega) (by omega) (by omega) (by omega))
  cases hr : (rdA T n S.1.1).1 with
  | false =>
    rw [hr] at r1 r2
    refine ⟨-4, C1, D1, ?_, ?_, ⟨S, H, K, rg, T, n, ⟨hS, hN1, hD2⟩, RH_fr h2 (f1 _ (by omega) (by omega) (by omega) (by omega)) (fun z _ _ => f1 z (by omega) (by omega) (by omega) (by omega)) f2.2.1 (fun j _ _ => f2.2.2.2 j (by omega)), fun i hi => kpt_fr hi (h3 i hi) (f1 _ (by omega) (by omega) (by omega) (by omega)) (f2.1 _ (by decide) (by decide) (by decide)) (fun z _ _ => f1 z (by omega) (by omega) (by omega) (by omega)) (fun j _ _ => f2.2.2.2 j (by omega)), RG_fr h4 (fun z _ _ => f1 z (by omega) (by omega) (by omega) (by omega)) (f2.1 _ (by decide) (by decide) (by decide)) (f2.1 _ (by decide) (by decide) (by decide)), txC_fr h5 g1 (f1 _ (by omega) (by omega) (by omega) (by omega)), txD_fr h6 f2.2.2.1 (f2.1 _ (by decide) (by decide) (by decide)), wds_fr h7 (f2.1 _ (by decide) (by decide) (by decide))⟩, fun z hz => f1 z (by omega) (by omega) (by omega) (by omega), fun z hz => f2.1 z (by omega) (by omega) (by omega)⟩
    · have hb := tkS_le (T := T) bl
      have hn := h5.1
      unfold fX8_net
      rw [eX8_net_0, hN.1, r1, cl_s, bF, if_neg (nI_nm1 (by omega))]
    · unfold fX9_net
      rw [eX9_net_0, show fX9_reads 0 D = _ from r2, cl_s, if_pos (show bI false = 0 from rfl)]
  | true =>
    rw [hr] at r1 r2
    have hlen : (rdA T n S.1.1).2.2.length ≤ 24 := rds_len 24 0 S.1.1
    obtain ⟨C2, r3, v3, o3, f3⟩ := doAll_run (rdA T n S.1.1).2.2 0 S C1 (by omega) sl ol hS hN1 (by rw [zl hr, Nat.zero_add])
    have hT1 : txD D1 T n := txD_fr h6 f2.2.2.1 (f2.1 _ (by decide) (by decide) (by decide))
    have hW1 : wds D1 := wds_fr h7 (f2.1 _ (by decide) (by decide) (by decide))
    obtain ⟨D2, r4, e4, f4, o4, hD4, z4⟩ := reads_r true hT1 hW1 hS hD2
    rw [hr] at r4
    have e18 : ∀ j, (up2 (up2 (up2 (up2 C2 1 1 0) 15 2 0) 18 0 0) 18 1 0) 18 j = if j = 0 ∨ j = 1 then 0 else C2 18 j := by
      intro j
      by_cases q1 : j = 1
      · rw [q1, up2_s, if_pos (Or.inr rfl)]
      · by_cases q0 : j = 0
        · rw [q0, rd_j (by decide), up2_s, if_pos (Or.inl rfl)]
        · rw [rd_j q1, rd_j q0, rd_c (by decide), rd_c (by decide), if_neg (by omega)]
    obtain ⟨C3, r5, f5, g5⟩ := loseC 3 0 (up2 (up2 (up2 (up2 C2 1 1 0) 15 2 0) 18 0 0) 18 1 0) (by omega)
    obtain ⟨D3, r6, f6, -, g6⟩ := loseD 3 0 (up2 (up2 (up2 (up2 D2 338 8 0) 338 5 0) 340 0 0) 340 1 0) (by omega)
    have cz : ∀ z, z ≠ 1 → z ≠ 15 → z ≠ 18 → z < 20 ∨ 26 ≤ z → C3 z = C2 z := fun z q1 q2 q3 q4 => by rw [f5 z (by omega), up2_c q3, up2_c q3, up2_c q2, up2_c q1]
    have dz : ∀ z, z ≠ 338 → z ≠ 340 → z ≠ 342 → D3 z = D2 z := fun z q1 q2 q3 => by rw [f6 z q3, up2_c q2, up2_c q2, up2_c q1, up2_c q1]
    have d338 : ∀ j, j ≠ 5 → j ≠ 8 → D3 338 j = D2 338 j := fun j q1 q2 => by rw [f6 338 (by decide), rd_c (by decide), rd_c (by decide), rd_j q1, rd_j q2]
    have c32 : (up2 (up2 (up2 (up2 C2 1 1 0) 15 2 0) 18 0 0) 18 1 0) 3 2 = nI (rdA T n S.1.1).2.2.length := by rw [rd_c (by decide), rd_c (by decide), rd_c (by decide), rd_c (by decide), f3 3 (by omega), zl hr]
    have d14 : (up2 (up2 (up2 (up2 D2 338 8 0) 338 5 0) 340 0 0) 340 1 0) 338 14 = nI (rdA T n S.1.1).2.2.length := by rw [rd_c (by decide), rd_c (by decide), rd_j (by decide), rd_j (by decide), z4 hr]
    obtain ⟨⟨h8, top, t1, t2, t3, t4⟩, -⟩ := h2
    have c15 : C3 15 1 = nI top := by rw [f5 15 (by omega), rd_c (by decide), rd_c (by decide), rd_j (by decide), rd_c (by decide), f3 15 (by omega), f1 15 (by omega) (by omega) (by omega) (by omega)]; exact t2
    refine ⟨nI (rdA T n S.1.1).2.2.length, C3, D3, ?_, ?_, ⟨dL true S (rdA T n S.1.1).2.2, (0, H.2), fun _ => none, fun _ => none, T, 0, ⟨o3, hasN_fr v3 (fun z q1 q2 => cz z (by omega) (by omega) (by omega) (by omega)), hasD_fr hD4 (fun j q1 q2 => d338 j (by omega) (by omega)) (fun j _ => by rw [dz 339 (by decide) (by decide) (by decide)])⟩, ⟨⟨by omega, top, t1, c15, ?_, fun k hk => absurd hk (Nat.not_lt_zero k)⟩, ⟨?_, fun k hk => absurd hk (Nat.not_lt_zero k)⟩, fun k hk => absurd hk (Nat.not_lt_zero k)⟩, fun k hk => ⟨fun _ => ⟨?_, ?_⟩, fun N z => (by cases z)⟩, fun t ht => ⟨⟨fun _ => g5 t (by omega) ht, fun s f z => (by cases z)⟩, ⟨fun _ => g6 t (by omega) ht, fun s f z => (by cases z)⟩⟩, ⟨by omega, h5.2.1, ?_, fun j hj => absurd hj (Nat.not_lt_zero j)⟩, ⟨by omega, h5.2.1, ?_, fun j hj => absurd hj (Nat.not_lt_zero j)⟩, ?_⟩, fun z hz => ?_, fun z hz => ?_⟩
    · unfold fX8_net
      rw [eX8_net_0, hN.1, r1, cl_s, bT, if_pos rfl, fX0_doAll, eX0_doAll_0, n0, r3, cl_s, fX6_clear, cl_s, fX2_clear, cl_s, eX8_net_1, n2, if_neg (nI_ge (by decide) (by decide)), gd_ok (by decide) (by decide), ix_nI (by decide), nI_1, eX8_net_1, n2, if_neg (nI_ge (by decide) (by decide)), gd_ok (by decide) (by decide), ix_nI (by decide), nI_1, eX8_net_1, n2, if_pos (nI_le (by decide) (by decide)), n0]
      rw [c32] at r5
      exact r5
    · unfold fX9_net
      rw [eX9_net_0, show fX9_reads 0 D = _ from r2, cl_s, if_neg (by decide), show fX9_reads 1 D1 = _ from r4, cl_s]
      rw [d14] at r6
      exact r6
    · rw [f5 15 (by omega), rd_c (by decide), rd_c (by decide), up2_s]; rfl
    · rw [f6 338 (by decide), rd_c (by decide), rd_c (by decide), up2_s]; rfl
    · rw [f5 18 (by omega), e18, if_pos (by omega)]
    · rw [f6 340 (by decide)]
      rcases (by omega : k = 0 ∨ k = 1) with rfl | rfl
      · rw [rd_j (by decide), up2_s]
      · rw [up2_s]
    · rw [f5 1 (by omega), rd_c (by decide), rd_c (by decide), rd_c (by decide), up2_s]; rfl
    · rw [f6 338 (by decide), rd_c (by decide), rd_c (by decide), rd_j (by decide), up2_s]; rfl
    · exact wds_fr hW1 (by rw [dz 345 (by decide) (by decide) (by decide), f4.1 345 (by decide) (by decide) (by decide)])
    · rw [cz z (by omega) (by omega) (by omega) (by omega), f3 z (by omega), f1 z (by omega) (by omega) (by omega) (by omega)]
    · rw [dz z (by omega) (by omega) (by omega), f4.1 z (by omega) (by omega) (by omega), f2.1 z (by omega) (by omega) (by omega)]
