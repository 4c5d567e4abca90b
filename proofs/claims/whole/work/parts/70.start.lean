/-! the start -/
theorem PhX_fr {C C' : Mm} (h : PhX C) (hz : ∀ z, z < 338 → C' z = C z) : PhX C' := by
  obtain ⟨a1, a2, a3, a4, a5, a6, a7⟩ := h
  exact ⟨hasN_fr a1 (fun z _ _ => hz z (by omega)), by rw [hz 15 (by decide)]; exact a2, by rw [hz 18 (by decide)]; exact a3, by rw [hz 1 (by decide)]; exact a4, by rw [hz 20 (by decide)]; exact a5, by rw [hz 22 (by decide)]; exact a6, by rw [hz 24 (by decide)]; exact a7⟩
theorem PhY_fr {D D' : Mm} (h : PhY D) (hz : ∀ z, 338 ≤ z → z < 350 → D' z = D z) : PhY D' := by
  obtain ⟨a1, a2, a3, a4, a5, a6, a7⟩ := h
  have d338 := hz 338 (by decide) (by decide)
  have d339 := hz 339 (by decide) (by decide)
  refine ⟨hasB_fr a1 (fun j _ _ => by rw [d339]), ?_, by rw [d338]; exact a3, by rw [d338]; exact a4, by rw [hz 340 (by decide) (by decide)]; exact a5, by rw [hz 342 (by decide) (by decide)]; exact a6, by rw [hz 345 (by decide) (by decide)]; exact a7⟩
  obtain ⟨p1, p2, p3, p4⟩ := a2
  exact ⟨by rw [d338]; exact p1, by rw [d338]; exact p2, by rw [d338]; exact p3, by rw [d338]; exact p4⟩
theorem wfS_0 : wfS (P0, N0) := by
  refine ⟨⟨by decide, by decide, by decide, by decide, by decide, by decide⟩, by decide, fun i hi => ini_wf (by decide) (by decide) hi, fun i hi => ?_⟩
  show ini 4 2 i = []
  have hi : 4 ≤ i := hi
  rw [ini, if_neg (by omega)]
theorem RE_start {C D : Mm} (hC : PhX C) (hD : PhY D) : RE C D := by
  obtain ⟨a1, a2, a3, a4, a5, a6, a7⟩ := hC
  obtain ⟨b1, b2, b3, b4, b5, b6, b7⟩ := hD
  have c15 : ∀ k, C 15 k = 0 := fun k => by rw [a2]
  refine ⟨(P0, N0), (0, fun _ => N0), fun _ => none, fun _ => none, fun _ => 0, 0, ⟨wfS_0, a1, b1, b2⟩, ⟨⟨by decide, 0, by decide, c15 1, c15 2, fun k hk => absurd hk (Nat.not_lt_zero k)⟩, ⟨b3, fun k hk => absurd hk (Nat.not_lt_zero k)⟩, fun k hk => absurd hk (Nat.not_lt_zero k)⟩, fun k hk => ⟨fun _ => ⟨by rw [a3], by rw [b5]⟩, fun N z => by cases z⟩, fun t ht => ⟨⟨fun _ => ?_, fun s f z => by cases z⟩, ⟨fun _ => by rw [b6]; exact z342_ok t ht, fun s f z => by cases z⟩⟩, ⟨by decide, fun k => Nat.le_of_ble_eq_true rfl, a4, fun k hk => absurd hk (Nat.not_lt_zero k)⟩, ⟨by decide, fun k => Nat.le_of_ble_eq_true rfl, b4, fun k hk => absurd hk (Nat.not_lt_zero k)⟩, fun w hw j hj => by rw [b7]; exact z345_ok w hw j hj⟩
  rcases (by omega : t = 0 ∨ t = 1 ∨ t = 2) with rfl | rfl | rfl
  · exact a5
  · exact a6
  · exact a7
theorem tg_lw {args : Array Value} {s : State} (hts : ∀ w ∈ lw_tbl, w.before args s = true) : ∀ w ∈ tg, w.before args s = true := fun w hw => hts w (List.mem_filter.mp hw).1
theorem K_start {args : Array Value} {s : State} (hts : ∀ w ∈ lw_tbl, w.before args s = true) : ∃ (G : va_G) (cs : Nat → ClassId), va_K G vwCl (tys cs) s := by
  have ht := tg_lw hts
  have hX := Xt.of hts
  have h : ∀ k : Nat, ∃ q : ClassId × (Nat → Nat), ∀ x : vw_C, vwCl[k]? = some x → u_Kn s x.1 x.2.1 x.2.2 q.1 q.2 := by
    intro k
    match k with
    | 0 =>
      obtain ⟨c0, iS, hk⟩ := u_known (C := RX0) (T := TX0) (N := 4) (n := 4) ht inGX0 (ht _ kq_X0)
      exact ⟨(c0, iS), fun x hx => by cases hx; exact hk⟩
    | 1 =>
      obtain ⟨c0, iS, hk⟩ := u_known (C := RX1) (T := TX1) (N := 7) (n := 7) ht inGX1 (ht _ kq_X1)
      exact ⟨(c0, iS), fun x hx => by cases hx; exact hk⟩
    | 2 =>
      obtain ⟨c0, iS, hk⟩ := u_known (C := RX2) (T := TX2) (N := 3) (n := 3) ht inGX2 (ht _ kq_X2)
      exact ⟨(c0, iS), fun x hx => by cases hx; exact hk⟩
    | 3 =>
      obtain ⟨c0, iS, hk⟩ := u_known (C := RX3) (T := TX3) (N := 4) (n := 4) ht inGX3 (ht _ kq_X3)
      exact ⟨(c0, iS), fun x hx => by cases hx; exact hk⟩
    | 4 =>
      obtain ⟨c0, iS, hk⟩ := u_known (C := RX4) (T := TX4) (N := 4) (n := 4) ht inGX4 (ht _ kq_X4)
      exact ⟨(c0, iS), fun x hx => by cases hx; exact hk⟩
    | 5 =>
      obtain ⟨c0, iS, hk⟩ := u_known (C := RX5) (T := TX5) (N := 2) (n := 2) ht inGX5 (ht _ kq_X5)
      exact ⟨(c0, iS), fun x hx => by cases hx; exact hk⟩
    | 6 =>
      obtain ⟨c0, iS, hk⟩ := u_known (C := RX6) (T := TX6) (N := 5) (n := 5) ht inGX6 (ht _ kq_X6)
      exact ⟨(c0, iS), fun x hx => by cases hx; exact hk⟩
    | 7 =>
      obtain ⟨c0, iS, hk⟩ := u_known (C := RX7) (T := TX7) (N := 3) (n := 3) ht inGX7 (ht _ kq_X7)
      exact ⟨(c0, iS), fun x hx => by cases hx; exact hk⟩
    | 8 =>
      obtain ⟨c0, iS, hk⟩ := u_known (C := RX8) (T := TX8) (N := 9) (n := 9) ht inGX8 (ht _ kq_X8)
      exact ⟨(c0, iS), fun x hx => by cases hx; exact hk⟩
    | 9 =>
      obtain ⟨c0, iS, hk⟩ := u_known (C := RX9) (T := TX9) (N := 22) (n := 22) ht inGX9 (ht _ kq_X9)
      exact ⟨(c0, iS), fun x hx => by cases hx; exact hk⟩
    | k + 10 =>
      obtain ⟨c0, iS, hk⟩ := u_known (C := RX0) (T := TX0) (N := 4) (n := 4) ht inGX0 (ht _ kq_X0)
      exact ⟨(c0, iS), fun x hx => by simp [vwCl] at hx⟩
  obtain ⟨g, hg⟩ := Classical.axiomOfChoice h
  obtain ⟨c0, k0, m0, e01, e02, e03⟩ := Cond.arrayClass_spec (ht _ ka_int)
  obtain ⟨c1, k1, m1, e11, e12, e13⟩ := Cond.arrayClass_spec (ht _ ka_bool)
  obtain ⟨m2, c2, k2, e21, -, e22, e23, e24⟩ := Cond.arrayOver_spec hX.2.2.2.2.2.2.1
  obtain ⟨m3, c3, k3, e31, -, e32, e33, e34⟩ := Cond.arrayOver_spec hX.2.2.2.2.2.2.2.1
  obtain ⟨m4, c4, k4, e41, -, e42, e43, e44⟩ := Cond.arrayOver_spec hX.2.2.2.2.2.2.2.2
  refine ⟨(fun k => (g k).1, fun k => (g k).2), fun k => match k with | 0 => c0 | 1 => c1 | 2 => c2 | 3 => c3 | _ => c4, fun c q hq => hg c q hq, fun k q hk => ?_⟩
  match k with
  | 0 => cases hk; exact ⟨fun n z => ⟨(fun k h => by cases h), k0, e02, m0, e03⟩, e01⟩
  | 1 => cases hk; exact ⟨fun n z => ⟨(fun k h => by cases h), k1, e12, m1, e13⟩, e11⟩
  | 2 => cases hk; exact ⟨fun n z => ⟨(fun k h => by cases h), k2, e22, m2, e23⟩, k2, m2, e22, e23, e21, e24⟩
  | 3 => cases hk; exact ⟨fun n z => ⟨(fun k h => by cases h), k3, e32, m3, e33⟩, k3, m3, e32, e33, e31, e34⟩
  | 4 => cases hk; exact ⟨fun n z => ⟨(fun k h => by cases h), k4, e42, m4, e43⟩, k4, m4, e42, e43, e41, e44⟩
  | k + 5 => simp at hk
theorem Z_start {b : Nat} {s : State} (hts : ∀ w ∈ lw_tbl, w.before #[Value.ref b] s = true) (hgv : (Jvm.Cond.and given_1 narrow_1).before #[Value.ref b] s = true) : ∃ zk zv, Zl s zk zv := by
  have hs := flat_of_before _ hgv
  have hA : ∀ a : Nat, a < s.heap.size → ¬ AL s a := fun a h => Nat.not_le.mpr h
  have h0 : ∃ zk zv : Nat → Nat, vk_S 5 zlen zbyt zk zv (AL s) s s.heap ∧ ∀ i : Nat, i < 5 → (Term.string RX0 (zpool.getD i 0)).eval #[Value.ref b] s none [] s = some (.ref (zk i)) := by
    refine vk_Sof (args := #[Value.ref b]) (s := s) (N := 5) (tm := fun i => Term.string RX0 (zpool.getD i 0)) (len := zlen) (byt := zbyt) (A := AL s) (by decide) ?_ ?_ ?_ ?_ ?_ ?_ hA
    · intro i hi
      rcases (by omega : i = 0 ∨ i = 1 ∨ i = 2 ∨ i = 3 ∨ i = 4) with rfl | rfl | rfl | rfl | rfl
      · exact hs _ (by decide +kernel)
      · exact hs _ (by decide +kernel)
      · exact hs _ (by decide +kernel)
      · exact hs _ (by decide +kernel)
      · exact hs _ (by decide +kernel)
    · intro i hi
      rcases (by omega : i = 0 ∨ i = 1 ∨ i = 2 ∨ i = 3 ∨ i = 4) with rfl | rfl | rfl | rfl | rfl
      · exact hs _ (by decide +kernel)
      · exact hs _ (by decide +kernel)
      · exact hs _ (by decide +kernel)
      · exact hs _ (by decide +kernel)
      · exact hs _ (by decide +kernel)
    · intro i hi
      rcases (by omega : i = 0 ∨ i = 1 ∨ i = 2 ∨ i = 3 ∨ i = 4) with rfl | rfl | rfl | rfl | rfl
      · exact hs _ (by decide +kernel)
      · exact hs _ (by decide +kernel)
      · exact hs _ (by decide +kernel)
      · exact hs _ (by decide +kernel)
      · exact hs _ (by decide +kernel)
    · intro i hi
      rcases (by omega : i = 0 ∨ i = 1 ∨ i = 2 ∨ i = 3 ∨ i = 4) with rfl | rfl | rfl | rfl | rfl
      · exact hs _ (by decide +kernel)
      · exact hs _ (by decide +kernel)
      · exact hs _ (by decide +kernel)
      · exact hs _ (by decide +kernel)
      · exact hs _ (by decide +kernel)
    · intro i hi j hj
      rcases (by omega : i = 0 ∨ i = 1 ∨ i = 2 ∨ i = 3 ∨ i = 4) with rfl | rfl | rfl | rfl | rfl
      · have hj : j < 3 := hj
        rcases (by omega : j = 0 ∨ j = 1 ∨ j = 2) with rfl | rfl | rfl
        · exact hs _ (by decide +kernel)
        · exact hs _ (by decide +kernel)
        · exact hs _ (by decide +kernel)
      · have hj : j < 4 := hj
        rcases (by omega : j = 0 ∨ j = 1 ∨ j = 2 ∨ j = 3) with rfl | rfl | rfl | rfl
        · exact hs _ (by decide +kernel)
        · exact hs _ (by decide +kernel)
        · exact hs _ (by decide +kernel)
        · exact hs _ (by decide +kernel)
      · have hj : j < 3 := hj
        rcases (by omega : j = 0 ∨ j = 1 ∨ j = 2) with rfl | rfl | rfl
        · exact hs _ (by decide +kernel)
        · exact hs _ (by decide +kernel)
        · exact hs _ (by decide +kernel)
      · have hj : j < 4 := hj
        rcases (by omega : j = 0 ∨ j = 1 ∨ j = 2 ∨ j = 3) with rfl | rfl | rfl | rfl
        · exact hs _ (by decide +kernel)
        · exact hs _ (by decide +kernel)
        · exact hs _ (by decide +kernel)
        · exact hs _ (by decide +kernel)
      · have hj : j < 3 := hj
        rcases (by omega : j = 0 ∨ j = 1 ∨ j = 2) with rfl | rfl | rfl
        · exact hs _ (by decide +kernel)
        · exact hs _ (by decide +kernel)
        · exact hs _ (by decide +kernel)
    · intro i j hi hj hij
      rcases (by omega : i = 0 ∨ i = 1 ∨ i = 2 ∨ i = 3 ∨ i = 4) with rfl | rfl | rfl | rfl | rfl
      · rcases (by omega : j = 1 ∨ j = 2 ∨ j = 3 ∨ j = 4) with rfl | rfl | rfl | rfl
        · exact Or.inl (hs _ (by decide +kernel))
        · exact Or.inl (hs _ (by decide +kernel))
        · exact Or.inl (hs _ (by decide +kernel))
        · exact Or.inl (hs _ (by decide +kernel))
      · rcases (by omega : j = 0 ∨ j = 2 ∨ j = 3 ∨ j = 4) with rfl | rfl | rfl | rfl
        · exact Or.inr (hs _ (by decide +kernel))
        · exact Or.inl (hs _ (by decide +kernel))
        · exact Or.inl (hs _ (by decide +kernel))
        · exact Or.inl (hs _ (by decide +kernel))
      · rcases (by omega : j = 0 ∨ j = 1 ∨ j = 3 ∨ j = 4) with rfl | rfl | rfl | rfl
        · exact Or.inr (hs _ (by decide +kernel))
        · exact Or.inr (hs _ (by decide +kernel))
        · exact Or.inl (hs _ (by decide +kernel))
        · exact Or.inl (hs _ (by decide +kernel))
      · rcases (by omega : j = 0 ∨ j = 1 ∨ j = 2 ∨ j = 4) with rfl | rfl | rfl | rfl
        · exact Or.inr (hs _ (by decide +kernel))
        · exact Or.inr (hs _ (by decide +kernel))
        · exact Or.inr (hs _ (by decide +kernel))
        · exact Or.inl (hs _ (by decide +kernel))
      · rcases (by omega : j = 0 ∨ j = 1 ∨ j = 2 ∨ j = 3) with rfl | rfl | rfl | rfl
        · exact Or.inr (hs _ (by decide +kernel))
        · exact Or.inr (hs _ (by decide +kernel))
        · exact Or.inr (hs _ (by decide +kernel))
        · exact Or.inr (hs _ (by decide +kernel))
  obtain ⟨zk, zv, h1, h2⟩ := h0
  refine ⟨zk, zv, h1, va_Zof (args := #[Value.ref b]) (hts _ (List.mem_of_getElem? (i := 371) (by decide +kernel))) (hts _ (List.mem_of_getElem? (i := 63) (by decide +kernel))) (va_eqt (hs _ (by decide +kernel))) hA, va_Zqof (args := #[Value.ref b]) (hts _ (List.mem_of_getElem? (i := 387) (by decide +kernel))) (hts _ (List.mem_of_getElem? (i := 65) (by decide +kernel))) (hs _ (by decide +kernel)) hA, fun i hi => ?_⟩
  have hr : (Cond.stringRef RX0 (zpool.getD i 0) (ztx.getD i "")).before #[Value.ref b] s = true := by
    rcases (by omega : i = 0 ∨ i = 1 ∨ i = 2 ∨ i = 3 ∨ i = 4) with rfl | rfl | rfl | rfl | rfl
    · exact hts _ (List.mem_of_getElem? (i := 357) (by decide +kernel))
    · exact hts _ (List.mem_of_getElem? (i := 410) (by decide +kernel))
    · exact hts _ (List.mem_of_getElem? (i := 411) (by decide +kernel))
    · exact hts _ (List.mem_of_getElem? (i := 412) (by decide +kernel))
    · exact hts _ (List.mem_of_getElem? (i := 413) (by decide +kernel))
  exact vk_R.of hr (h2 i hi)
