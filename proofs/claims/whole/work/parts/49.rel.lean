/-! the relation of the two -/
def kpt (C D : Mm) (P : Pq) (k : Nat) (o : Option Nq) : Prop := (o = none → C 18 k = 0 ∧ D 340 k = 0) ∧ ∀ N, o = some N → C 18 k = 1 ∧ D 340 k = 1 ∧ wfN P N ∧ hasN C (286 + 26 * k) P N ∧ hasB D (810 + 90 * k) P N
def RH (C D : Mm) (P : Pq) (H : Hq) : Prop := hasH C P H ∧ hasU D P H ∧ ∀ k, k < H.1 → wfN P (H.2 k)
def RT (C D : Mm) (T : Nat → Nat) (n : Nat) : Prop := txC C T n ∧ txD D T n ∧ wds D
def RS (C D : Mm) (S : Pq × Nq) : Prop := wfS S ∧ hasN C 26 S.1 S.2 ∧ hasD D S
def RR (C D : Mm) (S : Pq × Nq) (H : Hq) (K : Nat → Option Nq) (rg : Rq) (T : Nat → Nat) (n : Nat) : Prop := RS C D S ∧ RH C D S.1 H ∧ (∀ k, k < 2 → kpt C D S.1 k (K k)) ∧ RG C D rg ∧ RT C D T n
def RE (C D : Mm) : Prop := ∃ S H K rg T n, RR C D S H K rg T n
def okK (f8 f9 : Mm → Option Rst) (C D : Mm) : Prop := ∃ r C' D', f8 C = some (r, C') ∧ f9 D = some (r, D') ∧ RE C' D' ∧ (∀ z, 338 ≤ z → C' z = C z) ∧ ∀ z, z < 338 → D' z = D z
theorem hasU_fr {D D' : Mm} {P : Pq} {H : Hq} (h8 : H.1 ≤ 8) (h : hasU D P H) (h5 : D' 338 5 = D 338 5) (hj : ∀ j, 90 ≤ j → j < 810 → D' 339 j = D 339 j) : hasU D' P H :=
  ⟨by rw [h5]; exact h.1, fun k hk => hasB_fr (h.2 k hk) (fun j h1 h2 => hj j (by omega) (by omega))⟩
theorem hasH_fr {C C' : Mm} {P : Pq} {H : Hq} (h : hasH C P H) (h15 : C' 15 = C 15) (hz : ∀ z, 78 ≤ z → z < 286 → C' z = C z) : hasH C' P H := by
  obtain ⟨h8, top, h1, h2, h3, h4⟩ := h
  refine ⟨h8, top, h1, by rw [h15]; exact h2, by rw [h15]; exact h3, fun k hk => hasN_fr (h4 k hk) (fun z z1 z2 => hz z (by omega) ?_)⟩
  have : (top + 8 - H.1 + k) % 8 < 8 := Nat.mod_lt _ (by decide)
  omega
theorem kpt_fr {C C' D D' : Mm} {P : Pq} {k : Nat} {o : Option Nq} (hk : k < 2) (h : kpt C D P k o) (h18 : C' 18 = C 18) (h340 : D' 340 = D 340) (hz : ∀ z, 286 ≤ z → z < 338 → C' z = C z) (hj : ∀ j, 810 ≤ j → j < 990 → D' 339 j = D 339 j) : kpt C' D' P k o := by
  refine ⟨fun z => by rw [h18, h340]; exact h.1 z, fun N z => ?_⟩
  obtain ⟨a1, a2, a3, a4, a5⟩ := h.2 N z
  exact ⟨by rw [h18]; exact a1, by rw [h340]; exact a2, a3, hasN_fr a4 (fun z z1 z2 => hz z (by omega) (by omega)), hasB_fr a5 (fun j h1 h2 => hj j (by omega) (by omega))⟩
theorem RG_fr {C C' D D' : Mm} {rg : Rq} (h : RG C D rg) (hC : ∀ z, 20 ≤ z → z < 26 → C' z = C z) (h2 : D' 342 = D 342) (h3 : D' 343 = D 343) : RG C' D' rg := by
  intro t ht
  obtain ⟨a1, a2⟩ := h t ht
  have e0 := hC (20 + 2 * t) (by omega) (by omega)
  have e1 := hC (20 + 2 * t + 1) (by omega) (by omega)
  exact ⟨⟨fun z => by rw [e0]; exact a1.1 z, fun s f z => hasG_fr (a1.2 s f z) e0 e1⟩, ⟨fun z => by rw [h2]; exact a2.1 z, fun s f z => hasQ_fr (a2.2 s f z) (by rw [h2]) (fun j _ _ => by rw [h3])⟩⟩
theorem RT_fr {C C' D D' : Mm} {T : Nat → Nat} {n : Nat} (h : RT C D T n) (h1 : C' 1 1 = C 1 1) (h2 : C' 2 = C 2) (h3 : D' 338 8 = D 338 8) (h4 : D' 341 = D 341) (h5 : D' 345 = D 345) : RT C' D' T n := ⟨txC_fr h.1 h1 h2, txD_fr h.2.1 h3 h4, wds_fr h.2.2 h5⟩
theorem hasD_fr {D D' : Mm} {S : Pq × Nq} (h : hasD D S) (h1 : ∀ j, 1 ≤ j → j < 5 → D' 338 j = D 338 j) (hj : ∀ j, j < 90 → D' 339 j = D 339 j) : hasD D' S := by
  refine ⟨hasB_fr h.1 (fun j _ h2 => hj j (by omega)), ?_⟩
  obtain ⟨p1, p2, p3, p4⟩ := h.2
  exact ⟨by rw [h1 1 (by omega) (by omega)]; exact p1, by rw [h1 2 (by omega) (by omega)]; exact p2, by rw [h1 3 (by omega) (by omega)]; exact p3, by rw [h1 4 (by omega) (by omega)]; exact p4⟩
theorem RS_fr {C C' D D' : Mm} {S : Pq × Nq} (h : RS C D S) (hz : ∀ z, 26 ≤ z → z < 52 → C' z = C z) (h1 : ∀ j, 1 ≤ j → j < 5 → D' 338 j = D 338 j) (hj : ∀ j, j < 90 → D' 339 j = D 339 j) : RS C' D' S := ⟨h.1, hasN_fr h.2.1 (fun z z1 z2 => hz z z1 (by omega)), hasD_fr h.2.2 h1 hj⟩
theorem RH_fr {C C' D D' : Mm} {P : Pq} {H : Hq} (h : RH C D P H) (h15 : C' 15 = C 15) (hz : ∀ z, 78 ≤ z → z < 286 → C' z = C z) (h5 : D' 338 5 = D 338 5) (hj : ∀ j, 90 ≤ j → j < 810 → D' 339 j = D 339 j) : RH C' D' P H := ⟨hasH_fr h.1 h15 hz, hasU_fr h.1.1 h.2.1 h5 hj, h.2.2⟩
theorem RE_congr {C C' D D' : Mm} (h : RE C D) (hC : ∀ z, z < 338 → C' z = C z) (hD : ∀ z, 338 ≤ z → D' z = D z) : RE C' D' := by
  obtain ⟨S, H, K, rg, T, n, h1, h2, h3, h4, h5⟩ := h
  have d338 := hD 338 (by decide)
  have d339 := hD 339 (by decide)
  exact ⟨S, H, K, rg, T, n, RS_fr h1 (fun z _ _ => hC z (by omega)) (fun j _ _ => by rw [d338]) (fun j _ => by rw [d339]),
    RH_fr h2 (hC _ (by decide)) (fun z _ _ => hC z (by omega)) (by rw [d338]) (fun j _ _ => by rw [d339]),
    fun k hk => kpt_fr hk (h3 k hk) (hC _ (by decide)) (hD _ (by decide)) (fun z _ _ => hC z (by omega)) (fun j _ _ => by rw [d339]),
    RG_fr h4 (fun z _ _ => hC z (by omega)) (hD _ (by decide)) (hD _ (by decide)),
    RT_fr h5 (by rw [hC 1 (by decide)]) (hC _ (by decide)) (by rw [d338]) (hD _ (by decide)) (hD _ (by decide))⟩
/-- one call of both, one after the other, on one memory -/
theorem two {f8 f9 : Mm → Option Rst} {M : Mm} (hR : RE M M) (h : ∀ C D, RE C D → okK f8 f9 C D) : ∃ r M1 M2, f8 M = some (r, M1) ∧ f9 M1 = some (r, M2) ∧ RE M2 M2 := by
  obtain ⟨r, M1, _, h1, _, _, h4, _⟩ := h M M hR
  obtain ⟨r', M1', M2, g1, g2, g3, g4, g5⟩ := h M M1 (RE_congr hR (fun _ _ => rfl) h4)
  rw [h1] at g1
  cases g1
  exact ⟨r, M1, M2, h1, g2, RE_congr g3 (fun z hz => g5 z hz) (fun _ _ => rfl)⟩
theorem okK_no {f8 f9 : Mm → Option Rst} {C D : Mm} (r : Int32) (h : RE C D) (h8 : f8 C = some (r, C)) (h9 : f9 D = some (r, D)) : okK f8 f9 C D := ⟨r, C, D, h8, h9, h, fun _ _ => rfl, fun _ _ => rfl⟩
/-- ring calls -/
theorem ringC {f8 f9 : Mm → Option Rst} (hk : ∀ C D rg, RG C D rg → okR f8 f9 C D) : ∀ C D, RE C D → okK f8 f9 C D := by
  intro C D h
  obtain ⟨S, H, K, rg, T, n, h1, h2, h3, h4, h5⟩ := h
  obtain ⟨r, C', D', rg', r8, r9, hR, fC, fD⟩ := hk C D rg h4
  have d338 := fD 338 (by decide) (by decide)
  have d339 := fD 339 (by decide) (by decide)
  refine ⟨r, C', D', r8, r9, ⟨S, H, K, rg', T, n, RS_fr h1 (fun z _ _ => fC z (by omega)) (fun j _ _ => by rw [d338]) (fun j _ => by rw [d339]), RH_fr h2 (fC _ (by omega)) (fun z _ _ => fC z (by omega)) (by rw [d338]) (fun j _ _ => by rw [d339]), fun k hk => kpt_fr hk (h3 k hk) (fC _ (by omega)) (fD _ (by decide) (by decide)) (fun z _ _ => fC z (by omega)) (fun j _ _ => by rw [d339]), hR, RT_fr h5 (by rw [fC 1 (by omega)]) (fC _ (by omega)) (by rw [d338]) (fD _ (by decide) (by decide)) (fD _ (by decide) (by decide))⟩, fun z hz => fC z (by omega), fun z hz => fD z (by omega) (by omega)⟩
theorem isNode_r {D : Mm} {P : Pq} (hp : wfP P) (hP : hasP D P) (x : Int32) : fX9_isNode x D = some (bI (okI x P.1), D) := by
  have h2 := hp.1
  have h8 := hp.2.1
  unfold fX9_isNode
  rw [hP.1, n1, pk_sub (by omega), in_w x 0 (nI (P.1 - 1)) (by decide) rfl, cl_s, rng_okI x (by omega), gd_t (okZ_bI _), show P.1 - 1 + 1 = P.1 by omega]
