/-! the reference reads the whole text -/
def dS (dg : Bool) (S : Pq × Nq) (x : Nat × (Nat → Nat)) : Pq × Nq := if dg = true then dO S x else S
def dL (dg : Bool) (S : Pq × Nq) (l : Lq) : Pq × Nq := l.foldl (dS dg) S
def wfS (S : Pq × Nq) : Prop := wfP S.1 ∧ wfN S.1 S.2
def hasD (D : Mm) (S : Pq × Nq) : Prop := hasB D 0 S.1 S.2 ∧ hasP D S.1
def frZ (D D' : Mm) : Prop := (∀ z, z ≠ 338 → z ≠ 339 → z ≠ 344 → D' z = D z) ∧ D' 338 5 = D 338 5 ∧ D' 338 8 = D 338 8 ∧ D' 338 15 = D 338 15 ∧ ∀ j, 90 ≤ j → D' 339 j = D 339 j
theorem frZ.rf {D : Mm} : frZ D D := ⟨fun _ _ _ _ => rfl, rfl, rfl, rfl, fun _ _ => rfl⟩
theorem frZ.tr {D D1 D2 : Mm} (h : frZ D D1) (g : frZ D1 D2) : frZ D D2 := ⟨fun z x y w => (g.1 z x y w).trans (h.1 z x y w), g.2.1.trans h.2.1, g.2.2.1.trans h.2.2.1, g.2.2.2.1.trans h.2.2.2.1, fun j x => (g.2.2.2.2 j x).trans (h.2.2.2.2 j x)⟩
theorem frX_Z {D D' : Mm} (h : frX D D') : frZ D D' := ⟨fun z h1 _ h3 => h.1 z h1 h3, h.2 5 (by decide) (by decide), h.2 8 (by decide) (by decide), h.2 15 (by decide) (by decide), fun j _ => by rw [h.1 339 (by decide) (by decide)]⟩
theorem frA_Z {D D' : Mm} (h : frA D D') : frZ D D' := ⟨fun z h1 h2 _ => h.1 z h1 h2, h.2.1 5 (by omega), h.2.1 8 (by omega), h.2.1 15 (by omega), h.2.2⟩
theorem frZ_338 {D : Mm} {k : Nat} {v : Int32} (hk : k = 13 ∨ k = 14) : frZ D (up2 D 338 k v) := ⟨fun z h1 _ _ => up2_c h1, rd_j (by omega), rd_j (by omega), rd_j (by omega), fun j _ => rd_c (by decide)⟩
theorem txD_fr {D D' : Mm} {T : Nat → Nat} {n : Nat} (h : txD D T n) (h1 : D' 338 8 = D 338 8) (h2 : D' 341 = D 341) : txD D' T n := ⟨h.1, h.2.1, by rw [h1]; exact h.2.2.1, by rw [h2]; exact h.2.2.2⟩
theorem tkR_fr {D D' : Mm} {T : Nat → Nat} {n e : Nat} (h : tkR D T n e) (h1 : D' 338 8 = D 338 8) (h2 : D' 341 = D 341) (h3 : D' 338 11 = D 338 11) (h4 : D' 338 12 = D 338 12) : tkR D' T n e := ⟨txD_fr h.1 h1 h2, h.2.1, by rw [h3]; exact h.2.2.1, by rw [h4]; exact h.2.2.2⟩
theorem wds_fr {D D' : Mm} (h : wds D) (h1 : D' 345 = D 345) : wds D' := fun w hw j hj => by rw [h1]; exact h w hw j hj
theorem hasD_X {D D' : Mm} {S : Pq × Nq} (h : hasD D S) (g : frX D D') : hasD D' S := by
  refine ⟨hasB_fr h.1 (fun j _ _ => by rw [g.1 339 (by decide) (by decide)]), ?_⟩
  obtain ⟨p1, p2, p3, p4⟩ := h.2
  exact ⟨by rw [g.2 1 (by decide) (by decide)]; exact p1, by rw [g.2 2 (by decide) (by decide)]; exact p2, by rw [g.2 3 (by decide) (by decide)]; exact p3, by rw [g.2 4 (by decide) (by decide)]; exact p4⟩
theorem hasD_338 {D : Mm} {S : Pq × Nq} {k : Nat} {v : Int32} (h : hasD D S) (hk : 5 ≤ k) : hasD (up2 D 338 k v) S := by
  refine ⟨hasB_fr h.1 (fun j _ _ => rd_c (by decide)), ?_⟩
  obtain ⟨p1, p2, p3, p4⟩ := h.2
  exact ⟨by rw [rd_j (by omega)]; exact p1, by rw [rd_j (by omega)]; exact p2, by rw [rd_j (by omega)]; exact p3, by rw [rd_j (by omega)]; exact p4⟩
theorem cls_wn {T : Nat → Nat} {n m e : Nat} (h : wrd T n e = none) : cls T n m e = (none, e) := by unfold cls; rw [h]
theorem cls_ws {T : Nat → Nat} {n m e w : Nat} (h : wrd T n e = some w) : cls T n m e = if (rdN T n w m (cn w) 0 (tkE T n e) q0N).1 = true then (some (w, (rdN T n w m (cn w) 0 (tkE T n e) q0N).2.2), (rdN T n w m (cn w) 0 (tkE T n e) q0N).2.1) else (none, (rdN T n w m (cn w) 0 (tkE T n e) q0N).2.1) := by unfold cls; rw [h]
theorem nwM_1 {w m : Nat} {q : Nat → Nat} (hm : 1 ≤ m) (h : fit8 w m q) : 1 ≤ nwM w m q := by
  unfold nwM
  by_cases hw : w = 0
  · rw [if_pos hw]; subst hw; have := fit_0 h; omega
  · rw [if_neg hw]; exact hm
theorem clause_r {D : Mm} {T : Nat → Nat} {n e m : Nat} {dg : Bool} {S : Pq × Nq} (h : tkR D T n e) (hW : wds D) (h13 : D 338 13 = nI m) (h15 : D 338 15 = bI dg) (hm : 1 ≤ m) (hm8 : m ≤ 8) (hS : wfS S) (hD : hasD D S) (hdm : dg = true → m = S.1.1) :
    ∃ D', tkR D' T n (cls T n m e).2 ∧ frZ D D' ∧ D' 338 14 = D 338 14 ∧ ((∃ w q, (cls T n m e).1 = some (w, q) ∧ fX9_readsClause D = some (1, D') ∧ D' 338 13 = nI (nwM w m q) ∧ fit8 w m q ∧ wfS (dS dg S (w, q)) ∧ hasD D' (dS dg S (w, q)) ∧ (dg = true → nwM w m q = (dS dg S (w, q)).1.1)) ∨ ((cls T n m e).1 = none ∧ fX9_readsClause D = some (0, D') ∧ hasD D' S)) := by
  have he := h.2.1
  unfold fX9_readsClause
  rw [wordHere_r h hW, cl_s]
  cases hw : wrd T n e with
  | none =>
    rw [cls_wn hw]
    exact ⟨D, h, frZ.rf, rfl, Or.inr ⟨rfl, by rw [show oI none = -1 from rfl, if_pos rfl], hD⟩⟩
  | some w =>
    have hw5 : w < 5 := by
      have := wrdF_lt 5 0 w hw
      omega
    have hN := nextTok_r h.1 (tkE_le he).2 h.2.2.2
    have fx0 : frX D (tkD D T n (tkE T n e)) := frX_tk
    obtain ⟨D2, r2, t2, f2, p2⟩ := rest_r (D := tkD D T n (tkE T n e)) (T := T) (n := n) (e := tkE T n e) (m := m) hw5 (tkR_tkD h.1 (tkE_le he).2) hm hm8 (by rw [fx0.2 13 (by decide) (by decide)]; exact h13)
    have fx := fx0.tr f2
    rw [show oI (some w) = nI w from rfl, if_neg (nI_nm1 (by omega)), hN, cl_s, r2, cl_s, cls_ws hw]
    cases hr : (rdN T n w m (cn w) 0 (tkE T n e) q0N).1 with
    | false =>
      rw [bF, if_pos (show bI false = 0 from rfl)]
      exact ⟨D2, t2, frX_Z fx, fx.2 14 (by decide) (by decide), Or.inr ⟨rfl, rfl, hasD_X hD fx⟩⟩
    | true =>
      have hcl : (cls T n m e).1 = some (w, (rdN T n w m (cn w) 0 (tkE T n e) q0N).2.2) := by rw [cls_ws hw, hr, bT]
      obtain ⟨-, k2, k3⟩ := cls_ok he hcl
      rw [bT, if_neg (by decide)]
      have q2 := p2 hr
      have h15b : D2 338 15 = bI dg := by rw [fx.2 15 (by decide) (by decide)]; exact h15
      have hD2 := hasD_X hD fx
      have key : ∀ v, v = nI (nwM w m (rdN T n w m (cn w) 0 (tkE T n e) q0N).2.2) → ∃ D', tkR D' T n (rdN T n w m (cn w) 0 (tkE T n e) q0N).2.1 ∧ frZ D2 D' ∧ D' 338 14 = D2 338 14 ∧ (if (up2 D2 338 13 v) 338 15 = 0 then some ((1 : Int32), up2 D2 338 13 v) else cl (fX9_does (nI w) (up2 D2 338 13 v)) (fun _ M5 => some ((1 : Int32), M5))) = some (1, D') ∧ D' 338 13 = v ∧ wfS (dS dg S (w, (rdN T n w m (cn w) 0 (tkE T n e) q0N).2.2)) ∧ hasD D' (dS dg S (w, (rdN T n w m (cn w) 0 (tkE T n e) q0N).2.2)) ∧ (dg = true → nwM w m (rdN T n w m (cn w) 0 (tkE T n e) q0N).2.2 = (dS dg S (w, (rdN T n w m (cn w) 0 (tkE T n e) q0N).2.2)).1.1) := by
        intro v hv
        have t3 : tkR (up2 D2 338 13 v) T n (rdN T n w m (cn w) 0 (tkE T n e) q0N).2.1 := tkR_fr t2 (rd_j (by decide)) (up2_c (by decide)) (rd_j (by decide)) (rd_j (by decide))
        have d3 := hasD_338 (k := 13) (v := v) hD2 (by decide)
        rw [rd_j (by decide), h15b]
        cases hdg : dg with
        | false =>
          rw [if_pos (show bI false = 0 from rfl)]
          exact ⟨_, t3, frZ_338 (Or.inl rfl), rd_j (by decide), rfl, up2_s _ _ _ _, hS, d3, fun z => (by cases z)⟩
        | true =>
          have hmm := hdm hdg
          rw [if_neg (by decide)]
          obtain ⟨D4, r4, v4, p4, f4⟩ := does_r (D := up2 D2 338 13 v) (S := S) hw5 (by rw [← hmm]; exact k3) hS.1 hS.2 d3.1 d3.2 (fun k hk => by rw [rd_c (by decide)]; exact q2 k hk)
          obtain ⟨w1, w2, w3⟩ := dO_wf (S := S) hw5 (by rw [← hmm]; exact k3) hS.1 hS.2
          rw [r4, cl_s]
          refine ⟨D4, tkR_fr t3 (f4.2.1 8 (by omega)) (f4.1 341 (by decide) (by decide)) (f4.2.1 11 (by omega)) (f4.2.1 12 (by omega)), (frZ_338 (Or.inl rfl)).tr (frA_Z f4), ?_, rfl, ?_, ⟨w1, w2⟩, ⟨v4, p4⟩, fun _ => ?_⟩
          · rw [f4.2.1 14 (by omega), rd_j (by decide)]
          · rw [f4.2.1 13 (by omega), up2_s]
          · show _ = (dO S _).1.1
            rw [w3, hmm]
      by_cases hw0 : w = 0
      · obtain ⟨D', a1, a2, a3, a4, a5, a6, a7, a8⟩ := key (D2 344 0) (by rw [q2 0 (cn_4 w).1, nwM, if_pos hw0])
        refine ⟨D', a1, (frX_Z fx).tr a2, a3.trans (fx.2 14 (by decide) (by decide)), Or.inl ⟨w, _, rfl, ?_, ?_, k3, a6, a7, a8⟩⟩
        · rw [if_pos (show nI w = 0 by rw [hw0]; rfl)]; exact a4
        · rw [a5, q2 0 (cn_4 w).1, nwM, if_pos hw0]
      · have e13 : D2 338 13 = nI m := by rw [fx.2 13 (by decide) (by decide)]; exact h13
        obtain ⟨D', a1, a2, a3, a4, a5, a6, a7, a8⟩ := key (D2 338 13) (by rw [e13, nwM, if_neg hw0])
        refine ⟨D', a1, (frX_Z fx).tr a2, a3.trans (fx.2 14 (by decide) (by decide)), Or.inl ⟨w, _, rfl, ?_, ?_, k3, a6, a7, a8⟩⟩
        · rw [if_neg (nI_ne0 (by omega) (by omega))]; exact a4
        · rw [a5, e13, nwM, if_neg hw0]
theorem tk_59 {T : Nat → Nat} {n e : Nat} (h : tkS T n e < n) : T (tkS T n e) = 59 ↔ tkK T n e = 3 := by
  rw [tkK, kd, if_pos h, kdL]
  repeat' split
  all_goals omega
def rdQ (T : Nat → Nat) (n c : Nat) (dg : Bool) (S : Pq × Nq) (D : Mm) (f : Option Rst) (R : Bool × Nat × Lq) : Prop := ∃ D', f = some (bI R.1, D') ∧ tkR D' T n R.2.1 ∧ frZ D D' ∧ wfS (dL dg S R.2.2) ∧ hasD D' (dL dg S R.2.2) ∧ (R.1 = true → D' 338 14 = nI (c + R.2.2.length))
theorem reads_run {T : Nat → Nat} {n : Nat} {dg : Bool} : ∀ d c e m S (D : Mm), c + (d + 1) = 24 → tkR D T n e → wds D → D 338 13 = nI m → D 338 15 = bI dg → 1 ≤ m → m ≤ 8 → wfS S → hasD D S → (dg = true → m = S.1.1) →
    rdQ T n c dg S D (cl (fX9_readsClause D) (fun r2 M2 => run stX9_reads (1, [], [r2], up2 M2 338 14 (nI (c + 1))))) (rds T n (d + 1) e m) := by
  intro d
  induction d with
  | zero =>
    intro c e m S D hc h hW h13 h15 hm hm8 hS hD hdm
    obtain ⟨D1, t1, f1, g1, h5⟩ := clause_r h hW h13 h15 hm hm8 hS hD hdm
    have hn := h.1.1
    have hSl := tkS_le (T := T) t1.2.1
    rcases h5 with ⟨w, q, hs, hr, h6, k3, h7, h8, h9⟩ | ⟨hs, hr, h8⟩
    · rw [hr, cl_s]
      have t2 : tkR (up2 D1 338 14 (nI (c + 1))) T n (cls T n m e).2 := tkR_fr t1 (rd_j (by decide)) (up2_c (by decide)) (rd_j (by decide)) (rd_j (by decide))
      have d2 := hasD_338 (k := 14) (v := nI (c + 1)) h8 (by decide)
      have f2 := f1.tr (frZ_338 (D := D1) (k := 14) (v := nI (c + 1)) (Or.inr rfl))
      have hrun : run stX9_reads (1, [], [1], up2 D1 338 14 (nI (c + 1))) = if nI n ≤ nI (tkS T n (cls T n m e).2) then some (1, up2 D1 338 14 (nI (c + 1))) else run stX9_reads (2, [], [0], up2 D1 338 14 (nI (c + 1))) := by
        rw [eX9_reads_1, if_neg (by decide), t2.1.2.2.1, t2.2.2.1, up2_s, n24, if_pos (show nI 24 ≤ nI (c + 1) from nI_le (by omega) (by omega))]; rfl
      by_cases g0 : tkK T n (cls T n m e).2 = 0
      · have hR : rds T n (0 + 1) e m = (true, (cls T n m e).2, [(w, q)]) := by rw [rds_s (f := (cls T n m e).2) (w := w) (q := q) (by rw [← hs]), if_pos g0]
        have hge : ¬ tkS T n (cls T n m e).2 < n := fun z => (tk_lt t1.2.1).mp z g0
        rw [hR, hrun, if_pos (nI_le (by omega) (by omega))]
        exact ⟨_, rfl, t2, f2, h7, d2, fun _ => up2_s _ _ _ _⟩
      · have hR : rds T n (0 + 1) e m = (false, (cls T n m e).2, [(w, q)]) := by rw [rds_s (f := (cls T n m e).2) (w := w) (q := q) (by rw [← hs]), if_neg g0, if_neg (fun z => z.2 rfl)]
        have hlt : tkS T n (cls T n m e).2 < n := (tk_lt t1.2.1).mpr g0
        rw [hR, hrun, if_neg (nI_ge hlt (by omega)), eX9_reads_2, if_pos rfl, eX9_reads_1, if_pos rfl]
        exact ⟨_, rfl, t2, f2, h7, d2, fun z => (by cases z)⟩
    · have hR : rds T n (0 + 1) e m = (false, (cls T n m e).2, []) := rds_n (by rw [← hs])
      rw [hR, hr, cl_s, eX9_reads_1, if_pos rfl]
      exact ⟨_, rfl, tkR_fr t1 (rd_j (by decide)) (up2_c (by decide)) (rd_j (by decide)) (rd_j (by decide)), f1.tr (frZ_338 (Or.inr rfl)), hS, hasD_338 h8 (by decide), fun z => (by cases z)⟩
  | succ d ih =>
    intro c e m S D hc h hW h13 h15 hm hm8 hS hD hdm
    obtain ⟨D1, t1, f1, g1, h5⟩ := clause_r h hW h13 h15 hm hm8 hS hD hdm
    have hn := h.1.1
    have hSl := tkS_le (T := T) t1.2.1
    rcases h5 with ⟨w, q, hs, hr, h6, k3, h7, h8, h9⟩ | ⟨hs, hr, h8⟩
    · rw [hr, cl_s]
      have t2 : tkR (up2 D1 338 14 (nI (c + 1))) T n (cls T n m e).2 := tkR_fr t1 (rd_j (by decide)) (up2_c (by decide)) (rd_j (by decide)) (rd_j (by decide))
      have d2 := hasD_338 (k := 14) (v := nI (c + 1)) h8 (by decide)
      have f2 := f1.tr (frZ_338 (D := D1) (k := 14) (v := nI (c + 1)) (Or.inr rfl))
      by_cases g0 : tkK T n (cls T n m e).2 = 0
      · have hR : rds T n (d + 1 + 1) e m = (true, (cls T n m e).2, [(w, q)]) := by rw [rds_s (f := (cls T n m e).2) (w := w) (q := q) (by rw [← hs]), if_pos g0]
        have hge : ¬ tkS T n (cls T n m e).2 < n := fun z => (tk_lt t1.2.1).mp z g0
        rw [hR, eX9_reads_1, if_neg (by decide), t2.1.2.2.1, t2.2.2.1, if_pos (nI_le (by omega) (by omega))]
        exact ⟨_, rfl, t2, f2, h7, d2, fun _ => up2_s _ _ _ _⟩
      · have hlt : tkS T n (cls T n m e).2 < n := (tk_lt t1.2.1).mpr g0
        have hx := h.1.2.1 (tkS T n (cls T n m e).2)
        rw [eX9_reads_1, if_neg (by decide), t2.1.2.2.1, t2.2.2.1, if_neg (nI_ge hlt (by omega)), up2_s, n24, if_neg (nI_ge (by omega) (by omega)), gd_ok (by omega) (by decide), ix_nI (by omega), t2.1.2.2.2 _ hlt]
        by_cases g3 : tkK T n (cls T n m e).2 = 3
        · have hR : rds T n (d + 1 + 1) e m = ((rds T n (d + 1) (tkE T n (cls T n m e).2) (nwM w m q)).1, (rds T n (d + 1) (tkE T n (cls T n m e).2) (nwM w m q)).2.1, (w, q) :: (rds T n (d + 1) (tkE T n (cls T n m e).2) (nwM w m q)).2.2) := by rw [rds_s (f := (cls T n m e).2) (w := w) (q := q) (by rw [← hs]), if_neg g0, if_pos ⟨g3, by omega⟩]
          have hN := nextTok_r t2.1 (tkE_le t1.2.1).2 t2.2.2.2
          have fx : frX (up2 D1 338 14 (nI (c + 1))) (tkD (up2 D1 338 14 (nI (c + 1))) T n (tkE T n (cls T n m e).2)) := frX_tk
          have f3 := f2.tr (frX_Z fx)
          have hih := ih (c + 1) (tkE T n (cls T n m e).2) (nwM w m q) (dS dg S (w, q)) _ (by omega) (tkR_tkD t2.1 (tkE_le t1.2.1).2) (wds_fr hW (f3.1 345 (by decide) (by decide) (by decide))) (by rw [fx.2 13 (by decide) (by decide), rd_j (by decide)]; exact h6) (by rw [f3.2.2.2.1]; exact h15) (nwM_1 hm k3) (nwM_8 hm8 k3) h7 (hasD_X d2 fx) h9
          rw [hR, if_pos (show nI (T (tkS T n (cls T n m e).2)) = 59 by rw [(tk_59 hlt).mpr g3]; rfl), eX9_reads_2, if_neg (by decide), hN, cl_s]
          obtain ⟨D', a1, a2, a3, a4, a5, a6⟩ := hih
          refine ⟨D', ?_, a2, f3.tr a3, a4, a5, fun z => ?_⟩
          · have e14 : ∀ D0 r D5, fX9_readsClause D0 = some (r, D5) → D0 338 14 = nI (c + 1) → D0 = tkD (up2 D1 338 14 (nI (c + 1))) T n (tkE T n (cls T n m e).2) → D5 338 14 = nI (c + 1) := by
              intro D0 r D5 h0 h1 h2
              subst h2
              obtain ⟨D6, -, -, g6, h66⟩ := clause_r (tkR_tkD t2.1 (tkE_le t1.2.1).2) (wds_fr hW (f3.1 345 (by decide) (by decide) (by decide))) (m := nwM w m q) (by rw [fx.2 13 (by decide) (by decide), rd_j (by decide)]; exact h6) (by rw [f3.2.2.2.1]; exact h15) (nwM_1 hm k3) (nwM_8 hm8 k3) h7 (hasD_X d2 fx) h9
              rcases h66 with ⟨w', q', -, hr6, -⟩ | ⟨-, hr6, -⟩
              · rw [hr6] at h0; cases h0; rw [g6]; exact h1
              · rw [hr6] at h0; cases h0; rw [g6]; exact h1
            rw [← a1]
            cases hc6 : fX9_readsClause (tkD (up2 D1 338 14 (nI (c + 1))) T n (tkE T n (cls T n m e).2)) with
            | none => rfl
            | some z6 =>
              obtain ⟨r6, D6⟩ := z6
              rw [cl_s, cl_s, e14 _ _ _ hc6 (by rw [fx.2 14 (by decide) (by decide), up2_s]) rfl, nI_1]
          · rw [a6 z]
            congr 1
            simp only [List.length_cons]
            omega
        · have hR : rds T n (d + 1 + 1) e m = (false, (cls T n m e).2, [(w, q)]) := by rw [rds_s (f := (cls T n m e).2) (w := w) (q := q) (by rw [← hs]), if_neg g0, if_neg (fun z => g3 z.1)]
          rw [hR, if_neg (show ¬ nI (T (tkS T n (cls T n m e).2)) = 59 from fun z => g3 ((tk_59 hlt).mp ((nI_eq (b := 59) (by omega) (by decide)).mp z))), eX9_reads_2, if_pos rfl, eX9_reads_1, if_pos rfl]
          exact ⟨_, rfl, t2, f2, h7, d2, fun z => (by cases z)⟩
    · have hR : rds T n (d + 1 + 1) e m = (false, (cls T n m e).2, []) := rds_n (by rw [← hs])
      rw [hR, hr, cl_s, eX9_reads_1, if_pos rfl]
      exact ⟨_, rfl, tkR_fr t1 (rd_j (by decide)) (up2_c (by decide)) (rd_j (by decide)) (rd_j (by decide)), f1.tr (frZ_338 (Or.inr rfl)), hS, hasD_338 h8 (by decide), fun z => (by cases z)⟩
/-- what all reading leaves in the reference -/
def frW (D D' : Mm) : Prop := (∀ z, z ≠ 338 → z ≠ 339 → z ≠ 344 → D' z = D z) ∧ D' 338 5 = D 338 5 ∧ D' 338 8 = D 338 8 ∧ ∀ j, 90 ≤ j → D' 339 j = D 339 j
theorem reads_r {D : Mm} {T : Nat → Nat} {n : Nat} {S : Pq × Nq} (dg : Bool) (hT : txD D T n) (hW : wds D) (hS : wfS S) (hD : hasD D S) :
    ∃ D', fX9_reads (bI dg) D = some (bI (rdA T n S.1.1).1, D') ∧ D' 338 11 = nI (tkS T n (rdA T n S.1.1).2.1) ∧ frW D D' ∧ wfS (dL dg S (rdA T n S.1.1).2.2) ∧ hasD D' (dL dg S (rdA T n S.1.1).2.2) ∧ ((rdA T n S.1.1).1 = true → D' 338 14 = nI (rdA T n S.1.1).2.2.length) := by
  have h8 := hS.1.2.1
  have h2 := hS.1.1
  have hT0 : txD (up2 (up2 (up2 (up2 D 338 15 (bI dg)) 338 12 0) 338 14 1) 338 13 (nI S.1.1)) T n := txD_up (txD_up (txD_up (txD_up hT (by decide)) (by decide)) (by decide)) (by decide)
  have hN := nextTok_r (e := 0) hT0 (by omega) (by simp (disch := decide) only [rd_j, up2_s]; rfl)
  have fx : frX (up2 (up2 (up2 (up2 D 338 15 (bI dg)) 338 12 0) 338 14 1) 338 13 (nI S.1.1)) (tkD (up2 (up2 (up2 (up2 D 338 15 (bI dg)) 338 12 0) 338 14 1) 338 13 (nI S.1.1)) T n 0) := frX_tk
  have hD0 : hasD (up2 (up2 (up2 (up2 D 338 15 (bI dg)) 338 12 0) 338 14 1) 338 13 (nI S.1.1)) S := hasD_338 (hasD_338 (hasD_338 (hasD_338 hD (by decide)) (by decide)) (by decide)) (by decide)
  have hWW : wds (tkD (up2 (up2 (up2 (up2 D 338 15 (bI dg)) 338 12 0) 338 14 1) 338 13 (nI S.1.1)) T n 0) := wds_fr hW (by rw [fx.1 345 (by decide) (by decide), up2_c (by decide), up2_c (by decide), up2_c (by decide), up2_c (by decide)])
  have h13 : tkD (up2 (up2 (up2 (up2 D 338 15 (bI dg)) 338 12 0) 338 14 1) 338 13 (nI S.1.1)) T n 0 338 13 = nI S.1.1 := by rw [fx.2 13 (by decide) (by decide), up2_s]
  have h15 : tkD (up2 (up2 (up2 (up2 D 338 15 (bI dg)) 338 12 0) 338 14 1) 338 13 (nI S.1.1)) T n 0 338 15 = bI dg := by rw [fx.2 15 (by decide) (by decide)]; simp (disch := decide) only [rd_j, up2_s]
  obtain ⟨D', a1, a2, a3, a4, a5, a6⟩ := reads_run (T := T) (n := n) (dg := dg) 23 0 0 S.1.1 S _ (by omega) (tkR_tkD hT0 (by omega)) hWW h13 h15 (by omega) h8 hS (hasD_X hD0 fx) (fun _ => rfl)
  refine ⟨D', ?_, a2.2.2.1, ⟨fun z h1 h2 h3 => ?_, ?_, ?_, fun j hj => ?_⟩, a4, a5, fun z => by rw [a6 z, Nat.zero_add]; rfl⟩
  · unfold fX9_reads
    rw [eX9_reads_0, gd_t (okZ_bI _), rd_j (by decide), rd_j (by decide), rd_j (by decide), hD.2.1, hN, cl_s]
    rw [show rdA T n S.1.1 = rds T n (23 + 1) 0 S.1.1 from rfl, ← a1]
    obtain ⟨D6, -, -, g6, h66⟩ := clause_r (tkR_tkD hT0 (by omega)) hWW h13 h15 (by omega) h8 hS (hasD_X hD0 fx) (fun _ => rfl)
    have e14 : D6 338 14 = nI (0 + 1) := by rw [g6, fx.2 14 (by decide) (by decide), rd_j (by decide), up2_s]; rfl
    rcases h66 with ⟨w', q', -, hr6, -⟩ | ⟨-, hr6, -⟩
    · rw [hr6, cl_s, cl_s, up2_id e14]
    · rw [hr6, cl_s, cl_s, up2_id e14]
  · rw [a3.1 z h1 h2 h3, fx.1 z h1 h3, up2_c h1, up2_c h1, up2_c h1, up2_c h1]
  · rw [a3.2.1, fx.2 5 (by decide) (by decide)]; simp (disch := decide) only [rd_j]
  · rw [a3.2.2.1, fx.2 8 (by decide) (by decide)]; simp (disch := decide) only [rd_j]
  · rw [a3.2.2.2.2 j hj, fx.1 339 (by decide) (by decide), rd_c (by decide), rd_c (by decide), rd_c (by decide), rd_c (by decide)]
