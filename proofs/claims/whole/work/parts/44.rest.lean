/-! the numbers of a clause in the reference -/
def frX (D D' : Mm) : Prop := (∀ z, z ≠ 338 → z ≠ 344 → D' z = D z) ∧ ∀ j, j ≠ 11 → j ≠ 12 → D' 338 j = D 338 j
theorem frX.rf {D : Mm} : frX D D := ⟨fun _ _ _ => rfl, fun _ _ _ => rfl⟩
theorem frX.tr {D D1 D2 : Mm} (h : frX D D1) (g : frX D1 D2) : frX D D2 := ⟨fun z x y => (g.1 z x y).trans (h.1 z x y), fun j x y => (g.2 j x y).trans (h.2 j x y)⟩
theorem frX_tk {D : Mm} {T : Nat → Nat} {n e : Nat} : frX D (tkD D T n e) := ⟨fun z h _ => by rw [tkD, up2_c h, up2_c h], fun j h1 h2 => by rw [tkD, rd_j h2, rd_j h1]⟩
theorem frX_344 {D : Mm} {k : Nat} {v : Int32} : frX D (up2 D 344 k v) := ⟨fun z _ h => up2_c h, fun j _ _ => rd_c (by decide)⟩
theorem num_step {D : Mm} {T : Nat → Nat} {n e w m j i : Nat} {q : Nat → Nat} {x2 x3 x4 : Int32} (h : tkR D T n e) (hi : i < 4) (hq : ∀ k, k < i → D 344 k = nI (q k)) (hq2 : ∀ k, q k < 1000) (hx : ∀ v, v < 1000 → ((x2 ≤ nI v ∧ nI v ≤ x3 ∧ nI v ≠ x4) ↔ fit w m q i v = true)) :
    (∃ v D', v < 1000 ∧ fX9_number (nI i) x2 x3 x4 D = some (1, D') ∧ rdN T n w m (j + 1) i e q = rdN T n w m j (i + 1) (tkE T n e) (va_up q i v) ∧ tkR D' T n (tkE T n e) ∧ frX D D' ∧ (∀ k, va_up q i v k < 1000) ∧ ∀ k, k < i + 1 → D' 344 k = nI (va_up q i v k)) ∨ (fX9_number (nI i) x2 x3 x4 D = some (0, D) ∧ rdN T n w m (j + 1) i e q = (false, e, q)) := by
  have he := h.2.1
  cases hv : nm T n e with
  | none => exact Or.inr ⟨number_n h hv, rdN_n hv⟩
  | some v =>
    have hvl := nm_lt he hv
    cases hf : fit w m q i v with
    | false =>
      refine Or.inr ⟨?_, rdN_f hv hf⟩
      rw [number_s h hv hi, if_neg (fun z => by have := (hx v hvl).mp z; rw [hf] at this; cases this)]
    | true =>
      refine Or.inl ⟨v, tkD (up2 D 344 i (nI v)) T n (tkE T n e), hvl, ?_, rdN_s hv hf, tkR_tkD (txD_c h.1 (by decide) (by decide)) (tkE_le he).2, frX_344.tr frX_tk, up_lt hq2 hvl, fun k hk => ?_⟩
      · rw [number_s h hv hi, if_pos ((hx v hvl).mpr hf)]
      · rw [tkD, rd_c (by decide), rd_c (by decide)]
        by_cases hk2 : k = i
        · rw [hk2, up2_s, va_up_self]
        · rw [rd_j hk2, va_up_ne _ _ hk2]; exact hq k (by omega)
theorem rng_b {v lo hi : Nat} {x : Int32} (hv : v < 1000) (hl : lo < 1000) (hh : hi < 1000) (hx : nI v ≠ x) : (nI lo ≤ nI v ∧ nI v ≤ nI hi ∧ nI v ≠ x) ↔ (lo ≤ v ∧ v ≤ hi) := by
  rw [nI_leI (by omega) (by omega), nI_leI (by omega) (by omega)]
  exact ⟨fun z => ⟨z.1, z.2.1⟩, fun z => ⟨z.1, z.2, hx⟩⟩
theorem fit_net {m v lo hi i : Nat} {q : Nat → Nat} (hv : v < 1000) (hl : loN i = lo) (hh : hiN q i = hi) (hlt : hi < 1000) : (nI lo ≤ nI v ∧ nI v ≤ nI hi ∧ nI v ≠ -1) ↔ fit 0 m q i v = true := by
  have : loN i < 3 := by
    unfold loN
    split <;> omega
  rw [rng_b hv (by omega) hlt (nI_nm1 (by omega)), fit, if_pos rfl, decide_eq_true_eq, hl, hh]
theorem fit_node0 {w m v : Nat} {q : Nat → Nat} (hw : w ≠ 0) (hv : v < 1000) (hm : 1 ≤ m) (hm8 : m ≤ 8) : ((0 : Int32) ≤ nI v ∧ nI v ≤ nI m - 1 ∧ nI v ≠ -1) ↔ fit w m q 0 v = true := by
  rw [n1, pk_sub hm, n0, rng_b hv (by omega) (by omega) (by exact nI_nm1 (by omega)), fit, if_neg hw, if_neg (by decide), decide_eq_true_eq]
  constructor
  · intro z; exact ⟨by omega, Or.inl rfl⟩
  · intro z; omega
theorem fit_node1 {w m v : Nat} {q : Nat → Nat} (hw : w ≠ 0) (hv : v < 1000) (hq : q 0 < 1000) (hm : 1 ≤ m) (hm8 : m ≤ 8) : ((0 : Int32) ≤ nI v ∧ nI v ≤ nI m - 1 ∧ nI v ≠ nI (q 0)) ↔ fit w m q 1 v = true := by
  rw [n1, pk_sub hm, n0, nI_leI (by omega) (by omega), nI_leI (by omega) (by omega), fit, if_neg hw, if_neg (by decide), decide_eq_true_eq]
  constructor
  · intro z; exact ⟨by omega, Or.inr (fun y => z.2.2 (by rw [y]))⟩
  · intro z
    refine ⟨by omega, by omega, fun y => ?_⟩
    have := (nI_eq (by omega) (by omega)).mp y
    omega
theorem fit_age {w m v : Nat} {q : Nat → Nat} (hw : w ≠ 0) (hv : v < 1000) : ((0 : Int32) ≤ nI v ∧ nI v ≤ (99 : Int32) ∧ nI v ≠ -1) ↔ fit w m q 2 v = true := by
  rw [n99, n0, rng_b hv (by omega) (by omega) (by exact nI_nm1 (by omega)), fit, if_neg hw, if_pos rfl, decide_eq_true_eq]
  constructor
  · intro z; omega
  · intro z; omega
/-- what the rest of a clause comes to -/
def rsP (T : Nat → Nat) (n w : Nat) (D : Mm) (f : Option Rst) (R : Bool × Nat × (Nat → Nat)) : Prop := ∃ D', f = some (bI R.1, D') ∧ tkR D' T n R.2.1 ∧ frX D D' ∧ (R.1 = true → ∀ k, k < cn w → D' 344 k = nI (R.2.2 k))
theorem rsP_fr {T : Nat → Nat} {n w : Nat} {D D1 : Mm} {f : Option Rst} {R : Bool × Nat × (Nat → Nat)} (h : rsP T n w D1 f R) (g : frX D D1) : rsP T n w D f R := by
  obtain ⟨D', h1, h2, h3, h4⟩ := h
  exact ⟨D', h1, h2, g.tr h3, h4⟩
theorem qz : ∀ k, q0N k < 1000 := fun k => show (0 : Nat) < 1000 by decide
theorem node0_step {D : Mm} {T : Nat → Nat} {n e w m j : Nat} (h : tkR D T n e) (hw : w ≠ 0) (hm : 1 ≤ m) (hm8 : m ≤ 8) (h13 : D 338 13 = nI m) :
    (∃ v D', v < 1000 ∧ fX9_readsNode 0 (-1) D = some (1, D') ∧ rdN T n w m (j + 1) 0 e q0N = rdN T n w m j 1 (tkE T n e) (va_up q0N 0 v) ∧ tkR D' T n (tkE T n e) ∧ frX D D' ∧ (∀ k, va_up q0N 0 v k < 1000) ∧ ∀ k, k < 1 → D' 344 k = nI (va_up q0N 0 v k)) ∨ (fX9_readsNode 0 (-1) D = some (0, D) ∧ rdN T n w m (j + 1) 0 e q0N = (false, e, q0N)) := by
  unfold fX9_readsNode
  rw [h13]
  rcases num_step (j := j) (i := 0) (w := w) (m := m) (q := q0N) (x2 := 0) (x3 := nI m - 1) (x4 := -1) h (by decide) (fun k hk => by omega) qz (fun v hv => fit_node0 hw hv hm hm8) with ⟨v, D', h1, h2, h3⟩ | ⟨h1, h2⟩
  · refine Or.inl ⟨v, D', h1, ?_, h3⟩
    rw [show fX9_number 0 0 (nI m - 1) (-1) D = _ from h2, cl_s]; rfl
  · refine Or.inr ⟨?_, h2⟩
    rw [show fX9_number 0 0 (nI m - 1) (-1) D = _ from h1, cl_s]; rfl
theorem node1_step {D : Mm} {T : Nat → Nat} {n e w m j : Nat} {q : Nat → Nat} (h : tkR D T n e) (hw : w ≠ 0) (hm : 1 ≤ m) (hm8 : m ≤ 8) (h13 : D 338 13 = nI m) (hq : ∀ k, k < 1 → D 344 k = nI (q k)) (hq2 : ∀ k, q k < 1000) :
    (∃ v D', v < 1000 ∧ fX9_readsNode 1 (D 344 (ix 0)) D = some (1, D') ∧ rdN T n w m (j + 1) 1 e q = rdN T n w m j 2 (tkE T n e) (va_up q 1 v) ∧ tkR D' T n (tkE T n e) ∧ frX D D' ∧ (∀ k, va_up q 1 v k < 1000) ∧ ∀ k, k < 2 → D' 344 k = nI (va_up q 1 v k)) ∨ (fX9_readsNode 1 (D 344 (ix 0)) D = some (0, D) ∧ rdN T n w m (j + 1) 1 e q = (false, e, q)) := by
  unfold fX9_readsNode
  rw [h13, show ix 0 = 0 from rfl, hq 0 (by decide)]
  rcases num_step (j := j) (i := 1) (w := w) (m := m) (q := q) (x2 := 0) (x3 := nI m - 1) (x4 := nI (q 0)) h (by decide) hq hq2 (fun v hv => fit_node1 hw hv (hq2 0) hm hm8) with ⟨v, D', h1, h2, h3⟩ | ⟨h1, h2⟩
  · refine Or.inl ⟨v, D', h1, ?_, h3⟩
    rw [show fX9_number 1 0 (nI m - 1) (nI (q 0)) D = _ from h2, cl_s]; rfl
  · refine Or.inr ⟨?_, h2⟩
    rw [show fX9_number 1 0 (nI m - 1) (nI (q 0)) D = _ from h1, cl_s]; rfl
theorem rest_net {D : Mm} {T : Nat → Nat} {n e m : Nat} (h : tkR D T n e) : rsP T n 0 D (fX9_readsRest 0 D) (rdN T n 0 m 4 0 e q0N) := by
  unfold fX9_readsRest
  rw [if_pos rfl]
  rcases num_step (j := 3) (i := 0) (w := 0) (m := m) (q := q0N) (x2 := nI 2) (x3 := nI 8) (x4 := -1) h (by decide) (fun k hk => by omega) qz (fun v hv => fit_net hv rfl rfl (by decide)) with ⟨v0, D1, b1, r1, e1, t1, f1, u1, p1⟩ | ⟨r1, e1⟩
  · rw [show fX9_number 0 2 8 (-1) D = _ from r1, cl_s, if_neg (by decide), e1]
    rcases num_step (j := 2) (i := 1) (w := 0) (m := m) (q := va_up q0N 0 v0) (x2 := nI 1) (x3 := nI 5) (x4 := -1) t1 (by decide) p1 u1 (fun v hv => fit_net hv rfl rfl (by decide)) with ⟨v1, D2, b2, r2, e2, t2, f2, u2, p2⟩ | ⟨r2, e2⟩
    · rw [show fX9_number 1 1 5 (-1) D1 = _ from r2, cl_s, if_neg (by decide), e2, show ix (1 : Int32) = 1 from rfl, p2 1 (by decide)]
      have hv1 : va_up (va_up q0N 0 v0) 1 v1 1 < 1000 := u2 1
      rcases num_step (j := 1) (i := 2) (w := 0) (m := m) (q := va_up (va_up q0N 0 v0) 1 v1) (x2 := nI 1) (x3 := nI (va_up (va_up q0N 0 v0) 1 v1 1)) (x4 := -1) t2 (by decide) p2 u2 (fun v hv => fit_net hv rfl rfl hv1) with ⟨v2, D3, b3, r3, e3, t3, f3, u3, p3⟩ | ⟨r3, e3⟩
      · rw [show fX9_number 2 1 (nI (va_up (va_up q0N 0 v0) 1 v1 1)) (-1) D2 = _ from r3, cl_s, if_neg (by decide), e3]
        rcases num_step (j := 0) (i := 3) (w := 0) (m := m) (q := va_up (va_up (va_up q0N 0 v0) 1 v1) 2 v2) (x2 := nI 1) (x3 := nI 999) (x4 := -1) t3 (by decide) p3 u3 (fun v hv => fit_net hv rfl rfl (by decide)) with ⟨v3, D4, b4, r4, e4, t4, f4, u4, p4⟩ | ⟨r4, e4⟩
        · rw [show fX9_number 3 1 999 (-1) D3 = _ from r4, cl_s, if_neg (by decide), e4]
          exact ⟨D4, rfl, t4, ((f1.tr f2).tr f3).tr f4, fun _ k hk => p4 k hk⟩
        · rw [show fX9_number 3 1 999 (-1) D3 = _ from r4, cl_s, if_pos rfl, e4]
          exact ⟨D3, rfl, t3, (f1.tr f2).tr f3, fun z => (by cases z)⟩
      · rw [show fX9_number 2 1 (nI (va_up (va_up q0N 0 v0) 1 v1 1)) (-1) D2 = _ from r3, cl_s, if_pos rfl, e3]
        exact ⟨D2, rfl, t2, f1.tr f2, fun z => (by cases z)⟩
    · rw [show fX9_number 1 1 5 (-1) D1 = _ from r2, cl_s, if_pos rfl, e2]
      exact ⟨D1, rfl, t1, f1, fun z => (by cases z)⟩
  · rw [show fX9_number 0 2 8 (-1) D = _ from r1, cl_s, if_pos rfl, e1]
    exact ⟨D, rfl, h, frX.rf, fun z => (by cases z)⟩
theorem rest_one {D : Mm} {T : Nat → Nat} {n e m w : Nat} (hw : w = 1 ∨ w = 2) (h : tkR D T n e) (hm : 1 ≤ m) (hm8 : m ≤ 8) (h13 : D 338 13 = nI m) : rsP T n w D (fX9_readsRest (nI w) D) (rdN T n w m 1 0 e q0N) := by
  have hr : fX9_readsRest (nI w) D = cl (fX9_readsNode 0 (-1) D) (fun r5 M5 => gd (okZ r5) (some (r5, M5))) := by
    rcases hw with rfl | rfl <;> rfl
  have hc : cn w = 1 := by rcases hw with rfl | rfl <;> rfl
  rw [hr]
  rcases node0_step (j := 0) (w := w) h (by omega) hm hm8 h13 with ⟨v0, D1, b1, r1, e1, t1, f1, u1, p1⟩ | ⟨r1, e1⟩
  · rw [r1, cl_s, e1]
    exact ⟨D1, rfl, t1, f1, fun _ k hk => p1 k (by omega)⟩
  · rw [r1, cl_s, e1]
    exact ⟨D, rfl, h, frX.rf, fun z => (by cases z)⟩
theorem rest_cut {D : Mm} {T : Nat → Nat} {n e m : Nat} (h : tkR D T n e) (hm : 1 ≤ m) (hm8 : m ≤ 8) (h13 : D 338 13 = nI m) : rsP T n 4 D (fX9_readsRest (nI 4) D) (rdN T n 4 m 2 0 e q0N) := by
  have hr : fX9_readsRest (nI 4) D = cl (fX9_readsNode (0 : Int32) (-1 : Int32) D) (fun r10 M10 => if r10 = 0 then (some ((0 : Int32), M10)) else (cl (fX9_readsNode (1 : Int32) (M10 344 (ix (0 : Int32))) M10) (fun r11 M11 => if r11 = 0 then (some ((0 : Int32), M11)) else (some ((1 : Int32), M11))))) := rfl
  rw [hr]
  rcases node0_step (j := 1) (w := 4) h (by decide) hm hm8 h13 with ⟨v0, D1, b1, r1, e1, t1, f1, u1, p1⟩ | ⟨r1, e1⟩
  · rw [r1, cl_s, e1, if_neg (by decide)]
    rcases node1_step (j := 0) (w := 4) t1 (by decide) hm hm8 (by rw [f1.2 13 (by decide) (by decide)]; exact h13) p1 u1 with ⟨v1, D2, b2, r2, e2, t2, f2, u2, p2⟩ | ⟨r2, e2⟩
    · rw [r2, cl_s, e2, if_neg (by decide)]
      exact ⟨D2, rfl, t2, f1.tr f2, fun _ k hk => p2 k hk⟩
    · rw [r2, cl_s, e2, if_pos rfl]
      exact ⟨D1, rfl, t1, f1, fun z => (by cases z)⟩
  · rw [r1, cl_s, e1, if_pos rfl]
    exact ⟨D, rfl, h, frX.rf, fun z => (by cases z)⟩
theorem rest_link {D : Mm} {T : Nat → Nat} {n e m : Nat} (h : tkR D T n e) (hm : 1 ≤ m) (hm8 : m ≤ 8) (h13 : D 338 13 = nI m) : rsP T n 3 D (fX9_readsRest (nI 3) D) (rdN T n 3 m 3 0 e q0N) := by
  have hr : fX9_readsRest (nI 3) D = cl (fX9_readsNode (0 : Int32) (-1 : Int32) D) (fun r7 M7 => if r7 = 0 then (some ((0 : Int32), M7)) else (cl (fX9_readsNode (1 : Int32) (M7 344 (ix (0 : Int32))) M7) (fun r8 M8 => if r8 = 0 then (some ((0 : Int32), M8)) else (cl (fX9_number (2 : Int32) (0 : Int32) (99 : Int32) (-1 : Int32) M8) (fun r9 M9 => if r9 = 0 then (some ((0 : Int32), M9)) else (some ((1 : Int32), M9))))))) := rfl
  rw [hr]
  rcases node0_step (j := 2) (w := 3) h (by decide) hm hm8 h13 with ⟨v0, D1, b1, r1, e1, t1, f1, u1, p1⟩ | ⟨r1, e1⟩
  · rw [r1, cl_s, e1, if_neg (by decide)]
    rcases node1_step (j := 1) (w := 3) t1 (by decide) hm hm8 (by rw [f1.2 13 (by decide) (by decide)]; exact h13) p1 u1 with ⟨v1, D2, b2, r2, e2, t2, f2, u2, p2⟩ | ⟨r2, e2⟩
    · rw [r2, cl_s, e2, if_neg (by decide)]
      rcases num_step (j := 0) (i := 2) (w := 3) (m := m) (q := va_up (va_up q0N 0 v0) 1 v1) (x2 := 0) (x3 := 99) (x4 := -1) t2 (by decide) p2 u2 (fun v hv => fit_age (by decide) hv) with ⟨v2, D3, b3, r3, e3, t3, f3, u3, p3⟩ | ⟨r3, e3⟩
      · rw [show fX9_number 2 0 99 (-1) D2 = _ from r3, cl_s, e3, if_neg (by decide)]
        exact ⟨D3, rfl, t3, (f1.tr f2).tr f3, fun _ k hk => p3 k hk⟩
      · rw [show fX9_number 2 0 99 (-1) D2 = _ from r3, cl_s, e3, if_pos rfl]
        exact ⟨D2, rfl, t2, f1.tr f2, fun z => (by cases z)⟩
    · rw [r2, cl_s, e2, if_pos rfl]
      exact ⟨D1, rfl, t1, f1, fun z => (by cases z)⟩
  · rw [r1, cl_s, e1, if_pos rfl]
    exact ⟨D, rfl, h, frX.rf, fun z => (by cases z)⟩
theorem rest_r {D : Mm} {T : Nat → Nat} {n e m w : Nat} (hw : w < 5) (h : tkR D T n e) (hm : 1 ≤ m) (hm8 : m ≤ 8) (h13 : D 338 13 = nI m) : rsP T n w D (fX9_readsRest (nI w) D) (rdN T n w m (cn w) 0 e q0N) := by
  rcases (by omega : w = 0 ∨ w = 1 ∨ w = 2 ∨ w = 3 ∨ w = 4) with rfl | rfl | rfl | rfl | rfl
  · exact rest_net h
  · exact rest_one (Or.inl rfl) h hm hm8 h13
  · exact rest_one (Or.inr rfl) h hm hm8 h13
  · exact rest_link h hm hm8 h13
  · exact rest_cut h hm hm8 h13
