/-! a clause; the class reads -/
def q0N : Nat → Nat := fun _ => 0
def cn (w : Nat) : Nat := if w = 0 then 4 else if w = 3 then 3 else if w = 4 then 2 else 1
def rdN (T : Nat → Nat) (n w m : Nat) : Nat → Nat → Nat → (Nat → Nat) → Bool × Nat × (Nat → Nat)
  | 0, _, e, q => (true, e, q)
  | j + 1, i, e, q => match nm T n e with
    | none => (false, e, q)
    | some v => if fit w m q i v = true then rdN T n w m j (i + 1) (tkE T n e) (va_up q i v) else (false, e, q)
theorem rdN_n {T : Nat → Nat} {n w m j i e : Nat} {q : Nat → Nat} (h : nm T n e = none) : rdN T n w m (j + 1) i e q = (false, e, q) := by rw [rdN, h]
theorem rdN_f {T : Nat → Nat} {n w m j i e v : Nat} {q : Nat → Nat} (h : nm T n e = some v) (hf : fit w m q i v = false) : rdN T n w m (j + 1) i e q = (false, e, q) := by
  rw [rdN, h]; show (if fit w m q i v = true then _ else _) = _; rw [if_neg (by rw [hf]; decide)]
theorem rdN_s {T : Nat → Nat} {n w m j i e v : Nat} {q : Nat → Nat} (h : nm T n e = some v) (hf : fit w m q i v = true) : rdN T n w m (j + 1) i e q = rdN T n w m j (i + 1) (tkE T n e) (va_up q i v) := by
  rw [rdN, h]; show (if fit w m q i v = true then _ else _) = _; rw [if_pos hf]
def cls (T : Nat → Nat) (n m e : Nat) : Option (Nat × (Nat → Nat)) × Nat := match wrd T n e with
  | none => (none, e)
  | some w => if (rdN T n w m (cn w) 0 (tkE T n e) q0N).1 = true then (some (w, (rdN T n w m (cn w) 0 (tkE T n e) q0N).2.2), (rdN T n w m (cn w) 0 (tkE T n e) q0N).2.1) else (none, (rdN T n w m (cn w) 0 (tkE T n e) q0N).2.1)
def nwM (w m : Nat) (q : Nat → Nat) : Nat := if w = 0 then q 0 else m
def rds (T : Nat → Nat) (n : Nat) : Nat → Nat → Nat → Bool × Nat × List (Nat × (Nat → Nat))
  | 0, e, _ => (false, e, [])
  | d + 1, e, m => match cls T n m e with
    | (none, f) => (false, f, [])
    | (some (w, q), f) => if tkK T n f = 0 then (true, f, [(w, q)]) else if tkK T n f = 3 ∧ d ≠ 0 then ((rds T n d (tkE T n f) (nwM w m q)).1, (rds T n d (tkE T n f) (nwM w m q)).2.1, (w, q) :: (rds T n d (tkE T n f) (nwM w m q)).2.2) else (false, f, [(w, q)])
theorem cn_4 (w : Nat) : 1 ≤ cn w ∧ cn w ≤ 4 := by
  unfold cn
  repeat' split
  all_goals omega
theorem nums_of {C : Mm} {w : Nat} (hw : w < 5) : fX0_numbersOf (nI w) C = some (nI (cn w), C) := by
  rcases (by omega : w = 0 ∨ w = 1 ∨ w = 2 ∨ w = 3 ∨ w = 4) with rfl | rfl | rfl | rfl | rfl <;> rfl
/-- what reading leaves -/
def frK (C C' : Mm) (c : Nat) : Prop := (∀ z, z ≠ 1 → z ≠ 5 → C' z = C z) ∧ C' 1 1 = C 1 1 ∧ ∀ j, j < c * 4 ∨ c * 4 + 4 ≤ j → C' 5 j = C 5 j
theorem frK.rf {C : Mm} {c : Nat} : frK C C c := ⟨fun _ _ _ => rfl, rfl, fun _ _ => rfl⟩
theorem frK.tr {C C1 C2 : Mm} {c : Nat} (h : frK C C1 c) (g : frK C1 C2 c) : frK C C2 c := ⟨fun z x y => (g.1 z x y).trans (h.1 z x y), g.2.1.trans h.2.1, fun j x => (g.2.2 j x).trans (h.2.2 j x)⟩
theorem frK_tk {C : Mm} {T : Nat → Nat} {n e c : Nat} : frK C (tkC C T n e) c := by
  refine ⟨fun z h1 _ => ?_, ?_, fun j _ => ?_⟩
  · rw [tkC, up2_c h1, up2_c h1, up2_c h1]
  · rw [tkC, rd_j (by decide), rd_j (by decide), rd_j (by decide)]
  · rw [tkC, rd_c (by decide), rd_c (by decide), rd_c (by decide)]
theorem tkC_z {C : Mm} {T : Nat → Nat} {n e z : Nat} (h : z ≠ 1) : tkC C T n e z = C z := by rw [tkC, up2_c h, up2_c h, up2_c h]
theorem frK_5 {C : Mm} {c i : Nat} {v : Int32} (hi : i < 4) : frK C (up2 C 5 (c * 4 + i) v) c := by
  refine ⟨fun z _ h2 => ?_, ?_, fun j _ => ?_⟩
  · rw [up2_c h2]
  · rw [rd_c (by decide)]
  · rw [rd_j (by omega)]
theorem txC_fr {C C' : Mm} {T : Nat → Nat} {n : Nat} (h : txC C T n) (h1 : C' 1 1 = C 1 1) (h2 : C' 2 = C 2) : txC C' T n := ⟨h.1, h.2.1, by rw [h1]; exact h.2.2.1, by rw [h2]; exact h.2.2.2⟩
theorem up_lt {q : Nat → Nat} {i v : Nat} (hq : ∀ j, q j < 1000) (hv : v < 1000) : ∀ j, va_up q i v j < 1000 := by
  intro j
  by_cases h : j = i
  · rw [h, va_up_self]; exact hv
  · rw [va_up_ne _ _ h]; exact hq j
theorem rdN_lt {T : Nat → Nat} {n w m : Nat} : ∀ j i e q, e ≤ n → (∀ j, q j < 1000) → (rdN T n w m j i e q).2.1 ≤ n ∧ ∀ k, (rdN T n w m j i e q).2.2 k < 1000 := by
  intro j
  induction j with
  | zero => intro i e q he hq; exact ⟨he, hq⟩
  | succ j ih =>
    intro i e q he hq
    cases hv : nm T n e with
    | none => rw [rdN_n hv]; exact ⟨he, hq⟩
    | some v =>
      cases hf : fit w m q i v with
      | false => rw [rdN_f hv hf]; exact ⟨he, hq⟩
      | true => rw [rdN_s hv hf]; exact ih (i + 1) _ _ (tkE_le he).2 (up_lt hq (nm_lt he hv))
theorem rc_run {T : Nat → Nat} {n c w m : Nat} (hc : c < 24) (hw : w < 5) (hm : m ≤ 8) : ∀ j i e q (C : Mm), i + j = cn w → e ≤ n → (∀ k, q k < 1000) → txC C T n → C 1 4 = nI e → C 4 c = nI w → C 3 3 = nI m → (∀ k, k < i → C 5 (c * 4 + k) = nI (q k)) →
    ∃ C', frK C C' c ∧ (((rdN T n w m j i e q).1 = true ∧ run stX0_readClause (1, [], [nI c, nI w, nI i], C) = run stX0_readClause (2, [], [nI c, nI w], C') ∧ C' 1 4 = nI (rdN T n w m j i e q).2.1 ∧ ∀ k, k < cn w → C' 5 (c * 4 + k) = nI ((rdN T n w m j i e q).2.2 k)) ∨
      ((rdN T n w m j i e q).1 = false ∧ run stX0_readClause (1, [], [nI c, nI w, nI i], C) = some (0, C') ∧ tkH C' T n (rdN T n w m j i e q).2.1)) := by
  have hcn := cn_4 w
  intro j
  induction j with
  | zero =>
    intro i e q C hi he hq hT h4 hf h3 h5
    refine ⟨C, frK.rf, Or.inl ⟨rfl, ?_, h4, fun k hk => h5 k (by omega)⟩⟩
    rw [eX0_readClause_1, nums_of hw, cl_s, if_pos (nI_le (by omega) (by omega))]
  | succ j ih =>
    intro i e q C hi he hq hT h4 hf h3 h5
    have hH := tkH_tkC hT he
    have g4 : tkC C T n e 4 c = nI w := by rw [tkC_z (by decide)]; exact hf
    have g3 : tkC C T n e 3 3 = nI m := by rw [tkC_z (by decide)]; exact h3
    have g5 : ∀ k, tkC C T n e 5 k = C 5 k := fun k => by rw [tkC, rd_c (by decide), rd_c (by decide), rd_c (by decide)]
    have hr : run stX0_readClause (1, [], [nI c, nI w, nI i], C) = cl (fX0_fits (nI c) (nI i) (oI (nm T n e)) (tkC C T n e)) (fun r4 M4 => if r4 = 0 then (some ((0 : Int32), M4)) else (run stX0_readClause (1, [], [nI c, nI w, nI (i + 1)], (up2 M4 5 (c * 4 + i) (oI (nm T n e)))))) := by
      rw [eX0_readClause_1, nums_of hw, cl_s, if_neg (nI_ge (by omega) (by omega)), n4, if_neg (nI_ge (by omega) (by omega)), readTok_c hT he h4, cl_s, num_c hH, cl_s, pk_mul, nI_add, nI_1, ix_nI (by omega)]
      simp only [gd_ok (show c * 4 + i < 96 by omega) (by decide)]
    cases hv : nm T n e with
    | none =>
      refine ⟨tkC C T n e, frK_tk, Or.inr ⟨?_, ?_, ?_⟩⟩
      · rw [rdN_n hv]
      · rw [hr, hv, show oI none = -1 from rfl, fits_m1 hc (by omega), cl_s, if_pos rfl]
      · rw [rdN_n hv]; exact hH
    | some v =>
      have hvl := nm_lt he hv
      have hft := fits_c (C := tkC C T n e) (i := i) (v := v) hc (by omega) hw g4 g3 hm (fun k hk => by rw [g5]; exact h5 k hk) hq hvl
      rw [hv, show oI (some v) = nI v from rfl, hft, cl_s] at hr
      cases hf2 : fit w m q i v with
      | false =>
        rw [hf2, if_pos (show bI false = 0 from rfl)] at hr
        refine ⟨tkC C T n e, frK_tk, Or.inr ⟨?_, hr, ?_⟩⟩
        · rw [rdN_f hv hf2]
        · rw [rdN_f hv hf2]; exact hH
      | true =>
        rw [hf2, if_neg (by decide)] at hr
        have fr1 : frK C (up2 (tkC C T n e) 5 (c * 4 + i) (nI v)) c := frK_tk.tr (frK_5 (by omega))
        obtain ⟨C', f1, h6⟩ := ih (i + 1) (tkE T n e) (va_up q i v) (up2 (tkC C T n e) 5 (c * 4 + i) (nI v)) (by omega) (tkE_le he).2 (up_lt hq hvl) (txC_fr hH.1 (by rw [rd_c (by decide)]) (by rw [up2_c (by decide)])) (by rw [rd_c (by decide)]; exact hH.2.2.2.2) (by rw [rd_c (by decide)]; exact g4) (by rw [rd_c (by decide)]; exact g3) (fun k hk => by
          by_cases hk2 : k = i
          · rw [hk2, up2_s, va_up_self]
          · rw [rd_j (by omega), va_up_ne _ _ hk2, g5]; exact h5 k (by omega))
        refine ⟨C', fr1.tr f1, ?_⟩
        rw [rdN_s hv hf2, hr]
        exact h6
/-- what reading a clause leaves -/
def frL (C C' : Mm) (c : Nat) : Prop := (∀ z, z ≠ 1 → z ≠ 3 → z ≠ 4 → z ≠ 5 → C' z = C z) ∧ C' 1 1 = C 1 1 ∧ C' 3 2 = C 3 2 ∧ (∀ j, j ≠ c → C' 4 j = C 4 j) ∧ ∀ j, j < c * 4 ∨ c * 4 + 4 ≤ j → C' 5 j = C 5 j
theorem frK_L {C C' : Mm} {c : Nat} (h : frK C C' c) : frL C C' c := ⟨fun z h1 _ _ h4 => h.1 z h1 h4, h.2.1, by rw [h.1 3 (by decide) (by decide)], fun j _ => by rw [h.1 4 (by decide) (by decide)], h.2.2⟩
theorem frL.tr {C C1 C2 : Mm} {c : Nat} (h : frL C C1 c) (g : frL C1 C2 c) : frL C C2 c := ⟨fun z x1 x2 x3 x4 => (g.1 z x1 x2 x3 x4).trans (h.1 z x1 x2 x3 x4), g.2.1.trans h.2.1, g.2.2.1.trans h.2.2.1, fun j x => (g.2.2.2.1 j x).trans (h.2.2.2.1 j x), fun j x => (g.2.2.2.2 j x).trans (h.2.2.2.2 j x)⟩
theorem frL_4 {C : Mm} {c : Nat} {v : Int32} : frL C (up2 C 4 c v) c := ⟨fun z _ _ h _ => up2_c h, by rw [rd_c (by decide)], by rw [rd_c (by decide)], fun j h => rd_j h, fun j _ => rd_c (by decide)⟩
theorem frL_3 {C : Mm} {c : Nat} {v : Int32} : frL C (up2 C 3 3 v) c := ⟨fun z _ h _ _ => up2_c h, by rw [rd_c (by decide)], by rw [rd_j (by decide)], fun j _ => rd_c (by decide), fun j _ => rd_c (by decide)⟩
def fit8 (w m : Nat) (q : Nat → Nat) : Prop := ∀ i, i < cn w → fit w m q i (q i) = true
theorem clause_c {C : Mm} {T : Nat → Nat} {n c m e : Nat} (hc : c < 24) (hm : m ≤ 8) (h : tkH C T n e) (h3 : C 3 3 = nI m) :
    ∃ C', frL C C' c ∧ tkH C' T n (cls T n m e).2 ∧ ((∃ w q, w < 5 ∧ (cls T n m e).1 = some (w, q) ∧ fX0_readClause (nI c) C = some (1, C') ∧ C' 4 c = nI w ∧ C' 3 3 = nI (nwM w m q) ∧ (∀ k, q k < 1000) ∧ ∀ k, k < cn w → C' 5 (c * 4 + k) = nI (q k)) ∨ ((cls T n m e).1 = none ∧ fX0_readClause (nI c) C = some (0, C'))) := by
  have he := h.2.1
  unfold fX0_readClause cls
  rw [eX0_readClause_0, formOf_c h, cl_s]
  cases hw : wrd T n e with
  | none =>
    refine ⟨C, frK_L frK.rf, h, Or.inr ⟨rfl, ?_⟩⟩
    rw [show oI none = -1 from rfl, if_pos rfl]
  | some w =>
    have hw5 : w < 5 := by
      have := wrdF_lt 5 0 w hw
      omega
    rw [show oI (some w) = nI w from rfl, if_neg (nI_nm1 (by omega)), if_neg (nI_pos (by omega)), n24, if_pos (nI_lt hc (by decide)), gd_ok hc (by decide), ix_nI (by omega), n0]
    have hcn := cn_4 w
    obtain ⟨C1, f1, h6⟩ := rc_run (T := T) (n := n) hc hw5 hm (cn w) 0 (tkE T n e) q0N (up2 C 4 c (nI w)) (by omega) (tkE_le he).2 (fun k => show (0 : Nat) < 1000 by decide) (txC_fr h.1 (by rw [rd_c (by decide)]) (by rw [up2_c (by decide)])) (by rw [rd_c (by decide)]; exact h.2.2.2.2) (up2_s _ _ _ _) (by rw [rd_c (by decide)]; exact h3) (fun k hk => by omega)
    have hlt := rdN_lt (T := T) (w := w) (m := m) (cn w) 0 (tkE T n e) q0N (tkE_le he).2 (fun k => show (0 : Nat) < 1000 by decide)
    have fr1 := (frL_4 (C := C) (c := c) (v := nI w)).tr (frK_L f1)
    rcases h6 with ⟨h7, h8, h9, h10⟩ | ⟨h7, h8, h9⟩
    · have hT1 : txC C1 T n := txC_fr h.1 fr1.2.1 (fr1.1 2 (by decide) (by decide) (by decide) (by decide))
      have q4 : C1 4 c = nI w := by rw [f1.1 4 (by decide) (by decide), up2_s]
      simp only [h7, if_true]
      rw [h8, eX0_readClause_2]
      by_cases hw0 : w = 0
      · refine ⟨tkC (up2 C1 3 3 (nI ((rdN T n w m (cn w) 0 (tkE T n e) q0N).2.2 0))) T n (rdN T n w m (cn w) 0 (tkE T n e) q0N).2.1, (fr1.tr frL_3).tr (frK_L frK_tk), tkH_tkC (txC_fr hT1 (by rw [rd_c (by decide)]) (by rw [up2_c (by decide)])) hlt.1, Or.inl ⟨w, _, hw5, rfl, ?_, ?_, ?_, hlt.2, ?_⟩⟩
        · rw [if_pos (show nI w = 0 by rw [hw0]; rfl), show fX0_numberOf (nI c) 0 C1 = _ from numberOf_c (j := 0) hc (by decide), cl_s, h10 0 (by omega), readTok_c (txC_fr hT1 (by rw [rd_c (by decide)]) (by rw [up2_c (by decide)])) hlt.1 (by rw [rd_c (by decide)]; exact h9), cl_s]
        · rw [tkC_z (by decide), rd_c (by decide)]; exact q4
        · rw [tkC_z (by decide), up2_s, nwM, if_pos hw0]
        · intro k hk
          rw [tkC, rd_c (by decide), rd_c (by decide), rd_c (by decide), rd_c (by decide)]; exact h10 k hk
      · refine ⟨tkC C1 T n (rdN T n w m (cn w) 0 (tkE T n e) q0N).2.1, fr1.tr (frK_L frK_tk), tkH_tkC hT1 hlt.1, Or.inl ⟨w, _, hw5, rfl, ?_, ?_, ?_, hlt.2, ?_⟩⟩
        · rw [if_neg (nI_ne0 (by omega) (by omega)), readTok_c hT1 hlt.1 h9, cl_s]
        · rw [tkC_z (by decide)]; exact q4
        · rw [tkC_z (by decide), f1.1 3 (by decide) (by decide), rd_c (by decide), nwM, if_neg hw0]; exact h3
        · intro k hk
          rw [tkC, rd_c (by decide), rd_c (by decide), rd_c (by decide)]; exact h10 k hk
    · refine ⟨C1, fr1, ?_, Or.inr ⟨?_, ?_⟩⟩
      · simp only [h7]; exact h9
      · simp only [h7]; rfl
      · rw [h8]; rfl
