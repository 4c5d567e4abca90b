/-! parts -/
def sym (N : Nq) (i j : Nat) : Bool := edg N i j || edg N j i
def cmp (N : Nq) (n i : Nat) : Nat → Bool := itE (sym N) n 8 (fun j => decide (j = i))
theorem sym_al {N : Nq} {i j : Nat} (h : sym N i j = true) : N.2.1 j = false := by
  rw [sym, Bool.or_eq_true] at h
  rcases h with h | h
  · simp [edg] at h; exact h.2.2
  · simp [edg] at h; exact h.1
theorem exN_or {n : Nat} {p q : Nat → Bool} : (exN n p || exN n q) = exN n (fun i => p i || q i) := by
  rw [Bool.eq_iff_iff, Bool.or_eq_true, exN_iff, exN_iff, exN_iff]
  constructor
  · rintro (⟨i, h1, h2⟩ | ⟨i, h1, h2⟩)
    · exact ⟨i, h1, by simp [h2]⟩
    · exact ⟨i, h1, by simp [h2]⟩
  · rintro ⟨i, h1, h2⟩
    rw [Bool.or_eq_true] at h2
    rcases h2 with h2 | h2
    · exact Or.inl ⟨i, h1, h2⟩
    · exact Or.inr ⟨i, h1, h2⟩
theorem po_run {C : Mm} {a : Nat} {P : Pq} {N : Nq} (hp : wfP P) (hw : wfN P N) (hN : hasN C a P N) : ∀ d k f, k + d = 8 → run stX1_partOf (1, [a], [nI (msk f P.1), nI k], C) = some (nI (msk (itE (sym N) P.1 d f) P.1), C) := by
  have h8 := hp.2.1
  intro d
  induction d with
  | zero =>
    intro k f e
    rw [eX1_partOf_1, n8, if_pos (nI_le (by omega) (by omega)), itE]
  | succ d ih =>
    intro k f e
    have e1 : (fun j => f j || (exN P.1 (fun i => f i && edg N i j) || exN P.1 (fun q => f q && edg N j q))) = stE (sym N) P.1 f := by
      funext j
      rw [exN_or, stE]
      congr 2
      funext i
      rw [sym, Bool.and_or_distrib_left]
    rw [eX1_partOf_1, n8, if_neg (nI_ge (by omega) (by omega)), wo_c hp hw hN, cl_s, wi_c hp hw hN, cl_s, mor, mor, nI_1, e1, itE]
    exact ih (k + 1) _ (by omega)
theorem po_c {C : Mm} {a i : Nat} {P : Pq} {N : Nq} (hp : wfP P) (hw : wfN P N) (hN : hasN C a P N) (hi : i < P.1) : fX1_partOf a (nI i) C = some (nI (msk (cmp N P.1 i) P.1), C) := by
  have h8 := hp.2.1
  unfold fX1_partOf
  rw [eX1_partOf_0, bt_one i (by omega), mone hi]
  exact po_run hp hw hN 8 0 _ (by omega)
def ptF (N : Nq) (n : Nat) : Nat → Nat → Nat → (Nat → Bool) → Nat
  | 0, _, t, _ => t
  | d + 1, k, t, s => if (!N.2.1 k && !s k) = true then ptF N n d (k + 1) (t + 1) (fun j => s j || cmp N n k j) else ptF N n d (k + 1) t s
theorem pt_run {C : Mm} {a : Nat} {P : Pq} {N : Nq} (hp : wfP P) (hw : wfN P N) (hN : hasN C a P N) : ∀ d k t s, k + d = 8 → run stX1_parts (1, [a], [nI t, nI (msk s P.1), nI k], C) = some (nI (ptF N P.1 (P.1 - k) k t s), C) := by
  have h8 := hp.2.1
  intro d
  induction d with
  | zero =>
    intro k t s e
    rw [eX1_parts_1, n8, if_pos (nI_le (by omega) (by omega)), show P.1 - k = 0 by omega, ptF]
  | succ d ih =>
    intro k t s e
    rw [eX1_parts_1, n8, if_neg (nI_ge (by omega) (by omega)), isAlive_c hp hN, cl_s, ix_nI (by omega), nI_1, nI_1]
    by_cases hk : k < P.1
    · rw [okI_nI hk (by omega), Bool.true_and, show P.1 - k = (P.1 - (k + 1)) + 1 by omega, ptF]
      cases hd : N.2.1 k with
      | true =>
        rw [if_pos (show bI (!true) = 0 from rfl), ih (k + 1) t s (by omega), if_neg (by simp)]
      | false =>
        rw [if_neg (show ¬ bI (!false) = 0 by decide), mbit h8 hk]
        cases hs : s k with
        | false =>
          rw [if_pos (show bI false = 0 from rfl), po_c hp hw hN hk, cl_s, mor, if_pos (by rfl)]
          exact ih (k + 1) (t + 1) _ (by omega)
        | true =>
          rw [if_neg (show ¬ bI true = 0 by decide), ih (k + 1) t s (by omega), if_neg (by simp)]
    · rw [okI_ge (by omega) (by omega), Bool.false_and, if_pos (show bI false = 0 from rfl), ih (k + 1) t s (by omega), show P.1 - (k + 1) = 0 by omega, show P.1 - k = 0 by omega, ptF, ptF]
theorem parts_c {C : Mm} {a : Nat} {P : Pq} {N : Nq} (hp : wfP P) (hw : wfN P N) (hN : hasN C a P N) : fX1_parts a C = some (nI (ptF N P.1 P.1 0 0 (fun _ => false)), C) := by
  unfold fX1_parts
  rw [eX1_parts_0]
  have := pt_run hp hw hN 8 0 0 (fun _ => false) (by omega)
  rw [msk_z, Nat.sub_zero] at this
  exact this
/-- a pass of the reference -/
def subN (n : Nat) (f h : Nat → Bool) : Prop := ∀ j, j < n → f j = true → h j = true
def okS (N : Nq) (n : Nat) (S : Nat → Bool) : Prop := (∀ j, j < n → S j = true → N.2.1 j = false) ∧ ∀ i j, i < n → j < n → S i = true → sym N i j = true → S j = true
theorem rp_in {D : Mm} {x1 x2 x4 : Int32} {P : Pq} {N : Nq} (hp : wfP P) (hw : wfN P N) (hB : hasB D 0 P N) (hP : hasP D P) : ∀ d i f, i + d = P.1 → ∃ h, run stX9_parts (3, [], [x1, x2, nI (msk f P.1), x4, nI i], D) = run stX9_parts (2, [], [x1, x2, nI (msk h P.1), x4 + 1], D) ∧ subN P.1 f h ∧ (∀ i', i ≤ i' → i' < P.1 → ∀ j, j < P.1 → (f i' = true → edg N i' j = true → h j = true) ∧ (f j = true → edg N i' j = true → h i' = true)) ∧ ∀ S, okS N P.1 S → subN P.1 f S → subN P.1 h S := by
  have h8 := hp.2.1
  intro d
  induction d with
  | zero =>
    intro i f e
    rw [eX9_parts_3, hP.1, if_pos (nI_le (by omega) (by omega))]
    exact ⟨f, rfl, fun _ _ z => z, fun i' z1 z2 => absurd z2 (by omega), fun S _ z => z⟩
  | succ d ih =>
    intro i f e
    have hi : i < P.1 := by omega
    have ha := alive_r (dd := N.2.1) hp hP.1 hB.2.1
    have e4 : ∀ g : Nat → Bool, (if bI (!N.2.1 i) = 0 then run stX9_parts (3, [], [x1, x2, nI (msk g P.1), x4, nI (i + 1)], D) else if nI (msk (fun j => (inV (nI j) (N.2.2 i) && !N.2.1 j) && g j) P.1) = 0 then run stX9_parts (3, [], [x1, x2, nI (msk g P.1), x4, nI (i + 1)], D) else run stX9_parts (3, [], [x1, x2, nI (msk (fun j => g j || decide (j = i)) P.1), x4, nI (i + 1)], D)) = run stX9_parts (3, [], [x1, x2, nI (msk (fun j => g j || (decide (j = i) && exN P.1 (fun q => edg N i q && g q))) P.1), x4, nI (i + 1)], D) := by
      intro g
      have ex : N.2.1 i = false → exN P.1 (fun q => (inV (nI q) (N.2.2 i) && !N.2.1 q) && g q) = exN P.1 (fun q => edg N i q && g q) := by
        intro hd
        congr 1; funext q; simp [edg, hd]
      cases hx : exN P.1 (fun q => edg N i q && g q) with
      | false =>
        have e5 : (fun j => g j || (decide (j = i) && false)) = g := by funext j; simp
        rw [e5]
        cases hd : N.2.1 i with
        | true => rw [if_pos (show bI (!true) = 0 from rfl)]
        | false => rw [if_neg (show ¬ bI (!false) = 0 by decide), if_pos ((mzero h8).mpr ((ex hd).trans hx))]
      | true =>
        have hd : N.2.1 i = false := by
          obtain ⟨q, -, z⟩ := exN_iff.mp hx
          simp [edg] at z
          exact z.1.1
        rw [hd, if_neg (show ¬ bI (!false) = 0 by decide), if_neg (fun z => by have := (mzero h8).mp z; rw [ex hd, hx] at this; cases this)]
        have e5 : (fun j => g j || (decide (j = i) && true)) = (fun j => g j || decide (j = i)) := by funext j; simp
        rw [e5]
    have e3 : run stX9_parts (3, [], [x1, x2, nI (msk f P.1), x4, nI i], D) = run stX9_parts (3, [], [x1, x2, nI (msk (fun j => (f j || (f i && (inV (nI j) (N.2.2 i) && !N.2.1 j))) || (decide (j = i) && exN P.1 (fun q => edg N i q && (f q || (f i && (inV (nI q) (N.2.2 i) && !N.2.1 q)))))) P.1), x4, nI (i + 1)], D) := by
      rw [eX9_parts_3, hP.1, if_neg (nI_ge (by omega) (by omega)), viewOf_r (by omega) (hB.2.2 i (by omega)), cl_s, ha, cl_s, hs_r h8 hi, cl_s, bts_m hp (hw.2.1 i hi), mand]
      cases hf : f i with
      | false =>
        rw [if_pos (show bI false = 0 from rfl), eX9_parts_4, ha, cl_s, hs_r h8 hi, cl_s, or0, or0, mand, nI_1, bt_one i (by omega), mone hi, mor]
        have := e4 f
        simp only [Bool.false_and, Bool.or_false]
        exact this
      | true =>
        rw [if_neg (show ¬ bI true = 0 by decide), eX9_parts_4, ha, cl_s, hs_r h8 hi, cl_s, mor, or0, mand, nI_1, bt_one i (by omega), mone hi, mor]
        have := e4 (fun j => f j || (inV (nI j) (N.2.2 i) && !N.2.1 j))
        simp only [Bool.true_and]
        exact this
    obtain ⟨h, r1, r2, r3, r4⟩ := ih (i + 1) (fun j => (f j || (f i && (inV (nI j) (N.2.2 i) && !N.2.1 j))) || (decide (j = i) && exN P.1 (fun q => edg N i q && (f q || (f i && (inV (nI q) (N.2.2 i) && !N.2.1 q)))))) (by omega)
    have up : ∀ j, j < P.1 → f j = true → h j = true := fun j hj z => r2 j hj (by simp [z])
    refine ⟨h, e3.trans r1, up, fun i' z1 z2 j hj => ?_, fun S hS hfS => r4 S hS ?_⟩
    · by_cases c : i' = i
      · subst c
        constructor
        · intro y1 y2
          apply r2 j hj
          have y3 : (inV (nI j) (N.2.2 i') && !N.2.1 j) = true := by
            rw [edg, Bool.and_eq_true] at y2; exact y2.2
          have y4 : ∀ z : Bool, ((f j || (f i' && (inV (nI j) (N.2.2 i') && !N.2.1 j))) || z) = true := fun z => by rw [y1, y3]; simp
          exact y4 _
        · intro y1 y2
          apply r2 i' hi
          rw [exN_iff.mpr ⟨j, hj, by rw [y2, y1]; rfl⟩]
          simp
      · obtain ⟨w1, w2⟩ := r3 i' (by omega) z2 j hj
        exact ⟨fun y1 y2 => w1 (by simp [y1]) y2, fun y1 y2 => w2 (by simp [y1]) y2⟩
    · have g1 : ∀ j, j < P.1 → (f j || (f i && (inV (nI j) (N.2.2 i) && !N.2.1 j))) = true → S j = true := by
        intro j hj z
        rw [Bool.or_eq_true] at z
        rcases z with z | z
        · exact hfS j hj z
        · rw [Bool.and_eq_true] at z
          have hSi := hfS i hi z.1
          have hdi := hS.1 i hi hSi
          exact hS.2 i j hi hj hSi (by rw [sym, edg, hdi, z.2]; rfl)
      intro j hj z
      rw [Bool.or_eq_true] at z
      rcases z with z | z
      · exact g1 j hj z
      · rw [Bool.and_eq_true, exN_iff] at z
        obtain ⟨y1, q, y2, y3⟩ := z
        rw [Bool.and_eq_true] at y3
        have hSq := g1 q y2 y3.2
        have ej := of_decide_eq_true y1
        rw [ej]
        exact hS.2 q i y2 hi hSq (by rw [sym, y3.1]; simp)
theorem itE_le {g : Nat → Nat → Bool} {n : Nat} : ∀ k f h, subN n f h → subN n (itE g n k f) (itE g n k h) := by
  intro k
  induction k with
  | zero => intro f h e; exact e
  | succ k ih =>
    intro f h e
    refine ih _ _ (fun j hj z => ?_)
    rw [stE, Bool.or_eq_true, exN_iff] at z ⊢
    rcases z with z | ⟨i, z1, z2⟩
    · exact Or.inl (e j hj z)
    · rw [Bool.and_eq_true] at z2
      exact Or.inr ⟨i, z1, by rw [e i z1 z2.1, z2.2]; rfl⟩
theorem rp_out {D : Mm} {x1 x2 : Int32} {P : Pq} {N : Nq} (hp : wfP P) (hw : wfN P N) (hB : hasB D 0 P N) (hP : hasP D P) : ∀ d r f, r + d = P.1 → ∃ h, run stX9_parts (2, [], [x1, x2, nI (msk f P.1), nI r], D) = run stX9_parts (1, [], [x1 &&& (nI (msk h P.1) ^^^ (-1)), x2 + 1], D) ∧ subN P.1 (itE (sym N) P.1 d f) h ∧ ∀ S, okS N P.1 S → subN P.1 f S → subN P.1 h S := by
  have h8 := hp.2.1
  intro d
  induction d with
  | zero =>
    intro r f e
    rw [eX9_parts_2, hP.1, if_pos (nI_le (by omega) (by omega))]
    exact ⟨f, rfl, fun _ _ z => z, fun S _ z => z⟩
  | succ d ih =>
    intro r f e
    obtain ⟨f2, r1, r2, r3, r4⟩ := rp_in (x1 := x1) (x2 := x2) (x4 := nI r) hp hw hB hP P.1 0 f (by omega)
    obtain ⟨h, s1, s2, s3⟩ := ih (r + 1) f2 (by omega)
    rw [nI_1] at r1
    rw [eX9_parts_2, hP.1, if_neg (nI_ge (by omega) (by omega)), show (0 : Int32) = nI 0 from rfl, r1, s1]
    refine ⟨h, rfl, fun j hj z => s2 j hj (itE_le d _ _ (fun q hq y => ?_) j hj z), fun S hS hf => s3 S hS (r4 S hS hf)⟩
    rw [stE, Bool.or_eq_true, exN_iff] at y
    rcases y with y | ⟨i, y1, y2⟩
    · exact r2 q hq y
    · rw [Bool.and_eq_true] at y2
      obtain ⟨y2, y3⟩ := y2
      rw [sym, Bool.or_eq_true] at y3
      rcases y3 with y3 | y3
      · exact (r3 i (Nat.zero_le _) y1 q hq).1 y2 y3
      · exact (r3 q (Nat.zero_le _) hq i y1).2 y2 y3
theorem itE_al {N : Nq} {n : Nat} : ∀ k f, (∀ j, j < n → f j = true → N.2.1 j = false) → ∀ j, j < n → itE (sym N) n k f j = true → N.2.1 j = false := by
  intro k
  induction k with
  | zero => intro f h; exact h
  | succ k ih =>
    intro f h
    refine ih _ (fun j hj z => ?_)
    rw [stE, Bool.or_eq_true, exN_iff] at z
    rcases z with z | ⟨i, z1, z2⟩
    · exact h j hj z
    · rw [Bool.and_eq_true] at z2
      exact sym_al z2.2
theorem cmp_self {N : Nq} {n i : Nat} : cmp N n i i = true := itE_mono 8 _ (by simp)
theorem cmp_ok {N : Nq} {n i : Nat} (hn : n ≤ 8) (hi : i < n) (hd : N.2.1 i = false) : okS N n (cmp N n i) := by
  refine ⟨itE_al 8 _ (fun j _ z => by rw [of_decide_eq_true z]; exact hd), fun a b ha hb h1 h2 => ?_⟩
  exact closed (g := sym N) (f := fun j => decide (j = i)) ⟨i, hi, by simp⟩ (m := 8) (by omega) ha hb h1 h2
theorem rp_one {D : Mm} {x1 x2 : Int32} {i : Nat} {P : Pq} {N : Nq} (hp : wfP P) (hw : wfN P N) (hB : hasB D 0 P N) (hP : hasP D P) (hi : i < P.1) (hd : N.2.1 i = false) : run stX9_parts (2, [], [x1, x2, nI (2 ^ i), nI 0], D) = run stX9_parts (1, [], [x1 &&& (nI (msk (cmp N P.1 i) P.1) ^^^ (-1)), x2 + 1], D) := by
  have h8 := hp.2.1
  obtain ⟨h, r1, r2, r3⟩ := rp_out (x1 := x1) (x2 := x2) (f := fun j => decide (j = i)) hp hw hB hP P.1 0 (by omega)
  rw [mone hi, r1]
  have e1 : ∀ j, j < P.1 → h j = cmp N P.1 i j := by
    intro j hj
    rw [Bool.eq_iff_iff]
    constructor
    · exact r3 _ (cmp_ok h8 hi hd) (fun q _ z => by rw [of_decide_eq_true z]; exact cmp_self) j hj
    · intro z
      apply r2 j hj
      have h0 : ∃ q, q < P.1 ∧ (fun j => decide (j = i)) q = true := ⟨i, hi, by simp⟩
      have a1 := stable (g := sym N) h0 1 j hj
      have a2 := stable (g := sym N) h0 (8 - (P.1 - 1)) j hj
      rw [show P.1 - 1 + 1 = P.1 by omega] at a1
      rw [show P.1 - 1 + (8 - (P.1 - 1)) = 8 by omega] at a2
      rw [a1, ← a2]
      exact z
  rw [msk_ext e1]
theorem rpt_run {D : Mm} {P : Pq} {N : Nq} (hp : wfP P) (hw : wfN P N) (hB : hasB D 0 P N) (hP : hasP D P) : ∀ d k t s, k + d = P.1 → (∀ j, j < k → N.2.1 j = false → s j = true) → run stX9_parts (1, [], [nI (msk (fun j => !N.2.1 j && !s j) P.1), nI t], D) = some (nI (ptF N P.1 d k t s), D) := by
  have h8 := hp.2.1
  intro d
  induction d with
  | zero =>
    intro k t s e hs
    have hz : nI (msk (fun j => !N.2.1 j && !s j) P.1) = 0 := by
      rw [mzero h8]
      cases hx : exN P.1 (fun j => !N.2.1 j && !s j) with
      | false => rfl
      | true =>
        obtain ⟨j, z1, z2⟩ := exN_iff.mp hx
        simp at z2
        rw [hs j (by omega) z2.1] at z2
        cases z2.2
    rw [eX9_parts_1, if_pos hz, ptF]
  | succ d ih =>
    intro k t s e hs
    rw [ptF]
    by_cases c : (!N.2.1 k && !s k) = true
    · have c2 := c
      simp at c2
      have hk : k < P.1 := by omega
      have hbk : (msk (fun j => !N.2.1 j && !s j) P.1).testBit k = true := by rw [msk_bit, c]; simp [hk]
      have hbj : ∀ j, j < k → (msk (fun j => !N.2.1 j && !s j) P.1).testBit j = false := by
        intro j hj
        rw [msk_bit]
        cases hd : N.2.1 j with
        | true => simp
        | false => rw [hs j hj hd]; simp
      have hnz : ¬ nI (msk (fun j => !N.2.1 j && !s j) P.1) = 0 := by
        rw [mzero h8, exN_iff.mpr ⟨k, hk, c⟩]
        decide
      rw [if_pos c, eX9_parts_1, if_neg hnz, mlow _ (msk_256 _ h8) k (by omega) hbk hbj, show (0 : Int32) = nI 0 from rfl, rp_one hp hw hB hP hk c2.1, mnot h8, nI_1]
      have e1 : (fun j => (!N.2.1 j && !s j) && !cmp N P.1 k j) = (fun j => !N.2.1 j && !(s j || cmp N P.1 k j)) := by
        funext j
        rw [Bool.not_or, Bool.and_assoc]
      rw [e1]
      refine ih (k + 1) (t + 1) (fun j => s j || cmp N P.1 k j) (by omega) (fun j hj hd => ?_)
      by_cases q : j = k
      · rw [q, cmp_self, Bool.or_true]
      · rw [hs j (by omega) hd]; rfl
    · rw [if_neg c]
      refine ih (k + 1) t s (by omega) (fun j hj hd => ?_)
      by_cases q : j = k
      · subst q
        rw [hd] at c
        cases hs2 : s j with
        | true => rfl
        | false => rw [hs2] at c; exact absurd rfl c
      · exact hs j (by omega) hd
theorem parts_r {D : Mm} {P : Pq} {N : Nq} (hp : wfP P) (hw : wfN P N) (hB : hasB D 0 P N) (hP : hasP D P) : fX9_parts D = some (nI (ptF N P.1 P.1 0 0 (fun _ => false)), D) := by
  unfold fX9_parts
  rw [eX9_parts_0, alive_r (dd := N.2.1) hp hP.1 hB.2.1, cl_s]
  have := rpt_run hp hw hB hP P.1 0 0 (fun _ => false) (by omega) (fun j hj => absurd hj (Nat.not_lt_zero j))
  rw [msk_ext (q := fun i => !N.2.1 i) (fun i _ => by simp)] at this
  exact this
/-! numbers of all rings -/
def szR (rg : Rq) (t : Nat) : Nat := match rg t with
  | none => 0
  | some q => q.1
theorem szR_c {C D : Mm} {rg : Rq} {t : Nat} (h : RG C D rg) (ht : t < 3) : C (20 + 2 * t) 1 = nI (szR rg t) := by
  obtain ⟨a1, -⟩ := h t ht
  cases hr : rg t with
  | none => rw [(a1.1 hr).1, szR, hr]; rfl
  | some q => rw [(a1.2 q.1 q.2 hr).2.1, szR, hr]
theorem rn_c {C D : Mm} {rg : Rq} (h : RG C D rg) : fX8_ringNumbers C = some (nI (szR rg 0 + szR rg 1 + szR rg 2), C) := by
  have e0 : C 20 1 = nI (szR rg 0) := szR_c h (t := 0) (by decide)
  have e1 : C 22 1 = nI (szR rg 1) := szR_c h (t := 1) (by decide)
  have e2 : C 24 1 = nI (szR rg 2) := szR_c h (t := 2) (by decide)
  unfold fX8_ringNumbers
  rw [eX8_ringNumbers_0, eX8_ringNumbers_1, if_neg (by decide), show okI (0 : Int32) 3 = true from rfl, gd_T, show (20 + 2 * ix (0 : Int32)) = 20 from rfl, e0, show (0 : Int32) + 1 = 1 from rfl, eX8_ringNumbers_1, if_neg (by decide), show okI (1 : Int32) 3 = true from rfl, gd_T, show (20 + 2 * ix (1 : Int32)) = 22 from rfl, e1, show (1 : Int32) + 1 = 2 from rfl, eX8_ringNumbers_1, if_neg (by decide), show okI (2 : Int32) 3 = true from rfl, gd_T, show (20 + 2 * ix (2 : Int32)) = 24 from rfl, e2, show (2 : Int32) + 1 = 3 from rfl, eX8_ringNumbers_1, if_pos (by decide), n0, nI_add, nI_add, nI_add, Nat.zero_add]
theorem an_st {C D : Mm} {rg : Rq} {m t : Nat} (h : RG C D rg) (ht : t < 3) : run stX9_allNumbers (1, [], [nI m, nI t], D) = run stX9_allNumbers (1, [], [nI (m + szR rg t), nI (t + 1)], D) := by
  obtain ⟨-, a2⟩ := h t ht
  have n3 : (3 : Int32) = nI 3 := rfl
  rw [eX9_allNumbers_1, n3, if_neg (nI_ge ht (by decide)), gd_ok ht (by decide), ix_nI (by omega), nI_1]
  cases hr : rg t with
  | none =>
    rw [a2.1 hr, if_neg (by decide), szR, hr, n0, nI_add]
  | some q =>
    obtain ⟨b1, b2, -⟩ := a2.2 q.1 q.2 hr
    rw [b2, if_pos (show (0 : Int32) ≤ nI q.1 from nI_le (a := 0) (by omega) (by omega)), gd_ok ht (by decide), nI_add, szR, hr]
theorem an_r {C D : Mm} {rg : Rq} (h : RG C D rg) : fX9_allNumbers D = some (nI (szR rg 0 + szR rg 1 + szR rg 2), D) := by
  unfold fX9_allNumbers
  rw [eX9_allNumbers_0, n0, an_st h (by decide), an_st h (by decide), an_st h (by decide), eX9_allNumbers_1, if_pos (by decide), Nat.zero_add]
/-! told -/
theorem told_ok (x : Int32) : ∀ C D, RE C D → okK (fX8_told x) (fX9_told x) C D := by
  intro C D h
  have hE := h
  obtain ⟨S, H, K, rg, T, n, hA⟩ := h
  obtain ⟨⟨⟨hp, hw⟩, hN, hD⟩, ⟨hH, hU, hW⟩, h3, h4, h5, h6, h7⟩ := id hA
  obtain ⟨h8, top, t1, t2, t3, t4⟩ := id hH
  have p9 := parts_r hp hw hD.1 hD.2
  have x9 : fX9_extreme 0 1 D = _ := ext_r (b := 0) true (by decide) hp hw hD.1 hD.2
  have y9 : fX9_extreme 0 0 D = _ := ext_r (b := 0) false (by decide) hp hw hD.1 hD.2
  have d9 : D 339 (ix 0) = nI S.2.1 := hD.1.1
  have a9 := alive_r (dd := S.2.2.1) hp hD.2.1 hD.1.2.1
  have : ∃ r, fX8_told x C = some (r, C) ∧ fX9_told x D = some (r, D) := by
    unfold fX8_told fX9_told
    rw [hN.1, hN.2.1, hN.2.2.1, hN.2.2.2.1, hN.2.2.2.2.1, ent_c hp hw hN, cl_s, most_c hp hN, cl_s, least_c hp hN, cl_s, parts_c hp hw hN, cl_s, rn_c h4, cl_s, t3, h5.2.2.1]
    rw [hD.2.1, hD.2.2.1, hD.2.2.2.1, a9, cl_s, ent_r hp hD.1 hD.2, cl_s, x9, cl_s, y9, cl_s, p9, cl_s, d9, an_r h4, cl_s, hU.1, h6.2.2.1]
    by_cases c0 : x = 0
    · rw [if_pos c0, if_pos c0]; exact ⟨_, rfl, rfl⟩
    rw [if_neg c0, if_neg c0]
    by_cases c1 : x = 1
    · rw [if_pos c1, if_pos c1]; exact ⟨_, rfl, rfl⟩
    rw [if_neg c1, if_neg c1]
    by_cases c2 : x = 2
    · rw [if_pos c2, if_pos c2]; exact ⟨_, rfl, rfl⟩
    rw [if_neg c2, if_neg c2]
    by_cases c3 : x = 3
    · rw [if_pos c3, if_pos c3]; exact ⟨_, rfl, rfl⟩
    rw [if_neg c3, if_neg c3]
    by_cases c4 : x = 4
    · rw [if_pos c4, if_pos c4]; exact ⟨_, rfl, rfl⟩
    rw [if_neg c4, if_neg c4]
    by_cases c5 : x = 5
    · rw [if_pos c5, if_pos c5]; exact ⟨_, rfl, rfl⟩
    rw [if_neg c5, if_neg c5]
    by_cases c6 : x = 6
    · rw [if_pos c6, if_pos c6]; exact ⟨_, rfl, rfl⟩
    rw [if_neg c6, if_neg c6]
    by_cases c7 : x = 7
    · rw [if_pos c7, if_pos c7]; exact ⟨_, rfl, rfl⟩
    rw [if_neg c7, if_neg c7]
    by_cases c8 : x = 8
    · rw [if_pos c8, if_pos c8]; exact ⟨_, rfl, rfl⟩
    rw [if_neg c8, if_neg c8]
    by_cases c9 : x = 9
    · rw [if_pos c9, if_pos c9]; exact ⟨_, rfl, rfl⟩
    rw [if_neg c9, if_neg c9]
    by_cases c10 : x = 10
    · rw [if_pos c10, if_pos c10]; exact ⟨_, rfl, rfl⟩
    rw [if_neg c10, if_neg c10]
    by_cases c11 : x = 11
    · rw [if_pos c11, if_pos c11]; exact ⟨_, rfl, rfl⟩
    rw [if_neg c11, if_neg c11]
    exact ⟨_, rfl, rfl⟩
  obtain ⟨r, a1, a2⟩ := this
  exact okK_no r hE a1 a2
