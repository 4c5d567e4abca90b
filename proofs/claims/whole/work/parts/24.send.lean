/-! draws; what a node sends -/
def nxt (d : Nat) : Nat := (d * 75 + 74) % 65537
theorem nxt_lt (d : Nat) : nxt d < 65537 := Nat.mod_lt _ (by decide)
theorem rem_n {a d : Nat} (ha : a < 2 ^ 31) (h0 : 0 < d) (hd : d < 2 ^ 31) : irem (nI a) (nI d) = nI (a % d) := pk_rem ha h0 hd
theorem nxt_i {d : Nat} (h : d < 65537) : irem ((nI d * (75 : Int32)) + (74 : Int32)) (65537 : Int32) = nI (nxt d) := by
  rw [show (75 : Int32) = nI 75 from rfl, show (74 : Int32) = nI 74 from rfl, show (65537 : Int32) = nI 65537 from rfl, pk_mul, nI_add, rem_n (by omega) (by decide) (by decide)]
  rfl
theorem half_i {d m : Nat} (h : d < 65537) (hm : 0 < m) (hm2 : m < 2 ^ 31) : irem (nI d / (2 : Int32)) (nI m) = nI (d / 2 % m) := by
  rw [n2, pk_div (by omega) (by decide) (by decide), rem_n (by omega) hm hm2]
theorem draw_c {C : Mm} {a d m : Nat} (hd : d < 65537) (h : C a 4 = nI d) (hm : 0 < m) (hm2 : m < 2 ^ 31) : fX1_draw a (nI m) C = some (nI (nxt d / 2 % m), up2 C a 4 (nI (nxt d))) := by
  unfold fX1_draw
  rw [h, nxt_i hd, n1, if_pos (nI_le hm hm2), gd_t (decide_eq_true (nI_ne0 hm hm2)), up2_s, half_i (nxt_lt d) hm hm2]
theorem draw_r {D : Mm} {b d m : Nat} (hb : b ≤ 990) (hd : d < 65537) (h : D 339 b = nI d) (hm : 0 < m) (hm2 : m < 2 ^ 31) : fX9_draw (nI b) (nI m) D = some (nI (nxt d / 2 % m), up2 D 339 b (nI (nxt d))) := by
  unfold fX9_draw
  have e0 : nI b + (0 : Int32) = nI b := by rw [n0, nI_add, Nat.add_zero]
  rw [gd_t (decide_eq_true (nI_ne0 hm hm2))]
  simp (disch := omega) only [e0, gd_ok, ix_nI, h, nxt_i hd, up2_s]
  rw [half_i (nxt_lt d) hm hm2]
/-- the w-th of those that aren't marked -/
def kth (f : Nat → Bool) : Nat → Nat → Nat → Option Nat
  | 0, _, _ => none
  | d + 1, k, w => if f k then kth f d (k + 1) w else if w = 0 then some k else kth f d (k + 1) (w - 1)
def cnt (f : Nat → Bool) : Nat → Nat → Nat
  | 0, _ => 0
  | d + 1, k => (if f k then 0 else 1) + cnt f d (k + 1)
theorem kth_some {f : Nat → Bool} : ∀ d k w, w < cnt f d k → ∃ p, kth f d k w = some p ∧ k ≤ p ∧ p < k + d ∧ f p = false := by
  intro d
  induction d with
  | zero => intro k w h; simp [cnt] at h
  | succ d ih =>
    intro k w h
    rw [cnt] at h
    rw [kth]
    by_cases hf : f k = true
    · rw [if_pos hf] at h ⊢
      obtain ⟨p, h1, h2, h3, h4⟩ := ih (k + 1) w (by omega)
      exact ⟨p, h1, by omega, by omega, h4⟩
    · rw [if_neg hf] at h ⊢
      by_cases hw : w = 0
      · rw [if_pos hw]
        exact ⟨k, rfl, Nat.le_refl _, by omega, by simpa using hf⟩
      · rw [if_neg hw]
        obtain ⟨p, h1, h2, h3, h4⟩ := ih (k + 1) (w - 1) (by omega)
        exact ⟨p, h1, by omega, by omega, h4⟩
theorem cnt_congr {f g : Nat → Bool} : ∀ d k, (∀ p, k ≤ p → p < k + d → f p = g p) → cnt f d k = cnt g d k := by
  intro d
  induction d with
  | zero => intro k h; rfl
  | succ d ih =>
    intro k h
    rw [cnt, cnt, h k (Nat.le_refl _) (by omega), ih (k + 1) (fun p h1 h2 => h p (by omega) (by omega))]
theorem cnt_add {f g : Nat → Bool} {q : Nat} (hg : ∀ p, g p = (f p || p == q)) (hq : f q = false) : ∀ d k, k ≤ q → q < k + d → cnt g d k + 1 = cnt f d k := by
  intro d
  induction d with
  | zero => intro k h1 h2; omega
  | succ d ih =>
    intro k h1 h2
    rw [cnt, cnt, hg k]
    by_cases e : k = q
    · subst e
      have : cnt g d (k + 1) = cnt f d (k + 1) := cnt_congr d (k + 1) (fun p h3 h4 => by
        rw [hg p]; have : (p == k) = false := by simp; omega
        simp [this])
      rw [hq, this]; simp; omega
    · have e2 : (k == q) = false := by simpa using e
      rw [e2, Bool.or_false]
      have := ih (k + 1) (by omega) (by omega)
      omega
theorem cnt_0 : ∀ d k, cnt (fun _ => false) d k = d := by
  intro d
  induction d with
  | zero => intro k; rfl
  | succ d ih => intro k; rw [cnt, ih]; simp; omega
/-- which places are sent, by draws: places of s, of slice sl, k sent already -/
def sndF (s sl : Nat) : Nat → Nat → List Nat → Nat → Nat × List Nat
  | 0, dr, ps, _ => (dr, ps)
  | left + 1, dr, ps, k => if k < sl then
      match kth (fun p => ps.contains p) s 0 (nxt dr / 2 % (left + 1)) with
      | some p => sndF s sl left (nxt dr) (ps ++ [p]) (k + 1)
      | none => (dr, ps)
    else (dr, ps)
abbrev Sq : Type := List ((Int32 × Int32) × Option Nat)
abbrev e0 : (Int32 × Int32) × Option Nat := ((0, 0), none)
def hasS (C : Mm) (s : Nat) (q : Sq) : Prop := q.length ≤ 5 ∧ C s 3 = nI q.length ∧ ∀ k, k < q.length → C (s + 1) k = (q.getD k e0).1.1 ∧ C (s + 2) k = (q.getD k e0).1.2 ∧ C (s + 3) k = oI (q.getD k e0).2
def frS (C C' : Mm) (s : Nat) : Prop := ∀ c, c ≠ s → c ≠ s + 1 → c ≠ s + 2 → c ≠ s + 3 → C' c = C c
theorem gDe_app {q : Sq} {e : (Int32 × Int32) × Option Nat} {k : Nat} : (q ++ [e]).getD k e0 = if k < q.length then q.getD k e0 else if k = q.length then e else e0 := by
  simp only [List.getD_eq_getElem?_getD, List.getElem?_append]
  by_cases h : k < q.length
  · simp [h]
  · by_cases h2 : k = q.length
    · subst h2; simp
    · have : 1 ≤ k - q.length := by omega
      simp [h, h2, List.getElem?_eq_none (l := [e]) (i := k - q.length) (by simpa using this)]
theorem sclear_c {C : Mm} {s : Nat} : fX4_clear s C = some (0, up2 C s 3 0) ∧ hasS (up2 C s 3 0) s [] ∧ frS C (up2 C s 3 0) s :=
  ⟨rfl, ⟨by simp, by rw [up2_s]; rfl, fun k h => by simp at h⟩, fun c h1 _ _ _ => up2_c h1⟩
theorem sput_c {C : Mm} {s : Nat} {q : Sq} {x g : Int32} (o : Option Nat) (h : hasS C s q) (hl : q.length < 5) : ∃ C', fX4_put s x g (oI o) C = some (0, C') ∧ hasS C' s (q ++ [((x, g), o)]) ∧ frS C C' s := by
  obtain ⟨h5, hs, hk⟩ := h
  have e1 : ∀ (v : Int32), (up2 C (s + 1) q.length v) s 3 = nI q.length := fun v => by rw [up2_c (by omega), hs]
  have e2 : ∀ (v w : Int32), (up2 (up2 C (s + 1) q.length v) (s + 2) q.length w) s 3 = nI q.length := fun v w => by rw [up2_c (by omega), e1]
  unfold fX4_put
  rw [hs, if_neg (nI_pos (by omega)), n5, if_neg (nI_ge hl (by omega))]
  simp (disch := omega) only [gd_ok, ix_nI, e1, e2]
  refine ⟨_, rfl, ⟨by simp; omega, ?_, fun k hk2 => ?_⟩, fun c h1 h2 h3 h4 => ?_⟩
  · rw [up2_s]
    simp (disch := omega) only [rd_c, hs, nI_1]
    simp
  · have hk3 : k < q.length + 1 := by simpa using hk2
    rw [gDe_app]
    by_cases h6 : k < q.length
    · simp (disch := omega) only [if_pos h6, rd_c, rd_j]
      exact hk k h6
    · have h7 : k = q.length := by omega
      subst h7
      simp (disch := omega) only [if_neg h6, rd_c, up2_s, if_true]
      exact ⟨trivial, trivial, trivial⟩
  · rw [up2_c h1, up2_c h4, up2_c h3, up2_c h2]
theorem unsent_run {C : Mm} {v s m : Nat} {f : Nat → Bool} (hs : C v 2 = nI s) (h5 : s ≤ 5) (hm : m < 256) (hf : ∀ p, p < s → m.testBit p = f p) : ∀ d k w t, k + d = s → t + w < 2 ^ 31 → run stX4_unsentPlace (1, [v], [nI m, nI (t + w), nI t, nI k], C) = some (oI (kth f d k w), C) := by
  intro d
  induction d with
  | zero =>
    intro k w t e ht
    rw [eX4_unsentPlace_1, hs, if_pos (nI_le (by omega) (by omega))]
    rfl
  | succ d ih =>
    intro k w t e ht
    rw [eX4_unsentPlace_1, hs, if_neg (nI_ge (by omega) (by omega)), bt_test m hm k (by omega), hf k (by omega), kth]
    cases hfk : f k with
    | true =>
      rw [if_neg (show ¬ bI true = 0 by decide), if_pos rfl, nI_1]
      exact ih (k + 1) w t (by omega) ht
    | false =>
      rw [if_pos (show bI false = 0 from rfl), if_neg (show ¬ (false = true) by decide)]
      by_cases hw : w = 0
      · subst hw
        rw [if_pos rfl, if_pos (show nI t = nI (t + 0) from rfl)]; rfl
      · rw [if_neg (fun h => hw (by have := (nI_eq (by omega) ht).mp h; omega)), if_neg hw, nI_1, nI_1, show t + w = t + 1 + (w - 1) by omega]
        exact ih (k + 1) (w - 1) (t + 1) (by omega) (by omega)
theorem unsent_c {C : Mm} {v s m w : Nat} {f : Nat → Bool} (hs : C v 2 = nI s) (h5 : s ≤ 5) (hm : m < 256) (hf : ∀ p, p < s → m.testBit p = f p) (hw : w < 2 ^ 31) : fX4_unsentPlace v (nI m) (nI w) C = some (oI (kth f s 0 w), C) := by
  unfold fX4_unsentPlace
  rw [eX4_unsentPlace_0]
  have := unsent_run hs h5 hm hf s 0 w 0 (by omega) (by omega)
  rw [Nat.zero_add] at this
  exact this
/-- what is sent: these places of the view -/
def sq (l : Vw) (ps : List Nat) : Sq := ps.map (fun p => (l.getD p d0, some p))
theorem sq_app (l : Vw) (ps : List Nat) (p : Nat) : sq l (ps ++ [p]) = sq l ps ++ [(l.getD p d0, some p)] := by simp [sq]
theorem contains_app (ps : List Nat) (p q : Nat) : (ps ++ [q]).contains p = (ps.contains p || p == q) := by
  simp [List.contains_eq_mem, Bool.decide_or]
  cases h : (p == q) <;> simp_all
/-- the class sends: s its sent row, a the net, v the view -/
theorem drawn_run {a s v sl : Nat} {l : Vw} {q0 : Sq} (hs : s = 7 ∨ s = 11) (ha : 26 ≤ a) (hv : a + 2 ≤ v) (hl5 : l.length ≤ 5) (hsl : sl ≤ 5) :
    ∀ left dr ps, dr < 65537 → cnt (fun p => ps.contains p) l.length 0 = left → ∀ (C : Mm) (m : Nat), m < 256 → (∀ p, p < l.length → m.testBit p = ps.contains p) → C a 3 = nI sl → C a 4 = nI dr → hasV C v l → hasS C s (q0 ++ sq l ps) →
    ∃ C', run stX4_putDrawn (1, [s, a, v], [nI m, nI left], C) = some (0, C') ∧ C' a 4 = nI (sndF l.length sl left dr ps (q0.length + ps.length)).1 ∧ hasS C' s (q0 ++ sq l (sndF l.length sl left dr ps (q0.length + ps.length)).2) ∧ (∀ c, c ≠ s → c ≠ s + 1 → c ≠ s + 2 → c ≠ s + 3 → c ≠ a → C' c = C c) ∧ (∀ j, j ≠ 4 → C' a j = C a j) := by
  intro left
  induction left with
  | zero =>
    intro dr ps hdr hc C m hm hmb h3 h4 hV hS
    rw [eX4_putDrawn_1, if_pos (show nI 0 ≤ 0 by decide)]
    exact ⟨C, rfl, h4, hS, fun _ _ _ _ _ _ => rfl, fun _ _ => rfl⟩
  | succ left ih =>
    intro dr ps hdr hc C m hm hmb h3 h4 hV hS
    have hq : (q0 ++ sq l ps).length = q0.length + ps.length := by simp [sq]
    have hq5 : q0.length + ps.length ≤ 5 := by rw [← hq]; exact hS.1
    have hcl : left + 1 ≤ l.length := by
      rw [← hc]
      have : ∀ (f : Nat → Bool) d k, cnt f d k ≤ d := by
        intro f d
        induction d with
        | zero => intro k; simp [cnt]
        | succ d ih => intro k; rw [cnt]; have := ih (k + 1); split <;> omega
      exact this _ _ _
    rw [eX4_putDrawn_1, if_neg (nI_nle (by omega) (by omega)), h3, hS.2.1, hq, sndF]
    by_cases hk : q0.length + ps.length < sl
    · rw [if_neg (nI_ge hk (by omega)), if_pos hk, draw_c hdr h4 (by omega) (by omega), cl_s]
      have hw : nxt dr / 2 % (left + 1) < left + 1 := Nat.mod_lt _ (by omega)
      obtain ⟨p, hp1, -, hp2, hp3⟩ := kth_some l.length 0 (nxt dr / 2 % (left + 1)) (by rw [hc]; exact hw)
      rw [Nat.zero_add] at hp2
      have hV1 : hasV (up2 C a 4 (nI (nxt dr))) v l := ⟨hV.1, by rw [rd_c (by omega)]; exact hV.2.1, fun k hk => by rw [rd_c (by omega), rd_c (by omega)]; exact hV.2.2 k hk⟩
      have hS1 : hasS (up2 C a 4 (nI (nxt dr))) s (q0 ++ sq l ps) := ⟨hS.1, by rw [rd_c (by omega)]; exact hS.2.1, fun k hk => by rw [rd_c (by omega), rd_c (by omega), rd_c (by omega)]; exact hS.2.2 k hk⟩
      rw [unsent_c hV1.2.1 hl5 hm hmb (by omega), cl_s, hp1]
      have hoI : oI (some p) = nI p := rfl
      rw [hoI, if_neg (nI_pos (by omega)), hV1.2.1, if_neg (nI_ge hp2 (by omega))]
      simp (disch := omega) only [gd_ok, ix_nI]
      rw [(hV1.2.2 p hp2).1, (hV1.2.2 p hp2).2]
      obtain ⟨C2, g1, g2, g3⟩ := sput_c (x := (l.getD p d0).1) (g := (l.getD p d0).2) (some p) hS1 (by rw [hq]; omega)
      rw [hoI] at g1
      rw [g1, cl_s, bt_one p (by omega), fa_or, show nI (left + 1) + (-1 : Int32) = nI left from pk_m1 left]
      have hc2 : cnt (fun q => (ps ++ [p]).contains q) l.length 0 = left := by
        have := cnt_add (f := fun q => ps.contains q) (g := fun q => (ps ++ [p]).contains q) (q := p) (fun q => contains_app ps q p) hp3 l.length 0 (by omega) (by omega)
        omega
      have e3 : q0.length + (ps ++ [p]).length = q0.length + ps.length + 1 := by simp; omega
      have hV2 : hasV C2 v l := ⟨hV1.1, by rw [g3 v (by omega) (by omega) (by omega) (by omega)]; exact hV1.2.1, fun k hk => by rw [g3 (v + 1) (by omega) (by omega) (by omega) (by omega), g3 (v + 2) (by omega) (by omega) (by omega) (by omega)]; exact hV1.2.2 k hk⟩
      have ga : C2 a = up2 C a 4 (nI (nxt dr)) a := g3 a (by omega) (by omega) (by omega) (by omega)
      obtain ⟨C', k1, k2, k3, k4, k5⟩ := ih (nxt dr) (ps ++ [p]) (nxt_lt dr) hc2 C2 (m ||| 2 ^ p) (by
          have : 2 ^ p < 2 ^ 8 := Nat.pow_lt_pow_right (by decide) (by omega)
          exact Nat.or_lt_two_pow (n := 8) hm this)
        (fun q hq2 => by
          rw [Nat.testBit_or, hmb q hq2, Nat.testBit_two_pow, contains_app]
          congr 1
          by_cases e : p = q
          · subst e; simp
          · have : ¬ q = p := fun e2 => e e2.symm
            simp [e, this])
        (by rw [ga, rd_j (by omega)]; exact h3) (by rw [ga, up2_s]) hV2
        (by rw [sq_app, ← List.append_assoc]; exact g2)
      rw [e3] at k2 k3
      refine ⟨C', k1, k2, k3, fun c x1 x2 x3 x4 x5 => ?_, fun j hj => ?_⟩
      · rw [k4 c x1 x2 x3 x4 x5, g3 c x1 x2 x3 x4, up2_c x5]
      · rw [k5 j hj, ga, rd_j hj]
    · rw [if_pos (nI_le (by omega) (by omega)), if_neg hk]
      exact ⟨C, rfl, h4, hS, fun _ _ _ _ _ _ => rfl, fun _ _ => rfl⟩
