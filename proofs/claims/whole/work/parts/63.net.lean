/-! closed pieces -/
theorem clo_cons {i : Nat} {L : List Nat} (hc : clo L) (hi : i < 350) (hr : ∀ r ∈ rfc i, r ∈ L) : clo (i :: L) := by
  intro j hj
  rcases List.mem_cons.mp hj with rfl | hj
  · exact ⟨hi, fun r h => List.mem_cons_of_mem _ (hr r h)⟩
  · exact ⟨(hc j hj).1, fun r h => List.mem_cons_of_mem _ ((hc j hj).2 r h)⟩
theorem clo_app {L1 L2 : List Nat} (h1 : clo L1) (h2 : clo L2) : clo (L1 ++ L2) := by
  intro j hj
  rcases List.mem_append.mp hj with hj | hj
  · exact ⟨(h1 j hj).1, fun r h => List.mem_append_left _ ((h1 j hj).2 r h)⟩
  · exact ⟨(h2 j hj).1, fun r h => List.mem_append_right _ ((h2 j hj).2 r h)⟩
theorem Rg_s (a n : Nat) : a :: Rg (a + 1) n = Rg a (n + 1) := by
  rw [Nat.add_comm n 1, Rg_app]; rfl
theorem Rg_nd (a n : Nat) : (Rg a n).Nodup := by
  unfold Rg
  exact List.Pairwise.map _ (fun x y h e => h (Nat.add_left_cancel e)) List.nodup_range
theorem clo_V {t k : Nat} (ht : t < 12) (hk : k ≤ 8) : clo (Rg (26 * t + 28) (3 * k)) := by
  intro i hi
  rw [mem_Rg] at hi
  have h26 : 26 ≤ i ∧ i < 338 := by omega
  have hq : i / 26 = t + 1 := by omega
  refine ⟨by omega, fun r hr => ?_⟩
  rw [mem_Rg]
  unfold rfc at hr
  rw [if_pos h26, if_neg (by omega), if_neg (by omega)] at hr
  split at hr
  · simp only [List.mem_cons, List.not_mem_nil, or_false] at hr
    omega
  · exact absurd hr List.not_mem_nil
theorem clo_V1 {t : Nat} (ht : t < 12) : clo (Rg (26 * t + 27) 25) := by
  intro i hi
  rw [mem_Rg] at hi
  have h26 : 26 ≤ i ∧ i < 338 := by omega
  have hq : i / 26 = t + 1 := by omega
  refine ⟨by omega, fun r hr => ?_⟩
  rw [mem_Rg]
  unfold rfc at hr
  rw [if_pos h26, if_neg (by omega)] at hr
  split at hr
  · obtain ⟨j, hj, rfl⟩ := List.mem_map.mp hr
    rw [List.mem_range] at hj
    omega
  · split at hr
    · simp only [List.mem_cons, List.not_mem_nil, or_false] at hr
      omega
    · exact absurd hr List.not_mem_nil
theorem clo_N {t k : Nat} (h : t + k ≤ 12) : clo (Rg (26 * t + 26) (26 * k)) := by
  intro i hi
  rw [mem_Rg] at hi
  have h26 : 26 ≤ i ∧ i < 338 := by omega
  have hq : i / 26 < t + 1 + k := by omega
  refine ⟨by omega, fun r hr => ?_⟩
  rw [mem_Rg]
  unfold rfc at hr
  rw [if_pos h26] at hr
  split at hr
  · simp only [List.mem_cons, List.not_mem_nil, or_false] at hr
    omega
  · split at hr
    · obtain ⟨j, hj, rfl⟩ := List.mem_map.mp hr
      rw [List.mem_range] at hj
      omega
    · split at hr
      · simp only [List.mem_cons, List.not_mem_nil, or_false] at hr
        omega
      · exact absurd hr List.not_mem_nil
theorem at_rf {G : va_G} {c : ClassId} {n q : Nat} {f : Nat → Option Nat} {g : Nat → Nat} {H : Heap} (h : ∀ j, j < n → f j = some (g j)) (h1 : va_at G vwCl (q, .inl (c, n, Rf f)) H) : va_at G vwCl (q, .inl (c, n, rfs g)) H := by
  have h1 : H[q]? = some (arrV c n (fun j => va_rf (f j))) := h1
  show H[q]? = some (arrV c n (fun j => va_rf (some (g j))))
  rw [h1]
  have e : (fun j : Fin n => va_rf (f j.val)) = (fun j : Fin n => va_rf (some (g j.val))) := funext fun j => by rw [h j.1 j.2]
  unfold arrV
  rw [e]
theorem isN_Rg {t : Nat} (ht : t < 12) : isN (Rg (26 * t + 26) 26) (26 * t + 26) := ⟨⟨t, ht, rfl⟩, fun j hj => mem_Rg.mpr (by omega)⟩
theorem isV_3 {t i : Nat} (ht : t < 12) (hi : i < 8) : isV [26 * t + 28 + 3 * i, 26 * t + 28 + 3 * i + 1, 26 * t + 28 + 3 * i + 2] (26 * t + 28 + 3 * i) := ⟨⟨t, i, ht, hi, rfl⟩, List.mem_cons_self, List.mem_cons_of_mem _ List.mem_cons_self, List.mem_cons_of_mem _ (List.mem_cons_of_mem _ List.mem_cons_self)⟩
/-! Net -/
def P0 : Pq := (4, 2, 1, fun _ => false)
def N0 : Nq := (1, fun _ => false, ini 4 2)
def rmX1_init : Room := { frames := 2, cells := 25, slots := 112, locals := 48 }
abbrev fsN (q : Nat) : List Value := [.ref q, .int 0, .int 0, .int 0, .int 0, .int 0, .int 0]
section
variable {p : Program} {l : Launch} {e : Env} {s : State} {m : MethodId} {args : Array Value} {below : List Frame} {meth : Method} {c : Code} {Q : State → Prop}
variable {G : va_G} {cs : Nat → ClassId} {A : Nat → Prop}
set_option maxRecDepth 100000 in
set_option maxHeartbeats 4000000 in
theorem lX1 {h0 qa t : Nat} (ht : t < 12) (B : Bx G cs p m meth c cX1_init 2 s args RX1 A)
    (K : ∀ (ad : Nat → Nat) (M : Mm) (f : Nat → Option Nat), (∀ j, j < 8 → f j = some (ad (26 * t + 28 + 3 * j))) → BW p l e rmX1_init s m args below meth c Q G A 2 40 [some (.ref h0), some (.int (nI 8))] [] ((h0, .inr (1, fsN qa)) :: (qa, .inl (cs 2, 8, Rf f)) :: wsO (Rg (26 * t + 28) 24) ad cs M) 25 112) :
    ∀ (d i : Nat) (ad : Nat → Nat) (M : Mm) (f : Nat → Option Nat), i + d = 8 → (∀ j, j < i → f j = some (ad (26 * t + 28 + 3 * j))) → BW p l e rmX1_init s m args below meth c Q G A 2 15 [some (.ref h0), some (.int (nI i))] [] ((h0, .inr (1, fsN qa)) :: (qa, .inl (cs 2, 8, Rf f)) :: wsO (Rg (26 * t + 28) (3 * i)) ad cs M) (1 + 3 * i) (8 + 13 * i) := by
  intro d
  induction d with
  | zero =>
    intro i ad M f hi hf
    obtain rfl : i = 8 := by omega
    refine gx_iload_n B dX1_init_15 rfl ?_
    refine gx_bipush (v := 8) B dX1_init_16 (by decide) ?_
    refine gx_icmp_ge (t := 40) B dX1_init_18 rfl (fun _ => ?_) (fun h => absurd (by decide) h)
    exact K ad M f hf
  | succ d ih =>
    intro i ad M f hi hf
    have hi8 : i < 8 := by omega
    refine gx_iload_n B dX1_init_15 rfl ?_
    refine gx_bipush (v := nI 8) B dX1_init_16 (by decide) ?_
    refine gx_icmp_ge (t := 40) B dX1_init_18 rfl (fun h => absurd h (nI_ge (by omega) (by omega))) (fun _ => ?_)
    refine gx_aload_n B dX1_init_21 rfl ?_
    refine gx_get (C := RX1) (T := TX1) (N := 7) B rfl inGX1 0 (by decide) rfl kf_X1_11 rfl dX1_init_22 ?_
    refine gx_iload_n B dX1_init_25 rfl ?_
    refine gx_new (ci := 7) (C := RX7) (T := TX7) (N := 3) B [.null, .null, .int 0] inGX7 tyX7 tyX7_ok kl_X1_9 kq_X7 kz_X7 rfl (by decide) (by show 1 + 3 * i + 1 ≤ 25; omega) (by show 8 + 13 * i + 3 ≤ 112; omega) dX1_init_26 (fun q => ?_)
    refine gx_dup B dX1_init_29 rfl ?_
    refine gx_initN B (iX7 (isV_3 ht hi8)) kc_X7_init kz_X7 ki_X7_init B.X.2.2.1 ⟨kn_X7_init, rfl, rfl, rfl, ⟨Nat.le_of_ble_eq_true rfl, Nat.le_of_ble_eq_true rfl⟩, by show 1 + 3 * i + 1 + 2 ≤ 25; omega, by show 8 + 13 * i + 3 + 10 ≤ 112; omega⟩ (Nat.le_of_ble_eq_true rfl) dX1_init_30 (fun adc Mc e1 _ => ?_)
    refine gx_aast (q := qa) (n := 8) (v := q) (ci := 7) (vs := [.ref (adc (26 * t + 28 + 3 * i + 1)), .ref (adc (26 * t + 28 + 3 * i + 2)), .int (Mc (26 * t + 28 + 3 * i) 2)]) (C := RX7) (T := TX7) (N := 3) (f := f) (ws' := ([(h0, .inr (1, fsN qa)), (qa, .inl (cs 2, 8, Rf (va_up f (ix (nI i)) (some q))))] ++ wsO (Rg (26 * t + 28) (3 * i)) ad cs M) ++ wsO [26 * t + 28 + 3 * i, 26 * t + 28 + 3 * i + 1, 26 * t + 28 + 3 * i + 2] adc cs Mc) B 1 2 rfl rfl (List.mem_append_right _ (by rw [w_V (isV_3 ht hi8), e1]; exact List.mem_cons_self)) rfl (okI_nI hi8 (by decide)) rfl dX1_init_33 ?_
    refine gx_iinc (v := 1) B dX1_init_34 rfl (by decide) (by decide) rfl ?_
    refine gx_goto (t := 15) B dX1_init_37 rfl ?_
    have hd : ∀ j ∈ Rg (26 * t + 28) (3 * i), j ∉ [26 * t + 28 + 3 * i, 26 * t + 28 + 3 * i + 1, 26 * t + 28 + 3 * i + 2] := by
      intro j hj hj2
      rw [mem_Rg] at hj
      simp only [List.mem_cons, List.not_mem_nil, or_false] at hj2
      omega
    have hcc : clo [26 * t + 28 + 3 * i, 26 * t + 28 + 3 * i + 1, 26 * t + 28 + 3 * i + 2] := by
      intro j hj
      simp only [List.mem_cons, List.not_mem_nil, or_false] at hj
      have h26 : 26 ≤ j ∧ j < 338 := by omega
      have hq : j / 26 = t + 1 := by omega
      refine ⟨by omega, fun r hr => ?_⟩
      unfold rfc at hr
      rw [if_pos h26, if_neg (by omega), if_neg (by omega)] at hr
      split at hr
      · simp only [List.mem_cons, List.not_mem_nil, or_false] at hr ⊢
        omega
      · exact absurd hr List.not_mem_nil
    refine gx_mrg (clo_V ht (by omega)) hcc hd (fun ad' M' h1 h2 => ?_)
    have key := ih (i + 1) ad' M' (va_up f (ix (nI i)) (some q)) (by omega) (fun j hj => by
      rw [ix_nI (by omega)]
      by_cases hj2 : j = i
      · rw [hj2, va_up_self, (h2 _ List.mem_cons_self).1, e1]
      · rw [va_up_ne _ _ hj2, hf j (by omega), (h1 _ (mem_Rg.mpr (by omega))).1])
    rw [← nI_1, show 1 + 3 * (i + 1) = 1 + 3 * i + 1 + 2 by omega, show 8 + 13 * (i + 1) = 8 + 13 * i + 3 + 10 by omega, show 3 * (i + 1) = 3 * i + 3 by omega, Rg_app] at key
    exact key
end
set_option maxRecDepth 100000 in
set_option maxHeartbeats 4000000 in
theorem iX1 {l : Launch} {G : va_G} {cs : Nat → ClassId} {t : Nat} (ht : t < 12) : Ctor l yX1_init cX1_init 2 rmX1_init G cs 1 [.null, .int 0, .int 0, .int 0, .int 0, .int 0, .int 0] (Rg (26 * t + 26) 26) (26 * t + 26) (fun M => hasN M (26 * t + 26) P0 N0) 25 112 := by
  refine ctor_of (Eq.refl true) rfl (by decide) (fun h0 => [some (.ref h0), none]) (fun h0 => rfl) ?_
  intro h0 p e s m below meth c A B
  replace B : Bx G cs p m meth c cX1_init 2 s [Value.ref h0].toArray RX1 A := B
  refine gx_aload_n B dX1_init_0 rfl ?_
  refine gx_obj B km_X1_3 (by decide) (by decide) dX1_init_1 ?_
  refine gx_aload_n B dX1_init_4 rfl ?_
  refine gx_bipush (v := 8) B dX1_init_5 (by decide) ?_
  refine gx_newQ B 2 8 kl_X1_9 B.X.2.2.2.2.2.2.1 rfl (by decide) (by decide) (by decide) (by decide) (by decide) dX1_init_7 (fun qa => ?_)
  refine gx_putF (C := RX1) (T := TX1) (N := 7) (ty := .array (.object "ShuffledViews$View")) (fs' := fsN qa) B rfl inGX1 tyX1 tyX1_ok nmX1 0 (by decide) rfl rfl kf_X1_11 (by decide +kernel) rfl rfl (Nat.le_of_ble_eq_true rfl) rfl dX1_init_10 ?_
  refine gx_iconst (v := nI 0) B dX1_init_13 (by decide) ?_
  refine gx_istore_n B dX1_init_14 (by decide) rfl ?_
  refine lX1 (h0 := h0) (qa := qa) ht B ?_ 8 0 (fun _ => 0) zM (fun _ => none) rfl (fun j hj => by omega)
  intro ad M f hf
  refine gx_tr (root_tr (X := [(h0, .inr (1, fsN qa))]) (a := 26 * t + 27) (R := fun _ => 0) (clo_V (k := 8) ht (by omega)) (fun h => by rw [mem_Rg] at h; omega) (fun H hq => ?_)) ?_
  · rw [show 26 * t + 27 = 26 * t + 26 + 1 by omega, (rf_N (ad := va_up ad (26 * t + 26 + 1) qa) (cs := cs) (isN_Rg ht)).2]
    exact at_rf (fun j hj => by
      show f j = some (va_up ad (26 * t + 26 + 1) qa (26 * t + 26 + 2 + 3 * j))
      rw [va_up_ne _ _ (by omega), hf j hj]) hq
  have e1 : (26 * t + 27) :: Rg (26 * t + 28) 24 = Rg (26 * t + 27) 25 := Rg_s (26 * t + 27) 24
  have e2 : (26 * t + 26) :: Rg (26 * t + 27) 25 = Rg (26 * t + 26) 26 := Rg_s (26 * t + 26) 25
  rw [e1]
  refine gx_tr (root_tr (X := []) (a := 26 * t + 26) (R := fun _ => 0) (clo_V1 ht) (fun h => by rw [mem_Rg] at h; omega) (fun H hq => ?_)) ?_
  · rw [(ob_N (ad := va_up (va_up ad (26 * t + 27) qa) (26 * t + 26) h0) (cs := cs) (isN_Rg ht)).2]
    have e3 : va_up (va_up ad (26 * t + 27) qa) (26 * t + 26) h0 (26 * t + 26 + 1) = qa := by
      rw [va_up_ne _ _ (by omega)]; exact va_up_self _ _ _
    rw [e3]; exact hq
  rw [e2]
  obtain ⟨ad2, h2, e0⟩ : ∃ ad2, ad2 = va_up (va_up ad (26 * t + 27) qa) (26 * t + 26) h0 ∧ ad2 (26 * t + 26) = h0 := ⟨_, rfl, va_up_self _ _ _⟩
  rw [← h2]
  obtain ⟨M', hr, hN, -⟩ := begin_c (C := upR (upR M (26 * t + 27) (fun _ => 0)) (26 * t + 26) (fun _ => 0)) (a := 26 * t + 26) (n := 4) (c := 2) (l := 1) (sd := 1) (by omega) (by omega) (by omega)
  refine gx_aload_n B dX1_init_40 rfl ?_
  refine gx_iconst (v := nI 4) B dX1_init_41 (by decide) ?_
  refine gx_iconst (v := nI 2) B dX1_init_42 (by decide) ?_
  refine gx_iconst (v := nI 1) B dX1_init_43 (by decide) ?_
  refine gx_iconst (v := nI 1) B dX1_init_44 (by decide) ?_
  refine gx_callV (zk := id) (zv := id) (a := 26 * t + 26) (As := [.int (nI 4), .int (nI 2), .int (nI 1), .int (nI 1)]) (st := []) B (Rg_nd _ _) (fun hj => tX1_begin hj _ _ _ _ _ (isN_Rg ht) _ _ _ hr) (ob_N (isN_Rg ht)) rfl kc_X1_begin kz_X1 ki_X1_begin ks_X1_begin km_X1_18 ⟨kn_X1_begin, rfl, rfl, Nat.le_of_ble_eq_true rfl, Nat.le_of_ble_eq_true rfl⟩ (by rw [e0]; rfl) (Nat.le_of_ble_eq_true rfl) (Nat.le_of_ble_eq_true rfl) (Nat.le_of_ble_eq_true rfl) dX1_init_45 ?_
  exact gx_ret B e0 hN dX1_init_48
