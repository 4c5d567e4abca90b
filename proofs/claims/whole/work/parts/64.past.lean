/-! Past -/
def rmX2_init : Room := { frames := 3, cells := 209, slots := 960, locals := 69 }
theorem mem_N {adc : Nat → Nat} {cs : Nat → ClassId} {Mc : Mm} {t q : Nat} (ht : t < 12) (hq : adc (26 * t + 26) = q) : (q, (.inr (1, [.ref (adc (26 * t + 26 + 1)), .int (Mc (26 * t + 26) 1), .int (Mc (26 * t + 26) 2), .int (Mc (26 * t + 26) 3), .int (Mc (26 * t + 26) 4), .int (Mc (26 * t + 26) 5), .int (Mc (26 * t + 26) 6)]) : va_E)) ∈ wsO (Rg (26 * t + 26) 26) adc cs Mc := by
  refine List.mem_map.mpr ⟨26 * t + 26, mem_Rg.mpr (by omega), ?_⟩
  rw [(ob_N (ad := adc) (cs := cs) (isN_Rg ht)).2, hq]
section
variable {p : Program} {l : Launch} {e : Env} {s : State} {m : MethodId} {args : Array Value} {below : List Frame} {meth : Method} {c : Code} {Q : State → Prop}
variable {G : va_G} {cs : Nat → ClassId} {A : Nat → Prop}
set_option maxRecDepth 100000 in
set_option maxHeartbeats 4000000 in
theorem lX2 {h0 qa : Nat} (B : Bx G cs p m meth c cX2_init 2 s args RX2 A)
    (K : ∀ (ad : Nat → Nat) (M : Mm) (f : Nat → Option Nat), (∀ j, j < 8 → f j = some (ad (78 + 26 * j))) → BW p l e rmX2_init s m args below meth c Q G A 2 40 [some (.ref h0), some (.int (nI 8))] [] ((h0, .inr (2, [.ref qa, .int 0, .int 0])) :: (qa, .inl (cs 3, 8, Rf f)) :: wsO (Rg 78 208) ad cs M) 209 960) :
    ∀ (d i : Nat) (ad : Nat → Nat) (M : Mm) (f : Nat → Option Nat), i + d = 8 → (∀ j, j < i → f j = some (ad (78 + 26 * j))) → BW p l e rmX2_init s m args below meth c Q G A 2 15 [some (.ref h0), some (.int (nI i))] [] ((h0, .inr (2, [.ref qa, .int 0, .int 0])) :: (qa, .inl (cs 3, 8, Rf f)) :: wsO (Rg 78 (26 * i)) ad cs M) (1 + 26 * i) (8 + 119 * i) := by
  intro d
  induction d with
  | zero =>
    intro i ad M f hi hf
    obtain rfl : i = 8 := by omega
    refine gx_iload_n B dX2_init_15 rfl ?_
    refine gx_bipush (v := 8) B dX2_init_16 (by decide) ?_
    refine gx_icmp_ge (t := 40) B dX2_init_18 rfl (fun _ => ?_) (fun h => absurd (by decide) h)
    exact K ad M f hf
  | succ d ih =>
    intro i ad M f hi hf
    have hi8 : i < 8 := by omega
    have ht : i + 2 < 12 := by omega
    have ea : 26 * (i + 2) + 26 = 78 + 26 * i := by omega
    refine gx_iload_n B dX2_init_15 rfl ?_
    refine gx_bipush (v := nI 8) B dX2_init_16 (by decide) ?_
    refine gx_icmp_ge (t := 40) B dX2_init_18 rfl (fun h => absurd h (nI_ge (by omega) (by omega))) (fun _ => ?_)
    refine gx_aload_n B dX2_init_21 rfl ?_
    refine gx_get (C := RX2) (T := TX2) (N := 3) B rfl inGX2 0 (by decide) rfl kf_X2_11 rfl dX2_init_22 ?_
    refine gx_iload_n B dX2_init_25 rfl ?_
    refine gx_new (ci := 1) (C := RX1) (T := TX1) (N := 7) B [.null, .int 0, .int 0, .int 0, .int 0, .int 0, .int 0] inGX1 tyX1 tyX1_ok kl_X2_9 kq_X1 kz_X1 rfl (by decide) (by show 1 + 26 * i + 1 ≤ 209; omega) (by show 8 + 119 * i + 7 ≤ 960; omega) dX2_init_26 (fun q => ?_)
    refine gx_dup B dX2_init_29 rfl ?_
    refine gx_init B (iX1 ht) kc_X1_init kz_X1 ki_X1_init km_X2_17 ⟨kn_X1_init, rfl, rfl, rfl, ⟨Nat.le_of_ble_eq_true rfl, Nat.le_of_ble_eq_true rfl⟩, by show 1 + 26 * i + 1 + 25 ≤ 209; omega, by show 8 + 119 * i + 7 + 112 ≤ 960; omega⟩ (Nat.le_of_ble_eq_true rfl) dX2_init_30 (fun adc Mc e1 _ => ?_)
    refine gx_aast (q := qa) (n := 8) (v := q) (ci := 1) (C := RX1) (T := TX1) (N := 7) (f := f) (ws' := ([(h0, .inr (2, [.ref qa, .int 0, .int 0])), (qa, .inl (cs 3, 8, Rf (va_up f (ix (nI i)) (some q))))] ++ wsO (Rg 78 (26 * i)) ad cs M) ++ wsO (Rg (26 * (i + 2) + 26) 26) adc cs Mc) B 1 3 rfl rfl (List.mem_append_right _ (mem_N ht e1)) rfl (okI_nI hi8 (by decide)) rfl dX2_init_33 ?_
    refine gx_iinc (v := 1) B dX2_init_34 rfl (by decide) (by decide) rfl ?_
    refine gx_goto (t := 15) B dX2_init_37 rfl ?_
    have hd : ∀ j ∈ Rg 78 (26 * i), j ∉ Rg (26 * (i + 2) + 26) 26 := by
      intro j hj hj2
      rw [mem_Rg] at hj hj2
      omega
    refine gx_mrg (clo_N (t := 2) (by omega)) (clo_N (k := 1) (by omega)) hd (fun ad' M' h1 h2 => ?_)
    have key := ih (i + 1) ad' M' (va_up f (ix (nI i)) (some q)) (by omega) (fun j hj => by
      rw [ix_nI (by omega)]
      by_cases hj2 : j = i
      · rw [hj2, va_up_self, ← ea, (h2 _ (mem_Rg.mpr (by omega))).1, e1]
      · rw [va_up_ne _ _ hj2, hf j (by omega), (h1 _ (mem_Rg.mpr (by omega))).1])
    rw [← nI_1, show 1 + 26 * (i + 1) = 1 + 26 * i + 1 + 25 by omega, show 8 + 119 * (i + 1) = 8 + 119 * i + 7 + 112 by omega, show 26 * (i + 1) = 26 * i + 26 by omega, Rg_app, ← ea] at key
    exact key
end
theorem clo_16 : clo (16 :: Rg 78 208) := by
  refine clo_cons (clo_N (t := 2) (k := 8) (by omega)) (by omega) (fun r hr => ?_)
  have hr : r ∈ (List.range 8).map (fun j => 78 + 26 * j) := hr
  obtain ⟨j, hj, rfl⟩ := List.mem_map.mp hr
  rw [List.mem_range] at hj
  exact mem_Rg.mpr (by omega)
theorem clo_15 : clo (15 :: 16 :: Rg 78 208) := clo_cons clo_16 (by omega) (fun r hr => by
  have hr : r ∈ [16] := hr
  rw [List.mem_singleton] at hr
  rw [hr]; exact List.mem_cons_self)
set_option maxRecDepth 100000 in
set_option maxHeartbeats 4000000 in
theorem iX2 {l : Launch} {G : va_G} {cs : Nat → ClassId} : Ctor l yX2_init cX2_init 2 rmX2_init G cs 2 [.null, .int 0, .int 0] (15 :: 16 :: Rg 78 208) 15 (fun M => M 15 = fun _ => 0) 209 960 := by
  refine ctor_of (Eq.refl true) rfl (by decide) (fun h0 => [some (.ref h0), none]) (fun h0 => rfl) ?_
  intro h0 p e s m below meth c A B
  replace B : Bx G cs p m meth c cX2_init 2 s [Value.ref h0].toArray RX2 A := B
  refine gx_aload_n B dX2_init_0 rfl ?_
  refine gx_obj B km_X2_3 (by decide) (by decide) dX2_init_1 ?_
  refine gx_aload_n B dX2_init_4 rfl ?_
  refine gx_bipush (v := 8) B dX2_init_5 (by decide) ?_
  refine gx_newQ B 3 8 kl_X2_9 B.X.2.2.2.2.2.2.2.1 rfl (by decide) (by decide) (by decide) (by decide) (by decide) dX2_init_7 (fun qa => ?_)
  refine gx_putF (C := RX2) (T := TX2) (N := 3) (ty := .array (.object "ShuffledViews$Net")) (fs' := [.ref qa, .int 0, .int 0]) B rfl inGX2 tyX2 tyX2_ok nmX2 0 (by decide) rfl rfl kf_X2_11 (by decide +kernel) rfl rfl (Nat.le_of_ble_eq_true rfl) rfl dX2_init_10 ?_
  refine gx_iconst (v := nI 0) B dX2_init_13 (by decide) ?_
  refine gx_istore_n B dX2_init_14 (by decide) rfl ?_
  refine lX2 (h0 := h0) (qa := qa) B ?_ 8 0 (fun _ => 0) zM (fun _ => none) rfl (fun j hj => by omega)
  intro ad M f hf
  refine gx_tr (root_tr (X := [(h0, .inr (2, [.ref qa, .int 0, .int 0]))]) (a := 16) (R := fun _ => 0) (clo_N (t := 2) (k := 8) (by omega)) (fun h => by rw [mem_Rg] at h; omega) (fun H hq => ?_)) ?_
  · show va_at G vwCl (qa, .inl (cs 3, 8, rfs (fun j => va_up ad 16 qa (78 + 26 * j)))) H
    exact at_rf (fun j hj => by rw [va_up_ne _ _ (by omega)]; exact hf j hj) hq
  refine gx_tr (root_tr (X := []) (a := 15) (R := fun _ => 0) clo_16 (fun h => by rw [List.mem_cons, mem_Rg] at h; omega) (fun H hq => ?_)) ?_
  · have e3 : va_up (va_up ad 16 qa) 15 h0 16 = qa := by rw [va_up_ne _ _ (by decide)]; exact va_up_self _ _ _
    show va_at G vwCl (h0, .inr (2, [.ref (va_up (va_up ad 16 qa) 15 h0 16), .int 0, .int 0])) H
    rw [e3]; exact hq
  exact gx_ret B (va_up_self _ _ _) (by simp [upR]) dX2_init_40
