noncomputable def fX5_swap (a1 : Nat) (x2 : Int32) (x3 : Int32) (M : Mm) : Option Rst := cl (fX1_hasTwo a1 x2 x3 M) (fun r1 M1 => if r1 = 0 then (some ((0 : Int32), M1)) else (cl (fX4_clear 7 M1) (fun r2 M2 => cl (fX4_putItself 7 x2 M2) (fun r3 M3 => cl (fX1_isSly a1 x2 M3) (fun r4 M4 => if r4 = 0 then (gd (okI x2 8) (cl (fX4_putDrawn 7 a1 (a1 + 2 + 3 * ix (x2)) M4) (fun r13 M13 => cl (fX4_clear 11 M13) (fun r14 M14 => cl (fX1_isSly a1 x3 M14) (fun r15 M15 => if r15 = 0 then (gd (okI x3 8) (cl (fX4_putDrawn 11 a1 (a1 + 2 + 3 * ix (x3)) M15) (fun r16 M16 => cl (fX5_takeAll a1 x3 7 11 M16) (fun r17 M17 => cl (fX5_takeAll a1 x2 11 7 M17) (fun r18 M18 => some ((0 : Int32), M18)))))) else (cl (fX4_putItself 11 x3 M15) (fun r19 M19 => cl (fX5_takeAll a1 x3 7 11 M19) (fun r20 M20 => cl (fX5_takeAll a1 x2 11 7 M20) (fun r21 M21 => some ((0 : Int32), M21)))))))))) else (cl (fX4_clear 11 M4) (fun r5 M5 => cl (fX1_isSly a1 x3 M5) (fun r6 M6 => if r6 = 0 then (gd (okI x3 8) (cl (fX4_putDrawn 11 a1 (a1 + 2 + 3 * ix (x3)) M6) (fun r7 M7 => cl (fX5_takeAll a1 x3 7 11 M7) (fun r8 M8 => cl (fX5_takeAll a1 x2 11 7 M8) (fun r9 M9 => some ((0 : Int32), M9)))))) else (cl (fX4_putItself 11 x3 M6) (fun r10 M10 => cl (fX5_takeAll a1 x3 7 11 M10) (fun r11 M11 => cl (fX5_takeAll a1 x2 11 7 M11) (fun r12 M12 => some ((0 : Int32), M12)))))))))))))
def rmX5_swap : Room := { frames := 3, cells := 0, slots := 0, locals := 69 }
theorem kn_X5_swap : yX5_swap.cls ≠ "java/lang/invoke/MethodHandle" ∧ yX5_swap.cls ≠ "java/lang/invoke/VarHandle" ∧ (parseMethodDescriptor yX5_swap.desc).map (fun d => d.parameters.length) = some 3 := by decide +kernel
set_option maxRecDepth 100000 in
set_option maxHeartbeats 4000000 in
theorem tX5_swap {l : Launch} {G : va_G} {L : List Nat} {ad : Nat → Nat} {cs : Nat → ClassId} {z : Bool} {zk zv : Nat → Nat} (hinj : inj L ad) (hx : isX L) (a1 : Nat) (x2 : Int32) (x3 : Int32) (h1 : isN L a1) (M : Mm) (r : Int32) (M' : Mm) (h : fX5_swap a1 x2 x3 M = some (r, M')) : Met l yX5_swap (tgW yX5_swap cX5_swap 4 none) rmX5_swap (APre G L ad cs z zk zv [.ref (ad 6), .ref (ad a1), .int x2, .int x3] M) (AQv G L ad cs M') 0 0 (inA L ad) := by
  refine met_of (Eq.refl true) (Nat.le_of_ble_eq_true rfl) hinj [some (.ref (ad 6)), some (.ref (ad a1)), some (.int x2), some (.int x3)] rfl ?_
  intro p e s m below meth c F
  replace F : Fx G L ad cs z zk zv p m meth c cX5_swap 4 none s _ RX5 := F
  unfold fX5_swap at h
  refine ax_aload_n F dX5_swap_0 rfl ?_
  refine ax_iload_n F dX5_swap_1 rfl ?_
  refine ax_iload_n F dX5_swap_2 rfl ?_
  obtain ⟨r1, M1, hq1, h⟩ := cq_some0 h
  refine ax_callVi (As := [.int x2, .int x3]) (st := []) F (tX1_hasTwo F.2.2.2.2.2.2.1 _ _ _ h1 _ _ _ hq1) (ob_N h1) rfl kc_X1_hasTwo kz_X1 ki_X1_hasTwo ks_X1_hasTwo km_X5_63 ⟨kn_X1_hasTwo, rfl, rfl, Nat.le_of_ble_eq_true rfl, Nat.le_of_ble_eq_true rfl⟩ rfl (Nat.le_of_ble_eq_true rfl) dX5_swap_3 ?_
  refine ax_if_ne (t := 10) F dX5_swap_6 (by decide) (fun hc => ?_) (fun hc => ?_)
  · have h := it_neg0 h hc
    refine ax_aload_n F dX5_swap_10 rfl ?_
    refine ax_get (v := .ref (ad 7)) F (ob_6 hx) rfl inGX5 0 (by decide) rfl kf_X5_12 rfl dX5_swap_11 ?_
    obtain ⟨r2, M2, hq2, h⟩ := cq_some0 h
    refine ax_callVv (As := []) (st := []) F (tX4_clear F.2.2.2.2.2.2.1 _ (isS_7 hx) _ _ _ hq2) (ob_S (isS_7 hx)) rfl kc_X4_clear kz_X4 ki_X4_clear ks_X4_clear km_X5_67 ⟨kn_X4_clear, rfl, rfl, Nat.le_of_ble_eq_true rfl, Nat.le_of_ble_eq_true rfl⟩ rfl (Nat.le_of_ble_eq_true rfl) dX5_swap_14 ?_
    refine ax_aload_n F dX5_swap_17 rfl ?_
    refine ax_get (v := .ref (ad 7)) F (ob_6 hx) rfl inGX5 0 (by decide) rfl kf_X5_12 rfl dX5_swap_18 ?_
    refine ax_iload_n F dX5_swap_21 rfl ?_
    obtain ⟨r3, M3, hq3, h⟩ := cq_some0 h
    refine ax_callVv (As := [.int x2]) (st := []) F (tX4_putItself F.2.2.2.2.2.2.1 _ _ (isS_7 hx) _ _ _ hq3) (ob_S (isS_7 hx)) rfl kc_X4_putItself kz_X4 ki_X4_putItself ks_X4_putItself km_X5_70 ⟨kn_X4_putItself, rfl, rfl, Nat.le_of_ble_eq_true rfl, Nat.le_of_ble_eq_true rfl⟩ rfl (Nat.le_of_ble_eq_true rfl) dX5_swap_22 ?_
    refine ax_aload_n F dX5_swap_25 rfl ?_
    refine ax_iload_n F dX5_swap_26 rfl ?_
    obtain ⟨r4, M4, hq4, h⟩ := cq_some0 h
    refine ax_callVi (As := [.int x2]) (st := []) F (tX1_isSly F.2.2.2.2.2.2.1 _ _ h1 _ _ _ hq4) (ob_N h1) rfl kc_X1_isSly kz_X1 ki_X1_isSly ks_X1_isSly km_X5_73 ⟨kn_X1_isSly, rfl, rfl, Nat.le_of_ble_eq_true rfl, Nat.le_of_ble_eq_true rfl⟩ rfl (Nat.le_of_ble_eq_true rfl) dX5_swap_27 ?_
    refine ax_if_ne (t := 47) F dX5_swap_30 (by decide) (fun hc => ?_) (fun hc => ?_)
    · have h := it_neg0 h hc
      refine ax_aload_n F dX5_swap_47 rfl ?_
      refine ax_get (v := .ref (ad 11)) F (ob_6 hx) rfl inGX5 1 (by decide) rfl kf_X5_18 rfl dX5_swap_48 ?_
      obtain ⟨r5, M5, hq5, h⟩ := cq_some0 h
      refine ax_callVv (As := []) (st := []) F (tX4_clear F.2.2.2.2.2.2.1 _ (isS_11 hx) _ _ _ hq5) (ob_S (isS_11 hx)) rfl kc_X4_clear kz_X4 ki_X4_clear ks_X4_clear km_X5_67 ⟨kn_X4_clear, rfl, rfl, Nat.le_of_ble_eq_true rfl, Nat.le_of_ble_eq_true rfl⟩ rfl (Nat.le_of_ble_eq_true rfl) dX5_swap_51 ?_
      refine ax_aload_n F dX5_swap_54 rfl ?_
      refine ax_iload_n F dX5_swap_55 rfl ?_
      obtain ⟨r6, M6, hq6, h⟩ := cq_some0 h
      refine ax_callVi (As := [.int x3]) (st := []) F (tX1_isSly F.2.2.2.2.2.2.1 _ _ h1 _ _ _ hq6) (ob_N h1) rfl kc_X1_isSly kz_X1 ki_X1_isSly ks_X1_isSly km_X5_73 ⟨kn_X1_isSly, rfl, rfl, Nat.le_of_ble_eq_true rfl, Nat.le_of_ble_eq_true rfl⟩ rfl (Nat.le_of_ble_eq_true rfl) dX5_swap_56 ?_
      refine ax_if_eq (t := 73) F dX5_swap_59 (by decide) (fun hc => ?_) (fun hc => ?_)
      · have h := it_pos0 h hc
        refine ax_aload_n F dX5_swap_73 rfl ?_
        refine ax_get (v := .ref (ad 11)) F (ob_6 hx) rfl inGX5 1 (by decide) rfl kf_X5_18 rfl dX5_swap_74 ?_
        refine ax_aload_n F dX5_swap_77 rfl ?_
        refine ax_aload_n F dX5_swap_78 rfl ?_
        refine ax_get (v := .ref (ad (a1 + 1))) F (ob_N h1) rfl inGX1 0 (by decide) rfl kf_X5_27 rfl dX5_swap_79 ?_
        refine ax_iload_n F dX5_swap_82 rfl ?_
        obtain ⟨hi1, h⟩ := gd_some0 h
        refine ax_aald F (rf_N h1) rfl hi1 dX5_swap_83 ?_
        obtain ⟨r7, M7, hq7, h⟩ := cq_some0 h
        refine ax_callVv (As := [.ref (ad a1), .ref (ad (a1 + 2 + 3 * ix (x3)))]) (st := []) F (tX4_putDrawn F.2.2.2.2.2.2.1 _ _ _ (isS_11 hx) h1 (isV_of h1 (okI_lt hi1)) _ _ _ hq7) (ob_S (isS_11 hx)) rfl kc_X4_putDrawn kz_X4 ki_X4_putDrawn ks_X4_putDrawn km_X5_76 ⟨kn_X4_putDrawn, rfl, rfl, Nat.le_of_ble_eq_true rfl, Nat.le_of_ble_eq_true rfl⟩ rfl (Nat.le_of_ble_eq_true rfl) dX5_swap_84 ?_
        refine ax_aload_n F dX5_swap_87 rfl ?_
        refine ax_iload_n F dX5_swap_88 rfl ?_
        refine ax_aload_n F dX5_swap_89 rfl ?_
        refine ax_get (v := .ref (ad 7)) F (ob_6 hx) rfl inGX5 0 (by decide) rfl kf_X5_12 rfl dX5_swap_90 ?_
        refine ax_aload_n F dX5_swap_93 rfl ?_
        refine ax_get (v := .ref (ad 11)) F (ob_6 hx) rfl inGX5 1 (by decide) rfl kf_X5_18 rfl dX5_swap_94 ?_
        obtain ⟨r8, M8, hq8, h⟩ := cq_some0 h
        refine ax_callSv (As := [.ref (ad a1), .int x3, .ref (ad 7), .ref (ad 11)]) (st := []) F (tX5_takeAll F.2.2.2.2.2.2.1 hx _ _ _ _ h1 (isS_7 hx) (isS_11 hx) _ _ _ hq8) kc_X5_takeAll kz_X5 kt_X5_takeAll km_X5_80 ⟨kn_X5_takeAll, rfl, rfl, Nat.le_of_ble_eq_true rfl, Nat.le_of_ble_eq_true rfl⟩ rfl (Nat.le_of_ble_eq_true rfl) dX5_swap_97 ?_
        refine ax_aload_n F dX5_swap_100 rfl ?_
        refine ax_iload_n F dX5_swap_101 rfl ?_
        refine ax_aload_n F dX5_swap_102 rfl ?_
        refine ax_get (v := .ref (ad 11)) F (ob_6 hx) rfl inGX5 1 (by decide) rfl kf_X5_18 rfl dX5_swap_103 ?_
        refine ax_aload_n F dX5_swap_106 rfl ?_
        refine ax_get (v := .ref (ad 7)) F (ob_6 hx) rfl inGX5 0 (by decide) rfl kf_X5_12 rfl dX5_swap_107 ?_
        obtain ⟨r9, M9, hq9, h⟩ := cq_some0 h
        refine ax_callSv (As := [.ref (ad a1), .int x2, .ref (ad 11), .ref (ad 7)]) (st := []) F (tX5_takeAll F.2.2.2.2.2.2.1 hx _ _ _ _ h1 (isS_11 hx) (isS_7 hx) _ _ _ hq9) kc_X5_takeAll kz_X5 kt_X5_takeAll km_X5_80 ⟨kn_X5_takeAll, rfl, rfl, Nat.le_of_ble_eq_true rfl, Nat.le_of_ble_eq_true rfl⟩ rfl (Nat.le_of_ble_eq_true rfl) dX5_swap_110 ?_
        obtain ⟨h1, h2⟩ := rt_some0 h
        subst h2
        exact ax_vret F dX5_swap_113
      · have h := it_neg0 h hc
        refine ax_aload_n F dX5_swap_62 rfl ?_
        refine ax_get (v := .ref (ad 11)) F (ob_6 hx) rfl inGX5 1 (by decide) rfl kf_X5_18 rfl dX5_swap_63 ?_
        refine ax_iload_n F dX5_swap_66 rfl ?_
        obtain ⟨r10, M10, hq10, h⟩ := cq_some0 h
        refine ax_callVv (As := [.int x3]) (st := []) F (tX4_putItself F.2.2.2.2.2.2.1 _ _ (isS_11 hx) _ _ _ hq10) (ob_S (isS_11 hx)) rfl kc_X4_putItself kz_X4 ki_X4_putItself ks_X4_putItself km_X5_70 ⟨kn_X4_putItself, rfl, rfl, Nat.le_of_ble_eq_true rfl, Nat.le_of_ble_eq_true rfl⟩ rfl (Nat.le_of_ble_eq_true rfl) dX5_swap_67 ?_
        refine ax_goto (t := 87) F dX5_swap_70 (by decide) ?_
        refine ax_aload_n F dX5_swap_87 rfl ?_
        refine ax_iload_n F dX5_swap_88 rfl ?_
        refine ax_aload_n F dX5_swap_89 rfl ?_
        refine ax_get (v := .ref (ad 7)) F (ob_6 hx) rfl inGX5 0 (by decide) rfl kf_X5_12 rfl dX5_swap_90 ?_
        refine ax_aload_n F dX5_swap_93 rfl ?_
        refine ax_get (v := .ref (ad 11)) F (ob_6 hx) rfl inGX5 1 (by decide) rfl kf_X5_18 rfl dX5_swap_94 ?_
        obtain ⟨r11, M11, hq11, h⟩ := cq_some0 h
        refine ax_callSv (As := [.ref (ad a1), .int x3, .ref (ad 7), .ref (ad 11)]) (st := []) F (tX5_takeAll F.2.2.2.2.2.2.1 hx _ _ _ _ h1 (isS_7 hx) (isS_11 hx) _ _ _ hq11) kc_X5_takeAll kz_X5 kt_X5_takeAll km_X5_80 ⟨kn_X5_takeAll, rfl, rfl, Nat.le_of_ble_eq_true rfl, Nat.le_of_ble_eq_true rfl⟩ rfl (Nat.le_of_ble_eq_true rfl) dX5_swap_97 ?_
        refine ax_aload_n F dX5_swap_100 rfl ?_
        refine ax_iload_n F dX5_swap_101 rfl ?_
        refine ax_aload_n F dX5_swap_102 rfl ?_
        refine ax_get (v := .ref (ad 11)) F (ob_6 hx) rfl inGX5 1 (by decide) rfl kf_X5_18 rfl dX5_swap_103 ?_
        refine ax_aload_n F dX5_swap_106 rfl ?_
        refine ax_get (v := .ref (ad 7)) F (ob_6 hx) rfl inGX5 0 (by decide) rfl kf_X5_12 rfl dX5_swap_107 ?_
        obtain ⟨r12, M12, hq12, h⟩ := cq_some0 h
        refine ax_callSv (As := [.ref (ad a1), .int x2, .ref (ad 11), .ref (ad 7)]) (st := []) F (tX5_takeAll F.2.2.2.2.2.2.1 hx _ _ _ _ h1 (isS_11 hx) (isS_7 hx) _ _ _ hq12) kc_X5_takeAll kz_X5 kt_X5_takeAll km_X5_80 ⟨kn_X5_takeAll, rfl, rfl, Nat.le_of_ble_eq_true rfl, Nat.le_of_ble_eq_true rfl⟩ rfl (Nat.le_of_ble_eq_true rfl) dX5_swap_110 ?_
        obtain ⟨h1, h2⟩ := rt_some0 h
        subst h2
        exact ax_vret F dX5_swap_113
    · have h := it_pos0 h hc
      refine ax_aload_n F dX5_swap_33 rfl ?_
      refine ax_get (v := .ref (ad 7)) F (ob_6 hx) rfl inGX5 0 (by decide) rfl kf_X5_12 rfl dX5_swap_34 ?_
      refine ax_aload_n F dX5_swap_37 rfl ?_
      refine ax_aload_n F dX5_swap_38 rfl ?_
      refine ax_get (v := .ref (ad (a1 + 1))) F (ob_N h1) rfl inGX1 0 (by decide) rfl kf_X5_27 rfl dX5_swap_39 ?_
      refine ax_iload_n F dX5_swap_42 rfl ?_
      obtain ⟨hi2, h⟩ := gd_some0 h
      refine ax_aald F (rf_N h1) rfl hi2 dX5_swap_43 ?_
      obtain ⟨r13, M13, hq13, h⟩ := cq_some0 h
      refine ax_callVv (As := [.ref (ad a1), .ref (ad (a1 + 2 + 3 * ix (x2)))]) (st := []) F (tX4_putDrawn F.2.2.2.2.2.2.1 _ _ _ (isS_7 hx) h1 (isV_of h1 (okI_lt hi2)) _ _ _ hq13) (ob_S (isS_7 hx)) rfl kc_X4_putDrawn kz_X4 ki_X4_putDrawn ks_X4_putDrawn km_X5_76 ⟨kn_X4_putDrawn, rfl, rfl, Nat.le_of_ble_eq_true rfl, Nat.le_of_ble_eq_true rfl⟩ rfl (Nat.le_of_ble_eq_true rfl) dX5_swap_44 ?_
      refine ax_aload_n F dX5_swap_47 rfl ?_
      refine ax_get (v := .ref (ad 11)) F (ob_6 hx) rfl inGX5 1 (by decide) rfl kf_X5_18 rfl dX5_swap_48 ?_
      obtain ⟨r14, M14, hq14, h⟩ := cq_some0 h
      refine ax_callVv (As := []) (st := []) F (tX4_clear F.2.2.2.2.2.2.1 _ (isS_11 hx) _ _ _ hq14) (ob_S (isS_11 hx)) rfl kc_X4_clear kz_X4 ki_X4_clear ks_X4_clear km_X5_67 ⟨kn_X4_clear, rfl, rfl, Nat.le_of_ble_eq_true rfl, Nat.le_of_ble_eq_true rfl⟩ rfl (Nat.le_of_ble_eq_true rfl) dX5_swap_51 ?_
      refine ax_aload_n F dX5_swap_54 rfl ?_
      refine ax_iload_n F dX5_swap_55 rfl ?_
      obtain ⟨r15, M15, hq15, h⟩ := cq_some0 h
      refine ax_callVi (As := [.int x3]) (st := []) F (tX1_isSly F.2.2.2.2.2.2.1 _ _ h1 _ _ _ hq15) (ob_N h1) rfl kc_X1_isSly kz_X1 ki_X1_isSly ks_X1_isSly km_X5_73 ⟨kn_X1_isSly, rfl, rfl, Nat.le_of_ble_eq_true rfl, Nat.le_of_ble_eq_true rfl⟩ rfl (Nat.le_of_ble_eq_true rfl) dX5_swap_56 ?_
      refine ax_if_eq (t := 73) F dX5_swap_59 (by decide) (fun hc => ?_) (fun hc => ?_)
      · have h := it_pos0 h hc
        refine ax_aload_n F dX5_swap_73 rfl ?_
        refine ax_get (v := .ref (ad 11)) F (ob_6 hx) rfl inGX5 1 (by decide) rfl kf_X5_18 rfl dX5_swap_74 ?_
        refine ax_aload_n F dX5_swap_77 rfl ?_
        refine ax_aload_n F dX5_swap_78 rfl ?_
        refine ax_get (v := .ref (ad (a1 + 1))) F (ob_N h1) rfl inGX1 0 (by decide) rfl kf_X5_27 rfl dX5_swap_79 ?_
        refine ax_iload_n F dX5_swap_82 rfl ?_
        obtain ⟨hi3, h⟩ := gd_some0 h
        refine ax_aald F (rf_N h1) rfl hi3 dX5_swap_83 ?_
        obtain ⟨r16, M16, hq16, h⟩ := cq_some0 h
        refine ax_callVv (As := [.ref (ad a1), .ref (ad (a1 + 2 + 3 * ix (x3)))]) (st := []) F (tX4_putDrawn F.2.2.2.2.2.2.1 _ _ _ (isS_11 hx) h1 (isV_of h1 (okI_lt hi3)) _ _ _ hq16) (ob_S (isS_11 hx)) rfl kc_X4_putDrawn kz_X4 ki_X4_putDrawn ks_X4_putDrawn km_X5_76 ⟨kn_X4_putDrawn, rfl, rfl, Nat.le_of_ble_eq_true rfl, Nat.le_of_ble_eq_true rfl⟩ rfl (Nat.le_of_ble_eq_true rfl) dX5_swap_84 ?_
        refine ax_aload_n F dX5_swap_87 rfl ?_
        refine ax_iload_n F dX5_swap_88 rfl ?_
        refine ax_aload_n F dX5_swap_89 rfl ?_
        refine ax_get (v := .ref (ad 7)) F (ob_6 hx) rfl inGX5 0 (by decide) rfl kf_X5_12 rfl dX5_swap_90 ?_
        refine ax_aload_n F dX5_swap_93 rfl ?_
        refine ax_get (v := .ref (ad 11)) F (ob_6 hx) rfl inGX5 1 (by decide) rfl kf_X5_18 rfl dX5_swap_94 ?_
        obtain ⟨r17, M17, hq17, h⟩ := cq_some0 h
        refine ax_callSv (As := [.ref (ad a1), .int x3, .ref (ad 7), .ref (ad 11)]) (st := []) F (tX5_takeAll F.2.2.2.2.2.2.1 hx _ _ _ _ h1 (isS_7 hx) (isS_11 hx) _ _ _ hq17) kc_X5_takeAll kz_X5 kt_X5_takeAll km_X5_80 ⟨kn_X5_takeAll, rfl, rfl, Nat.le_of_ble_eq_true rfl, Nat.le_of_ble_eq_true rfl⟩ rfl (Nat.le_of_ble_eq_true rfl) dX5_swap_97 ?_
        refine ax_aload_n F dX5_swap_100 rfl ?_
        refine ax_iload_n F dX5_swap_101 rfl ?_
        refine ax_aload_n F dX5_swap_102 rfl ?_
        refine ax_get (v := .ref (ad 11)) F (ob_6 hx) rfl inGX5 1 (by decide) rfl kf_X5_18 rfl dX5_swap_103 ?_
        refine ax_aload_n F dX5_swap_106 rfl ?_
        refine ax_get (v := .ref (ad 7)) F (ob_6 hx) rfl inGX5 0 (by decide) rfl kf_X5_12 rfl dX5_swap_107 ?_
        obtain ⟨r18, M18, hq18, h⟩ := cq_some0 h
        refine ax_callSv (As := [.ref (ad a1), .int x2, .ref (ad 11), .ref (ad 7)]) (st := []) F (tX5_takeAll F.2.2.2.2.2.2.1 hx _ _ _ _ h1 (isS_11 hx) (isS_7 hx) _ _ _ hq18) kc_X5_takeAll kz_X5 kt_X5_takeAll km_X5_80 ⟨kn_X5_takeAll, rfl, rfl, Nat.le_of_ble_eq_true rfl, Nat.le_of_ble_eq_true rfl⟩ rfl (Nat.le_of_ble_eq_true rfl) dX5_swap_110 ?_
        obtain ⟨h1, h2⟩ := rt_some0 h
        subst h2
        exact ax_vret F dX5_swap_113
      · have h := it_neg0 h hc
        refine ax_aload_n F dX5_swap_62 rfl ?_
        refine ax_get (v := .ref (ad 11)) F (ob_6 hx) rfl inGX5 1 (by decide) rfl kf_X5_18 rfl dX5_swap_63 ?_
        refine ax_iload_n F dX5_swap_66 rfl ?_
        obtain ⟨r19, M19, hq19, h⟩ := cq_some0 h
        refine ax_callVv (As := [.int x3]) (st := []) F (tX4_putItself F.2.2.2.2.2.2.1 _ _ (isS_11 hx) _ _ _ hq19) (ob_S (isS_11 hx)) rfl kc_X4_putItself kz_X4 ki_X4_putItself ks_X4_putItself km_X5_70 ⟨kn_X4_putItself, rfl, rfl, Nat.le_of_ble_eq_true rfl, Nat.le_of_ble_eq_true rfl⟩ rfl (Nat.le_of_ble_eq_true rfl) dX5_swap_67 ?_
        refine ax_goto (t := 87) F dX5_swap_70 (by decide) ?_
        refine ax_aload_n F dX5_swap_87 rfl ?_
        refine ax_iload_n F dX5_swap_88 rfl ?_
        refine ax_aload_n F dX5_swap_89 rfl ?_
        refine ax_get (v := .ref (ad 7)) F (ob_6 hx) rfl inGX5 0 (by decide) rfl kf_X5_12 rfl dX5_swap_90 ?_
        refine ax_aload_n F dX5_swap_93 rfl ?_
        refine ax_get (v := .ref (ad 11)) F (ob_6 hx) rfl inGX5 1 (by decide) rfl kf_X5_18 rfl dX5_swap_94 ?_
        obtain ⟨r20, M20, hq20, h⟩ := cq_some0 h
        refine ax_callSv (As := [.ref (ad a1), .int x3, .ref (ad 7), .ref (ad 11)]) (st := []) F (tX5_takeAll F.2.2.2.2.2.2.1 hx _ _ _ _ h1 (isS_7 hx) (isS_11 hx) _ _ _ hq20) kc_X5_takeAll kz_X5 kt_X5_takeAll km_X5_80 ⟨kn_X5_takeAll, rfl, rfl, Nat.le_of_ble_eq_true rfl, Nat.le_of_ble_eq_true rfl⟩ rfl (Nat.le_of_ble_eq_true rfl) dX5_swap_97 ?_
        refine ax_aload_n F dX5_swap_100 rfl ?_
        refine ax_iload_n F dX5_swap_101 rfl ?_
        refine ax_aload_n F dX5_swap_102 rfl ?_
        refine ax_get (v := .ref (ad 11)) F (ob_6 hx) rfl inGX5 1 (by decide) rfl kf_X5_18 rfl dX5_swap_103 ?_
        refine ax_aload_n F dX5_swap_106 rfl ?_
        refine ax_get (v := .ref (ad 7)) F (ob_6 hx) rfl inGX5 0 (by decide) rfl kf_X5_12 rfl dX5_swap_107 ?_
        obtain ⟨r21, M21, hq21, h⟩ := cq_some0 h
        refine ax_callSv (As := [.ref (ad a1), .int x2, .ref (ad 11), .ref (ad 7)]) (st := []) F (tX5_takeAll F.2.2.2.2.2.2.1 hx _ _ _ _ h1 (isS_11 hx) (isS_7 hx) _ _ _ hq21) kc_X5_takeAll kz_X5 kt_X5_takeAll km_X5_80 ⟨kn_X5_takeAll, rfl, rfl, Nat.le_of_ble_eq_true rfl, Nat.le_of_ble_eq_true rfl⟩ rfl (Nat.le_of_ble_eq_true rfl) dX5_swap_110 ?_
        obtain ⟨h1, h2⟩ := rt_some0 h
        subst h2
        exact ax_vret F dX5_swap_113
  · have h := it_pos0 h hc
    obtain ⟨h1, h2⟩ := rt_some0 h
    subst h2
    exact ax_vret F dX5_swap_9
noncomputable def fX5_roundOf (a1 : Nat) (x2 : Int32) (M : Mm) : Option Rst := cl (fX1_has a1 x2 M) (fun r1 M1 => if r1 = 0 then (some ((-1 : Int32), M1)) else (gd (okI x2 8) (cl (fX7_growOlder (a1 + 2 + 3 * ix (x2)) M1) (fun r2 M2 => cl (fX7_placeOfOldest (a1 + 2 + 3 * ix (x2)) M2) (fun r3 M3 => if r3 < 0 then (some ((-1 : Int32), M3)) else (if r3 < (M3 (a1 + 2 + 3 * ix (x2)) 2) then (gd (okI r3 5) (cl (fX7_strike (a1 + 2 + 3 * ix (x2)) r3 M3) (fun r4 M4 => cl (fX1_isAlive a1 (M3 ((a1 + 2 + 3 * ix (x2)) + 1) (ix r3)) M4) (fun r5 M5 => if r5 = 0 then (some ((M3 ((a1 + 2 + 3 * ix (x2)) + 1) (ix r3)), M5)) else (cl (fX5_swap a1 x2 (M3 ((a1 + 2 + 3 * ix (x2)) + 1) (ix r3)) M5) (fun r6 M6 => some ((M3 ((a1 + 2 + 3 * ix (x2)) + 1) (ix r3)), M6))))))) else (some ((-1 : Int32), M3))))))))
def rmX5_roundOf : Room := { frames := 4, cells := 0, slots := 0, locals := 92 }
theorem kn_X5_roundOf : yX5_roundOf.cls ≠ "java/lang/invoke/MethodHandle" ∧ yX5_roundOf.cls ≠ "java/lang/invoke/VarHandle" ∧ (parseMethodDescriptor yX5_roundOf.desc).map (fun d => d.parameters.length) = some 2 := by decide +kernel
set_option maxRecDepth 100000 in
set_option maxHeartbeats 4000000 in
theorem tX5_roundOf {l : Launch} {G : va_G} {L : List Nat} {ad : Nat → Nat} {cs : Nat → ClassId} {z : Bool} {zk zv : Nat → Nat} (hinj : inj L ad) (hx : isX L) (a1 : Nat) (x2 : Int32) (h1 : isN L a1) (M : Mm) (r : Int32) (M' : Mm) (h : fX5_roundOf a1 x2 M = some (r, M')) : Met l yX5_roundOf (tgW yX5_roundOf cX5_roundOf 6 (some .int)) rmX5_roundOf (APre G L ad cs z zk zv [.ref (ad 6), .ref (ad a1), .int x2] M) (AQi G L ad cs r M') 0 0 (inA L ad) := by
  refine met_of (Eq.refl true) (Nat.le_of_ble_eq_true rfl) hinj [some (.ref (ad 6)), some (.ref (ad a1)), some (.int x2), none, none, none] rfl ?_
  intro p e s m below meth c F
  replace F : Fx G L ad cs z zk zv p m meth c cX5_roundOf 6 (some .int) s _ RX5 := F
  unfold fX5_roundOf at h
  refine ax_aload_n F dX5_roundOf_0 rfl ?_
  refine ax_iload_n F dX5_roundOf_1 rfl ?_
  obtain ⟨r1, M1, hq1, h⟩ := cq_some0 h
  refine ax_callVi (As := [.int x2]) (st := []) F (tX1_has F.2.2.2.2.2.2.1 _ _ h1 _ _ _ hq1) (ob_N h1) rfl kc_X1_has kz_X1 ki_X1_has ks_X1_has km_X5_21 ⟨kn_X1_has, rfl, rfl, Nat.le_of_ble_eq_true rfl, Nat.le_of_ble_eq_true rfl⟩ rfl (Nat.le_of_ble_eq_true rfl) dX5_roundOf_2 ?_
  refine ax_if_ne (t := 10) F dX5_roundOf_5 (by decide) (fun hc => ?_) (fun hc => ?_)
  · have h := it_neg0 h hc
    refine ax_aload_n F dX5_roundOf_10 rfl ?_
    refine ax_get (v := .ref (ad (a1 + 1))) F (ob_N h1) rfl inGX1 0 (by decide) rfl kf_X5_27 rfl dX5_roundOf_11 ?_
    refine ax_iload_n F dX5_roundOf_14 rfl ?_
    obtain ⟨hi1, h⟩ := gd_some0 h
    refine ax_aald F (rf_N h1) rfl hi1 dX5_roundOf_15 ?_
    refine ax_astore_n F dX5_roundOf_16 (by decide) rfl ?_
    refine ax_aload_n F dX5_roundOf_17 rfl ?_
    obtain ⟨r2, M2, hq2, h⟩ := cq_some0 h
    refine ax_callVv (As := []) (st := []) F (tX7_growOlder F.2.2.2.2.2.2.1 _ (isV_of h1 (okI_lt hi1)) _ _ _ hq2) (ob_V (isV_of h1 (okI_lt hi1))) rfl kc_X7_growOlder kz_X7 ki_X7_growOlder ks_X7_growOlder km_X5_31 ⟨kn_X7_growOlder, rfl, rfl, Nat.le_of_ble_eq_true rfl, Nat.le_of_ble_eq_true rfl⟩ rfl (Nat.le_of_ble_eq_true rfl) dX5_roundOf_18 ?_
    refine ax_aload_n F dX5_roundOf_21 rfl ?_
    obtain ⟨r3, M3, hq3, h⟩ := cq_some0 h
    refine ax_callVi (As := []) (st := []) F (tX7_placeOfOldest F.2.2.2.2.2.2.1 _ (isV_of h1 (okI_lt hi1)) _ _ _ hq3) (ob_V (isV_of h1 (okI_lt hi1))) rfl kc_X7_placeOfOldest kz_X7 ki_X7_placeOfOldest ks_X7_placeOfOldest km_X5_36 ⟨kn_X7_placeOfOldest, rfl, rfl, Nat.le_of_ble_eq_true rfl, Nat.le_of_ble_eq_true rfl⟩ rfl (Nat.le_of_ble_eq_true rfl) dX5_roundOf_22 ?_
    refine ax_istore F dX5_roundOf_25 (by decide) rfl ?_
    refine ax_iload F dX5_roundOf_27 rfl ?_
    refine ax_if_lt (t := 41) F dX5_roundOf_29 (by decide) (fun hc => ?_) (fun hc => ?_)
    · have h := it_pos0 h hc
      refine ax_iconst (v := (-1 : Int32)) F dX5_roundOf_41 (by decide) ?_
      obtain ⟨h1, h2⟩ := rt_some0 h
      subst h1; subst h2
      exact ax_iret F dX5_roundOf_42
    · have h := it_neg0 h hc
      refine ax_iload F dX5_roundOf_32 rfl ?_
      refine ax_aload_n F dX5_roundOf_34 rfl ?_
      refine ax_get (v := .int (M3 (a1 + 2 + 3 * ix (x2)) 2)) F (ob_V (isV_of h1 (okI_lt hi1))) rfl inGX7 2 (by decide) rfl kf_X5_40 rfl dX5_roundOf_35 ?_
      refine ax_icmp_lt (t := 43) F dX5_roundOf_38 (by decide) (fun hc => ?_) (fun hc => ?_)
      · have h := it_pos0 h hc
        refine ax_aload_n F dX5_roundOf_43 rfl ?_
        refine ax_get (v := .ref (ad ((a1 + 2 + 3 * ix (x2)) + 1))) F (ob_V (isV_of h1 (okI_lt hi1))) rfl inGX7 0 (by decide) rfl kf_X5_44 rfl dX5_roundOf_44 ?_
        refine ax_iload F dX5_roundOf_47 rfl ?_
        obtain ⟨hg, h⟩ := gd_some0 h
        refine ax_iald F (ar_V1 (isV_of h1 (okI_lt hi1))) hg dX5_roundOf_49 ?_
        refine ax_istore F dX5_roundOf_50 (by decide) rfl ?_
        refine ax_aload_n F dX5_roundOf_52 rfl ?_
        refine ax_iload F dX5_roundOf_53 rfl ?_
        obtain ⟨r4, M4, hq4, h⟩ := cq_some0 h
        refine ax_callVv (As := [.int r3]) (st := []) F (tX7_strike F.2.2.2.2.2.2.1 _ _ (isV_of h1 (okI_lt hi1)) _ _ _ hq4) (ob_V (isV_of h1 (okI_lt hi1))) rfl kc_X7_strike kz_X7 ki_X7_strike ks_X7_strike km_X5_48 ⟨kn_X7_strike, rfl, rfl, Nat.le_of_ble_eq_true rfl, Nat.le_of_ble_eq_true rfl⟩ rfl (Nat.le_of_ble_eq_true rfl) dX5_roundOf_55 ?_
        refine ax_aload_n F dX5_roundOf_58 rfl ?_
        refine ax_iload F dX5_roundOf_59 rfl ?_
        obtain ⟨r5, M5, hq5, h⟩ := cq_some0 h
        refine ax_callVi (As := [.int (M3 ((a1 + 2 + 3 * ix (x2)) + 1) (ix r3))]) (st := []) F (tX1_isAlive F.2.2.2.2.2.2.1 _ _ h1 _ _ _ hq5) (ob_N h1) rfl kc_X1_isAlive kz_X1 ki_X1_isAlive ks_X1_isAlive km_X5_52 ⟨kn_X1_isAlive, rfl, rfl, Nat.le_of_ble_eq_true rfl, Nat.le_of_ble_eq_true rfl⟩ rfl (Nat.le_of_ble_eq_true rfl) dX5_roundOf_61 ?_
        refine ax_if_eq (t := 75) F dX5_roundOf_64 (by decide) (fun hc => ?_) (fun hc => ?_)
        · have h := it_pos0 h hc
          refine ax_iload F dX5_roundOf_75 rfl ?_
          obtain ⟨h1, h2⟩ := rt_some0 h
          subst h1; subst h2
          exact ax_iret F dX5_roundOf_77
        · have h := it_neg0 h hc
          refine ax_aload_n F dX5_roundOf_67 rfl ?_
          refine ax_aload_n F dX5_roundOf_68 rfl ?_
          refine ax_iload_n F dX5_roundOf_69 rfl ?_
          refine ax_iload F dX5_roundOf_70 rfl ?_
          obtain ⟨r6, M6, hq6, h⟩ := cq_some0 h
          refine ax_callVv (As := [.ref (ad a1), .int x2, .int (M3 ((a1 + 2 + 3 * ix (x2)) + 1) (ix r3))]) (st := []) F (tX5_swap F.2.2.2.2.2.2.1 hx _ _ _ h1 _ _ _ hq6) (ob_6 hx) rfl kc_X5_swap kz_X5 ki_X5_swap ks_X5_swap km_X5_55 ⟨kn_X5_swap, rfl, rfl, Nat.le_of_ble_eq_true rfl, Nat.le_of_ble_eq_true rfl⟩ rfl (Nat.le_of_ble_eq_true rfl) dX5_roundOf_72 ?_
          refine ax_iload F dX5_roundOf_75 rfl ?_
          obtain ⟨h1, h2⟩ := rt_some0 h
          subst h1; subst h2
          exact ax_iret F dX5_roundOf_77
      · have h := it_neg0 h hc
        refine ax_iconst (v := (-1 : Int32)) F dX5_roundOf_41 (by decide) ?_
        obtain ⟨h1, h2⟩ := rt_some0 h
        subst h1; subst h2
        exact ax_iret F dX5_roundOf_42
  · have h := it_pos0 h hc
    refine ax_iconst (v := (-1 : Int32)) F dX5_roundOf_8 (by decide) ?_
    obtain ⟨h1, h2⟩ := rt_some0 h
    subst h1; subst h2
    exact ax_iret F dX5_roundOf_9
def rmX5_cyclesOf : Room := { frames := 5, cells := 0, slots := 0, locals := 117 }
theorem kn_X5_cyclesOf : yX5_cyclesOf.cls ≠ "java/lang/invoke/MethodHandle" ∧ yX5_cyclesOf.cls ≠ "java/lang/invoke/VarHandle" ∧ (parseMethodDescriptor yX5_cyclesOf.desc).map (fun d => d.parameters.length) = some 2 := by decide +kernel
noncomputable def bX5_cyclesOf_0 (a1 : Nat) (x2 : Int32) (M : Mm) : Option (Sst ⊕ Rst) := some (.inl (1, [a1], [x2, (0 : Int32)], M))
noncomputable def bX5_cyclesOf_1 (a1 : Nat) (x2 : Int32) (x3 : Int32) (M : Mm) : Option (Sst ⊕ Rst) := if x2 ≤ x3 then (some (.inr ((0 : Int32), M))) else (some (.inl (2, [a1], [x2, x3, (0 : Int32)], M)))
noncomputable def bX5_cyclesOf_2 (a1 : Nat) (x2 : Int32) (x3 : Int32) (x4 : Int32) (M : Mm) : Option (Sst ⊕ Rst) := if (8 : Int32) ≤ x4 then (some (.inl (1, [a1], [x2, (x3 + (1 : Int32))], M))) else (cl (fX1_isAlive a1 x4 M) (fun r1 M1 => if r1 = 0 then (some (.inl (2, [a1], [x2, x3, (x4 + (1 : Int32))], M1))) else (cl (fX5_roundOf a1 x4 M1) (fun r2 M2 => some (.inl (2, [a1], [x2, x3, (x4 + (1 : Int32))], M2))))))
noncomputable def stX5_cyclesOf : Sst → Option (Sst ⊕ Rst) := fun q => match q.1 with
  | 0 => bX5_cyclesOf_0 (q.2.1.getD 0 0) (q.2.2.1.getD 0 0) q.2.2.2
  | 1 => bX5_cyclesOf_1 (q.2.1.getD 0 0) (q.2.2.1.getD 0 0) (q.2.2.1.getD 1 0) q.2.2.2
  | 2 => bX5_cyclesOf_2 (q.2.1.getD 0 0) (q.2.2.1.getD 0 0) (q.2.2.1.getD 1 0) (q.2.2.1.getD 2 0) q.2.2.2
  | _ => none
noncomputable def fX5_cyclesOf (a1 : Nat) (x2 : Int32) (M : Mm) : Option Rst := run stX5_cyclesOf (0, [a1], [x2], M)
def PX5_cyclesOf (p : Program) (l : Launch) (e : Env) (s : State) (m : MethodId) (args : Array Value) (below : List Frame) (meth : Method) (c : Code) (G : va_G) (L : List Nat) (ad : Nat → Nat) (cs : Nat → ClassId) (zk : Nat → Nat) (r : Int32) (M' : Mm) (n : Nat) : Prop := (∀ (a1 : Nat) (x2 : Int32) (M : Mm), itr stX5_cyclesOf n (0, [a1], [x2], M) = some (r, M') → isN L a1 → AW p l e rmX5_cyclesOf s m args below meth c (MQ below (AQv G L ad cs M') args s 0 0 (inA L ad)) G L ad cs 5 0 [some (.ref (ad 6)), some (.ref (ad a1)), some (.int x2), none, none] [] M) ∧ (∀ (a1 : Nat) (x2 : Int32) (x3 : Int32) (M : Mm), itr stX5_cyclesOf n (1, [a1], [x2, x3], M) = some (r, M') → isN L a1 → AW p l e rmX5_cyclesOf s m args below meth c (MQ below (AQv G L ad cs M') args s 0 0 (inA L ad)) G L ad cs 5 2 [some (.ref (ad 6)), some (.ref (ad a1)), some (.int x2), some (.int x3), none] [] M) ∧ (∀ (a1 : Nat) (x2 : Int32) (x3 : Int32) (x4 : Int32) (M : Mm), itr stX5_cyclesOf n (2, [a1], [x2, x3, x4], M) = some (r, M') → isN L a1 → AW p l e rmX5_cyclesOf s m args below meth c (MQ below (AQv G L ad cs M') args s 0 0 (inA L ad)) G L ad cs 5 10 [some (.ref (ad 6)), some (.ref (ad a1)), some (.int x2), some (.int x3), some (.int x4)] [] M)
set_option maxRecDepth 100000 in
set_option maxHeartbeats 4000000 in
theorem wX5_cyclesOf_0 {p : Program} {l : Launch} {e : Env} {s : State} {m : MethodId} {args : Array Value} {below : List Frame} {meth : Method} {c : Code} {G : va_G} {L : List Nat} {ad : Nat → Nat} {cs : Nat → ClassId} {z : Bool} {zk zv : Nat → Nat} {r : Int32} {M' : Mm} {n : Nat} (F : Fx G L ad cs z zk zv p m meth c cX5_cyclesOf 5 none s args RX5) (hx : isX L) (IH : PX5_cyclesOf p l e s m args below meth c G L ad cs zk r M' n) (a1 : Nat) (x2 : Int32) (M : Mm) (h : (bX5_cyclesOf_0 a1 x2 M).bind (fun q => match q with | .inl s' => itr stX5_cyclesOf n s' | .inr r => some r) = some (r, M')) (h1 : isN L a1) : AW p l e rmX5_cyclesOf s m args below meth c (MQ below (AQv G L ad cs M') args s 0 0 (inA L ad)) G L ad cs 5 0 [some (.ref (ad 6)), some (.ref (ad a1)), some (.int x2), none, none] [] M := by
  unfold bX5_cyclesOf_0 at h
  refine ax_iconst (v := (0 : Int32)) F dX5_cyclesOf_0 (by decide) ?_
  refine ax_istore_n F dX5_cyclesOf_1 (by decide) rfl ?_
  exact IH.2.1 _ _ _ _ h h1
set_option maxRecDepth 100000 in
set_option maxHeartbeats 4000000 in
theorem wX5_cyclesOf_1 {p : Program} {l : Launch} {e : Env} {s : State} {m : MethodId} {args : Array Value} {below : List Frame} {meth : Method} {c : Code} {G : va_G} {L : List Nat} {ad : Nat → Nat} {cs : Nat → ClassId} {z : Bool} {zk zv : Nat → Nat} {r : Int32} {M' : Mm} {n : Nat} (F : Fx G L ad cs z zk zv p m meth c cX5_cyclesOf 5 none s args RX5) (hx : isX L) (IH : PX5_cyclesOf p l e s m args below meth c G L ad cs zk r M' n) (a1 : Nat) (x2 : Int32) (x3 : Int32) (M : Mm) (h : (bX5_cyclesOf_1 a1 x2 x3 M).bind (fun q => match q with | .inl s' => itr stX5_cyclesOf n s' | .inr r => some r) = some (r, M')) (h1 : isN L a1) : AW p l e rmX5_cyclesOf s m args below meth c (MQ below (AQv G L ad cs M') args s 0 0 (inA L ad)) G L ad cs 5 2 [some (.ref (ad 6)), some (.ref (ad a1)), some (.int x2), some (.int x3), none] [] M := by
  unfold bX5_cyclesOf_1 at h
  refine ax_iload_n F dX5_cyclesOf_2 rfl ?_
  refine ax_iload_n F dX5_cyclesOf_3 rfl ?_
  refine ax_icmp_ge (t := 46) F dX5_cyclesOf_4 (by decide) (fun hc => ?_) (fun hc => ?_)
  · have h := it_pos h hc
    obtain ⟨h1, h2⟩ := rt_some h
    subst h2
    exact ax_vret F dX5_cyclesOf_46
  · have h := it_neg h hc
    refine ax_iconst (v := (0 : Int32)) F dX5_cyclesOf_7 (by decide) ?_
    refine ax_istore F dX5_cyclesOf_8 (by decide) rfl ?_
    exact IH.2.2 _ _ _ _ _ h h1
set_option maxRecDepth 100000 in
set_option maxHeartbeats 4000000 in
theorem wX5_cyclesOf_2 {p : Program} {l : Launch} {e : Env} {s : State} {m : MethodId} {args : Array Value} {below : List Frame} {meth : Method} {c : Code} {G : va_G} {L : List Nat} {ad : Nat → Nat} {cs : Nat → ClassId} {z : Bool} {zk zv : Nat → Nat} {r : Int32} {M' : Mm} {n : Nat} (F : Fx G L ad cs z zk zv p m meth c cX5_cyclesOf 5 none s args RX5) (hx : isX L) (IH : PX5_cyclesOf p l e s m args below meth c G L ad cs zk r M' n) (a1 : Nat) (x2 : Int32) (x3 : Int32) (x4 : Int32) (M : Mm) (h : (bX5_cyclesOf_2 a1 x2 x3 x4 M).bind (fun q => match q with | .inl s' => itr stX5_cyclesOf n s' | .inr r => some r) = some (r, M')) (h1 : isN L a1) : AW p l e rmX5_cyclesOf s m args below meth c (MQ below (AQv G L ad cs M') args s 0 0 (inA L ad)) G L ad cs 5 10 [some (.ref (ad 6)), some (.ref (ad a1)), some (.int x2), some (.int x3), some (.int x4)] [] M := by
  unfold bX5_cyclesOf_2 at h
  refine ax_iload F dX5_cyclesOf_10 rfl ?_
  refine ax_bipush (v := (8 : Int32)) F dX5_cyclesOf_12 (by decide) ?_
  refine ax_icmp_ge (t := 40) F dX5_cyclesOf_14 (by decide) (fun hc => ?_) (fun hc => ?_)
  · have h := it_pos h hc
    refine ax_iinc (v := (1 : Int32)) F dX5_cyclesOf_40 rfl (by decide) (by decide) rfl ?_
    refine ax_goto (t := 2) F dX5_cyclesOf_43 (by decide) ?_
    refine ax_mask [true, true, true, true, false] ?_
    exact IH.2.1 _ _ _ _ h h1
  · have h := it_neg h hc
    refine ax_aload_n F dX5_cyclesOf_17 rfl ?_
    refine ax_iload F dX5_cyclesOf_18 rfl ?_
    obtain ⟨r1, M1, hq1, h⟩ := cq_some h
    refine ax_callVi (As := [.int x4]) (st := []) F (tX1_isAlive F.2.2.2.2.2.2.1 _ _ h1 _ _ _ hq1) (ob_N h1) rfl kc_X1_isAlive kz_X1 ki_X1_isAlive ks_X1_isAlive km_X5_52 ⟨kn_X1_isAlive, rfl, rfl, Nat.le_of_ble_eq_true rfl, Nat.le_of_ble_eq_true rfl⟩ rfl (Nat.le_of_ble_eq_true rfl) dX5_cyclesOf_20 ?_
    refine ax_if_eq (t := 34) F dX5_cyclesOf_23 (by decide) (fun hc => ?_) (fun hc => ?_)
    · have h := it_pos h hc
      refine ax_iinc (v := (1 : Int32)) F dX5_cyclesOf_34 rfl (by decide) (by decide) rfl ?_
      refine ax_goto (t := 10) F dX5_cyclesOf_37 (by decide) ?_
      exact IH.2.2 _ _ _ _ _ h h1
    · have h := it_neg h hc
      refine ax_aload_n F dX5_cyclesOf_26 rfl ?_
      refine ax_aload_n F dX5_cyclesOf_27 rfl ?_
      refine ax_iload F dX5_cyclesOf_28 rfl ?_
      obtain ⟨r2, M2, hq2, h⟩ := cq_some h
      refine ax_callVi (As := [.ref (ad a1), .int x4]) (st := []) F (tX5_roundOf F.2.2.2.2.2.2.1 hx _ _ h1 _ _ _ hq2) (ob_6 hx) rfl kc_X5_roundOf kz_X5 ki_X5_roundOf ks_X5_roundOf km_X5_59 ⟨kn_X5_roundOf, rfl, rfl, Nat.le_of_ble_eq_true rfl, Nat.le_of_ble_eq_true rfl⟩ rfl (Nat.le_of_ble_eq_true rfl) dX5_cyclesOf_30 ?_
      refine ax_pop F dX5_cyclesOf_33 rfl ?_
      refine ax_iinc (v := (1 : Int32)) F dX5_cyclesOf_34 rfl (by decide) (by decide) rfl ?_
      refine ax_goto (t := 10) F dX5_cyclesOf_37 (by decide) ?_
      exact IH.2.2 _ _ _ _ _ h h1
set_option maxRecDepth 100000 in
set_option maxHeartbeats 4000000 in
theorem wX5_cyclesOf {p : Program} {l : Launch} {e : Env} {s : State} {m : MethodId} {args : Array Value} {below : List Frame} {meth : Method} {c : Code} {G : va_G} {L : List Nat} {ad : Nat → Nat} {cs : Nat → ClassId} {z : Bool} {zk zv : Nat → Nat} {r : Int32} {M' : Mm} (F : Fx G L ad cs z zk zv p m meth c cX5_cyclesOf 5 none s args RX5) (hx : isX L) (n : Nat) : PX5_cyclesOf p l e s m args below meth c G L ad cs zk r M' n := by
  induction n with
  | zero => exact ⟨(fun a1 x2 M h => by cases h), (fun a1 x2 x3 M h => by cases h), (fun a1 x2 x3 x4 M h => by cases h)⟩
  | succ n ih =>
    exact ⟨fun a1 x2 M h h1 => wX5_cyclesOf_0 F hx ih a1 x2 M h h1,
      fun a1 x2 x3 M h h1 => wX5_cyclesOf_1 F hx ih a1 x2 x3 M h h1,
      fun a1 x2 x3 x4 M h h1 => wX5_cyclesOf_2 F hx ih a1 x2 x3 x4 M h h1⟩
set_option maxRecDepth 100000 in
set_option maxHeartbeats 4000000 in
theorem tX5_cyclesOf {l : Launch} {G : va_G} {L : List Nat} {ad : Nat → Nat} {cs : Nat → ClassId} {z : Bool} {zk zv : Nat → Nat} (hinj : inj L ad) (hx : isX L) (a1 : Nat) (x2 : Int32) (h1 : isN L a1) (M : Mm) (r : Int32) (M' : Mm) (h : fX5_cyclesOf a1 x2 M = some (r, M')) : Met l yX5_cyclesOf (tgW yX5_cyclesOf cX5_cyclesOf 5 none) rmX5_cyclesOf (APre G L ad cs z zk zv [.ref (ad 6), .ref (ad a1), .int x2] M) (AQv G L ad cs M') 0 0 (inA L ad) := by
  refine met_of (Eq.refl true) (Nat.le_of_ble_eq_true rfl) hinj [some (.ref (ad 6)), some (.ref (ad a1)), some (.int x2), none, none] rfl ?_
  intro p e s m below meth c F
  replace F : Fx G L ad cs z zk zv p m meth c cX5_cyclesOf 5 none s _ RX5 := F
  obtain ⟨n, hn⟩ := run_ex h
  exact (wX5_cyclesOf F hx n).1 a1 x2 M hn h1
noncomputable def fX6_append (x1 : Int32) (M : Mm) : Option Rst := if (M 1 1) < 0 then (some ((0 : Int32), M)) else (if (200 : Int32) ≤ (M 1 1) then (some ((0 : Int32), M)) else (gd (okI (M 1 1) 200) (some ((0 : Int32), (up2 (up2 M 2 (ix (M 1 1)) x1) 1 1 (((up2 M 2 (ix (M 1 1)) x1) 1 1) + (1 : Int32)))))))
def rmX6_append : Room := { frames := 0, cells := 0, slots := 0, locals := 0 }
theorem kn_X6_append : yX6_append.cls ≠ "java/lang/invoke/MethodHandle" ∧ yX6_append.cls ≠ "java/lang/invoke/VarHandle" ∧ (parseMethodDescriptor yX6_append.desc).map (fun d => d.parameters.length) = some 1 := by decide +kernel
set_option maxRecDepth 100000 in
set_option maxHeartbeats 4000000 in
theorem tX6_append {l : Launch} {G : va_G} {L : List Nat} {ad : Nat → Nat} {cs : Nat → ClassId} {z : Bool} {zk zv : Nat → Nat} (hinj : inj L ad) (hx : isX L) (x1 : Int32)  (M : Mm) (r : Int32) (M' : Mm) (h : fX6_append x1 M = some (r, M')) : Met l yX6_append (tgW yX6_append cX6_append 2 none) rmX6_append (APre G L ad cs z zk zv [.ref (ad 1), .int x1] M) (AQv G L ad cs M') 0 0 (inA L ad) := by
  refine met_of (Eq.refl true) (Nat.le_of_ble_eq_true rfl) hinj [some (.ref (ad 1)), some (.int x1)] rfl ?_
  intro p e s m below meth c F
  replace F : Fx G L ad cs z zk zv p m meth c cX6_append 2 none s _ RX6 := F
  unfold fX6_append at h
  refine ax_aload_n F dX6_append_0 rfl ?_
  refine ax_get (v := .int (M 1 1)) F (ob_1 hx) rfl inGX6 1 (by decide) rfl kf_X6_15 rfl dX6_append_1 ?_
  refine ax_if_lt (t := 37) F dX6_append_4 (by decide) (fun hc => ?_) (fun hc => ?_)
  · have h := it_pos0 h hc
    obtain ⟨h1, h2⟩ := rt_some0 h
    subst h2
    exact ax_vret F dX6_append_37
  · have h := it_neg0 h hc
    refine ax_aload_n F dX6_append_7 rfl ?_
    refine ax_get (v := .int (M 1 1)) F (ob_1 hx) rfl inGX6 1 (by decide) rfl kf_X6_15 rfl dX6_append_8 ?_
    refine ax_sipush (v := (200 : Int32)) F dX6_append_11 (by decide) ?_
    refine ax_icmp_ge (t := 37) F dX6_append_14 (by decide) (fun hc => ?_) (fun hc => ?_)
    · have h := it_pos0 h hc
      obtain ⟨h1, h2⟩ := rt_some0 h
      subst h2
      exact ax_vret F dX6_append_37
    · have h := it_neg0 h hc
      refine ax_aload_n F dX6_append_17 rfl ?_
      refine ax_get (v := .ref (ad 2)) F (ob_1 hx) rfl inGX6 0 (by decide) rfl kf_X6_9 rfl dX6_append_18 ?_
      refine ax_aload_n F dX6_append_21 rfl ?_
      refine ax_get (v := .int (M 1 1)) F (ob_1 hx) rfl inGX6 1 (by decide) rfl kf_X6_15 rfl dX6_append_22 ?_
      refine ax_iload_n F dX6_append_25 rfl ?_
      obtain ⟨hg, h⟩ := gd_some0 h
      refine ax_iast F (ar_2 hx) hg dX6_append_26 ?_
      refine ax_aload_n F dX6_append_27 rfl ?_
      refine ax_dup F dX6_append_28 rfl ?_
      refine ax_get (v := .int ((up2 M 2 (ix (M 1 1)) x1) 1 1)) F (ob_1 hx) rfl inGX6 1 (by decide) rfl kf_X6_15 rfl dX6_append_29 ?_
      refine ax_iconst (v := (1 : Int32)) F dX6_append_32 (by decide) ?_
      refine ax_iadd F dX6_append_33 ?_
      refine ax_put (ty := .int) F (ob_1 hx) rfl inGX6 tyX6 tyX6_ok nmX6 1 (by decide) rfl kf_X6_15 (by decide) rfl rfl (Nat.le_of_ble_eq_true rfl) rfl dX6_append_34 ?_
      obtain ⟨h1, h2⟩ := rt_some0 h
      subst h2
      exact ax_vret F dX6_append_37
noncomputable def fX6_clear  (M : Mm) : Option Rst := some ((0 : Int32), (up2 M 1 1 (0 : Int32)))
def rmX6_clear : Room := { frames := 0, cells := 0, slots := 0, locals := 0 }
theorem kn_X6_clear : yX6_clear.cls ≠ "java/lang/invoke/MethodHandle" ∧ yX6_clear.cls ≠ "java/lang/invoke/VarHandle" ∧ (parseMethodDescriptor yX6_clear.desc).map (fun d => d.parameters.length) = some 0 := by decide +kernel
set_option maxRecDepth 100000 in
set_option maxHeartbeats 4000000 in
theorem tX6_clear {l : Launch} {G : va_G} {L : List Nat} {ad : Nat → Nat} {cs : Nat → ClassId} {z : Bool} {zk zv : Nat → Nat} (hinj : inj L ad) (hx : isX L)   (M : Mm) (r : Int32) (M' : Mm) (h : fX6_clear  M = some (r, M')) : Met l yX6_clear (tgW yX6_clear cX6_clear 1 none) rmX6_clear (APre G L ad cs z zk zv [.ref (ad 1)] M) (AQv G L ad cs M') 0 0 (inA L ad) := by
  refine met_of (Eq.refl true) (Nat.le_of_ble_eq_true rfl) hinj [some (.ref (ad 1))] rfl ?_
  intro p e s m below meth c F
  replace F : Fx G L ad cs z zk zv p m meth c cX6_clear 1 none s _ RX6 := F
  unfold fX6_clear at h
  refine ax_aload_n F dX6_clear_0 rfl ?_
  refine ax_iconst (v := (0 : Int32)) F dX6_clear_1 (by decide) ?_
  refine ax_put (ty := .int) F (ob_1 hx) rfl inGX6 tyX6 tyX6_ok nmX6 1 (by decide) rfl kf_X6_15 (by decide) rfl rfl (Nat.le_of_ble_eq_true rfl) rfl dX6_clear_2 ?_
  obtain ⟨h1, h2⟩ := rt_some0 h
  subst h2
  exact ax_vret F dX6_clear_5
noncomputable def fX8_write (x1 : Int32) (M : Mm) : Option Rst := if x1 < 0 then (some ((-3 : Int32), M)) else (if x1 ≤ (255 : Int32) then (if (M 1 1) < (200 : Int32) then (cl (fX6_append x1 M) (fun r1 M1 => some ((M1 1 1), M1))) else (some ((-5 : Int32), M))) else (some ((-3 : Int32), M)))
def rmX8_write : Room := { frames := 1, cells := 0, slots := 0, locals := 21 }
theorem kn_X8_write : yX8_write.cls ≠ "java/lang/invoke/MethodHandle" ∧ yX8_write.cls ≠ "java/lang/invoke/VarHandle" ∧ (parseMethodDescriptor yX8_write.desc).map (fun d => d.parameters.length) = some 1 := by decide +kernel
set_option maxRecDepth 100000 in
set_option maxHeartbeats 4000000 in
theorem tX8_write {l : Launch} {G : va_G} {L : List Nat} {ad : Nat → Nat} {cs : Nat → ClassId} {z : Bool} {zk zv : Nat → Nat} (hinj : inj L ad) (hx : isX L) (x1 : Int32)  (M : Mm) (r : Int32) (M' : Mm) (h : fX8_write x1 M = some (r, M')) : Met l yX8_write (tgW yX8_write cX8_write 2 (some .int)) rmX8_write (APre G L ad cs z zk zv [.ref (ad 0), .int x1] M) (AQi G L ad cs r M') 0 0 (inA L ad) := by
  refine met_of (Eq.refl true) (Nat.le_of_ble_eq_true rfl) hinj [some (.ref (ad 0)), some (.int x1)] rfl ?_
  intro p e s m below meth c F
  replace F : Fx G L ad cs z zk zv p m meth c cX8_write 2 (some .int) s _ RX8 := F
  unfold fX8_write at h
  refine ax_iload_n F dX8_write_0 rfl ?_
  refine ax_if_lt (t := 11) F dX8_write_1 (by decide) (fun hc => ?_) (fun hc => ?_)
  · have h := it_pos0 h hc
    refine ax_bipush (v := (-3 : Int32)) F dX8_write_11 (by decide) ?_
    obtain ⟨h1, h2⟩ := rt_some0 h
    subst h1; subst h2
    exact ax_iret F dX8_write_13
  · have h := it_neg0 h hc
    refine ax_iload_n F dX8_write_4 rfl ?_
    refine ax_sipush (v := (255 : Int32)) F dX8_write_5 (by decide) ?_
    refine ax_icmp_le (t := 14) F dX8_write_8 (by decide) (fun hc => ?_) (fun hc => ?_)
    · have h := it_pos0 h hc
      refine ax_aload_n F dX8_write_14 rfl ?_
      refine ax_get (v := .ref (ad 1)) F (ob_0 hx) rfl inGX8 0 (by decide) rfl kf_X8_10 rfl dX8_write_15 ?_
      refine ax_get (v := .int (M 1 1)) F (ob_1 hx) rfl inGX6 1 (by decide) rfl kf_X8_62 rfl dX8_write_18 ?_
      refine ax_sipush (v := (200 : Int32)) F dX8_write_21 (by decide) ?_
      refine ax_icmp_lt (t := 30) F dX8_write_24 (by decide) (fun hc => ?_) (fun hc => ?_)
      · have h := it_pos0 h hc
        refine ax_aload_n F dX8_write_30 rfl ?_
        refine ax_get (v := .ref (ad 1)) F (ob_0 hx) rfl inGX8 0 (by decide) rfl kf_X8_10 rfl dX8_write_31 ?_
        refine ax_iload_n F dX8_write_34 rfl ?_
        obtain ⟨r1, M1, hq1, h⟩ := cq_some0 h
        refine ax_callVv (As := [.int x1]) (st := []) F (tX6_append F.2.2.2.2.2.2.1 hx _  _ _ _ hq1) (ob_1 hx) rfl kc_X6_append kz_X6 ki_X6_append ks_X6_append km_X8_66 ⟨kn_X6_append, rfl, rfl, Nat.le_of_ble_eq_true rfl, Nat.le_of_ble_eq_true rfl⟩ rfl (Nat.le_of_ble_eq_true rfl) dX8_write_35 ?_
        refine ax_aload_n F dX8_write_38 rfl ?_
        refine ax_get (v := .ref (ad 1)) F (ob_0 hx) rfl inGX8 0 (by decide) rfl kf_X8_10 rfl dX8_write_39 ?_
        refine ax_get (v := .int (M1 1 1)) F (ob_1 hx) rfl inGX6 1 (by decide) rfl kf_X8_62 rfl dX8_write_42 ?_
        obtain ⟨h1, h2⟩ := rt_some0 h
        subst h1; subst h2
        exact ax_iret F dX8_write_45
      · have h := it_neg0 h hc
        refine ax_bipush (v := (-5 : Int32)) F dX8_write_27 (by decide) ?_
        obtain ⟨h1, h2⟩ := rt_some0 h
        subst h1; subst h2
        exact ax_iret F dX8_write_29
    · have h := it_neg0 h hc
      refine ax_bipush (v := (-3 : Int32)) F dX8_write_11 (by decide) ?_
      obtain ⟨h1, h2⟩ := rt_some0 h
      subst h1; subst h2
      exact ax_iret F dX8_write_13
noncomputable def fX8_erase  (M : Mm) : Option Rst := cl (fX6_clear M) (fun r1 M1 => some ((M 1 1), M1))
def rmX8_erase : Room := { frames := 1, cells := 0, slots := 0, locals := 20 }
theorem kn_X8_erase : yX8_erase.cls ≠ "java/lang/invoke/MethodHandle" ∧ yX8_erase.cls ≠ "java/lang/invoke/VarHandle" ∧ (parseMethodDescriptor yX8_erase.desc).map (fun d => d.parameters.length) = some 0 := by decide +kernel
set_option maxRecDepth 100000 in
set_option maxHeartbeats 4000000 in
theorem tX8_erase {l : Launch} {G : va_G} {L : List Nat} {ad : Nat → Nat} {cs : Nat → ClassId} {z : Bool} {zk zv : Nat → Nat} (hinj : inj L ad) (hx : isX L)   (M : Mm) (r : Int32) (M' : Mm) (h : fX8_erase  M = some (r, M')) : Met l yX8_erase (tgW yX8_erase cX8_erase 2 (some .int)) rmX8_erase (APre G L ad cs z zk zv [.ref (ad 0)] M) (AQi G L ad cs r M') 0 0 (inA L ad) := by
  refine met_of (Eq.refl true) (Nat.le_of_ble_eq_true rfl) hinj [some (.ref (ad 0)), none] rfl ?_
  intro p e s m below meth c F
  replace F : Fx G L ad cs z zk zv p m meth c cX8_erase 2 (some .int) s _ RX8 := F
  unfold fX8_erase at h
  refine ax_aload_n F dX8_erase_0 rfl ?_
  refine ax_get (v := .ref (ad 1)) F (ob_0 hx) rfl inGX8 0 (by decide) rfl kf_X8_10 rfl dX8_erase_1 ?_
  refine ax_get (v := .int (M 1 1)) F (ob_1 hx) rfl inGX6 1 (by decide) rfl kf_X8_62 rfl dX8_erase_4 ?_
  refine ax_istore_n F dX8_erase_7 (by decide) rfl ?_
  refine ax_aload_n F dX8_erase_8 rfl ?_
  refine ax_get (v := .ref (ad 1)) F (ob_0 hx) rfl inGX8 0 (by decide) rfl kf_X8_10 rfl dX8_erase_9 ?_
  obtain ⟨r1, M1, hq1, h⟩ := cq_some0 h
  refine ax_callVv (As := []) (st := []) F (tX6_clear F.2.2.2.2.2.2.1 hx   _ _ _ hq1) (ob_1 hx) rfl kc_X6_clear kz_X6 ki_X6_clear ks_X6_clear km_X8_70 ⟨kn_X6_clear, rfl, rfl, Nat.le_of_ble_eq_true rfl, Nat.le_of_ble_eq_true rfl⟩ rfl (Nat.le_of_ble_eq_true rfl) dX8_erase_12 ?_
  refine ax_iload_n F dX8_erase_15 rfl ?_
  obtain ⟨h1, h2⟩ := rt_some0 h
  subst h1; subst h2
  exact ax_iret F dX8_erase_16
noncomputable def fX8_fault  (M : Mm) : Option Rst := cl (fX0_read (M 26 1) M) (fun r1 M1 => some (r1, M1))
def rmX8_fault : Room := { frames := 8, cells := 0, slots := 0, locals := 220 }
theorem kn_X8_fault : yX8_fault.cls ≠ "java/lang/invoke/MethodHandle" ∧ yX8_fault.cls ≠ "java/lang/invoke/VarHandle" ∧ (parseMethodDescriptor yX8_fault.desc).map (fun d => d.parameters.length) = some 0 := by decide +kernel
set_option maxRecDepth 100000 in
set_option maxHeartbeats 4000000 in
theorem tX8_fault {l : Launch} {G : va_G} {L : List Nat} {ad : Nat → Nat} {cs : Nat → ClassId} {z : Bool} {zk zv : Nat → Nat} (hinj : inj L ad) (hx : isX L) (hz0 : z = true)   (M : Mm) (r : Int32) (M' : Mm) (h : fX8_fault  M = some (r, M')) : Met l yX8_fault (tgW yX8_fault cX8_fault 1 (some .int)) rmX8_fault (APre G L ad cs z zk zv [.ref (ad 0)] M) (AQi G L ad cs r M') 0 0 (inA L ad) := by
  refine met_of (Eq.refl true) (Nat.le_of_ble_eq_true rfl) hinj [some (.ref (ad 0))] rfl ?_
  intro p e s m below meth c F
  replace F : Fx G L ad cs z zk zv p m meth c cX8_fault 1 (some .int) s _ RX8 := F
  unfold fX8_fault at h
  refine ax_aload_n F dX8_fault_0 rfl ?_
  refine ax_get (v := .ref (ad 3)) F (ob_0 hx) rfl inGX8 1 (by decide) rfl kf_X8_19 rfl dX8_fault_1 ?_
  refine ax_aload_n F dX8_fault_4 rfl ?_
  refine ax_get (v := .ref (ad 1)) F (ob_0 hx) rfl inGX8 0 (by decide) rfl kf_X8_10 rfl dX8_fault_5 ?_
  refine ax_aload_n F dX8_fault_8 rfl ?_
  refine ax_get (v := .ref (ad 26)) F (ob_0 hx) rfl inGX8 2 (by decide) rfl kf_X8_26 rfl dX8_fault_9 ?_
  refine ax_get (v := .int (M 26 1)) F (ob_N (isN_26 hx)) rfl inGX1 1 (by decide) rfl kf_X8_73 rfl dX8_fault_12 ?_
  obtain ⟨r1, M1, hq1, h⟩ := cq_some0 h
  refine ax_callVi (As := [.ref (ad 1), .int (M 26 1)]) (st := []) F (tX0_read F.2.2.2.2.2.2.1 hx hz0 _  _ _ _ hq1) (ob_3 hx) rfl kc_X0_read kz_X0 ki_X0_read ks_X0_read km_X8_76 ⟨kn_X0_read, rfl, rfl, Nat.le_of_ble_eq_true rfl, Nat.le_of_ble_eq_true rfl⟩ rfl (Nat.le_of_ble_eq_true rfl) dX8_fault_15 ?_
  obtain ⟨h1, h2⟩ := rt_some0 h
  subst h1; subst h2
  exact ax_iret F dX8_fault_18
def rmX8_net : Room := { frames := 8, cells := 0, slots := 0, locals := 220 }
theorem kn_X8_net : yX8_net.cls ≠ "java/lang/invoke/MethodHandle" ∧ yX8_net.cls ≠ "java/lang/invoke/VarHandle" ∧ (parseMethodDescriptor yX8_net.desc).map (fun d => d.parameters.length) = some 0 := by decide +kernel
noncomputable def bX8_net_0  (M : Mm) : Option (Sst ⊕ Rst) := cl (fX0_read (M 26 1) M) (fun r1 M1 => if r1 = (-1 : Int32) then (cl (fX0_doAll 26 M1) (fun r2 M2 => cl (fX6_clear M2) (fun r3 M3 => cl (fX2_clear M3) (fun r4 M4 => some (.inl (1, [], [(0 : Int32)], M4)))))) else (some (.inr ((-4 : Int32), M1))))
noncomputable def bX8_net_1 (x1 : Int32) (M : Mm) : Option (Sst ⊕ Rst) := if (2 : Int32) ≤ x1 then (some (.inl (2, [], [(0 : Int32)], M))) else (gd (okI x1 2) (some (.inl (1, [], [(x1 + (1 : Int32))], (up2 M 18 (ix x1) (0 : Int32))))))
noncomputable def bX8_net_2 (x1 : Int32) (M : Mm) : Option (Sst ⊕ Rst) := if (3 : Int32) ≤ x1 then (some (.inr ((M 3 2), M))) else (gd (okI x1 3) (cl (fX3_lose (20 + 2 * ix (x1)) M) (fun r1 M1 => some (.inl (2, [], [(x1 + (1 : Int32))], M1)))))
noncomputable def stX8_net : Sst → Option (Sst ⊕ Rst) := fun q => match q.1 with
  | 0 => bX8_net_0  q.2.2.2
  | 1 => bX8_net_1 (q.2.2.1.getD 0 0) q.2.2.2
  | 2 => bX8_net_2 (q.2.2.1.getD 0 0) q.2.2.2
  | _ => none
noncomputable def fX8_net  (M : Mm) : Option Rst := run stX8_net (0, [], [], M)
def PX8_net (p : Program) (l : Launch) (e : Env) (s : State) (m : MethodId) (args : Array Value) (below : List Frame) (meth : Method) (c : Code) (G : va_G) (L : List Nat) (ad : Nat → Nat) (cs : Nat → ClassId) (zk : Nat → Nat) (r : Int32) (M' : Mm) (n : Nat) : Prop := (∀  (M : Mm), itr stX8_net n (0, [], [], M) = some (r, M') → AW p l e rmX8_net s m args below meth c (MQ below (AQi G L ad cs r M') args s 0 0 (inA L ad)) G L ad cs 2 0 [some (.ref (ad 0)), none] [] M) ∧ (∀ (x1 : Int32) (M : Mm), itr stX8_net n (1, [], [x1], M) = some (r, M') → AW p l e rmX8_net s m args below meth c (MQ below (AQi G L ad cs r M') args s 0 0 (inA L ad)) G L ad cs 2 52 [some (.ref (ad 0)), some (.int x1)] [] M) ∧ (∀ (x1 : Int32) (M : Mm), itr stX8_net n (2, [], [x1], M) = some (r, M') → AW p l e rmX8_net s m args below meth c (MQ below (AQi G L ad cs r M') args s 0 0 (inA L ad)) G L ad cs 2 72 [some (.ref (ad 0)), some (.int x1)] [] M)
set_option maxRecDepth 100000 in
set_option maxHeartbeats 4000000 in
theorem wX8_net_0 {p : Program} {l : Launch} {e : Env} {s : State} {m : MethodId} {args : Array Value} {below : List Frame} {meth : Method} {c : Code} {G : va_G} {L : List Nat} {ad : Nat → Nat} {cs : Nat → ClassId} {z : Bool} {zk zv : Nat → Nat} {r : Int32} {M' : Mm} {n : Nat} (F : Fx G L ad cs z zk zv p m meth c cX8_net 2 (some .int) s args RX8) (hx : isX L) (hz0 : z = true) (IH : PX8_net p l e s m args below meth c G L ad cs zk r M' n)  (M : Mm) (h : (bX8_net_0  M).bind (fun q => match q with | .inl s' => itr stX8_net n s' | .inr r => some r) = some (r, M'))  : AW p l e rmX8_net s m args below meth c (MQ below (AQi G L ad cs r M') args s 0 0 (inA L ad)) G L ad cs 2 0 [some (.ref (ad 0)), none] [] M := by
  unfold bX8_net_0 at h
  refine ax_aload_n F dX8_net_0 rfl ?_
  refine ax_get (v := .ref (ad 3)) F (ob_0 hx) rfl inGX8 1 (by decide) rfl kf_X8_19 rfl dX8_net_1 ?_
  refine ax_aload_n F dX8_net_4 rfl ?_
  refine ax_get (v := .ref (ad 1)) F (ob_0 hx) rfl inGX8 0 (by decide) rfl kf_X8_10 rfl dX8_net_5 ?_
  refine ax_aload_n F dX8_net_8 rfl ?_
  refine ax_get (v := .ref (ad 26)) F (ob_0 hx) rfl inGX8 2 (by decide) rfl kf_X8_26 rfl dX8_net_9 ?_
  refine ax_get (v := .int (M 26 1)) F (ob_N (isN_26 hx)) rfl inGX1 1 (by decide) rfl kf_X8_73 rfl dX8_net_12 ?_
  obtain ⟨r1, M1, hq1, h⟩ := cq_some h
  refine ax_callVi (As := [.ref (ad 1), .int (M 26 1)]) (st := []) F (tX0_read F.2.2.2.2.2.2.1 hx hz0 _  _ _ _ hq1) (ob_3 hx) rfl kc_X0_read kz_X0 ki_X0_read ks_X0_read km_X8_76 ⟨kn_X0_read, rfl, rfl, Nat.le_of_ble_eq_true rfl, Nat.le_of_ble_eq_true rfl⟩ rfl (Nat.le_of_ble_eq_true rfl) dX8_net_15 ?_
  refine ax_iconst (v := (-1 : Int32)) F dX8_net_18 (by decide) ?_
  refine ax_icmp_eq (t := 25) F dX8_net_19 (by decide) (fun hc => ?_) (fun hc => ?_)
  · have h := it_pos h hc
    refine ax_aload_n F dX8_net_25 rfl ?_
    refine ax_get (v := .ref (ad 3)) F (ob_0 hx) rfl inGX8 1 (by decide) rfl kf_X8_19 rfl dX8_net_26 ?_
    refine ax_aload_n F dX8_net_29 rfl ?_
    refine ax_get (v := .ref (ad 26)) F (ob_0 hx) rfl inGX8 2 (by decide) rfl kf_X8_26 rfl dX8_net_30 ?_
    obtain ⟨r2, M2, hq2, h⟩ := cq_some h
    refine ax_callVv (As := [.ref (ad 26)]) (st := []) F (tX0_doAll F.2.2.2.2.2.2.1 hx _ (isN_26 hx) _ _ _ hq2) (ob_3 hx) rfl kc_X0_doAll kz_X0 ki_X0_doAll ks_X0_doAll km_X8_80 ⟨kn_X0_doAll, rfl, rfl, Nat.le_of_ble_eq_true rfl, Nat.le_of_ble_eq_true rfl⟩ rfl (Nat.le_of_ble_eq_true rfl) dX8_net_33 ?_
    refine ax_aload_n F dX8_net_36 rfl ?_
    refine ax_get (v := .ref (ad 1)) F (ob_0 hx) rfl inGX8 0 (by decide) rfl kf_X8_10 rfl dX8_net_37 ?_
    obtain ⟨r3, M3, hq3, h⟩ := cq_some h
    refine ax_callVv (As := []) (st := []) F (tX6_clear F.2.2.2.2.2.2.1 hx   _ _ _ hq3) (ob_1 hx) rfl kc_X6_clear kz_X6 ki_X6_clear ks_X6_clear km_X8_70 ⟨kn_X6_clear, rfl, rfl, Nat.le_of_ble_eq_true rfl, Nat.le_of_ble_eq_true rfl⟩ rfl (Nat.le_of_ble_eq_true rfl) dX8_net_40 ?_
    refine ax_aload_n F dX8_net_43 rfl ?_
    refine ax_get (v := .ref (ad 15)) F (ob_0 hx) rfl inGX8 5 (by decide) rfl kf_X8_43 rfl dX8_net_44 ?_
    obtain ⟨r4, M4, hq4, h⟩ := cq_some h
    refine ax_callVv (As := []) (st := []) F (tX2_clear F.2.2.2.2.2.2.1 hx   _ _ _ hq4) (ob_15 hx) rfl kc_X2_clear kz_X2 ki_X2_clear ks_X2_clear km_X8_84 ⟨kn_X2_clear, rfl, rfl, Nat.le_of_ble_eq_true rfl, Nat.le_of_ble_eq_true rfl⟩ rfl (Nat.le_of_ble_eq_true rfl) dX8_net_47 ?_
    refine ax_iconst (v := (0 : Int32)) F dX8_net_50 (by decide) ?_
    refine ax_istore_n F dX8_net_51 (by decide) rfl ?_
    exact IH.2.1 _ _ h 
  · have h := it_neg h hc
    refine ax_bipush (v := (-4 : Int32)) F dX8_net_22 (by decide) ?_
    obtain ⟨h1, h2⟩ := rt_some h
    subst h1; subst h2
    exact ax_iret F dX8_net_24
set_option maxRecDepth 100000 in
set_option maxHeartbeats 4000000 in
theorem wX8_net_1 {p : Program} {l : Launch} {e : Env} {s : State} {m : MethodId} {args : Array Value} {below : List Frame} {meth : Method} {c : Code} {G : va_G} {L : List Nat} {ad : Nat → Nat} {cs : Nat → ClassId} {z : Bool} {zk zv : Nat → Nat} {r : Int32} {M' : Mm} {n : Nat} (F : Fx G L ad cs z zk zv p m meth c cX8_net 2 (some .int) s args RX8) (hx : isX L) (hz0 : z = true) (IH : PX8_net p l e s m args below meth c G L ad cs zk r M' n) (x1 : Int32) (M : Mm) (h : (bX8_net_1 x1 M).bind (fun q => match q with | .inl s' => itr stX8_net n s' | .inr r => some r) = some (r, M'))  : AW p l e rmX8_net s m args below meth c (MQ below (AQi G L ad cs r M') args s 0 0 (inA L ad)) G L ad cs 2 52 [some (.ref (ad 0)), some (.int x1)] [] M := by
  unfold bX8_net_1 at h
  refine ax_iload_n F dX8_net_52 rfl ?_
  refine ax_iconst (v := (2 : Int32)) F dX8_net_53 (by decide) ?_
  refine ax_icmp_ge (t := 70) F dX8_net_54 (by decide) (fun hc => ?_) (fun hc => ?_)
  · have h := it_pos h hc
    refine ax_iconst (v := (0 : Int32)) F dX8_net_70 (by decide) ?_
    refine ax_istore_n F dX8_net_71 (by decide) rfl ?_
    exact IH.2.2 _ _ h 
  · have h := it_neg h hc
    refine ax_aload_n F dX8_net_57 rfl ?_
    refine ax_get (v := .ref (ad 18)) F (ob_0 hx) rfl inGX8 7 (by decide) rfl kf_X8_51 rfl dX8_net_58 ?_
    refine ax_iload_n F dX8_net_61 rfl ?_
    refine ax_iconst (v := (0 : Int32)) F dX8_net_62 (by decide) ?_
    obtain ⟨hg, h⟩ := gd_some h
    refine ax_zast F (ar_18 hx) hg (by decide) dX8_net_63 ?_
    refine ax_iinc (v := (1 : Int32)) F dX8_net_64 rfl (by decide) (by decide) rfl ?_
    refine ax_goto (t := 52) F dX8_net_67 (by decide) ?_
    exact IH.2.1 _ _ h 
set_option maxRecDepth 100000 in
set_option maxHeartbeats 4000000 in
theorem wX8_net_2 {p : Program} {l : Launch} {e : Env} {s : State} {m : MethodId} {args : Array Value} {below : List Frame} {meth : Method} {c : Code} {G : va_G} {L : List Nat} {ad : Nat → Nat} {cs : Nat → ClassId} {z : Bool} {zk zv : Nat → Nat} {r : Int32} {M' : Mm} {n : Nat} (F : Fx G L ad cs z zk zv p m meth c cX8_net 2 (some .int) s args RX8) (hx : isX L) (hz0 : z = true) (IH : PX8_net p l e s m args below meth c G L ad cs zk r M' n) (x1 : Int32) (M : Mm) (h : (bX8_net_2 x1 M).bind (fun q => match q with | .inl s' => itr stX8_net n s' | .inr r => some r) = some (r, M'))  : AW p l e rmX8_net s m args below meth c (MQ below (AQi G L ad cs r M') args s 0 0 (inA L ad)) G L ad cs 2 72 [some (.ref (ad 0)), some (.int x1)] [] M := by
  unfold bX8_net_2 at h
  refine ax_iload_n F dX8_net_72 rfl ?_
  refine ax_iconst (v := (3 : Int32)) F dX8_net_73 (by decide) ?_
  refine ax_icmp_ge (t := 92) F dX8_net_74 (by decide) (fun hc => ?_) (fun hc => ?_)
  · have h := it_pos h hc
    refine ax_aload_n F dX8_net_92 rfl ?_
    refine ax_get (v := .ref (ad 3)) F (ob_0 hx) rfl inGX8 1 (by decide) rfl kf_X8_19 rfl dX8_net_93 ?_
    refine ax_get (v := .int (M 3 2)) F (ob_3 hx) rfl inGX0 2 (by decide) rfl kf_X8_88 rfl dX8_net_96 ?_
    obtain ⟨h1, h2⟩ := rt_some h
    subst h1; subst h2
    exact ax_iret F dX8_net_99
  · have h := it_neg h hc
    refine ax_aload_n F dX8_net_77 rfl ?_
    refine ax_get (v := .ref (ad 19)) F (ob_0 hx) rfl inGX8 8 (by decide) rfl kf_X8_57 rfl dX8_net_78 ?_
    refine ax_iload_n F dX8_net_81 rfl ?_
    obtain ⟨hi1, h⟩ := gd_some h
    refine ax_aald F (rf_19 hx) rfl hi1 dX8_net_82 ?_
    obtain ⟨r1, M1, hq1, h⟩ := cq_some h
    refine ax_callVv (As := []) (st := []) F (tX3_lose F.2.2.2.2.2.2.1 _ (isG_of hx (okI_lt hi1)) _ _ _ hq1) (ob_G (isG_of hx (okI_lt hi1))) rfl kc_X3_lose kz_X3 ki_X3_lose ks_X3_lose km_X8_85 ⟨kn_X3_lose, rfl, rfl, Nat.le_of_ble_eq_true rfl, Nat.le_of_ble_eq_true rfl⟩ rfl (Nat.le_of_ble_eq_true rfl) dX8_net_83 ?_
    refine ax_iinc (v := (1 : Int32)) F dX8_net_86 rfl (by decide) (by decide) rfl ?_
    refine ax_goto (t := 72) F dX8_net_89 (by decide) ?_
    exact IH.2.2 _ _ h 
set_option maxRecDepth 100000 in
set_option maxHeartbeats 4000000 in
theorem wX8_net {p : Program} {l : Launch} {e : Env} {s : State} {m : MethodId} {args : Array Value} {below : List Frame} {meth : Method} {c : Code} {G : va_G} {L : List Nat} {ad : Nat → Nat} {cs : Nat → ClassId} {z : Bool} {zk zv : Nat → Nat} {r : Int32} {M' : Mm} (F : Fx G L ad cs z zk zv p m meth c cX8_net 2 (some .int) s args RX8) (hx : isX L) (hz0 : z = true) (n : Nat) : PX8_net p l e s m args below meth c G L ad cs zk r M' n := by
  induction n with
  | zero => exact ⟨(fun  M h => by cases h), (fun x1 M h => by cases h), (fun x1 M h => by cases h)⟩
  | succ n ih =>
    exact ⟨fun  M h  => wX8_net_0 F hx hz0 ih  M h ,
      fun x1 M h  => wX8_net_1 F hx hz0 ih x1 M h ,
      fun x1 M h  => wX8_net_2 F hx hz0 ih x1 M h ⟩
set_option maxRecDepth 100000 in
set_option maxHeartbeats 4000000 in
theorem tX8_net {l : Launch} {G : va_G} {L : List Nat} {ad : Nat → Nat} {cs : Nat → ClassId} {z : Bool} {zk zv : Nat → Nat} (hinj : inj L ad) (hx : isX L) (hz0 : z = true)   (M : Mm) (r : Int32) (M' : Mm) (h : fX8_net  M = some (r, M')) : Met l yX8_net (tgW yX8_net cX8_net 2 (some .int)) rmX8_net (APre G L ad cs z zk zv [.ref (ad 0)] M) (AQi G L ad cs r M') 0 0 (inA L ad) := by
  refine met_of (Eq.refl true) (Nat.le_of_ble_eq_true rfl) hinj [some (.ref (ad 0)), none] rfl ?_
  intro p e s m below meth c F
  replace F : Fx G L ad cs z zk zv p m meth c cX8_net 2 (some .int) s _ RX8 := F
  obtain ⟨n, hn⟩ := run_ex h
  exact (wX8_net F hx hz0 n).1  M hn 
noncomputable def fX8_node (x1 : Int32) (x2 : Int32) (M : Mm) : Option Rst := cl (fX1_has 26 x1 M) (fun r1 M1 => if r1 = 0 then (some ((-2 : Int32), M1)) else (if x2 = (0 : Int32) then (cl (fX1_isAlive 26 x1 M1) (fun r2 M2 => if r2 = 0 then (some ((0 : Int32), M2)) else (some ((1 : Int32), M2)))) else if x2 = (1 : Int32) then (cl (fX1_isSly 26 x1 M1) (fun r3 M3 => if r3 = 0 then (some ((0 : Int32), M3)) else (some ((1 : Int32), M3)))) else if x2 = (2 : Int32) then (gd (okI x1 8) (some ((M1 (26 + 2 + 3 * ix (x1)) 2), M1))) else if x2 = (3 : Int32) then (cl (fX1_known 26 x1 M1) (fun r4 M4 => some (r4, M4))) else if x2 = (4 : Int32) then (gd (okI x1 8) (cl (fX7_bits (26 + 2 + 3 * ix (x1)) M1) (fun r5 M5 => some (r5, M5)))) else (some ((-3 : Int32), M1))))
def rmX8_node : Room := { frames := 3, cells := 0, slots := 0, locals := 66 }
theorem kn_X8_node : yX8_node.cls ≠ "java/lang/invoke/MethodHandle" ∧ yX8_node.cls ≠ "java/lang/invoke/VarHandle" ∧ (parseMethodDescriptor yX8_node.desc).map (fun d => d.parameters.length) = some 2 := by decide +kernel
set_option maxRecDepth 100000 in
set_option maxHeartbeats 4000000 in
theorem tX8_node {l : Launch} {G : va_G} {L : List Nat} {ad : Nat → Nat} {cs : Nat → ClassId} {z : Bool} {zk zv : Nat → Nat} (hinj : inj L ad) (hx : isX L) (x1 : Int32) (x2 : Int32)  (M : Mm) (r : Int32) (M' : Mm) (h : fX8_node x1 x2 M = some (r, M')) : Met l yX8_node (tgW yX8_node cX8_node 3 (some .int)) rmX8_node (APre G L ad cs z zk zv [.ref (ad 0), .int x1, .int x2] M) (AQi G L ad cs r M') 0 0 (inA L ad) := by
  refine met_of (Eq.refl true) (Nat.le_of_ble_eq_true rfl) hinj [some (.ref (ad 0)), some (.int x1), some (.int x2)] rfl ?_
  intro p e s m below meth c F
  replace F : Fx G L ad cs z zk zv p m meth c cX8_node 3 (some .int) s _ RX8 := F
  unfold fX8_node at h
  refine ax_aload_n F dX8_node_0 rfl ?_
  refine ax_get (v := .ref (ad 26)) F (ob_0 hx) rfl inGX8 2 (by decide) rfl kf_X8_26 rfl dX8_node_1 ?_
  refine ax_iload_n F dX8_node_4 rfl ?_
  obtain ⟨r1, M1, hq1, h⟩ := cq_some0 h
  refine ax_callVi (As := [.int x1]) (st := []) F (tX1_has F.2.2.2.2.2.2.1 _ _ (isN_26 hx) _ _ _ hq1) (ob_N (isN_26 hx)) rfl kc_X1_has kz_X1 ki_X1_has ks_X1_has km_X8_91 ⟨kn_X1_has, rfl, rfl, Nat.le_of_ble_eq_true rfl, Nat.le_of_ble_eq_true rfl⟩ rfl (Nat.le_of_ble_eq_true rfl) dX8_node_5 ?_
  refine ax_if_ne (t := 14) F dX8_node_8 (by decide) (fun hc => ?_) (fun hc => ?_)
  · have h := it_neg0 h hc
    refine ax_iload_n F dX8_node_14 rfl ?_
    by_cases hc0 : x2 = (0 : Int32)
    · have h := it_pos0 h hc0
      refine ax_swK (v := (0 : Int32)) (t := 48) F dX8_node_15 hc0 (by decide) (by decide) rfl (by decide) ?_
      refine ax_aload_n F dX8_node_48 rfl ?_
      refine ax_get (v := .ref (ad 26)) F (ob_0 hx) rfl inGX8 2 (by decide) rfl kf_X8_26 rfl dX8_node_49 ?_
      refine ax_iload_n F dX8_node_52 rfl ?_
      obtain ⟨r2, M2, hq2, h⟩ := cq_some0 h
      refine ax_callVi (As := [.int x1]) (st := []) F (tX1_isAlive F.2.2.2.2.2.2.1 _ _ (isN_26 hx) _ _ _ hq2) (ob_N (isN_26 hx)) rfl kc_X1_isAlive kz_X1 ki_X1_isAlive ks_X1_isAlive km_X8_95 ⟨kn_X1_isAlive, rfl, rfl, Nat.le_of_ble_eq_true rfl, Nat.le_of_ble_eq_true rfl⟩ rfl (Nat.le_of_ble_eq_true rfl) dX8_node_53 ?_
      refine ax_if_eq (t := 63) F dX8_node_56 (by decide) (fun hc => ?_) (fun hc => ?_)
      · have h := it_pos0 h hc
        refine ax_iconst (v := (0 : Int32)) F dX8_node_63 (by decide) ?_
        obtain ⟨h1, h2⟩ := rt_some0 h
        subst h1; subst h2
        exact ax_iret F dX8_node_64
      · have h := it_neg0 h hc
        refine ax_iconst (v := (1 : Int32)) F dX8_node_59 (by decide) ?_
        refine ax_goto (t := 64) F dX8_node_60 (by decide) ?_
        obtain ⟨h1, h2⟩ := rt_some0 h
        subst h1; subst h2
        exact ax_iret F dX8_node_64
    replace h := it_neg0 h hc0
    by_cases hc1 : x2 = (1 : Int32)
    · have h := it_pos0 h hc1
      refine ax_swK (v := (1 : Int32)) (t := 65) F dX8_node_15 hc1 (by decide) (by decide) rfl (by decide) ?_
      refine ax_aload_n F dX8_node_65 rfl ?_
      refine ax_get (v := .ref (ad 26)) F (ob_0 hx) rfl inGX8 2 (by decide) rfl kf_X8_26 rfl dX8_node_66 ?_
      refine ax_iload_n F dX8_node_69 rfl ?_
      obtain ⟨r3, M3, hq3, h⟩ := cq_some0 h
      refine ax_callVi (As := [.int x1]) (st := []) F (tX1_isSly F.2.2.2.2.2.2.1 _ _ (isN_26 hx) _ _ _ hq3) (ob_N (isN_26 hx)) rfl kc_X1_isSly kz_X1 ki_X1_isSly ks_X1_isSly km_X8_98 ⟨kn_X1_isSly, rfl, rfl, Nat.le_of_ble_eq_true rfl, Nat.le_of_ble_eq_true rfl⟩ rfl (Nat.le_of_ble_eq_true rfl) dX8_node_70 ?_
      refine ax_if_eq (t := 80) F dX8_node_73 (by decide) (fun hc => ?_) (fun hc => ?_)
      · have h := it_pos0 h hc
        refine ax_iconst (v := (0 : Int32)) F dX8_node_80 (by decide) ?_
        obtain ⟨h1, h2⟩ := rt_some0 h
        subst h1; subst h2
        exact ax_iret F dX8_node_81
      · have h := it_neg0 h hc
        refine ax_iconst (v := (1 : Int32)) F dX8_node_76 (by decide) ?_
        refine ax_goto (t := 81) F dX8_node_77 (by decide) ?_
        obtain ⟨h1, h2⟩ := rt_some0 h
        subst h1; subst h2
        exact ax_iret F dX8_node_81
    replace h := it_neg0 h hc1
    by_cases hc2 : x2 = (2 : Int32)
    · have h := it_pos0 h hc2
      refine ax_swK (v := (2 : Int32)) (t := 82) F dX8_node_15 hc2 (by decide) (by decide) rfl (by decide) ?_
      refine ax_aload_n F dX8_node_82 rfl ?_
      refine ax_get (v := .ref (ad 26)) F (ob_0 hx) rfl inGX8 2 (by decide) rfl kf_X8_26 rfl dX8_node_83 ?_
      refine ax_get (v := .ref (ad (26 + 1))) F (ob_N (isN_26 hx)) rfl inGX1 0 (by decide) rfl kf_X8_101 rfl dX8_node_86 ?_
      refine ax_iload_n F dX8_node_89 rfl ?_
      obtain ⟨hi1, h⟩ := gd_some0 h
      refine ax_aald F (rf_N (isN_26 hx)) rfl hi1 dX8_node_90 ?_
      refine ax_get (v := .int (M1 (26 + 2 + 3 * ix (x1)) 2)) F (ob_V (isV_of (isN_26 hx) (okI_lt hi1))) rfl inGX7 2 (by decide) rfl kf_X8_105 rfl dX8_node_91 ?_
      obtain ⟨h1, h2⟩ := rt_some0 h
      subst h1; subst h2
      exact ax_iret F dX8_node_94
    replace h := it_neg0 h hc2
    by_cases hc3 : x2 = (3 : Int32)
    · have h := it_pos0 h hc3
      refine ax_swK (v := (3 : Int32)) (t := 95) F dX8_node_15 hc3 (by decide) (by decide) rfl (by decide) ?_
      refine ax_aload_n F dX8_node_95 rfl ?_
      refine ax_get (v := .ref (ad 26)) F (ob_0 hx) rfl inGX8 2 (by decide) rfl kf_X8_26 rfl dX8_node_96 ?_
      refine ax_iload_n F dX8_node_99 rfl ?_
      obtain ⟨r4, M4, hq4, h⟩ := cq_some0 h
      refine ax_callVi (As := [.int x1]) (st := []) F (tX1_known F.2.2.2.2.2.2.1 _ _ (isN_26 hx) _ _ _ hq4) (ob_N (isN_26 hx)) rfl kc_X1_known kz_X1 ki_X1_known ks_X1_known km_X8_108 ⟨kn_X1_known, rfl, rfl, Nat.le_of_ble_eq_true rfl, Nat.le_of_ble_eq_true rfl⟩ rfl (Nat.le_of_ble_eq_true rfl) dX8_node_100 ?_
      obtain ⟨h1, h2⟩ := rt_some0 h
      subst h1; subst h2
      exact ax_iret F dX8_node_103
    replace h := it_neg0 h hc3
    by_cases hc4 : x2 = (4 : Int32)
    · have h := it_pos0 h hc4
      refine ax_swK (v := (4 : Int32)) (t := 104) F dX8_node_15 hc4 (by decide) (by decide) rfl (by decide) ?_
      refine ax_aload_n F dX8_node_104 rfl ?_
      refine ax_get (v := .ref (ad 26)) F (ob_0 hx) rfl inGX8 2 (by decide) rfl kf_X8_26 rfl dX8_node_105 ?_
      refine ax_get (v := .ref (ad (26 + 1))) F (ob_N (isN_26 hx)) rfl inGX1 0 (by decide) rfl kf_X8_101 rfl dX8_node_108 ?_
      refine ax_iload_n F dX8_node_111 rfl ?_
      obtain ⟨hi2, h⟩ := gd_some0 h
      refine ax_aald F (rf_N (isN_26 hx)) rfl hi2 dX8_node_112 ?_
      obtain ⟨r5, M5, hq5, h⟩ := cq_some0 h
      refine ax_callVi (As := []) (st := []) F (tX7_bits F.2.2.2.2.2.2.1 _ (isV_of (isN_26 hx) (okI_lt hi2)) _ _ _ hq5) (ob_V (isV_of (isN_26 hx) (okI_lt hi2))) rfl kc_X7_bits kz_X7 ki_X7_bits ks_X7_bits km_X8_112 ⟨kn_X7_bits, rfl, rfl, Nat.le_of_ble_eq_true rfl, Nat.le_of_ble_eq_true rfl⟩ rfl (Nat.le_of_ble_eq_true rfl) dX8_node_113 ?_
      obtain ⟨h1, h2⟩ := rt_some0 h
      subst h1; subst h2
      exact ax_iret F dX8_node_116
    replace h := it_neg0 h hc4
    have hd0 : (x2).toInt ≠ 0 := fun e => hc0 (Int32.toInt_inj.mp (by rw [e]; rfl))
    have hd1 : (x2).toInt ≠ 1 := fun e => hc1 (Int32.toInt_inj.mp (by rw [e]; rfl))
    have hd2 : (x2).toInt ≠ 2 := fun e => hc2 (Int32.toInt_inj.mp (by rw [e]; rfl))
    have hd3 : (x2).toInt ≠ 3 := fun e => hc3 (Int32.toInt_inj.mp (by rw [e]; rfl))
    have hd4 : (x2).toInt ≠ 4 := fun e => hc4 (Int32.toInt_inj.mp (by rw [e]; rfl))
    refine ax_swOut (t := 117) F dX8_node_15 (by omega) (by decide) ?_
    refine ax_bipush (v := (-3 : Int32)) F dX8_node_117 (by decide) ?_
    obtain ⟨h1, h2⟩ := rt_some0 h
    subst h1; subst h2
    exact ax_iret F dX8_node_119
  · have h := it_pos0 h hc
    refine ax_bipush (v := (-2 : Int32)) F dX8_node_11 (by decide) ?_
    obtain ⟨h1, h2⟩ := rt_some0 h
    subst h1; subst h2
    exact ax_iret F dX8_node_13
noncomputable def fX8_entry (x1 : Int32) (x2 : Int32) (x3 : Int32) (M : Mm) : Option Rst := cl (fX1_has 26 x1 M) (fun r1 M1 => if r1 = 0 then (some ((-2 : Int32), M1)) else (if x2 < 0 then (some ((-3 : Int32), M1)) else (if x3 < 0 then (some ((-3 : Int32), M1)) else (if x3 ≤ (1 : Int32) then (gd (okI x1 8) (if x2 < (M1 (26 + 2 + 3 * ix (x1)) 2) then (if x3 = 0 then (gd (okI x2 5) (some ((M1 ((26 + 2 + 3 * ix (x1)) + 1) (ix x2)), M1))) else (gd (okI x2 5) (some ((M1 ((26 + 2 + 3 * ix (x1)) + 2) (ix x2)), M1)))) else (some ((-1 : Int32), M1)))) else (some ((-3 : Int32), M1))))))
def rmX8_entry : Room := { frames := 1, cells := 0, slots := 0, locals := 21 }
theorem kn_X8_entry : yX8_entry.cls ≠ "java/lang/invoke/MethodHandle" ∧ yX8_entry.cls ≠ "java/lang/invoke/VarHandle" ∧ (parseMethodDescriptor yX8_entry.desc).map (fun d => d.parameters.length) = some 3 := by decide +kernel
set_option maxRecDepth 100000 in
set_option maxHeartbeats 4000000 in
theorem tX8_entry {l : Launch} {G : va_G} {L : List Nat} {ad : Nat → Nat} {cs : Nat → ClassId} {z : Bool} {zk zv : Nat → Nat} (hinj : inj L ad) (hx : isX L) (x1 : Int32) (x2 : Int32) (x3 : Int32)  (M : Mm) (r : Int32) (M' : Mm) (h : fX8_entry x1 x2 x3 M = some (r, M')) : Met l yX8_entry (tgW yX8_entry cX8_entry 5 (some .int)) rmX8_entry (APre G L ad cs z zk zv [.ref (ad 0), .int x1, .int x2, .int x3] M) (AQi G L ad cs r M') 0 0 (inA L ad) := by
  refine met_of (Eq.refl true) (Nat.le_of_ble_eq_true rfl) hinj [some (.ref (ad 0)), some (.int x1), some (.int x2), some (.int x3), none] rfl ?_
  intro p e s m below meth c F
  replace F : Fx G L ad cs z zk zv p m meth c cX8_entry 5 (some .int) s _ RX8 := F
  unfold fX8_entry at h
  refine ax_aload_n F dX8_entry_0 rfl ?_
  refine ax_get (v := .ref (ad 26)) F (ob_0 hx) rfl inGX8 2 (by decide) rfl kf_X8_26 rfl dX8_entry_1 ?_
  refine ax_iload_n F dX8_entry_4 rfl ?_
  obtain ⟨r1, M1, hq1, h⟩ := cq_some0 h
  refine ax_callVi (As := [.int x1]) (st := []) F (tX1_has F.2.2.2.2.2.2.1 _ _ (isN_26 hx) _ _ _ hq1) (ob_N (isN_26 hx)) rfl kc_X1_has kz_X1 ki_X1_has ks_X1_has km_X8_91 ⟨kn_X1_has, rfl, rfl, Nat.le_of_ble_eq_true rfl, Nat.le_of_ble_eq_true rfl⟩ rfl (Nat.le_of_ble_eq_true rfl) dX8_entry_5 ?_
  refine ax_if_ne (t := 14) F dX8_entry_8 (by decide) (fun hc => ?_) (fun hc => ?_)
  · have h := it_neg0 h hc
    refine ax_iload_n F dX8_entry_14 rfl ?_
    refine ax_if_lt (t := 27) F dX8_entry_15 (by decide) (fun hc => ?_) (fun hc => ?_)
    · have h := it_pos0 h hc
      refine ax_bipush (v := (-3 : Int32)) F dX8_entry_27 (by decide) ?_
      obtain ⟨h1, h2⟩ := rt_some0 h
      subst h1; subst h2
      exact ax_iret F dX8_entry_29
    · have h := it_neg0 h hc
      refine ax_iload_n F dX8_entry_18 rfl ?_
      refine ax_if_lt (t := 27) F dX8_entry_19 (by decide) (fun hc => ?_) (fun hc => ?_)
      · have h := it_pos0 h hc
        refine ax_bipush (v := (-3 : Int32)) F dX8_entry_27 (by decide) ?_
        obtain ⟨h1, h2⟩ := rt_some0 h
        subst h1; subst h2
        exact ax_iret F dX8_entry_29
      · have h := it_neg0 h hc
        refine ax_iload_n F dX8_entry_22 rfl ?_
        refine ax_iconst (v := (1 : Int32)) F dX8_entry_23 (by decide) ?_
        refine ax_icmp_le (t := 30) F dX8_entry_24 (by decide) (fun hc => ?_) (fun hc => ?_)
        · have h := it_pos0 h hc
          refine ax_aload_n F dX8_entry_30 rfl ?_
          refine ax_get (v := .ref (ad 26)) F (ob_0 hx) rfl inGX8 2 (by decide) rfl kf_X8_26 rfl dX8_entry_31 ?_
          refine ax_get (v := .ref (ad (26 + 1))) F (ob_N (isN_26 hx)) rfl inGX1 0 (by decide) rfl kf_X8_101 rfl dX8_entry_34 ?_
          refine ax_iload_n F dX8_entry_37 rfl ?_
          obtain ⟨hi1, h⟩ := gd_some0 h
          refine ax_aald F (rf_N (isN_26 hx)) rfl hi1 dX8_entry_38 ?_
          refine ax_astore F dX8_entry_39 (by decide) rfl ?_
          refine ax_iload_n F dX8_entry_41 rfl ?_
          refine ax_aload F dX8_entry_42 rfl ?_
          refine ax_get (v := .int (M1 (26 + 2 + 3 * ix (x1)) 2)) F (ob_V (isV_of (isN_26 hx) (okI_lt hi1))) rfl inGX7 2 (by decide) rfl kf_X8_105 rfl dX8_entry_44 ?_
          refine ax_icmp_lt (t := 52) F dX8_entry_47 (by decide) (fun hc => ?_) (fun hc => ?_)
          · have h := it_pos0 h hc
            refine ax_iload_n F dX8_entry_52 rfl ?_
            refine ax_if_ne (t := 66) F dX8_entry_53 (by decide) (fun hc => ?_) (fun hc => ?_)
            · have h := it_neg0 h hc
              refine ax_aload F dX8_entry_66 rfl ?_
              refine ax_get (v := .ref (ad ((26 + 2 + 3 * ix (x1)) + 2))) F (ob_V (isV_of (isN_26 hx) (okI_lt hi1))) rfl inGX7 1 (by decide) rfl kf_X8_119 rfl dX8_entry_68 ?_
              refine ax_iload_n F dX8_entry_71 rfl ?_
              obtain ⟨hg, h⟩ := gd_some0 h
              refine ax_iald F (ar_V2 (isV_of (isN_26 hx) (okI_lt hi1))) hg dX8_entry_72 ?_
              obtain ⟨h1, h2⟩ := rt_some0 h
              subst h1; subst h2
              exact ax_iret F dX8_entry_73
            · have h := it_pos0 h hc
              refine ax_aload F dX8_entry_56 rfl ?_
              refine ax_get (v := .ref (ad ((26 + 2 + 3 * ix (x1)) + 1))) F (ob_V (isV_of (isN_26 hx) (okI_lt hi1))) rfl inGX7 0 (by decide) rfl kf_X8_116 rfl dX8_entry_58 ?_
              refine ax_iload_n F dX8_entry_61 rfl ?_
              obtain ⟨hg, h⟩ := gd_some0 h
              refine ax_iald F (ar_V1 (isV_of (isN_26 hx) (okI_lt hi1))) hg dX8_entry_62 ?_
              refine ax_goto (t := 73) F dX8_entry_63 (by decide) ?_
              obtain ⟨h1, h2⟩ := rt_some0 h
              subst h1; subst h2
              exact ax_iret F dX8_entry_73
          · have h := it_neg0 h hc
            refine ax_iconst (v := (-1 : Int32)) F dX8_entry_50 (by decide) ?_
            obtain ⟨h1, h2⟩ := rt_some0 h
            subst h1; subst h2
            exact ax_iret F dX8_entry_51
        · have h := it_neg0 h hc
          refine ax_bipush (v := (-3 : Int32)) F dX8_entry_27 (by decide) ?_
          obtain ⟨h1, h2⟩ := rt_some0 h
          subst h1; subst h2
          exact ax_iret F dX8_entry_29
  · have h := it_pos0 h hc
    refine ax_bipush (v := (-2 : Int32)) F dX8_entry_11 (by decide) ?_
    obtain ⟨h1, h2⟩ := rt_some0 h
    subst h1; subst h2
    exact ax_iret F dX8_entry_13
noncomputable def fX8_round (x1 : Int32) (M : Mm) : Option Rst := cl (fX1_has 26 x1 M) (fun r1 M1 => if r1 = 0 then (some ((-2 : Int32), M1)) else (cl (fX1_isAlive 26 x1 M1) (fun r2 M2 => if r2 = 0 then (some ((-4 : Int32), M2)) else (cl (fX2_push 26 M2) (fun r3 M3 => cl (fX5_roundOf 26 x1 M3) (fun r4 M4 => some (r4, M4)))))))
def rmX8_round : Room := { frames := 5, cells := 0, slots := 0, locals := 117 }
theorem kn_X8_round : yX8_round.cls ≠ "java/lang/invoke/MethodHandle" ∧ yX8_round.cls ≠ "java/lang/invoke/VarHandle" ∧ (parseMethodDescriptor yX8_round.desc).map (fun d => d.parameters.length) = some 1 := by decide +kernel
set_option maxRecDepth 100000 in
set_option maxHeartbeats 4000000 in
theorem tX8_round {l : Launch} {G : va_G} {L : List Nat} {ad : Nat → Nat} {cs : Nat → ClassId} {z : Bool} {zk zv : Nat → Nat} (hinj : inj L ad) (hx : isX L) (x1 : Int32)  (M : Mm) (r : Int32) (M' : Mm) (h : fX8_round x1 M = some (r, M')) : Met l yX8_round (tgW yX8_round cX8_round 2 (some .int)) rmX8_round (APre G L ad cs z zk zv [.ref (ad 0), .int x1] M) (AQi G L ad cs r M') 0 0 (inA L ad) := by
  refine met_of (Eq.refl true) (Nat.le_of_ble_eq_true rfl) hinj [some (.ref (ad 0)), some (.int x1)] rfl ?_
  intro p e s m below meth c F
  replace F : Fx G L ad cs z zk zv p m meth c cX8_round 2 (some .int) s _ RX8 := F
  unfold fX8_round at h
  refine ax_aload_n F dX8_round_0 rfl ?_
  refine ax_get (v := .ref (ad 26)) F (ob_0 hx) rfl inGX8 2 (by decide) rfl kf_X8_26 rfl dX8_round_1 ?_
  refine ax_iload_n F dX8_round_4 rfl ?_
  obtain ⟨r1, M1, hq1, h⟩ := cq_some0 h
  refine ax_callVi (As := [.int x1]) (st := []) F (tX1_has F.2.2.2.2.2.2.1 _ _ (isN_26 hx) _ _ _ hq1) (ob_N (isN_26 hx)) rfl kc_X1_has kz_X1 ki_X1_has ks_X1_has km_X8_91 ⟨kn_X1_has, rfl, rfl, Nat.le_of_ble_eq_true rfl, Nat.le_of_ble_eq_true rfl⟩ rfl (Nat.le_of_ble_eq_true rfl) dX8_round_5 ?_
  refine ax_if_ne (t := 14) F dX8_round_8 (by decide) (fun hc => ?_) (fun hc => ?_)
  · have h := it_neg0 h hc
    refine ax_aload_n F dX8_round_14 rfl ?_
    refine ax_get (v := .ref (ad 26)) F (ob_0 hx) rfl inGX8 2 (by decide) rfl kf_X8_26 rfl dX8_round_15 ?_
    refine ax_iload_n F dX8_round_18 rfl ?_
    obtain ⟨r2, M2, hq2, h⟩ := cq_some0 h
    refine ax_callVi (As := [.int x1]) (st := []) F (tX1_isAlive F.2.2.2.2.2.2.1 _ _ (isN_26 hx) _ _ _ hq2) (ob_N (isN_26 hx)) rfl kc_X1_isAlive kz_X1 ki_X1_isAlive ks_X1_isAlive km_X8_95 ⟨kn_X1_isAlive, rfl, rfl, Nat.le_of_ble_eq_true rfl, Nat.le_of_ble_eq_true rfl⟩ rfl (Nat.le_of_ble_eq_true rfl) dX8_round_19 ?_
    refine ax_if_ne (t := 28) F dX8_round_22 (by decide) (fun hc => ?_) (fun hc => ?_)
    · have h := it_neg0 h hc
      refine ax_aload_n F dX8_round_28 rfl ?_
      refine ax_get (v := .ref (ad 15)) F (ob_0 hx) rfl inGX8 5 (by decide) rfl kf_X8_43 rfl dX8_round_29 ?_
      refine ax_aload_n F dX8_round_32 rfl ?_
      refine ax_get (v := .ref (ad 26)) F (ob_0 hx) rfl inGX8 2 (by decide) rfl kf_X8_26 rfl dX8_round_33 ?_
      obtain ⟨r3, M3, hq3, h⟩ := cq_some0 h
      refine ax_callVv (As := [.ref (ad 26)]) (st := []) F (tX2_push F.2.2.2.2.2.2.1 hx _ (isN_26 hx) _ _ _ hq3) (ob_15 hx) rfl kc_X2_push kz_X2 ki_X2_push ks_X2_push km_X8_122 ⟨kn_X2_push, rfl, rfl, Nat.le_of_ble_eq_true rfl, Nat.le_of_ble_eq_true rfl⟩ rfl (Nat.le_of_ble_eq_true rfl) dX8_round_36 ?_
      refine ax_aload_n F dX8_round_39 rfl ?_
      refine ax_get (v := .ref (ad 6)) F (ob_0 hx) rfl inGX8 4 (by decide) rfl kf_X8_36 rfl dX8_round_40 ?_
      refine ax_aload_n F dX8_round_43 rfl ?_
      refine ax_get (v := .ref (ad 26)) F (ob_0 hx) rfl inGX8 2 (by decide) rfl kf_X8_26 rfl dX8_round_44 ?_
      refine ax_iload_n F dX8_round_47 rfl ?_
      obtain ⟨r4, M4, hq4, h⟩ := cq_some0 h
      refine ax_callVi (As := [.ref (ad 26), .int x1]) (st := []) F (tX5_roundOf F.2.2.2.2.2.2.1 hx _ _ (isN_26 hx) _ _ _ hq4) (ob_6 hx) rfl kc_X5_roundOf kz_X5 ki_X5_roundOf ks_X5_roundOf km_X8_125 ⟨kn_X5_roundOf, rfl, rfl, Nat.le_of_ble_eq_true rfl, Nat.le_of_ble_eq_true rfl⟩ rfl (Nat.le_of_ble_eq_true rfl) dX8_round_48 ?_
      obtain ⟨h1, h2⟩ := rt_some0 h
      subst h1; subst h2
      exact ax_iret F dX8_round_51
    · have h := it_pos0 h hc
      refine ax_bipush (v := (-4 : Int32)) F dX8_round_25 (by decide) ?_
      obtain ⟨h1, h2⟩ := rt_some0 h
      subst h1; subst h2
      exact ax_iret F dX8_round_27
  · have h := it_pos0 h hc
    refine ax_bipush (v := (-2 : Int32)) F dX8_round_11 (by decide) ?_
    obtain ⟨h1, h2⟩ := rt_some0 h
    subst h1; subst h2
    exact ax_iret F dX8_round_13
noncomputable def fX8_cycle (x1 : Int32) (M : Mm) : Option Rst := if x1 < (1 : Int32) then (some ((-3 : Int32), M)) else (if x1 ≤ (20 : Int32) then (cl (fX2_push 26 M) (fun r1 M1 => cl (fX5_cyclesOf 26 x1 M1) (fun r2 M2 => cl (fX1_entries 26 M2) (fun r3 M3 => some (r3, M3))))) else (some ((-3 : Int32), M)))
def rmX8_cycle : Room := { frames := 6, cells := 0, slots := 0, locals := 141 }
theorem kn_X8_cycle : yX8_cycle.cls ≠ "java/lang/invoke/MethodHandle" ∧ yX8_cycle.cls ≠ "java/lang/invoke/VarHandle" ∧ (parseMethodDescriptor yX8_cycle.desc).map (fun d => d.parameters.length) = some 1 := by decide +kernel
set_option maxRecDepth 100000 in
set_option maxHeartbeats 4000000 in
theorem tX8_cycle {l : Launch} {G : va_G} {L : List Nat} {ad : Nat → Nat} {cs : Nat → ClassId} {z : Bool} {zk zv : Nat → Nat} (hinj : inj L ad) (hx : isX L) (x1 : Int32)  (M : Mm) (r : Int32) (M' : Mm) (h : fX8_cycle x1 M = some (r, M')) : Met l yX8_cycle (tgW yX8_cycle cX8_cycle 2 (some .int)) rmX8_cycle (APre G L ad cs z zk zv [.ref (ad 0), .int x1] M) (AQi G L ad cs r M') 0 0 (inA L ad) := by
  refine met_of (Eq.refl true) (Nat.le_of_ble_eq_true rfl) hinj [some (.ref (ad 0)), some (.int x1)] rfl ?_
  intro p e s m below meth c F
  replace F : Fx G L ad cs z zk zv p m meth c cX8_cycle 2 (some .int) s _ RX8 := F
  unfold fX8_cycle at h
  refine ax_iload_n F dX8_cycle_0 rfl ?_
  refine ax_iconst (v := (1 : Int32)) F dX8_cycle_1 (by decide) ?_
  refine ax_icmp_lt (t := 11) F dX8_cycle_2 (by decide) (fun hc => ?_) (fun hc => ?_)
  · have h := it_pos0 h hc
    refine ax_bipush (v := (-3 : Int32)) F dX8_cycle_11 (by decide) ?_
    obtain ⟨h1, h2⟩ := rt_some0 h
    subst h1; subst h2
    exact ax_iret F dX8_cycle_13
  · have h := it_neg0 h hc
    refine ax_iload_n F dX8_cycle_5 rfl ?_
    refine ax_bipush (v := (20 : Int32)) F dX8_cycle_6 (by decide) ?_
    refine ax_icmp_le (t := 14) F dX8_cycle_8 (by decide) (fun hc => ?_) (fun hc => ?_)
    · have h := it_pos0 h hc
      refine ax_aload_n F dX8_cycle_14 rfl ?_
      refine ax_get (v := .ref (ad 15)) F (ob_0 hx) rfl inGX8 5 (by decide) rfl kf_X8_43 rfl dX8_cycle_15 ?_
      refine ax_aload_n F dX8_cycle_18 rfl ?_
      refine ax_get (v := .ref (ad 26)) F (ob_0 hx) rfl inGX8 2 (by decide) rfl kf_X8_26 rfl dX8_cycle_19 ?_
      obtain ⟨r1, M1, hq1, h⟩ := cq_some0 h
      refine ax_callVv (As := [.ref (ad 26)]) (st := []) F (tX2_push F.2.2.2.2.2.2.1 hx _ (isN_26 hx) _ _ _ hq1) (ob_15 hx) rfl kc_X2_push kz_X2 ki_X2_push ks_X2_push km_X8_122 ⟨kn_X2_push, rfl, rfl, Nat.le_of_ble_eq_true rfl, Nat.le_of_ble_eq_true rfl⟩ rfl (Nat.le_of_ble_eq_true rfl) dX8_cycle_22 ?_
      refine ax_aload_n F dX8_cycle_25 rfl ?_
      refine ax_get (v := .ref (ad 6)) F (ob_0 hx) rfl inGX8 4 (by decide) rfl kf_X8_36 rfl dX8_cycle_26 ?_
      refine ax_aload_n F dX8_cycle_29 rfl ?_
      refine ax_get (v := .ref (ad 26)) F (ob_0 hx) rfl inGX8 2 (by decide) rfl kf_X8_26 rfl dX8_cycle_30 ?_
      refine ax_iload_n F dX8_cycle_33 rfl ?_
      obtain ⟨r2, M2, hq2, h⟩ := cq_some0 h
      refine ax_callVv (As := [.ref (ad 26), .int x1]) (st := []) F (tX5_cyclesOf F.2.2.2.2.2.2.1 hx _ _ (isN_26 hx) _ _ _ hq2) (ob_6 hx) rfl kc_X5_cyclesOf kz_X5 ki_X5_cyclesOf ks_X5_cyclesOf km_X8_129 ⟨kn_X5_cyclesOf, rfl, rfl, Nat.le_of_ble_eq_true rfl, Nat.le_of_ble_eq_true rfl⟩ rfl (Nat.le_of_ble_eq_true rfl) dX8_cycle_34 ?_
      refine ax_aload_n F dX8_cycle_37 rfl ?_
      refine ax_get (v := .ref (ad 26)) F (ob_0 hx) rfl inGX8 2 (by decide) rfl kf_X8_26 rfl dX8_cycle_38 ?_
      obtain ⟨r3, M3, hq3, h⟩ := cq_some0 h
      refine ax_callVi (As := []) (st := []) F (tX1_entries F.2.2.2.2.2.2.1 _ (isN_26 hx) _ _ _ hq3) (ob_N (isN_26 hx)) rfl kc_X1_entries kz_X1 ki_X1_entries ks_X1_entries km_X8_133 ⟨kn_X1_entries, rfl, rfl, Nat.le_of_ble_eq_true rfl, Nat.le_of_ble_eq_true rfl⟩ rfl (Nat.le_of_ble_eq_true rfl) dX8_cycle_41 ?_
      obtain ⟨h1, h2⟩ := rt_some0 h
      subst h1; subst h2
      exact ax_iret F dX8_cycle_44
    · have h := it_neg0 h hc
      refine ax_bipush (v := (-3 : Int32)) F dX8_cycle_11 (by decide) ?_
      obtain ⟨h1, h2⟩ := rt_some0 h
      subst h1; subst h2
      exact ax_iret F dX8_cycle_13
noncomputable def fJ6_bitCount_0f7a4 (x0 : Int32) (M : Mm) : Option Rst := some (((((((((x0 - ((iur x0 (1 : Int32)) &&& (1431655765 : Int32))) &&& (858993459 : Int32)) + ((iur (x0 - ((iur x0 (1 : Int32)) &&& (1431655765 : Int32))) (2 : Int32)) &&& (858993459 : Int32))) + (iur (((x0 - ((iur x0 (1 : Int32)) &&& (1431655765 : Int32))) &&& (858993459 : Int32)) + ((iur (x0 - ((iur x0 (1 : Int32)) &&& (1431655765 : Int32))) (2 : Int32)) &&& (858993459 : Int32))) (4 : Int32))) &&& (252645135 : Int32)) + (iur (((((x0 - ((iur x0 (1 : Int32)) &&& (1431655765 : Int32))) &&& (858993459 : Int32)) + ((iur (x0 - ((iur x0 (1 : Int32)) &&& (1431655765 : Int32))) (2 : Int32)) &&& (858993459 : Int32))) + (iur (((x0 - ((iur x0 (1 : Int32)) &&& (1431655765 : Int32))) &&& (858993459 : Int32)) + ((iur (x0 - ((iur x0 (1 : Int32)) &&& (1431655765 : Int32))) (2 : Int32)) &&& (858993459 : Int32))) (4 : Int32))) &&& (252645135 : Int32)) (8 : Int32))) + (iur ((((((x0 - ((iur x0 (1 : Int32)) &&& (1431655765 : Int32))) &&& (858993459 : Int32)) + ((iur (x0 - ((iur x0 (1 : Int32)) &&& (1431655765 : Int32))) (2 : Int32)) &&& (858993459 : Int32))) + (iur (((x0 - ((iur x0 (1 : Int32)) &&& (1431655765 : Int32))) &&& (858993459 : Int32)) + ((iur (x0 - ((iur x0 (1 : Int32)) &&& (1431655765 : Int32))) (2 : Int32)) &&& (858993459 : Int32))) (4 : Int32))) &&& (252645135 : Int32)) + (iur (((((x0 - ((iur x0 (1 : Int32)) &&& (1431655765 : Int32))) &&& (858993459 : Int32)) + ((iur (x0 - ((iur x0 (1 : Int32)) &&& (1431655765 : Int32))) (2 : Int32)) &&& (858993459 : Int32))) + (iur (((x0 - ((iur x0 (1 : Int32)) &&& (1431655765 : Int32))) &&& (858993459 : Int32)) + ((iur (x0 - ((iur x0 (1 : Int32)) &&& (1431655765 : Int32))) (2 : Int32)) &&& (858993459 : Int32))) (4 : Int32))) &&& (252645135 : Int32)) (8 : Int32))) (16 : Int32))) &&& (63 : Int32)), M)
def rmJ6_bitCount_0f7a4 : Room := { frames := 0, cells := 0, slots := 0, locals := 0 }
theorem kn_J6_bitCount_0f7a4 : yJ6_bitCount_0f7a4.cls ≠ "java/lang/invoke/MethodHandle" ∧ yJ6_bitCount_0f7a4.cls ≠ "java/lang/invoke/VarHandle" ∧ (parseMethodDescriptor yJ6_bitCount_0f7a4.desc).map (fun d => d.parameters.length) = some 1 := by decide +kernel
set_option maxRecDepth 100000 in
set_option maxHeartbeats 4000000 in
theorem tJ6_bitCount_0f7a4 {l : Launch} {G : va_G} {L : List Nat} {ad : Nat → Nat} {cs : Nat → ClassId} {z : Bool} {zk zv : Nat → Nat} (hinj : inj L ad)  (x0 : Int32)  (M : Mm) (r : Int32) (M' : Mm) (h : fJ6_bitCount_0f7a4 x0 M = some (r, M')) : Met l yJ6_bitCount_0f7a4 (tgW yJ6_bitCount_0f7a4 cJ6_bitCount_0f7a4 1 (some .int)) rmJ6_bitCount_0f7a4 (APre G L ad cs z zk zv [.int x0] M) (AQi G L ad cs r M') 0 0 (inA L ad) := by
  refine met_ofF (by decide +kernel) (Nat.le_of_ble_eq_true rfl) hinj [some (.int x0)] rfl ?_
  intro p e s m below meth c F
  replace F : Fx G L ad cs z zk zv p m meth c cJ6_bitCount_0f7a4 1 (some .int) s _ RJ6 := F
  unfold fJ6_bitCount_0f7a4 at h
  refine ax_iload_n F dJ6_bitCount_0f7a4_0 rfl ?_
  refine ax_iload_n F dJ6_bitCount_0f7a4_1 rfl ?_
  refine ax_iconst (v := (1 : Int32)) F dJ6_bitCount_0f7a4_2 (by decide) ?_
  refine ax_iushr F dJ6_bitCount_0f7a4_3 ?_
  refine ax_ldcw (v := (1431655765 : Int32)) F kk_J6_265 dJ6_bitCount_0f7a4_4 ?_
  refine ax_iand F dJ6_bitCount_0f7a4_7 ?_
  refine ax_isub F dJ6_bitCount_0f7a4_8 ?_
  refine ax_istore_n F dJ6_bitCount_0f7a4_9 (by decide) rfl ?_
  refine ax_iload_n F dJ6_bitCount_0f7a4_10 rfl ?_
  refine ax_ldcw (v := (858993459 : Int32)) F kk_J6_266 dJ6_bitCount_0f7a4_11 ?_
  refine ax_iand F dJ6_bitCount_0f7a4_14 ?_
  refine ax_iload_n F dJ6_bitCount_0f7a4_15 rfl ?_
  refine ax_iconst (v := (2 : Int32)) F dJ6_bitCount_0f7a4_16 (by decide) ?_
  refine ax_iushr F dJ6_bitCount_0f7a4_17 ?_
  refine ax_ldcw (v := (858993459 : Int32)) F kk_J6_266 dJ6_bitCount_0f7a4_18 ?_
  refine ax_iand F dJ6_bitCount_0f7a4_21 ?_
  refine ax_iadd F dJ6_bitCount_0f7a4_22 ?_
  refine ax_istore_n F dJ6_bitCount_0f7a4_23 (by decide) rfl ?_
  refine ax_iload_n F dJ6_bitCount_0f7a4_24 rfl ?_
  refine ax_iload_n F dJ6_bitCount_0f7a4_25 rfl ?_
  refine ax_iconst (v := (4 : Int32)) F dJ6_bitCount_0f7a4_26 (by decide) ?_
  refine ax_iushr F dJ6_bitCount_0f7a4_27 ?_
  refine ax_iadd F dJ6_bitCount_0f7a4_28 ?_
  refine ax_ldcw (v := (252645135 : Int32)) F kk_J6_267 dJ6_bitCount_0f7a4_29 ?_
  refine ax_iand F dJ6_bitCount_0f7a4_32 ?_
  refine ax_istore_n F dJ6_bitCount_0f7a4_33 (by decide) rfl ?_
  refine ax_iload_n F dJ6_bitCount_0f7a4_34 rfl ?_
  refine ax_iload_n F dJ6_bitCount_0f7a4_35 rfl ?_
  refine ax_bipush (v := (8 : Int32)) F dJ6_bitCount_0f7a4_36 (by decide) ?_
  refine ax_iushr F dJ6_bitCount_0f7a4_38 ?_
  refine ax_iadd F dJ6_bitCount_0f7a4_39 ?_
  refine ax_istore_n F dJ6_bitCount_0f7a4_40 (by decide) rfl ?_
  refine ax_iload_n F dJ6_bitCount_0f7a4_41 rfl ?_
  refine ax_iload_n F dJ6_bitCount_0f7a4_42 rfl ?_
  refine ax_bipush (v := (16 : Int32)) F dJ6_bitCount_0f7a4_43 (by decide) ?_
  refine ax_iushr F dJ6_bitCount_0f7a4_45 ?_
  refine ax_iadd F dJ6_bitCount_0f7a4_46 ?_
  refine ax_istore_n F dJ6_bitCount_0f7a4_47 (by decide) rfl ?_
  refine ax_iload_n F dJ6_bitCount_0f7a4_48 rfl ?_
  refine ax_bipush (v := (63 : Int32)) F dJ6_bitCount_0f7a4_49 (by decide) ?_
  refine ax_iand F dJ6_bitCount_0f7a4_51 ?_
  obtain ⟨h1, h2⟩ := rt_some0 h
  subst h1; subst h2
  exact ax_iret F dJ6_bitCount_0f7a4_52
noncomputable def fX8_die (x1 : Int32) (x2 : Int32) (M : Mm) : Option Rst := cl (fX1_has 26 x1 M) (fun r1 M1 => if r1 = 0 then (some ((-2 : Int32), M1)) else (if x2 < 0 then (some ((-3 : Int32), M1)) else (if x2 ≤ (1 : Int32) then (if x2 = 0 then (cl (fX1_isAlive 26 x1 M1) (fun r6 M6 => if r6 = (1 : Int32) then (some ((-4 : Int32), M6)) else (cl (fX2_push 26 M6) (fun r7 M7 => cl (fX1_setAlive 26 x1 (1 : Int32) M7) (fun r8 M8 => cl (fJ6_bitCount_0f7a4 (M8 26 5) M8) (fun r9 M9 => some (r9, M9))))))) else (cl (fX1_isAlive 26 x1 M1) (fun r2 M2 => if r2 = (0 : Int32) then (some ((-4 : Int32), M2)) else (cl (fX2_push 26 M2) (fun r3 M3 => cl (fX1_setAlive 26 x1 (0 : Int32) M3) (fun r4 M4 => cl (fJ6_bitCount_0f7a4 (M4 26 5) M4) (fun r5 M5 => some (r5, M5)))))))) else (some ((-3 : Int32), M1)))))
def rmX8_die : Room := { frames := 3, cells := 0, slots := 0, locals := 65 }
theorem kn_X8_die : yX8_die.cls ≠ "java/lang/invoke/MethodHandle" ∧ yX8_die.cls ≠ "java/lang/invoke/VarHandle" ∧ (parseMethodDescriptor yX8_die.desc).map (fun d => d.parameters.length) = some 2 := by decide +kernel
set_option maxRecDepth 100000 in
set_option maxHeartbeats 4000000 in
theorem tX8_die {l : Launch} {G : va_G} {L : List Nat} {ad : Nat → Nat} {cs : Nat → ClassId} {z : Bool} {zk zv : Nat → Nat} (hinj : inj L ad) (hx : isX L) (x1 : Int32) (x2 : Int32)  (M : Mm) (r : Int32) (M' : Mm) (h : fX8_die x1 x2 M = some (r, M')) : Met l yX8_die (tgW yX8_die cX8_die 4 (some .int)) rmX8_die (APre G L ad cs z zk zv [.ref (ad 0), .int x1, .int x2] M) (AQi G L ad cs r M') 0 0 (inA L ad) := by
  refine met_of (Eq.refl true) (Nat.le_of_ble_eq_true rfl) hinj [some (.ref (ad 0)), some (.int x1), some (.int x2), none] rfl ?_
  intro p e s m below meth c F
  replace F : Fx G L ad cs z zk zv p m meth c cX8_die 4 (some .int) s _ RX8 := F
  unfold fX8_die at h
  refine ax_aload_n F dX8_die_0 rfl ?_
  refine ax_get (v := .ref (ad 26)) F (ob_0 hx) rfl inGX8 2 (by decide) rfl kf_X8_26 rfl dX8_die_1 ?_
  refine ax_iload_n F dX8_die_4 rfl ?_
  obtain ⟨r1, M1, hq1, h⟩ := cq_some0 h
  refine ax_callVi (As := [.int x1]) (st := []) F (tX1_has F.2.2.2.2.2.2.1 _ _ (isN_26 hx) _ _ _ hq1) (ob_N (isN_26 hx)) rfl kc_X1_has kz_X1 ki_X1_has ks_X1_has km_X8_91 ⟨kn_X1_has, rfl, rfl, Nat.le_of_ble_eq_true rfl, Nat.le_of_ble_eq_true rfl⟩ rfl (Nat.le_of_ble_eq_true rfl) dX8_die_5 ?_
  refine ax_if_ne (t := 14) F dX8_die_8 (by decide) (fun hc => ?_) (fun hc => ?_)
  · have h := it_neg0 h hc
    refine ax_iload_n F dX8_die_14 rfl ?_
    refine ax_if_lt (t := 23) F dX8_die_15 (by decide) (fun hc => ?_) (fun hc => ?_)
    · have h := it_pos0 h hc
      refine ax_bipush (v := (-3 : Int32)) F dX8_die_23 (by decide) ?_
      obtain ⟨h1, h2⟩ := rt_some0 h
      subst h1; subst h2
      exact ax_iret F dX8_die_25
    · have h := it_neg0 h hc
      refine ax_iload_n F dX8_die_18 rfl ?_
      refine ax_iconst (v := (1 : Int32)) F dX8_die_19 (by decide) ?_
      refine ax_icmp_le (t := 26) F dX8_die_20 (by decide) (fun hc => ?_) (fun hc => ?_)
      · have h := it_pos0 h hc
        refine ax_iload_n F dX8_die_26 rfl ?_
        refine ax_if_ne (t := 34) F dX8_die_27 (by decide) (fun hc => ?_) (fun hc => ?_)
        · have h := it_neg0 h hc
          refine ax_iconst (v := (0 : Int32)) F dX8_die_34 (by decide) ?_
          refine ax_istore_n F dX8_die_35 (by decide) rfl ?_
          refine ax_aload_n F dX8_die_36 rfl ?_
          refine ax_get (v := .ref (ad 26)) F (ob_0 hx) rfl inGX8 2 (by decide) rfl kf_X8_26 rfl dX8_die_37 ?_
          refine ax_iload_n F dX8_die_40 rfl ?_
          obtain ⟨r2, M2, hq2, h⟩ := cq_some0 h
          refine ax_callVi (As := [.int x1]) (st := []) F (tX1_isAlive F.2.2.2.2.2.2.1 _ _ (isN_26 hx) _ _ _ hq2) (ob_N (isN_26 hx)) rfl kc_X1_isAlive kz_X1 ki_X1_isAlive ks_X1_isAlive km_X8_95 ⟨kn_X1_isAlive, rfl, rfl, Nat.le_of_ble_eq_true rfl, Nat.le_of_ble_eq_true rfl⟩ rfl (Nat.le_of_ble_eq_true rfl) dX8_die_41 ?_
          refine ax_iload_n F dX8_die_44 rfl ?_
          refine ax_icmp_ne (t := 51) F dX8_die_45 (by decide) (fun hc => ?_) (fun hc => ?_)
          · have h := it_neg0 h hc
            refine ax_aload_n F dX8_die_51 rfl ?_
            refine ax_get (v := .ref (ad 15)) F (ob_0 hx) rfl inGX8 5 (by decide) rfl kf_X8_43 rfl dX8_die_52 ?_
            refine ax_aload_n F dX8_die_55 rfl ?_
            refine ax_get (v := .ref (ad 26)) F (ob_0 hx) rfl inGX8 2 (by decide) rfl kf_X8_26 rfl dX8_die_56 ?_
            obtain ⟨r3, M3, hq3, h⟩ := cq_some0 h
            refine ax_callVv (As := [.ref (ad 26)]) (st := []) F (tX2_push F.2.2.2.2.2.2.1 hx _ (isN_26 hx) _ _ _ hq3) (ob_15 hx) rfl kc_X2_push kz_X2 ki_X2_push ks_X2_push km_X8_122 ⟨kn_X2_push, rfl, rfl, Nat.le_of_ble_eq_true rfl, Nat.le_of_ble_eq_true rfl⟩ rfl (Nat.le_of_ble_eq_true rfl) dX8_die_59 ?_
            refine ax_aload_n F dX8_die_62 rfl ?_
            refine ax_get (v := .ref (ad 26)) F (ob_0 hx) rfl inGX8 2 (by decide) rfl kf_X8_26 rfl dX8_die_63 ?_
            refine ax_iload_n F dX8_die_66 rfl ?_
            refine ax_iload_n F dX8_die_67 rfl ?_
            obtain ⟨r4, M4, hq4, h⟩ := cq_some0 h
            refine ax_callVv (As := [.int x1, .int (0 : Int32)]) (st := []) F (tX1_setAlive F.2.2.2.2.2.2.1 _ _ _ (isN_26 hx) _ _ _ hq4) (ob_N (isN_26 hx)) rfl kc_X1_setAlive kz_X1 ki_X1_setAlive ks_X1_setAlive km_X8_136 ⟨kn_X1_setAlive, rfl, rfl, Nat.le_of_ble_eq_true rfl, Nat.le_of_ble_eq_true rfl⟩ rfl (Nat.le_of_ble_eq_true rfl) dX8_die_68 ?_
            refine ax_aload_n F dX8_die_71 rfl ?_
            refine ax_get (v := .ref (ad 26)) F (ob_0 hx) rfl inGX8 2 (by decide) rfl kf_X8_26 rfl dX8_die_72 ?_
            refine ax_get (v := .int (M4 26 5)) F (ob_N (isN_26 hx)) rfl inGX1 5 (by decide) rfl kf_X8_140 rfl dX8_die_75 ?_
            obtain ⟨r5, M5, hq5, h⟩ := cq_some0 h
            refine ax_callSi (As := [.int (M4 26 5)]) (st := []) F (tJ6_bitCount_0f7a4 F.2.2.2.2.2.2.1 _  _ _ _ hq5) kc_J6_bitCount_0f7a4 kz_J6 kt_J6_bitCount_0f7a4 km_X8_143 ⟨kn_J6_bitCount_0f7a4, rfl, rfl, Nat.le_of_ble_eq_true rfl, Nat.le_of_ble_eq_true rfl⟩ rfl (Nat.le_of_ble_eq_true rfl) dX8_die_78 ?_
            obtain ⟨h1, h2⟩ := rt_some0 h
            subst h1; subst h2
            exact ax_iret F dX8_die_81
          · have h := it_pos0 h hc
            refine ax_bipush (v := (-4 : Int32)) F dX8_die_48 (by decide) ?_
            obtain ⟨h1, h2⟩ := rt_some0 h
            subst h1; subst h2
            exact ax_iret F dX8_die_50
        · have h := it_pos0 h hc
          refine ax_iconst (v := (1 : Int32)) F dX8_die_30 (by decide) ?_
          refine ax_goto (t := 35) F dX8_die_31 (by decide) ?_
          refine ax_istore_n F dX8_die_35 (by decide) rfl ?_
          refine ax_aload_n F dX8_die_36 rfl ?_
          refine ax_get (v := .ref (ad 26)) F (ob_0 hx) rfl inGX8 2 (by decide) rfl kf_X8_26 rfl dX8_die_37 ?_
          refine ax_iload_n F dX8_die_40 rfl ?_
          obtain ⟨r6, M6, hq6, h⟩ := cq_some0 h
          refine ax_callVi (As := [.int x1]) (st := []) F (tX1_isAlive F.2.2.2.2.2.2.1 _ _ (isN_26 hx) _ _ _ hq6) (ob_N (isN_26 hx)) rfl kc_X1_isAlive kz_X1 ki_X1_isAlive ks_X1_isAlive km_X8_95 ⟨kn_X1_isAlive, rfl, rfl, Nat.le_of_ble_eq_true rfl, Nat.le_of_ble_eq_true rfl⟩ rfl (Nat.le_of_ble_eq_true rfl) dX8_die_41 ?_
          refine ax_iload_n F dX8_die_44 rfl ?_
          refine ax_icmp_ne (t := 51) F dX8_die_45 (by decide) (fun hc => ?_) (fun hc => ?_)
          · have h := it_neg0 h hc
            refine ax_aload_n F dX8_die_51 rfl ?_
            refine ax_get (v := .ref (ad 15)) F (ob_0 hx) rfl inGX8 5 (by decide) rfl kf_X8_43 rfl dX8_die_52 ?_
            refine ax_aload_n F dX8_die_55 rfl ?_
            refine ax_get (v := .ref (ad 26)) F (ob_0 hx) rfl inGX8 2 (by decide) rfl kf_X8_26 rfl dX8_die_56 ?_
            obtain ⟨r7, M7, hq7, h⟩ := cq_some0 h
            refine ax_callVv (As := [.ref (ad 26)]) (st := []) F (tX2_push F.2.2.2.2.2.2.1 hx _ (isN_26 hx) _ _ _ hq7) (ob_15 hx) rfl kc_X2_push kz_X2 ki_X2_push ks_X2_push km_X8_122 ⟨kn_X2_push, rfl, rfl, Nat.le_of_ble_eq_true rfl, Nat.le_of_ble_eq_true rfl⟩ rfl (Nat.le_of_ble_eq_true rfl) dX8_die_59 ?_
            refine ax_aload_n F dX8_die_62 rfl ?_
            refine ax_get (v := .ref (ad 26)) F (ob_0 hx) rfl inGX8 2 (by decide) rfl kf_X8_26 rfl dX8_die_63 ?_
            refine ax_iload_n F dX8_die_66 rfl ?_
            refine ax_iload_n F dX8_die_67 rfl ?_
            obtain ⟨r8, M8, hq8, h⟩ := cq_some0 h
            refine ax_callVv (As := [.int x1, .int (1 : Int32)]) (st := []) F (tX1_setAlive F.2.2.2.2.2.2.1 _ _ _ (isN_26 hx) _ _ _ hq8) (ob_N (isN_26 hx)) rfl kc_X1_setAlive kz_X1 ki_X1_setAlive ks_X1_setAlive km_X8_136 ⟨kn_X1_setAlive, rfl, rfl, Nat.le_of_ble_eq_true rfl, Nat.le_of_ble_eq_true rfl⟩ rfl (Nat.le_of_ble_eq_true rfl) dX8_die_68 ?_
            refine ax_aload_n F dX8_die_71 rfl ?_
            refine ax_get (v := .ref (ad 26)) F (ob_0 hx) rfl inGX8 2 (by decide) rfl kf_X8_26 rfl dX8_die_72 ?_
            refine ax_get (v := .int (M8 26 5)) F (ob_N (isN_26 hx)) rfl inGX1 5 (by decide) rfl kf_X8_140 rfl dX8_die_75 ?_
            obtain ⟨r9, M9, hq9, h⟩ := cq_some0 h
            refine ax_callSi (As := [.int (M8 26 5)]) (st := []) F (tJ6_bitCount_0f7a4 F.2.2.2.2.2.2.1 _  _ _ _ hq9) kc_J6_bitCount_0f7a4 kz_J6 kt_J6_bitCount_0f7a4 km_X8_143 ⟨kn_J6_bitCount_0f7a4, rfl, rfl, Nat.le_of_ble_eq_true rfl, Nat.le_of_ble_eq_true rfl⟩ rfl (Nat.le_of_ble_eq_true rfl) dX8_die_78 ?_
            obtain ⟨h1, h2⟩ := rt_some0 h
            subst h1; subst h2
            exact ax_iret F dX8_die_81
          · have h := it_pos0 h hc
            refine ax_bipush (v := (-4 : Int32)) F dX8_die_48 (by decide) ?_
            obtain ⟨h1, h2⟩ := rt_some0 h
            subst h1; subst h2
            exact ax_iret F dX8_die_50
      · have h := it_neg0 h hc
        refine ax_bipush (v := (-3 : Int32)) F dX8_die_23 (by decide) ?_
        obtain ⟨h1, h2⟩ := rt_some0 h
        subst h1; subst h2
        exact ax_iret F dX8_die_25
  · have h := it_pos0 h hc
    refine ax_bipush (v := (-2 : Int32)) F dX8_die_11 (by decide) ?_
    obtain ⟨h1, h2⟩ := rt_some0 h
    subst h1; subst h2
    exact ax_iret F dX8_die_13
noncomputable def fX8_link (x1 : Int32) (x2 : Int32) (M : Mm) : Option Rst := cl (fX1_hasTwo 26 x1 x2 M) (fun r1 M1 => if r1 = 0 then (some ((-2 : Int32), M1)) else (gd (okI x1 8) (cl (fX7_holds (26 + 2 + 3 * ix (x1)) x2 M1) (fun r2 M2 => if r2 = 0 then (if (M2 (26 + 2 + 3 * ix (x1)) 2) < (M2 26 2) then (cl (fX2_push 26 M2) (fun r3 M3 => cl (fX7_append (26 + 2 + 3 * ix (x1)) x2 (0 : Int32) M3) (fun r4 M4 => some ((M4 (26 + 2 + 3 * ix (x1)) 2), M4)))) else (some ((-5 : Int32), M2))) else (some ((-4 : Int32), M2))))))
def rmX8_link : Room := { frames := 3, cells := 0, slots := 0, locals := 65 }
theorem kn_X8_link : yX8_link.cls ≠ "java/lang/invoke/MethodHandle" ∧ yX8_link.cls ≠ "java/lang/invoke/VarHandle" ∧ (parseMethodDescriptor yX8_link.desc).map (fun d => d.parameters.length) = some 2 := by decide +kernel
set_option maxRecDepth 100000 in
set_option maxHeartbeats 4000000 in
theorem tX8_link {l : Launch} {G : va_G} {L : List Nat} {ad : Nat → Nat} {cs : Nat → ClassId} {z : Bool} {zk zv : Nat → Nat} (hinj : inj L ad) (hx : isX L) (x1 : Int32) (x2 : Int32)  (M : Mm) (r : Int32) (M' : Mm) (h : fX8_link x1 x2 M = some (r, M')) : Met l yX8_link (tgW yX8_link cX8_link 4 (some .int)) rmX8_link (APre G L ad cs z zk zv [.ref (ad 0), .int x1, .int x2] M) (AQi G L ad cs r M') 0 0 (inA L ad) := by
  refine met_of (Eq.refl true) (Nat.le_of_ble_eq_true rfl) hinj [some (.ref (ad 0)), some (.int x1), some (.int x2), none] rfl ?_
  intro p e s m below meth c F
  replace F : Fx G L ad cs z zk zv p m meth c cX8_link 4 (some .int) s _ RX8 := F
  unfold fX8_link at h
  refine ax_aload_n F dX8_link_0 rfl ?_
  refine ax_get (v := .ref (ad 26)) F (ob_0 hx) rfl inGX8 2 (by decide) rfl kf_X8_26 rfl dX8_link_1 ?_
  refine ax_iload_n F dX8_link_4 rfl ?_
  refine ax_iload_n F dX8_link_5 rfl ?_
  obtain ⟨r1, M1, hq1, h⟩ := cq_some0 h
  refine ax_callVi (As := [.int x1, .int x2]) (st := []) F (tX1_hasTwo F.2.2.2.2.2.2.1 _ _ _ (isN_26 hx) _ _ _ hq1) (ob_N (isN_26 hx)) rfl kc_X1_hasTwo kz_X1 ki_X1_hasTwo ks_X1_hasTwo km_X8_148 ⟨kn_X1_hasTwo, rfl, rfl, Nat.le_of_ble_eq_true rfl, Nat.le_of_ble_eq_true rfl⟩ rfl (Nat.le_of_ble_eq_true rfl) dX8_link_6 ?_
  refine ax_if_ne (t := 15) F dX8_link_9 (by decide) (fun hc => ?_) (fun hc => ?_)
  · have h := it_neg0 h hc
    refine ax_aload_n F dX8_link_15 rfl ?_
    refine ax_get (v := .ref (ad 26)) F (ob_0 hx) rfl inGX8 2 (by decide) rfl kf_X8_26 rfl dX8_link_16 ?_
    refine ax_get (v := .ref (ad (26 + 1))) F (ob_N (isN_26 hx)) rfl inGX1 0 (by decide) rfl kf_X8_101 rfl dX8_link_19 ?_
    refine ax_iload_n F dX8_link_22 rfl ?_
    obtain ⟨hi1, h⟩ := gd_some0 h
    refine ax_aald F (rf_N (isN_26 hx)) rfl hi1 dX8_link_23 ?_
    refine ax_astore_n F dX8_link_24 (by decide) rfl ?_
    refine ax_aload_n F dX8_link_25 rfl ?_
    refine ax_iload_n F dX8_link_26 rfl ?_
    obtain ⟨r2, M2, hq2, h⟩ := cq_some0 h
    refine ax_callVi (As := [.int x2]) (st := []) F (tX7_holds F.2.2.2.2.2.2.1 _ _ (isV_of (isN_26 hx) (okI_lt hi1)) _ _ _ hq2) (ob_V (isV_of (isN_26 hx) (okI_lt hi1))) rfl kc_X7_holds kz_X7 ki_X7_holds ks_X7_holds km_X8_152 ⟨kn_X7_holds, rfl, rfl, Nat.le_of_ble_eq_true rfl, Nat.le_of_ble_eq_true rfl⟩ rfl (Nat.le_of_ble_eq_true rfl) dX8_link_27 ?_
    refine ax_if_eq (t := 36) F dX8_link_30 (by decide) (fun hc => ?_) (fun hc => ?_)
    · have h := it_pos0 h hc
      refine ax_aload_n F dX8_link_36 rfl ?_
      refine ax_get (v := .int (M2 (26 + 2 + 3 * ix (x1)) 2)) F (ob_V (isV_of (isN_26 hx) (okI_lt hi1))) rfl inGX7 2 (by decide) rfl kf_X8_105 rfl dX8_link_37 ?_
      refine ax_aload_n F dX8_link_40 rfl ?_
      refine ax_get (v := .ref (ad 26)) F (ob_0 hx) rfl inGX8 2 (by decide) rfl kf_X8_26 rfl dX8_link_41 ?_
      refine ax_get (v := .int (M2 26 2)) F (ob_N (isN_26 hx)) rfl inGX1 2 (by decide) rfl kf_X8_155 rfl dX8_link_44 ?_
      refine ax_icmp_lt (t := 53) F dX8_link_47 (by decide) (fun hc => ?_) (fun hc => ?_)
      · have h := it_pos0 h hc
        refine ax_aload_n F dX8_link_53 rfl ?_
        refine ax_get (v := .ref (ad 15)) F (ob_0 hx) rfl inGX8 5 (by decide) rfl kf_X8_43 rfl dX8_link_54 ?_
        refine ax_aload_n F dX8_link_57 rfl ?_
        refine ax_get (v := .ref (ad 26)) F (ob_0 hx) rfl inGX8 2 (by decide) rfl kf_X8_26 rfl dX8_link_58 ?_
        obtain ⟨r3, M3, hq3, h⟩ := cq_some0 h
        refine ax_callVv (As := [.ref (ad 26)]) (st := []) F (tX2_push F.2.2.2.2.2.2.1 hx _ (isN_26 hx) _ _ _ hq3) (ob_15 hx) rfl kc_X2_push kz_X2 ki_X2_push ks_X2_push km_X8_122 ⟨kn_X2_push, rfl, rfl, Nat.le_of_ble_eq_true rfl, Nat.le_of_ble_eq_true rfl⟩ rfl (Nat.le_of_ble_eq_true rfl) dX8_link_61 ?_
        refine ax_aload_n F dX8_link_64 rfl ?_
        refine ax_iload_n F dX8_link_65 rfl ?_
        refine ax_iconst (v := (0 : Int32)) F dX8_link_66 (by decide) ?_
        obtain ⟨r4, M4, hq4, h⟩ := cq_some0 h
        refine ax_callVv (As := [.int x2, .int (0 : Int32)]) (st := []) F (tX7_append F.2.2.2.2.2.2.1 _ _ _ (isV_of (isN_26 hx) (okI_lt hi1)) _ _ _ hq4) (ob_V (isV_of (isN_26 hx) (okI_lt hi1))) rfl kc_X7_append kz_X7 ki_X7_append ks_X7_append km_X8_158 ⟨kn_X7_append, rfl, rfl, Nat.le_of_ble_eq_true rfl, Nat.le_of_ble_eq_true rfl⟩ rfl (Nat.le_of_ble_eq_true rfl) dX8_link_67 ?_
        refine ax_aload_n F dX8_link_70 rfl ?_
        refine ax_get (v := .int (M4 (26 + 2 + 3 * ix (x1)) 2)) F (ob_V (isV_of (isN_26 hx) (okI_lt hi1))) rfl inGX7 2 (by decide) rfl kf_X8_105 rfl dX8_link_71 ?_
        obtain ⟨h1, h2⟩ := rt_some0 h
        subst h1; subst h2
        exact ax_iret F dX8_link_74
      · have h := it_neg0 h hc
        refine ax_bipush (v := (-5 : Int32)) F dX8_link_50 (by decide) ?_
        obtain ⟨h1, h2⟩ := rt_some0 h
        subst h1; subst h2
        exact ax_iret F dX8_link_52
    · have h := it_neg0 h hc
      refine ax_bipush (v := (-4 : Int32)) F dX8_link_33 (by decide) ?_
      obtain ⟨h1, h2⟩ := rt_some0 h
      subst h1; subst h2
      exact ax_iret F dX8_link_35
  · have h := it_pos0 h hc
    refine ax_bipush (v := (-2 : Int32)) F dX8_link_12 (by decide) ?_
    obtain ⟨h1, h2⟩ := rt_some0 h
    subst h1; subst h2
    exact ax_iret F dX8_link_14
noncomputable def fX8_undo  (M : Mm) : Option Rst := if (M 15 2) = 0 then (some ((-4 : Int32), M)) else (cl (fX2_pop 26 M) (fun r1 M1 => some ((M1 15 2), M1)))
def rmX8_undo : Room := { frames := 3, cells := 0, slots := 0, locals := 65 }
theorem kn_X8_undo : yX8_undo.cls ≠ "java/lang/invoke/MethodHandle" ∧ yX8_undo.cls ≠ "java/lang/invoke/VarHandle" ∧ (parseMethodDescriptor yX8_undo.desc).map (fun d => d.parameters.length) = some 0 := by decide +kernel
set_option maxRecDepth 100000 in
set_option maxHeartbeats 4000000 in
theorem tX8_undo {l : Launch} {G : va_G} {L : List Nat} {ad : Nat → Nat} {cs : Nat → ClassId} {z : Bool} {zk zv : Nat → Nat} (hinj : inj L ad) (hx : isX L)   (M : Mm) (r : Int32) (M' : Mm) (h : fX8_undo  M = some (r, M')) : Met l yX8_undo (tgW yX8_undo cX8_undo 1 (some .int)) rmX8_undo (APre G L ad cs z zk zv [.ref (ad 0)] M) (AQi G L ad cs r M') 0 0 (inA L ad) := by
  refine met_of (Eq.refl true) (Nat.le_of_ble_eq_true rfl) hinj [some (.ref (ad 0))] rfl ?_
  intro p e s m below meth c F
  replace F : Fx G L ad cs z zk zv p m meth c cX8_undo 1 (some .int) s _ RX8 := F
  unfold fX8_undo at h
  refine ax_aload_n F dX8_undo_0 rfl ?_
  refine ax_get (v := .ref (ad 15)) F (ob_0 hx) rfl inGX8 5 (by decide) rfl kf_X8_43 rfl dX8_undo_1 ?_
  refine ax_get (v := .int (M 15 2)) F (ob_15 hx) rfl inGX2 2 (by decide) rfl kf_X8_161 rfl dX8_undo_4 ?_
  refine ax_if_ne (t := 13) F dX8_undo_7 (by decide) (fun hc => ?_) (fun hc => ?_)
  · have h := it_neg0 h hc
    refine ax_aload_n F dX8_undo_13 rfl ?_
    refine ax_get (v := .ref (ad 15)) F (ob_0 hx) rfl inGX8 5 (by decide) rfl kf_X8_43 rfl dX8_undo_14 ?_
    refine ax_aload_n F dX8_undo_17 rfl ?_
    refine ax_get (v := .ref (ad 26)) F (ob_0 hx) rfl inGX8 2 (by decide) rfl kf_X8_26 rfl dX8_undo_18 ?_
    obtain ⟨r1, M1, hq1, h⟩ := cq_some0 h
    refine ax_callVv (As := [.ref (ad 26)]) (st := []) F (tX2_pop F.2.2.2.2.2.2.1 hx _ (isN_26 hx) _ _ _ hq1) (ob_15 hx) rfl kc_X2_pop kz_X2 ki_X2_pop ks_X2_pop km_X8_162 ⟨kn_X2_pop, rfl, rfl, Nat.le_of_ble_eq_true rfl, Nat.le_of_ble_eq_true rfl⟩ rfl (Nat.le_of_ble_eq_true rfl) dX8_undo_21 ?_
    refine ax_aload_n F dX8_undo_24 rfl ?_
    refine ax_get (v := .ref (ad 15)) F (ob_0 hx) rfl inGX8 5 (by decide) rfl kf_X8_43 rfl dX8_undo_25 ?_
    refine ax_get (v := .int (M1 15 2)) F (ob_15 hx) rfl inGX2 2 (by decide) rfl kf_X8_161 rfl dX8_undo_28 ?_
    obtain ⟨h1, h2⟩ := rt_some0 h
    subst h1; subst h2
    exact ax_iret F dX8_undo_31
  · have h := it_pos0 h hc
    refine ax_bipush (v := (-4 : Int32)) F dX8_undo_10 (by decide) ?_
    obtain ⟨h1, h2⟩ := rt_some0 h
    subst h1; subst h2
    exact ax_iret F dX8_undo_12
