noncomputable def fX9_rounds (x1 : Int32) (x2 : Int32) (M : Mm) : Option Rst := cl (fX9_ages x1 x2 M) (fun r1 M1 => cl (fX9_oldest x1 x2 M1) (fun r2 M2 => if r2 = (-1 : Int32) then (some ((-1 : Int32), M2)) else (gd (okI (((x1 + (10 : Int32)) + ((5 : Int32) * x2)) + r2) 1080) (cl (fX9_strike x1 x2 r2 M2) (fun r3 M3 => cl (fX9_isDead x1 (M2 339 (ix (((x1 + (10 : Int32)) + ((5 : Int32) * x2)) + r2))) M3) (fun r4 M4 => if r4 = 0 then (cl (fX9_send (0 : Int32) x2 (0 : Int32) (up2 (up2 M4 348 (ix (0 : Int32)) (0 : Int32)) 348 (ix (1 : Int32)) (0 : Int32))) (fun r5 M5 => cl (fX9_has (M5 338 4) x2 M5) (fun r6 M6 => if r6 = 0 then (cl (fX9_sends x1 (0 : Int32) x2 M6) (fun r14 M14 => cl (fX9_has (M14 338 4) (M2 339 (ix (((x1 + (10 : Int32)) + ((5 : Int32) * x2)) + r2))) M14) (fun r15 M15 => if r15 = 0 then (cl (fX9_sends x1 (1 : Int32) (M2 339 (ix (((x1 + (10 : Int32)) + ((5 : Int32) * x2)) + r2))) M15) (fun r16 M16 => cl (fX9_takes x1 (1 : Int32) (M2 339 (ix (((x1 + (10 : Int32)) + ((5 : Int32) * x2)) + r2))) M16) (fun r17 M17 => cl (fX9_takes x1 (0 : Int32) x2 M17) (fun r18 M18 => some ((M2 339 (ix (((x1 + (10 : Int32)) + ((5 : Int32) * x2)) + r2))), M18))))) else (cl (fX9_send (1 : Int32) (M2 339 (ix (((x1 + (10 : Int32)) + ((5 : Int32) * x2)) + r2))) (0 : Int32) M15) (fun r19 M19 => cl (fX9_takes x1 (1 : Int32) (M2 339 (ix (((x1 + (10 : Int32)) + ((5 : Int32) * x2)) + r2))) M19) (fun r20 M20 => cl (fX9_takes x1 (0 : Int32) x2 M20) (fun r21 M21 => some ((M2 339 (ix (((x1 + (10 : Int32)) + ((5 : Int32) * x2)) + r2))), M21)))))))) else (cl (fX9_has (M6 338 4) (M2 339 (ix (((x1 + (10 : Int32)) + ((5 : Int32) * x2)) + r2))) M6) (fun r7 M7 => if r7 = 0 then (cl (fX9_sends x1 (1 : Int32) (M2 339 (ix (((x1 + (10 : Int32)) + ((5 : Int32) * x2)) + r2))) M7) (fun r8 M8 => cl (fX9_takes x1 (1 : Int32) (M2 339 (ix (((x1 + (10 : Int32)) + ((5 : Int32) * x2)) + r2))) M8) (fun r9 M9 => cl (fX9_takes x1 (0 : Int32) x2 M9) (fun r10 M10 => some ((M2 339 (ix (((x1 + (10 : Int32)) + ((5 : Int32) * x2)) + r2))), M10))))) else (cl (fX9_send (1 : Int32) (M2 339 (ix (((x1 + (10 : Int32)) + ((5 : Int32) * x2)) + r2))) (0 : Int32) M7) (fun r11 M11 => cl (fX9_takes x1 (1 : Int32) (M2 339 (ix (((x1 + (10 : Int32)) + ((5 : Int32) * x2)) + r2))) M11) (fun r12 M12 => cl (fX9_takes x1 (0 : Int32) x2 M12) (fun r13 M13 => some ((M2 339 (ix (((x1 + (10 : Int32)) + ((5 : Int32) * x2)) + r2))), M13)))))))))) else (some ((M2 339 (ix (((x1 + (10 : Int32)) + ((5 : Int32) * x2)) + r2))), M4))))))))
def rmX9_rounds : Room := { frames := 3, cells := 0, slots := 0, locals := 76 }
theorem kn_X9_rounds : yX9_rounds.cls ≠ "java/lang/invoke/MethodHandle" ∧ yX9_rounds.cls ≠ "java/lang/invoke/VarHandle" ∧ (parseMethodDescriptor yX9_rounds.desc).map (fun d => d.parameters.length) = some 2 := by decide +kernel
set_option maxRecDepth 100000 in
set_option maxHeartbeats 4000000 in
theorem tX9_rounds {l : Launch} {G : va_G} {ad : Nat → Nat} {cs : Nat → ClassId} {zk zv : Nat → Nat} (hinj : inj ad) (x1 : Int32) (x2 : Int32)  (M : Mm) (r : Int32) (M' : Mm) (h : fX9_rounds x1 x2 M = some (r, M')) : Met l yX9_rounds (tgW yX9_rounds cX9_rounds 5 (some .int)) rmX9_rounds (APre G ad cs zk zv [.ref (ad 338), .int x1, .int x2] M) (AQi G ad cs r M') 0 0 (inA ad) := by
  refine met_of (Eq.refl true) (Nat.le_of_ble_eq_true rfl) hinj [some (.ref (ad 338)), some (.int x1), some (.int x2), none, none] rfl ?_
  intro p e s m below meth c F
  replace F : Fx G ad cs zk zv p m meth c cX9_rounds 5 (some .int) s _ RX9 := F
  unfold fX9_rounds at h
  refine ax_aload_n F dX9_rounds_0 rfl ?_
  refine ax_iload_n F dX9_rounds_1 rfl ?_
  refine ax_iload_n F dX9_rounds_2 rfl ?_
  obtain ⟨r1, M1, hq1, h⟩ := cq_some0 h
  refine ax_callVv (As := [.int x1, .int x2]) (st := []) F (tX9_ages F.2.2.2.2.2.2.1 _ _  _ _ _ hq1) ob_338 rfl kc_X9_ages kz_X9 ki_X9_ages ks_X9_ages km_X9_169 ⟨kn_X9_ages, rfl, rfl, Nat.le_of_ble_eq_true rfl, Nat.le_of_ble_eq_true rfl⟩ rfl (Nat.le_of_ble_eq_true rfl) dX9_rounds_3 ?_
  refine ax_aload_n F dX9_rounds_6 rfl ?_
  refine ax_iload_n F dX9_rounds_7 rfl ?_
  refine ax_iload_n F dX9_rounds_8 rfl ?_
  obtain ⟨r2, M2, hq2, h⟩ := cq_some0 h
  refine ax_callVi (As := [.int x1, .int x2]) (st := []) F (tX9_oldest F.2.2.2.2.2.2.1 _ _  _ _ _ hq2) ob_338 rfl kc_X9_oldest kz_X9 ki_X9_oldest ks_X9_oldest km_X9_173 ⟨kn_X9_oldest, rfl, rfl, Nat.le_of_ble_eq_true rfl, Nat.le_of_ble_eq_true rfl⟩ rfl (Nat.le_of_ble_eq_true rfl) dX9_rounds_9 ?_
  refine ax_istore_n F dX9_rounds_12 (by decide) rfl ?_
  refine ax_iload_n F dX9_rounds_13 rfl ?_
  refine ax_iconst (v := (-1 : Int32)) F dX9_rounds_14 (by decide) ?_
  refine ax_icmp_ne (t := 20) F dX9_rounds_15 (by decide) (fun hc => ?_) (fun hc => ?_)
  · have h := it_neg0 h hc
    refine ax_aload_n F dX9_rounds_20 rfl ?_
    refine ax_get (v := .ref (ad 339)) F ob_338 rfl inGX9 0 (by decide) rfl kf_X9_7 rfl dX9_rounds_21 ?_
    refine ax_iload_n F dX9_rounds_24 rfl ?_
    refine ax_bipush (v := (10 : Int32)) F dX9_rounds_25 (by decide) ?_
    refine ax_iadd F dX9_rounds_27 ?_
    refine ax_iconst (v := (5 : Int32)) F dX9_rounds_28 (by decide) ?_
    refine ax_iload_n F dX9_rounds_29 rfl ?_
    refine ax_imul F dX9_rounds_30 ?_
    refine ax_iadd F dX9_rounds_31 ?_
    refine ax_iload_n F dX9_rounds_32 rfl ?_
    refine ax_iadd F dX9_rounds_33 ?_
    obtain ⟨hg, h⟩ := gd_some0 h
    refine ax_iald F ar_339 hg dX9_rounds_34 ?_
    refine ax_istore F dX9_rounds_35 (by decide) rfl ?_
    refine ax_aload_n F dX9_rounds_37 rfl ?_
    refine ax_iload_n F dX9_rounds_38 rfl ?_
    refine ax_iload_n F dX9_rounds_39 rfl ?_
    refine ax_iload_n F dX9_rounds_40 rfl ?_
    obtain ⟨r3, M3, hq3, h⟩ := cq_some0 h
    refine ax_callVv (As := [.int x1, .int x2, .int r2]) (st := []) F (tX9_strike F.2.2.2.2.2.2.1 _ _ _  _ _ _ hq3) ob_338 rfl kc_X9_strike kz_X9 ki_X9_strike ks_X9_strike km_X9_120 ⟨kn_X9_strike, rfl, rfl, Nat.le_of_ble_eq_true rfl, Nat.le_of_ble_eq_true rfl⟩ rfl (Nat.le_of_ble_eq_true rfl) dX9_rounds_41 ?_
    refine ax_aload_n F dX9_rounds_44 rfl ?_
    refine ax_iload_n F dX9_rounds_45 rfl ?_
    refine ax_iload F dX9_rounds_46 rfl ?_
    obtain ⟨r4, M4, hq4, h⟩ := cq_some0 h
    refine ax_callVi (As := [.int x1, .int (M2 339 (ix (((x1 + (10 : Int32)) + ((5 : Int32) * x2)) + r2)))]) (st := []) F (tX9_isDead F.2.2.2.2.2.2.1 _ _  _ _ _ hq4) ob_338 rfl kc_X9_isDead kz_X9 ki_X9_isDead ks_X9_isDead km_X9_176 ⟨kn_X9_isDead, rfl, rfl, Nat.le_of_ble_eq_true rfl, Nat.le_of_ble_eq_true rfl⟩ rfl (Nat.le_of_ble_eq_true rfl) dX9_rounds_48 ?_
    refine ax_if_ne (t := 139) F dX9_rounds_51 (by decide) (fun hc => ?_) (fun hc => ?_)
    · have h := it_neg0 h hc
      refine ax_iload F dX9_rounds_139 rfl ?_
      obtain ⟨h1, h2⟩ := rt_some0 h
      subst h1; subst h2
      exact ax_iret F dX9_rounds_141
    · have h := it_pos0 h hc
      refine ax_aload_n F dX9_rounds_54 rfl ?_
      refine ax_get (v := .ref (ad 348)) F ob_338 rfl inGX9 20 (by decide) rfl kf_X9_38 rfl dX9_rounds_55 ?_
      refine ax_iconst (v := (0 : Int32)) F dX9_rounds_58 (by decide) ?_
      refine ax_iconst (v := (0 : Int32)) F dX9_rounds_59 (by decide) ?_
      refine ax_iast F ar_348 (by decide) dX9_rounds_60 ?_
      refine ax_aload_n F dX9_rounds_61 rfl ?_
      refine ax_get (v := .ref (ad 348)) F ob_338 rfl inGX9 20 (by decide) rfl kf_X9_38 rfl dX9_rounds_62 ?_
      refine ax_iconst (v := (1 : Int32)) F dX9_rounds_65 (by decide) ?_
      refine ax_iconst (v := (0 : Int32)) F dX9_rounds_66 (by decide) ?_
      refine ax_iast F ar_348 (by decide) dX9_rounds_67 ?_
      refine ax_aload_n F dX9_rounds_68 rfl ?_
      refine ax_iconst (v := (0 : Int32)) F dX9_rounds_69 (by decide) ?_
      refine ax_iload_n F dX9_rounds_70 rfl ?_
      refine ax_iconst (v := (0 : Int32)) F dX9_rounds_71 (by decide) ?_
      obtain ⟨r5, M5, hq5, h⟩ := cq_some0 h
      refine ax_callVv (As := [.int (0 : Int32), .int x2, .int (0 : Int32)]) (st := []) F (tX9_send F.2.2.2.2.2.2.1 _ _ _  _ _ _ hq5) ob_338 rfl kc_X9_send kz_X9 ki_X9_send ks_X9_send km_X9_163 ⟨kn_X9_send, rfl, rfl, Nat.le_of_ble_eq_true rfl, Nat.le_of_ble_eq_true rfl⟩ rfl (Nat.le_of_ble_eq_true rfl) dX9_rounds_72 ?_
      refine ax_aload_n F dX9_rounds_75 rfl ?_
      refine ax_get (v := .int (M5 338 4)) F ob_338 rfl inGX9 4 (by decide) rfl kf_X9_58 rfl dX9_rounds_76 ?_
      refine ax_iload_n F dX9_rounds_79 rfl ?_
      obtain ⟨r6, M6, hq6, h⟩ := cq_some0 h
      refine ax_callSi (As := [.int (M5 338 4), .int x2]) (st := []) F (tX9_has F.2.2.2.2.2.2.1 _ _  _ _ _ hq6) kc_X9_has kz_X9 kt_X9_has km_X9_152 ⟨kn_X9_has, rfl, rfl, Nat.le_of_ble_eq_true rfl, Nat.le_of_ble_eq_true rfl⟩ rfl (Nat.le_of_ble_eq_true rfl) dX9_rounds_80 ?_
      refine ax_if_ne (t := 93) F dX9_rounds_83 (by decide) (fun hc => ?_) (fun hc => ?_)
      · have h := it_neg0 h hc
        refine ax_aload_n F dX9_rounds_93 rfl ?_
        refine ax_get (v := .int (M6 338 4)) F ob_338 rfl inGX9 4 (by decide) rfl kf_X9_58 rfl dX9_rounds_94 ?_
        refine ax_iload F dX9_rounds_97 rfl ?_
        obtain ⟨r7, M7, hq7, h⟩ := cq_some0 h
        refine ax_callSi (As := [.int (M6 338 4), .int (M2 339 (ix (((x1 + (10 : Int32)) + ((5 : Int32) * x2)) + r2)))]) (st := []) F (tX9_has F.2.2.2.2.2.2.1 _ _  _ _ _ hq7) kc_X9_has kz_X9 kt_X9_has km_X9_152 ⟨kn_X9_has, rfl, rfl, Nat.le_of_ble_eq_true rfl, Nat.le_of_ble_eq_true rfl⟩ rfl (Nat.le_of_ble_eq_true rfl) dX9_rounds_99 ?_
        refine ax_if_eq (t := 116) F dX9_rounds_102 (by decide) (fun hc => ?_) (fun hc => ?_)
        · have h := it_pos0 h hc
          refine ax_aload_n F dX9_rounds_116 rfl ?_
          refine ax_iload_n F dX9_rounds_117 rfl ?_
          refine ax_iconst (v := (1 : Int32)) F dX9_rounds_118 (by decide) ?_
          refine ax_iload F dX9_rounds_119 rfl ?_
          obtain ⟨r8, M8, hq8, h⟩ := cq_some0 h
          refine ax_callVv (As := [.int x1, .int (1 : Int32), .int (M2 339 (ix (((x1 + (10 : Int32)) + ((5 : Int32) * x2)) + r2)))]) (st := []) F (tX9_sends F.2.2.2.2.2.2.1 _ _ _  _ _ _ hq8) ob_338 rfl kc_X9_sends kz_X9 ki_X9_sends ks_X9_sends km_X9_179 ⟨kn_X9_sends, rfl, rfl, Nat.le_of_ble_eq_true rfl, Nat.le_of_ble_eq_true rfl⟩ rfl (Nat.le_of_ble_eq_true rfl) dX9_rounds_121 ?_
          refine ax_aload_n F dX9_rounds_124 rfl ?_
          refine ax_iload_n F dX9_rounds_125 rfl ?_
          refine ax_iconst (v := (1 : Int32)) F dX9_rounds_126 (by decide) ?_
          refine ax_iload F dX9_rounds_127 rfl ?_
          obtain ⟨r9, M9, hq9, h⟩ := cq_some0 h
          refine ax_callVv (As := [.int x1, .int (1 : Int32), .int (M2 339 (ix (((x1 + (10 : Int32)) + ((5 : Int32) * x2)) + r2)))]) (st := []) F (tX9_takes F.2.2.2.2.2.2.1 _ _ _  _ _ _ hq9) ob_338 rfl kc_X9_takes kz_X9 ki_X9_takes ks_X9_takes km_X9_182 ⟨kn_X9_takes, rfl, rfl, Nat.le_of_ble_eq_true rfl, Nat.le_of_ble_eq_true rfl⟩ rfl (Nat.le_of_ble_eq_true rfl) dX9_rounds_129 ?_
          refine ax_aload_n F dX9_rounds_132 rfl ?_
          refine ax_iload_n F dX9_rounds_133 rfl ?_
          refine ax_iconst (v := (0 : Int32)) F dX9_rounds_134 (by decide) ?_
          refine ax_iload_n F dX9_rounds_135 rfl ?_
          obtain ⟨r10, M10, hq10, h⟩ := cq_some0 h
          refine ax_callVv (As := [.int x1, .int (0 : Int32), .int x2]) (st := []) F (tX9_takes F.2.2.2.2.2.2.1 _ _ _  _ _ _ hq10) ob_338 rfl kc_X9_takes kz_X9 ki_X9_takes ks_X9_takes km_X9_182 ⟨kn_X9_takes, rfl, rfl, Nat.le_of_ble_eq_true rfl, Nat.le_of_ble_eq_true rfl⟩ rfl (Nat.le_of_ble_eq_true rfl) dX9_rounds_136 ?_
          refine ax_iload F dX9_rounds_139 rfl ?_
          obtain ⟨h1, h2⟩ := rt_some0 h
          subst h1; subst h2
          exact ax_iret F dX9_rounds_141
        · have h := it_neg0 h hc
          refine ax_aload_n F dX9_rounds_105 rfl ?_
          refine ax_iconst (v := (1 : Int32)) F dX9_rounds_106 (by decide) ?_
          refine ax_iload F dX9_rounds_107 rfl ?_
          refine ax_iconst (v := (0 : Int32)) F dX9_rounds_109 (by decide) ?_
          obtain ⟨r11, M11, hq11, h⟩ := cq_some0 h
          refine ax_callVv (As := [.int (1 : Int32), .int (M2 339 (ix (((x1 + (10 : Int32)) + ((5 : Int32) * x2)) + r2))), .int (0 : Int32)]) (st := []) F (tX9_send F.2.2.2.2.2.2.1 _ _ _  _ _ _ hq11) ob_338 rfl kc_X9_send kz_X9 ki_X9_send ks_X9_send km_X9_163 ⟨kn_X9_send, rfl, rfl, Nat.le_of_ble_eq_true rfl, Nat.le_of_ble_eq_true rfl⟩ rfl (Nat.le_of_ble_eq_true rfl) dX9_rounds_110 ?_
          refine ax_goto (t := 124) F dX9_rounds_113 (by decide) ?_
          refine ax_aload_n F dX9_rounds_124 rfl ?_
          refine ax_iload_n F dX9_rounds_125 rfl ?_
          refine ax_iconst (v := (1 : Int32)) F dX9_rounds_126 (by decide) ?_
          refine ax_iload F dX9_rounds_127 rfl ?_
          obtain ⟨r12, M12, hq12, h⟩ := cq_some0 h
          refine ax_callVv (As := [.int x1, .int (1 : Int32), .int (M2 339 (ix (((x1 + (10 : Int32)) + ((5 : Int32) * x2)) + r2)))]) (st := []) F (tX9_takes F.2.2.2.2.2.2.1 _ _ _  _ _ _ hq12) ob_338 rfl kc_X9_takes kz_X9 ki_X9_takes ks_X9_takes km_X9_182 ⟨kn_X9_takes, rfl, rfl, Nat.le_of_ble_eq_true rfl, Nat.le_of_ble_eq_true rfl⟩ rfl (Nat.le_of_ble_eq_true rfl) dX9_rounds_129 ?_
          refine ax_aload_n F dX9_rounds_132 rfl ?_
          refine ax_iload_n F dX9_rounds_133 rfl ?_
          refine ax_iconst (v := (0 : Int32)) F dX9_rounds_134 (by decide) ?_
          refine ax_iload_n F dX9_rounds_135 rfl ?_
          obtain ⟨r13, M13, hq13, h⟩ := cq_some0 h
          refine ax_callVv (As := [.int x1, .int (0 : Int32), .int x2]) (st := []) F (tX9_takes F.2.2.2.2.2.2.1 _ _ _  _ _ _ hq13) ob_338 rfl kc_X9_takes kz_X9 ki_X9_takes ks_X9_takes km_X9_182 ⟨kn_X9_takes, rfl, rfl, Nat.le_of_ble_eq_true rfl, Nat.le_of_ble_eq_true rfl⟩ rfl (Nat.le_of_ble_eq_true rfl) dX9_rounds_136 ?_
          refine ax_iload F dX9_rounds_139 rfl ?_
          obtain ⟨h1, h2⟩ := rt_some0 h
          subst h1; subst h2
          exact ax_iret F dX9_rounds_141
      · have h := it_pos0 h hc
        refine ax_aload_n F dX9_rounds_86 rfl ?_
        refine ax_iload_n F dX9_rounds_87 rfl ?_
        refine ax_iconst (v := (0 : Int32)) F dX9_rounds_88 (by decide) ?_
        refine ax_iload_n F dX9_rounds_89 rfl ?_
        obtain ⟨r14, M14, hq14, h⟩ := cq_some0 h
        refine ax_callVv (As := [.int x1, .int (0 : Int32), .int x2]) (st := []) F (tX9_sends F.2.2.2.2.2.2.1 _ _ _  _ _ _ hq14) ob_338 rfl kc_X9_sends kz_X9 ki_X9_sends ks_X9_sends km_X9_179 ⟨kn_X9_sends, rfl, rfl, Nat.le_of_ble_eq_true rfl, Nat.le_of_ble_eq_true rfl⟩ rfl (Nat.le_of_ble_eq_true rfl) dX9_rounds_90 ?_
        refine ax_aload_n F dX9_rounds_93 rfl ?_
        refine ax_get (v := .int (M14 338 4)) F ob_338 rfl inGX9 4 (by decide) rfl kf_X9_58 rfl dX9_rounds_94 ?_
        refine ax_iload F dX9_rounds_97 rfl ?_
        obtain ⟨r15, M15, hq15, h⟩ := cq_some0 h
        refine ax_callSi (As := [.int (M14 338 4), .int (M2 339 (ix (((x1 + (10 : Int32)) + ((5 : Int32) * x2)) + r2)))]) (st := []) F (tX9_has F.2.2.2.2.2.2.1 _ _  _ _ _ hq15) kc_X9_has kz_X9 kt_X9_has km_X9_152 ⟨kn_X9_has, rfl, rfl, Nat.le_of_ble_eq_true rfl, Nat.le_of_ble_eq_true rfl⟩ rfl (Nat.le_of_ble_eq_true rfl) dX9_rounds_99 ?_
        refine ax_if_eq (t := 116) F dX9_rounds_102 (by decide) (fun hc => ?_) (fun hc => ?_)
        · have h := it_pos0 h hc
          refine ax_aload_n F dX9_rounds_116 rfl ?_
          refine ax_iload_n F dX9_rounds_117 rfl ?_
          refine ax_iconst (v := (1 : Int32)) F dX9_rounds_118 (by decide) ?_
          refine ax_iload F dX9_rounds_119 rfl ?_
          obtain ⟨r16, M16, hq16, h⟩ := cq_some0 h
          refine ax_callVv (As := [.int x1, .int (1 : Int32), .int (M2 339 (ix (((x1 + (10 : Int32)) + ((5 : Int32) * x2)) + r2)))]) (st := []) F (tX9_sends F.2.2.2.2.2.2.1 _ _ _  _ _ _ hq16) ob_338 rfl kc_X9_sends kz_X9 ki_X9_sends ks_X9_sends km_X9_179 ⟨kn_X9_sends, rfl, rfl, Nat.le_of_ble_eq_true rfl, Nat.le_of_ble_eq_true rfl⟩ rfl (Nat.le_of_ble_eq_true rfl) dX9_rounds_121 ?_
          refine ax_aload_n F dX9_rounds_124 rfl ?_
          refine ax_iload_n F dX9_rounds_125 rfl ?_
          refine ax_iconst (v := (1 : Int32)) F dX9_rounds_126 (by decide) ?_
          refine ax_iload F dX9_rounds_127 rfl ?_
          obtain ⟨r17, M17, hq17, h⟩ := cq_some0 h
          refine ax_callVv (As := [.int x1, .int (1 : Int32), .int (M2 339 (ix (((x1 + (10 : Int32)) + ((5 : Int32) * x2)) + r2)))]) (st := []) F (tX9_takes F.2.2.2.2.2.2.1 _ _ _  _ _ _ hq17) ob_338 rfl kc_X9_takes kz_X9 ki_X9_takes ks_X9_takes km_X9_182 ⟨kn_X9_takes, rfl, rfl, Nat.le_of_ble_eq_true rfl, Nat.le_of_ble_eq_true rfl⟩ rfl (Nat.le_of_ble_eq_true rfl) dX9_rounds_129 ?_
          refine ax_aload_n F dX9_rounds_132 rfl ?_
          refine ax_iload_n F dX9_rounds_133 rfl ?_
          refine ax_iconst (v := (0 : Int32)) F dX9_rounds_134 (by decide) ?_
          refine ax_iload_n F dX9_rounds_135 rfl ?_
          obtain ⟨r18, M18, hq18, h⟩ := cq_some0 h
          refine ax_callVv (As := [.int x1, .int (0 : Int32), .int x2]) (st := []) F (tX9_takes F.2.2.2.2.2.2.1 _ _ _  _ _ _ hq18) ob_338 rfl kc_X9_takes kz_X9 ki_X9_takes ks_X9_takes km_X9_182 ⟨kn_X9_takes, rfl, rfl, Nat.le_of_ble_eq_true rfl, Nat.le_of_ble_eq_true rfl⟩ rfl (Nat.le_of_ble_eq_true rfl) dX9_rounds_136 ?_
          refine ax_iload F dX9_rounds_139 rfl ?_
          obtain ⟨h1, h2⟩ := rt_some0 h
          subst h1; subst h2
          exact ax_iret F dX9_rounds_141
        · have h := it_neg0 h hc
          refine ax_aload_n F dX9_rounds_105 rfl ?_
          refine ax_iconst (v := (1 : Int32)) F dX9_rounds_106 (by decide) ?_
          refine ax_iload F dX9_rounds_107 rfl ?_
          refine ax_iconst (v := (0 : Int32)) F dX9_rounds_109 (by decide) ?_
          obtain ⟨r19, M19, hq19, h⟩ := cq_some0 h
          refine ax_callVv (As := [.int (1 : Int32), .int (M2 339 (ix (((x1 + (10 : Int32)) + ((5 : Int32) * x2)) + r2))), .int (0 : Int32)]) (st := []) F (tX9_send F.2.2.2.2.2.2.1 _ _ _  _ _ _ hq19) ob_338 rfl kc_X9_send kz_X9 ki_X9_send ks_X9_send km_X9_163 ⟨kn_X9_send, rfl, rfl, Nat.le_of_ble_eq_true rfl, Nat.le_of_ble_eq_true rfl⟩ rfl (Nat.le_of_ble_eq_true rfl) dX9_rounds_110 ?_
          refine ax_goto (t := 124) F dX9_rounds_113 (by decide) ?_
          refine ax_aload_n F dX9_rounds_124 rfl ?_
          refine ax_iload_n F dX9_rounds_125 rfl ?_
          refine ax_iconst (v := (1 : Int32)) F dX9_rounds_126 (by decide) ?_
          refine ax_iload F dX9_rounds_127 rfl ?_
          obtain ⟨r20, M20, hq20, h⟩ := cq_some0 h
          refine ax_callVv (As := [.int x1, .int (1 : Int32), .int (M2 339 (ix (((x1 + (10 : Int32)) + ((5 : Int32) * x2)) + r2)))]) (st := []) F (tX9_takes F.2.2.2.2.2.2.1 _ _ _  _ _ _ hq20) ob_338 rfl kc_X9_takes kz_X9 ki_X9_takes ks_X9_takes km_X9_182 ⟨kn_X9_takes, rfl, rfl, Nat.le_of_ble_eq_true rfl, Nat.le_of_ble_eq_true rfl⟩ rfl (Nat.le_of_ble_eq_true rfl) dX9_rounds_129 ?_
          refine ax_aload_n F dX9_rounds_132 rfl ?_
          refine ax_iload_n F dX9_rounds_133 rfl ?_
          refine ax_iconst (v := (0 : Int32)) F dX9_rounds_134 (by decide) ?_
          refine ax_iload_n F dX9_rounds_135 rfl ?_
          obtain ⟨r21, M21, hq21, h⟩ := cq_some0 h
          refine ax_callVv (As := [.int x1, .int (0 : Int32), .int x2]) (st := []) F (tX9_takes F.2.2.2.2.2.2.1 _ _ _  _ _ _ hq21) ob_338 rfl kc_X9_takes kz_X9 ki_X9_takes ks_X9_takes km_X9_182 ⟨kn_X9_takes, rfl, rfl, Nat.le_of_ble_eq_true rfl, Nat.le_of_ble_eq_true rfl⟩ rfl (Nat.le_of_ble_eq_true rfl) dX9_rounds_136 ?_
          refine ax_iload F dX9_rounds_139 rfl ?_
          obtain ⟨h1, h2⟩ := rt_some0 h
          subst h1; subst h2
          exact ax_iret F dX9_rounds_141
  · have h := it_pos0 h hc
    refine ax_iconst (v := (-1 : Int32)) F dX9_rounds_18 (by decide) ?_
    obtain ⟨h1, h2⟩ := rt_some0 h
    subst h1; subst h2
    exact ax_iret F dX9_rounds_19
def rmX9_cycles : Room := { frames := 4, cells := 0, slots := 0, locals := 100 }
theorem kn_X9_cycles : yX9_cycles.cls ≠ "java/lang/invoke/MethodHandle" ∧ yX9_cycles.cls ≠ "java/lang/invoke/VarHandle" ∧ (parseMethodDescriptor yX9_cycles.desc).map (fun d => d.parameters.length) = some 1 := by decide +kernel
noncomputable def bX9_cycles_0 (x1 : Int32) (M : Mm) : Option (Sst ⊕ Rst) := some (.inl (1, [], [x1, (0 : Int32)], M))
noncomputable def bX9_cycles_1 (x1 : Int32) (x2 : Int32) (M : Mm) : Option (Sst ⊕ Rst) := if (M 338 1) ≤ x2 then (some (.inr ((0 : Int32), M))) else (cl (fX9_isDead x1 x2 M) (fun r1 M1 => if r1 = 0 then (cl (fX9_rounds x1 x2 M1) (fun r2 M2 => some (.inl (1, [], [x1, (x2 + (1 : Int32))], M2)))) else (some (.inl (1, [], [x1, (x2 + (1 : Int32))], M1)))))
noncomputable def stX9_cycles : Sst → Option (Sst ⊕ Rst) := fun q => match q.1 with
  | 0 => bX9_cycles_0 (q.2.2.1.getD 0 0) q.2.2.2
  | 1 => bX9_cycles_1 (q.2.2.1.getD 0 0) (q.2.2.1.getD 1 0) q.2.2.2
  | _ => none
noncomputable def fX9_cycles (x1 : Int32) (M : Mm) : Option Rst := run stX9_cycles (0, [], [x1], M)
def PX9_cycles (p : Program) (l : Launch) (e : Env) (s : State) (m : MethodId) (args : Array Value) (below : List Frame) (meth : Method) (c : Code) (G : va_G) (ad : Nat → Nat) (cs : Nat → ClassId) (zk : Nat → Nat) (r : Int32) (M' : Mm) (n : Nat) : Prop := (∀ (x1 : Int32) (M : Mm), itr stX9_cycles n (0, [], [x1], M) = some (r, M') → AW p l e rmX9_cycles s m args below meth c (MQ below (AQv G ad cs M') args s 0 0 (inA ad)) G ad cs 3 0 [some (.ref (ad 338)), some (.int x1), none] [] M) ∧ (∀ (x1 : Int32) (x2 : Int32) (M : Mm), itr stX9_cycles n (1, [], [x1, x2], M) = some (r, M') → AW p l e rmX9_cycles s m args below meth c (MQ below (AQv G ad cs M') args s 0 0 (inA ad)) G ad cs 3 2 [some (.ref (ad 338)), some (.int x1), some (.int x2)] [] M)
set_option maxRecDepth 100000 in
set_option maxHeartbeats 4000000 in
theorem wX9_cycles_0 {p : Program} {l : Launch} {e : Env} {s : State} {m : MethodId} {args : Array Value} {below : List Frame} {meth : Method} {c : Code} {G : va_G} {ad : Nat → Nat} {cs : Nat → ClassId} {zk zv : Nat → Nat} {r : Int32} {M' : Mm} {n : Nat} (F : Fx G ad cs zk zv p m meth c cX9_cycles 3 none s args RX9) (IH : PX9_cycles p l e s m args below meth c G ad cs zk r M' n) (x1 : Int32) (M : Mm) (h : (bX9_cycles_0 x1 M).bind (fun q => match q with | .inl s' => itr stX9_cycles n s' | .inr r => some r) = some (r, M'))  : AW p l e rmX9_cycles s m args below meth c (MQ below (AQv G ad cs M') args s 0 0 (inA ad)) G ad cs 3 0 [some (.ref (ad 338)), some (.int x1), none] [] M := by
  unfold bX9_cycles_0 at h
  refine ax_iconst (v := (0 : Int32)) F dX9_cycles_0 (by decide) ?_
  refine ax_istore_n F dX9_cycles_1 (by decide) rfl ?_
  exact IH.2 _ _ _ h 
set_option maxRecDepth 100000 in
set_option maxHeartbeats 4000000 in
theorem wX9_cycles_1 {p : Program} {l : Launch} {e : Env} {s : State} {m : MethodId} {args : Array Value} {below : List Frame} {meth : Method} {c : Code} {G : va_G} {ad : Nat → Nat} {cs : Nat → ClassId} {zk zv : Nat → Nat} {r : Int32} {M' : Mm} {n : Nat} (F : Fx G ad cs zk zv p m meth c cX9_cycles 3 none s args RX9) (IH : PX9_cycles p l e s m args below meth c G ad cs zk r M' n) (x1 : Int32) (x2 : Int32) (M : Mm) (h : (bX9_cycles_1 x1 x2 M).bind (fun q => match q with | .inl s' => itr stX9_cycles n s' | .inr r => some r) = some (r, M'))  : AW p l e rmX9_cycles s m args below meth c (MQ below (AQv G ad cs M') args s 0 0 (inA ad)) G ad cs 3 2 [some (.ref (ad 338)), some (.int x1), some (.int x2)] [] M := by
  unfold bX9_cycles_1 at h
  refine ax_iload_n F dX9_cycles_2 rfl ?_
  refine ax_aload_n F dX9_cycles_3 rfl ?_
  refine ax_get (v := .int (M 338 1)) F ob_338 rfl inGX9 1 (by decide) rfl kf_X9_48 rfl dX9_cycles_4 ?_
  refine ax_icmp_ge (t := 32) F dX9_cycles_7 (by decide) (fun hc => ?_) (fun hc => ?_)
  · have h := it_pos h hc
    obtain ⟨h1, h2⟩ := rt_some h
    subst h2
    exact ax_vret F dX9_cycles_32
  · have h := it_neg h hc
    refine ax_aload_n F dX9_cycles_10 rfl ?_
    refine ax_iload_n F dX9_cycles_11 rfl ?_
    refine ax_iload_n F dX9_cycles_12 rfl ?_
    obtain ⟨r1, M1, hq1, h⟩ := cq_some h
    refine ax_callVi (As := [.int x1, .int x2]) (st := []) F (tX9_isDead F.2.2.2.2.2.2.1 _ _  _ _ _ hq1) ob_338 rfl kc_X9_isDead kz_X9 ki_X9_isDead ks_X9_isDead km_X9_176 ⟨kn_X9_isDead, rfl, rfl, Nat.le_of_ble_eq_true rfl, Nat.le_of_ble_eq_true rfl⟩ rfl (Nat.le_of_ble_eq_true rfl) dX9_cycles_13 ?_
    refine ax_if_ne (t := 26) F dX9_cycles_16 (by decide) (fun hc => ?_) (fun hc => ?_)
    · have h := it_neg h hc
      refine ax_iinc (v := (1 : Int32)) F dX9_cycles_26 rfl (by decide) (by decide) rfl ?_
      refine ax_goto (t := 2) F dX9_cycles_29 (by decide) ?_
      exact IH.2 _ _ _ h 
    · have h := it_pos h hc
      refine ax_aload_n F dX9_cycles_19 rfl ?_
      refine ax_iload_n F dX9_cycles_20 rfl ?_
      refine ax_iload_n F dX9_cycles_21 rfl ?_
      obtain ⟨r2, M2, hq2, h⟩ := cq_some h
      refine ax_callVi (As := [.int x1, .int x2]) (st := []) F (tX9_rounds F.2.2.2.2.2.2.1 _ _  _ _ _ hq2) ob_338 rfl kc_X9_rounds kz_X9 ki_X9_rounds ks_X9_rounds km_X9_185 ⟨kn_X9_rounds, rfl, rfl, Nat.le_of_ble_eq_true rfl, Nat.le_of_ble_eq_true rfl⟩ rfl (Nat.le_of_ble_eq_true rfl) dX9_cycles_22 ?_
      refine ax_pop F dX9_cycles_25 rfl ?_
      refine ax_iinc (v := (1 : Int32)) F dX9_cycles_26 rfl (by decide) (by decide) rfl ?_
      refine ax_goto (t := 2) F dX9_cycles_29 (by decide) ?_
      exact IH.2 _ _ _ h 
set_option maxRecDepth 100000 in
set_option maxHeartbeats 4000000 in
theorem wX9_cycles {p : Program} {l : Launch} {e : Env} {s : State} {m : MethodId} {args : Array Value} {below : List Frame} {meth : Method} {c : Code} {G : va_G} {ad : Nat → Nat} {cs : Nat → ClassId} {zk zv : Nat → Nat} {r : Int32} {M' : Mm} (F : Fx G ad cs zk zv p m meth c cX9_cycles 3 none s args RX9) (n : Nat) : PX9_cycles p l e s m args below meth c G ad cs zk r M' n := by
  induction n with
  | zero => exact ⟨(fun x1 M h => by cases h), (fun x1 x2 M h => by cases h)⟩
  | succ n ih =>
    exact ⟨fun x1 M h  => wX9_cycles_0 F ih x1 M h ,
      fun x1 x2 M h  => wX9_cycles_1 F ih x1 x2 M h ⟩
set_option maxRecDepth 100000 in
set_option maxHeartbeats 4000000 in
theorem tX9_cycles {l : Launch} {G : va_G} {ad : Nat → Nat} {cs : Nat → ClassId} {zk zv : Nat → Nat} (hinj : inj ad) (x1 : Int32)  (M : Mm) (r : Int32) (M' : Mm) (h : fX9_cycles x1 M = some (r, M')) : Met l yX9_cycles (tgW yX9_cycles cX9_cycles 3 none) rmX9_cycles (APre G ad cs zk zv [.ref (ad 338), .int x1] M) (AQv G ad cs M') 0 0 (inA ad) := by
  refine met_of (Eq.refl true) (Nat.le_of_ble_eq_true rfl) hinj [some (.ref (ad 338)), some (.int x1), none] rfl ?_
  intro p e s m below meth c F
  replace F : Fx G ad cs zk zv p m meth c cX9_cycles 3 none s _ RX9 := F
  obtain ⟨n, hn⟩ := run_ex h
  exact (wX9_cycles F n).1 x1 M hn 
def rmX9_known : Room := { frames := 2, cells := 0, slots := 0, locals := 43 }
theorem kn_X9_known : yX9_known.cls ≠ "java/lang/invoke/MethodHandle" ∧ yX9_known.cls ≠ "java/lang/invoke/VarHandle" ∧ (parseMethodDescriptor yX9_known.desc).map (fun d => d.parameters.length) = some 2 := by decide +kernel
noncomputable def bX9_known_0 (x1 : Int32) (x2 : Int32) (M : Mm) : Option (Sst ⊕ Rst) := some (.inl (1, [], [x1, x2, (0 : Int32), (0 : Int32)], M))
noncomputable def bX9_known_1 (x1 : Int32) (x2 : Int32) (x3 : Int32) (x4 : Int32) (M : Mm) : Option (Sst ⊕ Rst) := if (M 338 1) ≤ x4 then (some (.inr (x3, M))) else (if x4 = x2 then (some (.inl (1, [], [x1, x2, (x3 + (0 : Int32)), (x4 + (1 : Int32))], M))) else (cl (fX9_isDead x1 x4 M) (fun r1 M1 => if r1 = 0 then (cl (fX9_placeOf x1 x4 x2 M1) (fun r2 M2 => if r2 = (-1 : Int32) then (some (.inl (1, [], [x1, x2, (x3 + (0 : Int32)), (x4 + (1 : Int32))], M2))) else (some (.inl (1, [], [x1, x2, (x3 + (1 : Int32)), (x4 + (1 : Int32))], M2))))) else (some (.inl (1, [], [x1, x2, (x3 + (0 : Int32)), (x4 + (1 : Int32))], M1))))))
noncomputable def stX9_known : Sst → Option (Sst ⊕ Rst) := fun q => match q.1 with
  | 0 => bX9_known_0 (q.2.2.1.getD 0 0) (q.2.2.1.getD 1 0) q.2.2.2
  | 1 => bX9_known_1 (q.2.2.1.getD 0 0) (q.2.2.1.getD 1 0) (q.2.2.1.getD 2 0) (q.2.2.1.getD 3 0) q.2.2.2
  | _ => none
noncomputable def fX9_known (x1 : Int32) (x2 : Int32) (M : Mm) : Option Rst := run stX9_known (0, [], [x1, x2], M)
def PX9_known (p : Program) (l : Launch) (e : Env) (s : State) (m : MethodId) (args : Array Value) (below : List Frame) (meth : Method) (c : Code) (G : va_G) (ad : Nat → Nat) (cs : Nat → ClassId) (zk : Nat → Nat) (r : Int32) (M' : Mm) (n : Nat) : Prop := (∀ (x1 : Int32) (x2 : Int32) (M : Mm), itr stX9_known n (0, [], [x1, x2], M) = some (r, M') → AW p l e rmX9_known s m args below meth c (MQ below (AQi G ad cs r M') args s 0 0 (inA ad)) G ad cs 5 0 [some (.ref (ad 338)), some (.int x1), some (.int x2), none, none] [] M) ∧ (∀ (x1 : Int32) (x2 : Int32) (x3 : Int32) (x4 : Int32) (M : Mm), itr stX9_known n (1, [], [x1, x2, x3, x4], M) = some (r, M') → AW p l e rmX9_known s m args below meth c (MQ below (AQi G ad cs r M') args s 0 0 (inA ad)) G ad cs 5 5 [some (.ref (ad 338)), some (.int x1), some (.int x2), some (.int x3), some (.int x4)] [] M)
set_option maxRecDepth 100000 in
set_option maxHeartbeats 4000000 in
theorem wX9_known_0 {p : Program} {l : Launch} {e : Env} {s : State} {m : MethodId} {args : Array Value} {below : List Frame} {meth : Method} {c : Code} {G : va_G} {ad : Nat → Nat} {cs : Nat → ClassId} {zk zv : Nat → Nat} {r : Int32} {M' : Mm} {n : Nat} (F : Fx G ad cs zk zv p m meth c cX9_known 5 (some .int) s args RX9) (IH : PX9_known p l e s m args below meth c G ad cs zk r M' n) (x1 : Int32) (x2 : Int32) (M : Mm) (h : (bX9_known_0 x1 x2 M).bind (fun q => match q with | .inl s' => itr stX9_known n s' | .inr r => some r) = some (r, M'))  : AW p l e rmX9_known s m args below meth c (MQ below (AQi G ad cs r M') args s 0 0 (inA ad)) G ad cs 5 0 [some (.ref (ad 338)), some (.int x1), some (.int x2), none, none] [] M := by
  unfold bX9_known_0 at h
  refine ax_iconst (v := (0 : Int32)) F dX9_known_0 (by decide) ?_
  refine ax_istore_n F dX9_known_1 (by decide) rfl ?_
  refine ax_iconst (v := (0 : Int32)) F dX9_known_2 (by decide) ?_
  refine ax_istore F dX9_known_3 (by decide) rfl ?_
  exact IH.2 _ _ _ _ _ h 
set_option maxRecDepth 100000 in
set_option maxHeartbeats 4000000 in
theorem wX9_known_1 {p : Program} {l : Launch} {e : Env} {s : State} {m : MethodId} {args : Array Value} {below : List Frame} {meth : Method} {c : Code} {G : va_G} {ad : Nat → Nat} {cs : Nat → ClassId} {zk zv : Nat → Nat} {r : Int32} {M' : Mm} {n : Nat} (F : Fx G ad cs zk zv p m meth c cX9_known 5 (some .int) s args RX9) (IH : PX9_known p l e s m args below meth c G ad cs zk r M' n) (x1 : Int32) (x2 : Int32) (x3 : Int32) (x4 : Int32) (M : Mm) (h : (bX9_known_1 x1 x2 x3 x4 M).bind (fun q => match q with | .inl s' => itr stX9_known n s' | .inr r => some r) = some (r, M'))  : AW p l e rmX9_known s m args below meth c (MQ below (AQi G ad cs r M') args s 0 0 (inA ad)) G ad cs 5 5 [some (.ref (ad 338)), some (.int x1), some (.int x2), some (.int x3), some (.int x4)] [] M := by
  unfold bX9_known_1 at h
  refine ax_iload F dX9_known_5 rfl ?_
  refine ax_aload_n F dX9_known_7 rfl ?_
  refine ax_get (v := .int (M 338 1)) F ob_338 rfl inGX9 1 (by decide) rfl kf_X9_48 rfl dX9_known_8 ?_
  refine ax_icmp_ge (t := 56) F dX9_known_11 (by decide) (fun hc => ?_) (fun hc => ?_)
  · have h := it_pos h hc
    refine ax_iload_n F dX9_known_56 rfl ?_
    obtain ⟨h1, h2⟩ := rt_some h
    subst h1; subst h2
    exact ax_iret F dX9_known_57
  · have h := it_neg h hc
    refine ax_iload_n F dX9_known_14 rfl ?_
    refine ax_iload F dX9_known_15 rfl ?_
    refine ax_iload_n F dX9_known_17 rfl ?_
    refine ax_icmp_eq (t := 47) F dX9_known_18 (by decide) (fun hc => ?_) (fun hc => ?_)
    · have h := it_pos h hc
      refine ax_iconst (v := (0 : Int32)) F dX9_known_47 (by decide) ?_
      refine ax_iadd F dX9_known_48 ?_
      refine ax_istore_n F dX9_known_49 (by decide) rfl ?_
      refine ax_iinc (v := (1 : Int32)) F dX9_known_50 rfl (by decide) (by decide) rfl ?_
      refine ax_goto (t := 5) F dX9_known_53 (by decide) ?_
      exact IH.2 _ _ _ _ _ h 
    · have h := it_neg h hc
      refine ax_aload_n F dX9_known_21 rfl ?_
      refine ax_iload_n F dX9_known_22 rfl ?_
      refine ax_iload F dX9_known_23 rfl ?_
      obtain ⟨r1, M1, hq1, h⟩ := cq_some h
      refine ax_callVi (As := [.int x1, .int x4]) (st := [.int x3]) F (tX9_isDead F.2.2.2.2.2.2.1 _ _  _ _ _ hq1) ob_338 rfl kc_X9_isDead kz_X9 ki_X9_isDead ks_X9_isDead km_X9_176 ⟨kn_X9_isDead, rfl, rfl, Nat.le_of_ble_eq_true rfl, Nat.le_of_ble_eq_true rfl⟩ rfl (Nat.le_of_ble_eq_true rfl) dX9_known_25 ?_
      refine ax_if_ne (t := 47) F dX9_known_28 (by decide) (fun hc => ?_) (fun hc => ?_)
      · have h := it_neg h hc
        refine ax_iconst (v := (0 : Int32)) F dX9_known_47 (by decide) ?_
        refine ax_iadd F dX9_known_48 ?_
        refine ax_istore_n F dX9_known_49 (by decide) rfl ?_
        refine ax_iinc (v := (1 : Int32)) F dX9_known_50 rfl (by decide) (by decide) rfl ?_
        refine ax_goto (t := 5) F dX9_known_53 (by decide) ?_
        exact IH.2 _ _ _ _ _ h 
      · have h := it_pos h hc
        refine ax_aload_n F dX9_known_31 rfl ?_
        refine ax_iload_n F dX9_known_32 rfl ?_
        refine ax_iload F dX9_known_33 rfl ?_
        refine ax_iload_n F dX9_known_35 rfl ?_
        obtain ⟨r2, M2, hq2, h⟩ := cq_some h
        refine ax_callVi (As := [.int x1, .int x4, .int x2]) (st := [.int x3]) F (tX9_placeOf F.2.2.2.2.2.2.1 _ _ _  _ _ _ hq2) ob_338 rfl kc_X9_placeOf kz_X9 ki_X9_placeOf ks_X9_placeOf km_X9_108 ⟨kn_X9_placeOf, rfl, rfl, Nat.le_of_ble_eq_true rfl, Nat.le_of_ble_eq_true rfl⟩ rfl (Nat.le_of_ble_eq_true rfl) dX9_known_36 ?_
        refine ax_iconst (v := (-1 : Int32)) F dX9_known_39 (by decide) ?_
        refine ax_icmp_eq (t := 47) F dX9_known_40 (by decide) (fun hc => ?_) (fun hc => ?_)
        · have h := it_pos h hc
          refine ax_iconst (v := (0 : Int32)) F dX9_known_47 (by decide) ?_
          refine ax_iadd F dX9_known_48 ?_
          refine ax_istore_n F dX9_known_49 (by decide) rfl ?_
          refine ax_iinc (v := (1 : Int32)) F dX9_known_50 rfl (by decide) (by decide) rfl ?_
          refine ax_goto (t := 5) F dX9_known_53 (by decide) ?_
          exact IH.2 _ _ _ _ _ h 
        · have h := it_neg h hc
          refine ax_iconst (v := (1 : Int32)) F dX9_known_43 (by decide) ?_
          refine ax_goto (t := 48) F dX9_known_44 (by decide) ?_
          refine ax_iadd F dX9_known_48 ?_
          refine ax_istore_n F dX9_known_49 (by decide) rfl ?_
          refine ax_iinc (v := (1 : Int32)) F dX9_known_50 rfl (by decide) (by decide) rfl ?_
          refine ax_goto (t := 5) F dX9_known_53 (by decide) ?_
          exact IH.2 _ _ _ _ _ h 
set_option maxRecDepth 100000 in
set_option maxHeartbeats 4000000 in
theorem wX9_known {p : Program} {l : Launch} {e : Env} {s : State} {m : MethodId} {args : Array Value} {below : List Frame} {meth : Method} {c : Code} {G : va_G} {ad : Nat → Nat} {cs : Nat → ClassId} {zk zv : Nat → Nat} {r : Int32} {M' : Mm} (F : Fx G ad cs zk zv p m meth c cX9_known 5 (some .int) s args RX9) (n : Nat) : PX9_known p l e s m args below meth c G ad cs zk r M' n := by
  induction n with
  | zero => exact ⟨(fun x1 x2 M h => by cases h), (fun x1 x2 x3 x4 M h => by cases h)⟩
  | succ n ih =>
    exact ⟨fun x1 x2 M h  => wX9_known_0 F ih x1 x2 M h ,
      fun x1 x2 x3 x4 M h  => wX9_known_1 F ih x1 x2 x3 x4 M h ⟩
set_option maxRecDepth 100000 in
set_option maxHeartbeats 4000000 in
theorem tX9_known {l : Launch} {G : va_G} {ad : Nat → Nat} {cs : Nat → ClassId} {zk zv : Nat → Nat} (hinj : inj ad) (x1 : Int32) (x2 : Int32)  (M : Mm) (r : Int32) (M' : Mm) (h : fX9_known x1 x2 M = some (r, M')) : Met l yX9_known (tgW yX9_known cX9_known 5 (some .int)) rmX9_known (APre G ad cs zk zv [.ref (ad 338), .int x1, .int x2] M) (AQi G ad cs r M') 0 0 (inA ad) := by
  refine met_of (Eq.refl true) (Nat.le_of_ble_eq_true rfl) hinj [some (.ref (ad 338)), some (.int x1), some (.int x2), none, none] rfl ?_
  intro p e s m below meth c F
  replace F : Fx G ad cs zk zv p m meth c cX9_known 5 (some .int) s _ RX9 := F
  obtain ⟨n, hn⟩ := run_ex h
  exact (wX9_known F n).1 x1 x2 M hn 
def rmX9_viewOf : Room := { frames := 0, cells := 0, slots := 0, locals := 0 }
theorem kn_X9_viewOf : yX9_viewOf.cls ≠ "java/lang/invoke/MethodHandle" ∧ yX9_viewOf.cls ≠ "java/lang/invoke/VarHandle" ∧ (parseMethodDescriptor yX9_viewOf.desc).map (fun d => d.parameters.length) = some 1 := by decide +kernel
noncomputable def bX9_viewOf_0 (x1 : Int32) (M : Mm) : Option (Sst ⊕ Rst) := some (.inl (1, [], [x1, (0 : Int32), (0 : Int32)], M))
noncomputable def bX9_viewOf_1 (x1 : Int32) (x2 : Int32) (x3 : Int32) (M : Mm) : Option (Sst ⊕ Rst) := gd (okI ((2 : Int32) + x1) 1080) (if (M 339 (ix ((2 : Int32) + x1))) ≤ x3 then (some (.inr (x2, M))) else (gd (okI (((10 : Int32) + ((5 : Int32) * x1)) + x3) 1080) (some (.inl (1, [], [x1, (x2 ||| (ish (1 : Int32) (M 339 (ix (((10 : Int32) + ((5 : Int32) * x1)) + x3))))), (x3 + (1 : Int32))], M)))))
noncomputable def stX9_viewOf : Sst → Option (Sst ⊕ Rst) := fun q => match q.1 with
  | 0 => bX9_viewOf_0 (q.2.2.1.getD 0 0) q.2.2.2
  | 1 => bX9_viewOf_1 (q.2.2.1.getD 0 0) (q.2.2.1.getD 1 0) (q.2.2.1.getD 2 0) q.2.2.2
  | _ => none
noncomputable def fX9_viewOf (x1 : Int32) (M : Mm) : Option Rst := run stX9_viewOf (0, [], [x1], M)
def PX9_viewOf (p : Program) (l : Launch) (e : Env) (s : State) (m : MethodId) (args : Array Value) (below : List Frame) (meth : Method) (c : Code) (G : va_G) (ad : Nat → Nat) (cs : Nat → ClassId) (zk : Nat → Nat) (r : Int32) (M' : Mm) (n : Nat) : Prop := (∀ (x1 : Int32) (M : Mm), itr stX9_viewOf n (0, [], [x1], M) = some (r, M') → AW p l e rmX9_viewOf s m args below meth c (MQ below (AQi G ad cs r M') args s 0 0 (inA ad)) G ad cs 4 0 [some (.ref (ad 338)), some (.int x1), none, none] [] M) ∧ (∀ (x1 : Int32) (x2 : Int32) (x3 : Int32) (M : Mm), itr stX9_viewOf n (1, [], [x1, x2, x3], M) = some (r, M') → AW p l e rmX9_viewOf s m args below meth c (MQ below (AQi G ad cs r M') args s 0 0 (inA ad)) G ad cs 4 4 [some (.ref (ad 338)), some (.int x1), some (.int x2), some (.int x3)] [] M)
set_option maxRecDepth 100000 in
set_option maxHeartbeats 4000000 in
theorem wX9_viewOf_0 {p : Program} {l : Launch} {e : Env} {s : State} {m : MethodId} {args : Array Value} {below : List Frame} {meth : Method} {c : Code} {G : va_G} {ad : Nat → Nat} {cs : Nat → ClassId} {zk zv : Nat → Nat} {r : Int32} {M' : Mm} {n : Nat} (F : Fx G ad cs zk zv p m meth c cX9_viewOf 4 (some .int) s args RX9) (IH : PX9_viewOf p l e s m args below meth c G ad cs zk r M' n) (x1 : Int32) (M : Mm) (h : (bX9_viewOf_0 x1 M).bind (fun q => match q with | .inl s' => itr stX9_viewOf n s' | .inr r => some r) = some (r, M'))  : AW p l e rmX9_viewOf s m args below meth c (MQ below (AQi G ad cs r M') args s 0 0 (inA ad)) G ad cs 4 0 [some (.ref (ad 338)), some (.int x1), none, none] [] M := by
  unfold bX9_viewOf_0 at h
  refine ax_iconst (v := (0 : Int32)) F dX9_viewOf_0 (by decide) ?_
  refine ax_istore_n F dX9_viewOf_1 (by decide) rfl ?_
  refine ax_iconst (v := (0 : Int32)) F dX9_viewOf_2 (by decide) ?_
  refine ax_istore_n F dX9_viewOf_3 (by decide) rfl ?_
  exact IH.2 _ _ _ _ h 
set_option maxRecDepth 100000 in
set_option maxHeartbeats 4000000 in
theorem wX9_viewOf_1 {p : Program} {l : Launch} {e : Env} {s : State} {m : MethodId} {args : Array Value} {below : List Frame} {meth : Method} {c : Code} {G : va_G} {ad : Nat → Nat} {cs : Nat → ClassId} {zk zv : Nat → Nat} {r : Int32} {M' : Mm} {n : Nat} (F : Fx G ad cs zk zv p m meth c cX9_viewOf 4 (some .int) s args RX9) (IH : PX9_viewOf p l e s m args below meth c G ad cs zk r M' n) (x1 : Int32) (x2 : Int32) (x3 : Int32) (M : Mm) (h : (bX9_viewOf_1 x1 x2 x3 M).bind (fun q => match q with | .inl s' => itr stX9_viewOf n s' | .inr r => some r) = some (r, M'))  : AW p l e rmX9_viewOf s m args below meth c (MQ below (AQi G ad cs r M') args s 0 0 (inA ad)) G ad cs 4 4 [some (.ref (ad 338)), some (.int x1), some (.int x2), some (.int x3)] [] M := by
  unfold bX9_viewOf_1 at h
  refine ax_iload_n F dX9_viewOf_4 rfl ?_
  refine ax_aload_n F dX9_viewOf_5 rfl ?_
  refine ax_get (v := .ref (ad 339)) F ob_338 rfl inGX9 0 (by decide) rfl kf_X9_7 rfl dX9_viewOf_6 ?_
  refine ax_iconst (v := (2 : Int32)) F dX9_viewOf_9 (by decide) ?_
  refine ax_iload_n F dX9_viewOf_10 rfl ?_
  refine ax_iadd F dX9_viewOf_11 ?_
  obtain ⟨hg, h⟩ := gd_some h
  refine ax_iald F ar_339 hg dX9_viewOf_12 ?_
  refine ax_icmp_ge (t := 40) F dX9_viewOf_13 (by decide) (fun hc => ?_) (fun hc => ?_)
  · have h := it_pos h hc
    refine ax_iload_n F dX9_viewOf_40 rfl ?_
    obtain ⟨h1, h2⟩ := rt_some h
    subst h1; subst h2
    exact ax_iret F dX9_viewOf_41
  · have h := it_neg h hc
    refine ax_iload_n F dX9_viewOf_16 rfl ?_
    refine ax_iconst (v := (1 : Int32)) F dX9_viewOf_17 (by decide) ?_
    refine ax_aload_n F dX9_viewOf_18 rfl ?_
    refine ax_get (v := .ref (ad 339)) F ob_338 rfl inGX9 0 (by decide) rfl kf_X9_7 rfl dX9_viewOf_19 ?_
    refine ax_bipush (v := (10 : Int32)) F dX9_viewOf_22 (by decide) ?_
    refine ax_iconst (v := (5 : Int32)) F dX9_viewOf_24 (by decide) ?_
    refine ax_iload_n F dX9_viewOf_25 rfl ?_
    refine ax_imul F dX9_viewOf_26 ?_
    refine ax_iadd F dX9_viewOf_27 ?_
    refine ax_iload_n F dX9_viewOf_28 rfl ?_
    refine ax_iadd F dX9_viewOf_29 ?_
    obtain ⟨hg, h⟩ := gd_some h
    refine ax_iald F ar_339 hg dX9_viewOf_30 ?_
    refine ax_ishl F dX9_viewOf_31 ?_
    refine ax_ior F dX9_viewOf_32 ?_
    refine ax_istore_n F dX9_viewOf_33 (by decide) rfl ?_
    refine ax_iinc (v := (1 : Int32)) F dX9_viewOf_34 rfl (by decide) (by decide) rfl ?_
    refine ax_goto (t := 4) F dX9_viewOf_37 (by decide) ?_
    exact IH.2 _ _ _ _ h 
set_option maxRecDepth 100000 in
set_option maxHeartbeats 4000000 in
theorem wX9_viewOf {p : Program} {l : Launch} {e : Env} {s : State} {m : MethodId} {args : Array Value} {below : List Frame} {meth : Method} {c : Code} {G : va_G} {ad : Nat → Nat} {cs : Nat → ClassId} {zk zv : Nat → Nat} {r : Int32} {M' : Mm} (F : Fx G ad cs zk zv p m meth c cX9_viewOf 4 (some .int) s args RX9) (n : Nat) : PX9_viewOf p l e s m args below meth c G ad cs zk r M' n := by
  induction n with
  | zero => exact ⟨(fun x1 M h => by cases h), (fun x1 x2 x3 M h => by cases h)⟩
  | succ n ih =>
    exact ⟨fun x1 M h  => wX9_viewOf_0 F ih x1 M h ,
      fun x1 x2 x3 M h  => wX9_viewOf_1 F ih x1 x2 x3 M h ⟩
set_option maxRecDepth 100000 in
set_option maxHeartbeats 4000000 in
theorem tX9_viewOf {l : Launch} {G : va_G} {ad : Nat → Nat} {cs : Nat → ClassId} {zk zv : Nat → Nat} (hinj : inj ad) (x1 : Int32)  (M : Mm) (r : Int32) (M' : Mm) (h : fX9_viewOf x1 M = some (r, M')) : Met l yX9_viewOf (tgW yX9_viewOf cX9_viewOf 4 (some .int)) rmX9_viewOf (APre G ad cs zk zv [.ref (ad 338), .int x1] M) (AQi G ad cs r M') 0 0 (inA ad) := by
  refine met_of (Eq.refl true) (Nat.le_of_ble_eq_true rfl) hinj [some (.ref (ad 338)), some (.int x1), none, none] rfl ?_
  intro p e s m below meth c F
  replace F : Fx G ad cs zk zv p m meth c cX9_viewOf 4 (some .int) s _ RX9 := F
  obtain ⟨n, hn⟩ := run_ex h
  exact (wX9_viewOf F n).1 x1 M hn 
noncomputable def fX9_node (x1 : Int32) (x2 : Int32) (M : Mm) : Option Rst := cl (fX9_isNode x1 M) (fun r1 M1 => if r1 = 0 then (some ((-2 : Int32), M1)) else (if x2 = (0 : Int32) then (cl (fX9_isDead (0 : Int32) x1 M1) (fun r2 M2 => if r2 = 0 then (some ((1 : Int32), M2)) else (some ((0 : Int32), M2)))) else if x2 = (1 : Int32) then (some (((isr (M1 338 4) x1) &&& (1 : Int32)), M1)) else if x2 = (2 : Int32) then (gd (okI ((2 : Int32) + x1) 1080) (some ((M1 339 (ix ((2 : Int32) + x1))), M1))) else if x2 = (3 : Int32) then (cl (fX9_known (0 : Int32) x1 M1) (fun r3 M3 => some (r3, M3))) else if x2 = (4 : Int32) then (cl (fX9_viewOf x1 M1) (fun r4 M4 => some (r4, M4))) else (some ((-3 : Int32), M1))))
def rmX9_node : Room := { frames := 3, cells := 0, slots := 0, locals := 67 }
theorem kn_X9_node : yX9_node.cls ≠ "java/lang/invoke/MethodHandle" ∧ yX9_node.cls ≠ "java/lang/invoke/VarHandle" ∧ (parseMethodDescriptor yX9_node.desc).map (fun d => d.parameters.length) = some 2 := by decide +kernel
set_option maxRecDepth 100000 in
set_option maxHeartbeats 4000000 in
theorem tX9_node {l : Launch} {G : va_G} {ad : Nat → Nat} {cs : Nat → ClassId} {zk zv : Nat → Nat} (hinj : inj ad) (x1 : Int32) (x2 : Int32)  (M : Mm) (r : Int32) (M' : Mm) (h : fX9_node x1 x2 M = some (r, M')) : Met l yX9_node (tgW yX9_node cX9_node 3 (some .int)) rmX9_node (APre G ad cs zk zv [.ref (ad 338), .int x1, .int x2] M) (AQi G ad cs r M') 0 0 (inA ad) := by
  refine met_of (Eq.refl true) (Nat.le_of_ble_eq_true rfl) hinj [some (.ref (ad 338)), some (.int x1), some (.int x2)] rfl ?_
  intro p e s m below meth c F
  replace F : Fx G ad cs zk zv p m meth c cX9_node 3 (some .int) s _ RX9 := F
  unfold fX9_node at h
  refine ax_aload_n F dX9_node_0 rfl ?_
  refine ax_iload_n F dX9_node_1 rfl ?_
  obtain ⟨r1, M1, hq1, h⟩ := cq_some0 h
  refine ax_callVi (As := [.int x1]) (st := []) F (tX9_isNode F.2.2.2.2.2.2.1 _  _ _ _ hq1) ob_338 rfl kc_X9_isNode kz_X9 ki_X9_isNode ks_X9_isNode km_X9_188 ⟨kn_X9_isNode, rfl, rfl, Nat.le_of_ble_eq_true rfl, Nat.le_of_ble_eq_true rfl⟩ rfl (Nat.le_of_ble_eq_true rfl) dX9_node_2 ?_
  refine ax_if_ne (t := 11) F dX9_node_5 (by decide) (fun hc => ?_) (fun hc => ?_)
  · have h := it_neg0 h hc
    refine ax_iload_n F dX9_node_11 rfl ?_
    by_cases hc0 : x2 = (0 : Int32)
    · have h := it_pos0 h hc0
      refine ax_swK (v := (0 : Int32)) (t := 48) F dX9_node_12 hc0 (by decide) (by decide) rfl (by decide) ?_
      refine ax_aload_n F dX9_node_48 rfl ?_
      refine ax_iconst (v := (0 : Int32)) F dX9_node_49 (by decide) ?_
      refine ax_iload_n F dX9_node_50 rfl ?_
      obtain ⟨r2, M2, hq2, h⟩ := cq_some0 h
      refine ax_callVi (As := [.int (0 : Int32), .int x1]) (st := []) F (tX9_isDead F.2.2.2.2.2.2.1 _ _  _ _ _ hq2) ob_338 rfl kc_X9_isDead kz_X9 ki_X9_isDead ks_X9_isDead km_X9_176 ⟨kn_X9_isDead, rfl, rfl, Nat.le_of_ble_eq_true rfl, Nat.le_of_ble_eq_true rfl⟩ rfl (Nat.le_of_ble_eq_true rfl) dX9_node_51 ?_
      refine ax_if_eq (t := 61) F dX9_node_54 (by decide) (fun hc => ?_) (fun hc => ?_)
      · have h := it_pos0 h hc
        refine ax_iconst (v := (1 : Int32)) F dX9_node_61 (by decide) ?_
        obtain ⟨h1, h2⟩ := rt_some0 h
        subst h1; subst h2
        exact ax_iret F dX9_node_62
      · have h := it_neg0 h hc
        refine ax_iconst (v := (0 : Int32)) F dX9_node_57 (by decide) ?_
        refine ax_goto (t := 62) F dX9_node_58 (by decide) ?_
        obtain ⟨h1, h2⟩ := rt_some0 h
        subst h1; subst h2
        exact ax_iret F dX9_node_62
    replace h := it_neg0 h hc0
    by_cases hc1 : x2 = (1 : Int32)
    · have h := it_pos0 h hc1
      refine ax_swK (v := (1 : Int32)) (t := 63) F dX9_node_12 hc1 (by decide) (by decide) rfl (by decide) ?_
      refine ax_aload_n F dX9_node_63 rfl ?_
      refine ax_get (v := .int (M1 338 4)) F ob_338 rfl inGX9 4 (by decide) rfl kf_X9_58 rfl dX9_node_64 ?_
      refine ax_iload_n F dX9_node_67 rfl ?_
      refine ax_ishr F dX9_node_68 ?_
      refine ax_iconst (v := (1 : Int32)) F dX9_node_69 (by decide) ?_
      refine ax_iand F dX9_node_70 ?_
      obtain ⟨h1, h2⟩ := rt_some0 h
      subst h1; subst h2
      exact ax_iret F dX9_node_71
    replace h := it_neg0 h hc1
    by_cases hc2 : x2 = (2 : Int32)
    · have h := it_pos0 h hc2
      refine ax_swK (v := (2 : Int32)) (t := 72) F dX9_node_12 hc2 (by decide) (by decide) rfl (by decide) ?_
      refine ax_aload_n F dX9_node_72 rfl ?_
      refine ax_get (v := .ref (ad 339)) F ob_338 rfl inGX9 0 (by decide) rfl kf_X9_7 rfl dX9_node_73 ?_
      refine ax_iconst (v := (2 : Int32)) F dX9_node_76 (by decide) ?_
      refine ax_iload_n F dX9_node_77 rfl ?_
      refine ax_iadd F dX9_node_78 ?_
      obtain ⟨hg, h⟩ := gd_some0 h
      refine ax_iald F ar_339 hg dX9_node_79 ?_
      obtain ⟨h1, h2⟩ := rt_some0 h
      subst h1; subst h2
      exact ax_iret F dX9_node_80
    replace h := it_neg0 h hc2
    by_cases hc3 : x2 = (3 : Int32)
    · have h := it_pos0 h hc3
      refine ax_swK (v := (3 : Int32)) (t := 81) F dX9_node_12 hc3 (by decide) (by decide) rfl (by decide) ?_
      refine ax_aload_n F dX9_node_81 rfl ?_
      refine ax_iconst (v := (0 : Int32)) F dX9_node_82 (by decide) ?_
      refine ax_iload_n F dX9_node_83 rfl ?_
      obtain ⟨r3, M3, hq3, h⟩ := cq_some0 h
      refine ax_callVi (As := [.int (0 : Int32), .int x1]) (st := []) F (tX9_known F.2.2.2.2.2.2.1 _ _  _ _ _ hq3) ob_338 rfl kc_X9_known kz_X9 ki_X9_known ks_X9_known km_X9_191 ⟨kn_X9_known, rfl, rfl, Nat.le_of_ble_eq_true rfl, Nat.le_of_ble_eq_true rfl⟩ rfl (Nat.le_of_ble_eq_true rfl) dX9_node_84 ?_
      obtain ⟨h1, h2⟩ := rt_some0 h
      subst h1; subst h2
      exact ax_iret F dX9_node_87
    replace h := it_neg0 h hc3
    by_cases hc4 : x2 = (4 : Int32)
    · have h := it_pos0 h hc4
      refine ax_swK (v := (4 : Int32)) (t := 88) F dX9_node_12 hc4 (by decide) (by decide) rfl (by decide) ?_
      refine ax_aload_n F dX9_node_88 rfl ?_
      refine ax_iload_n F dX9_node_89 rfl ?_
      obtain ⟨r4, M4, hq4, h⟩ := cq_some0 h
      refine ax_callVi (As := [.int x1]) (st := []) F (tX9_viewOf F.2.2.2.2.2.2.1 _  _ _ _ hq4) ob_338 rfl kc_X9_viewOf kz_X9 ki_X9_viewOf ks_X9_viewOf km_X9_194 ⟨kn_X9_viewOf, rfl, rfl, Nat.le_of_ble_eq_true rfl, Nat.le_of_ble_eq_true rfl⟩ rfl (Nat.le_of_ble_eq_true rfl) dX9_node_90 ?_
      obtain ⟨h1, h2⟩ := rt_some0 h
      subst h1; subst h2
      exact ax_iret F dX9_node_93
    replace h := it_neg0 h hc4
    have hd0 : (x2).toInt ≠ 0 := fun e => hc0 (Int32.toInt_inj.mp (by rw [e]; rfl))
    have hd1 : (x2).toInt ≠ 1 := fun e => hc1 (Int32.toInt_inj.mp (by rw [e]; rfl))
    have hd2 : (x2).toInt ≠ 2 := fun e => hc2 (Int32.toInt_inj.mp (by rw [e]; rfl))
    have hd3 : (x2).toInt ≠ 3 := fun e => hc3 (Int32.toInt_inj.mp (by rw [e]; rfl))
    have hd4 : (x2).toInt ≠ 4 := fun e => hc4 (Int32.toInt_inj.mp (by rw [e]; rfl))
    refine ax_swOut (t := 94) F dX9_node_12 (by omega) (by decide) ?_
    refine ax_bipush (v := (-3 : Int32)) F dX9_node_94 (by decide) ?_
    obtain ⟨h1, h2⟩ := rt_some0 h
    subst h1; subst h2
    exact ax_iret F dX9_node_96
  · have h := it_pos0 h hc
    refine ax_bipush (v := (-2 : Int32)) F dX9_node_8 (by decide) ?_
    obtain ⟨h1, h2⟩ := rt_some0 h
    subst h1; subst h2
    exact ax_iret F dX9_node_10
noncomputable def fX9_entry (x1 : Int32) (x2 : Int32) (x3 : Int32) (M : Mm) : Option Rst := cl (fX9_isNode x1 M) (fun r1 M1 => if r1 = 0 then (some ((-2 : Int32), M1)) else (cl (fX9_in (x3).toInt64 (0 : Int64) (1 : Int64) M1) (fun r2 M2 => if r2 = 0 then (some ((-3 : Int32), M2)) else (if 0 ≤ x2 then (gd (okI ((2 : Int32) + x1) 1080) (if x2 < (M2 339 (ix ((2 : Int32) + x1))) then (if x3 = 0 then (gd (okI (((10 : Int32) + ((5 : Int32) * x1)) + x2) 1080) (some ((M2 339 (ix (((10 : Int32) + ((5 : Int32) * x1)) + x2))), M2))) else (gd (okI (((50 : Int32) + ((5 : Int32) * x1)) + x2) 1080) (some ((M2 339 (ix (((50 : Int32) + ((5 : Int32) * x1)) + x2))), M2)))) else (some ((-1 : Int32), M2)))) else (some ((-3 : Int32), M2))))))
def rmX9_entry : Room := { frames := 2, cells := 0, slots := 0, locals := 46 }
theorem kn_X9_entry : yX9_entry.cls ≠ "java/lang/invoke/MethodHandle" ∧ yX9_entry.cls ≠ "java/lang/invoke/VarHandle" ∧ (parseMethodDescriptor yX9_entry.desc).map (fun d => d.parameters.length) = some 3 := by decide +kernel
set_option maxRecDepth 100000 in
set_option maxHeartbeats 4000000 in
theorem tX9_entry {l : Launch} {G : va_G} {ad : Nat → Nat} {cs : Nat → ClassId} {zk zv : Nat → Nat} (hinj : inj ad) (x1 : Int32) (x2 : Int32) (x3 : Int32)  (M : Mm) (r : Int32) (M' : Mm) (h : fX9_entry x1 x2 x3 M = some (r, M')) : Met l yX9_entry (tgW yX9_entry cX9_entry 4 (some .int)) rmX9_entry (APre G ad cs zk zv [.ref (ad 338), .int x1, .int x2, .int x3] M) (AQi G ad cs r M') 0 0 (inA ad) := by
  refine met_of (Eq.refl true) (Nat.le_of_ble_eq_true rfl) hinj [some (.ref (ad 338)), some (.int x1), some (.int x2), some (.int x3)] rfl ?_
  intro p e s m below meth c F
  replace F : Fx G ad cs zk zv p m meth c cX9_entry 4 (some .int) s _ RX9 := F
  unfold fX9_entry at h
  refine ax_aload_n F dX9_entry_0 rfl ?_
  refine ax_iload_n F dX9_entry_1 rfl ?_
  obtain ⟨r1, M1, hq1, h⟩ := cq_some0 h
  refine ax_callVi (As := [.int x1]) (st := []) F (tX9_isNode F.2.2.2.2.2.2.1 _  _ _ _ hq1) ob_338 rfl kc_X9_isNode kz_X9 ki_X9_isNode ks_X9_isNode km_X9_188 ⟨kn_X9_isNode, rfl, rfl, Nat.le_of_ble_eq_true rfl, Nat.le_of_ble_eq_true rfl⟩ rfl (Nat.le_of_ble_eq_true rfl) dX9_entry_2 ?_
  refine ax_if_ne (t := 11) F dX9_entry_5 (by decide) (fun hc => ?_) (fun hc => ?_)
  · have h := it_neg0 h hc
    refine ax_iload_n F dX9_entry_11 rfl ?_
    refine ax_i2l F dX9_entry_12 ?_
    refine ax_lconst (v := (0 : Int64)) F dX9_entry_13 (by decide) ?_
    refine ax_lconst (v := (1 : Int64)) F dX9_entry_14 (by decide) ?_
    obtain ⟨r2, M2, hq2, h⟩ := cq_some0 h
    refine ax_callSi (As := [.long (x3).toInt64, .long (0 : Int64), .long (1 : Int64)]) (st := []) F (tX9_in F.2.2.2.2.2.2.1 _ _ _  _ _ _ hq2) kc_X9_in kz_X9 kt_X9_in km_X9_66 ⟨kn_X9_in, rfl, rfl, Nat.le_of_ble_eq_true rfl, Nat.le_of_ble_eq_true rfl⟩ rfl (Nat.le_of_ble_eq_true rfl) dX9_entry_15 ?_
    refine ax_if_eq (t := 25) F dX9_entry_18 (by decide) (fun hc => ?_) (fun hc => ?_)
    · have h := it_pos0 h hc
      refine ax_bipush (v := (-3 : Int32)) F dX9_entry_25 (by decide) ?_
      obtain ⟨h1, h2⟩ := rt_some0 h
      subst h1; subst h2
      exact ax_iret F dX9_entry_27
    · have h := it_neg0 h hc
      refine ax_iload_n F dX9_entry_21 rfl ?_
      refine ax_if_ge (t := 28) F dX9_entry_22 (by decide) (fun hc => ?_) (fun hc => ?_)
      · have h := it_pos0 h hc
        refine ax_iload_n F dX9_entry_28 rfl ?_
        refine ax_aload_n F dX9_entry_29 rfl ?_
        refine ax_get (v := .ref (ad 339)) F ob_338 rfl inGX9 0 (by decide) rfl kf_X9_7 rfl dX9_entry_30 ?_
        refine ax_iconst (v := (2 : Int32)) F dX9_entry_33 (by decide) ?_
        refine ax_iload_n F dX9_entry_34 rfl ?_
        refine ax_iadd F dX9_entry_35 ?_
        obtain ⟨hg, h⟩ := gd_some0 h
        refine ax_iald F ar_339 hg dX9_entry_36 ?_
        refine ax_icmp_lt (t := 44) F dX9_entry_37 (by decide) (fun hc => ?_) (fun hc => ?_)
        · have h := it_pos0 h hc
          refine ax_aload_n F dX9_entry_44 rfl ?_
          refine ax_get (v := .ref (ad 339)) F ob_338 rfl inGX9 0 (by decide) rfl kf_X9_7 rfl dX9_entry_45 ?_
          refine ax_iload_n F dX9_entry_48 rfl ?_
          refine ax_if_ne (t := 57) F dX9_entry_49 (by decide) (fun hc => ?_) (fun hc => ?_)
          · have h := it_neg0 h hc
            refine ax_bipush (v := (50 : Int32)) F dX9_entry_57 (by decide) ?_
            refine ax_iconst (v := (5 : Int32)) F dX9_entry_59 (by decide) ?_
            refine ax_iload_n F dX9_entry_60 rfl ?_
            refine ax_imul F dX9_entry_61 ?_
            refine ax_iadd F dX9_entry_62 ?_
            refine ax_iload_n F dX9_entry_63 rfl ?_
            refine ax_iadd F dX9_entry_64 ?_
            obtain ⟨hg, h⟩ := gd_some0 h
            refine ax_iald F ar_339 hg dX9_entry_65 ?_
            obtain ⟨h1, h2⟩ := rt_some0 h
            subst h1; subst h2
            exact ax_iret F dX9_entry_66
          · have h := it_pos0 h hc
            refine ax_bipush (v := (10 : Int32)) F dX9_entry_52 (by decide) ?_
            refine ax_goto (t := 59) F dX9_entry_54 (by decide) ?_
            refine ax_iconst (v := (5 : Int32)) F dX9_entry_59 (by decide) ?_
            refine ax_iload_n F dX9_entry_60 rfl ?_
            refine ax_imul F dX9_entry_61 ?_
            refine ax_iadd F dX9_entry_62 ?_
            refine ax_iload_n F dX9_entry_63 rfl ?_
            refine ax_iadd F dX9_entry_64 ?_
            obtain ⟨hg, h⟩ := gd_some0 h
            refine ax_iald F ar_339 hg dX9_entry_65 ?_
            obtain ⟨h1, h2⟩ := rt_some0 h
            subst h1; subst h2
            exact ax_iret F dX9_entry_66
        · have h := it_neg0 h hc
          refine ax_iconst (v := (-1 : Int32)) F dX9_entry_40 (by decide) ?_
          refine ax_goto (t := 66) F dX9_entry_41 (by decide) ?_
          obtain ⟨h1, h2⟩ := rt_some0 h
          subst h1; subst h2
          exact ax_iret F dX9_entry_66
      · have h := it_neg0 h hc
        refine ax_bipush (v := (-3 : Int32)) F dX9_entry_25 (by decide) ?_
        obtain ⟨h1, h2⟩ := rt_some0 h
        subst h1; subst h2
        exact ax_iret F dX9_entry_27
  · have h := it_pos0 h hc
    refine ax_bipush (v := (-2 : Int32)) F dX9_entry_8 (by decide) ?_
    obtain ⟨h1, h2⟩ := rt_some0 h
    subst h1; subst h2
    exact ax_iret F dX9_entry_10
def rmX9_keepPast : Room := { frames := 1, cells := 0, slots := 0, locals := 23 }
theorem kn_X9_keepPast : yX9_keepPast.cls ≠ "java/lang/invoke/MethodHandle" ∧ yX9_keepPast.cls ≠ "java/lang/invoke/VarHandle" ∧ (parseMethodDescriptor yX9_keepPast.desc).map (fun d => d.parameters.length) = some 0 := by decide +kernel
noncomputable def bX9_keepPast_0  (M : Mm) : Option (Sst ⊕ Rst) := some (.inl (1, [], [(0 : Int32)], M))
noncomputable def bX9_keepPast_1 (x1 : Int32) (M : Mm) : Option (Sst ⊕ Rst) := if (630 : Int32) ≤ x1 then (some (.inl (2, [], [], M))) else (if (M 338 5) = (8 : Int32) then (gd (okI ((180 : Int32) + x1) 1080) (gd (okI ((90 : Int32) + x1) 1080) (some (.inl (1, [], [(x1 + (1 : Int32))], (up2 M 339 (ix ((90 : Int32) + x1)) (M 339 (ix ((180 : Int32) + x1))))))))) else (some (.inl (2, [], [], M))))
noncomputable def bX9_keepPast_2  (M : Mm) : Option (Sst ⊕ Rst) := if (M 338 5) = (8 : Int32) then (some (.inl (3, [], [(1 : Int32), (M 338 5)], M))) else (some (.inl (3, [], [(0 : Int32), (M 338 5)], M)))
noncomputable def bX9_keepPast_3 (s0 : Int32) (s1 : Int32) (M : Mm) : Option (Sst ⊕ Rst) := cl (fX9_copyRow (0 : Int32) ((90 : Int32) + ((90 : Int32) * ((up2 M 338 5 (s1 - s0)) 338 5))) (up2 M 338 5 (s1 - s0))) (fun r1 M1 => some (.inr ((0 : Int32), (up2 M1 338 5 ((M1 338 5) + (1 : Int32))))))
noncomputable def stX9_keepPast : Sst → Option (Sst ⊕ Rst) := fun q => match q.1 with
  | 0 => bX9_keepPast_0  q.2.2.2
  | 1 => bX9_keepPast_1 (q.2.2.1.getD 0 0) q.2.2.2
  | 2 => bX9_keepPast_2  q.2.2.2
  | 3 => bX9_keepPast_3 (q.2.2.1.getD 0 0) (q.2.2.1.getD 1 0) q.2.2.2
  | _ => none
noncomputable def fX9_keepPast  (M : Mm) : Option Rst := run stX9_keepPast (0, [], [], M)
def PX9_keepPast (p : Program) (l : Launch) (e : Env) (s : State) (m : MethodId) (args : Array Value) (below : List Frame) (meth : Method) (c : Code) (G : va_G) (ad : Nat → Nat) (cs : Nat → ClassId) (zk : Nat → Nat) (r : Int32) (M' : Mm) (n : Nat) : Prop := (∀  (M : Mm), itr stX9_keepPast n (0, [], [], M) = some (r, M') → AW p l e rmX9_keepPast s m args below meth c (MQ below (AQv G ad cs M') args s 0 0 (inA ad)) G ad cs 2 0 [some (.ref (ad 338)), none] [] M) ∧ (∀ (x1 : Int32) (M : Mm), itr stX9_keepPast n (1, [], [x1], M) = some (r, M') → AW p l e rmX9_keepPast s m args below meth c (MQ below (AQv G ad cs M') args s 0 0 (inA ad)) G ad cs 2 2 [some (.ref (ad 338)), some (.int x1)] [] M) ∧ (∀  (M : Mm), itr stX9_keepPast n (2, [], [], M) = some (r, M') → AW p l e rmX9_keepPast s m args below meth c (MQ below (AQv G ad cs M') args s 0 0 (inA ad)) G ad cs 2 43 [some (.ref (ad 338)), none] [] M) ∧ (∀ (s0 : Int32) (s1 : Int32) (M : Mm), itr stX9_keepPast n (3, [], [s0, s1], M) = some (r, M') → AW p l e rmX9_keepPast s m args below meth c (MQ below (AQv G ad cs M') args s 0 0 (inA ad)) G ad cs 2 62 [some (.ref (ad 338)), none] [.int s0, .int s1, .ref (ad 338)] M)
set_option maxRecDepth 100000 in
set_option maxHeartbeats 4000000 in
theorem wX9_keepPast_0 {p : Program} {l : Launch} {e : Env} {s : State} {m : MethodId} {args : Array Value} {below : List Frame} {meth : Method} {c : Code} {G : va_G} {ad : Nat → Nat} {cs : Nat → ClassId} {zk zv : Nat → Nat} {r : Int32} {M' : Mm} {n : Nat} (F : Fx G ad cs zk zv p m meth c cX9_keepPast 2 none s args RX9) (IH : PX9_keepPast p l e s m args below meth c G ad cs zk r M' n)  (M : Mm) (h : (bX9_keepPast_0  M).bind (fun q => match q with | .inl s' => itr stX9_keepPast n s' | .inr r => some r) = some (r, M'))  : AW p l e rmX9_keepPast s m args below meth c (MQ below (AQv G ad cs M') args s 0 0 (inA ad)) G ad cs 2 0 [some (.ref (ad 338)), none] [] M := by
  unfold bX9_keepPast_0 at h
  refine ax_iconst (v := (0 : Int32)) F dX9_keepPast_0 (by decide) ?_
  refine ax_istore_n F dX9_keepPast_1 (by decide) rfl ?_
  exact IH.2.1 _ _ h 
set_option maxRecDepth 100000 in
set_option maxHeartbeats 4000000 in
theorem wX9_keepPast_1 {p : Program} {l : Launch} {e : Env} {s : State} {m : MethodId} {args : Array Value} {below : List Frame} {meth : Method} {c : Code} {G : va_G} {ad : Nat → Nat} {cs : Nat → ClassId} {zk zv : Nat → Nat} {r : Int32} {M' : Mm} {n : Nat} (F : Fx G ad cs zk zv p m meth c cX9_keepPast 2 none s args RX9) (IH : PX9_keepPast p l e s m args below meth c G ad cs zk r M' n) (x1 : Int32) (M : Mm) (h : (bX9_keepPast_1 x1 M).bind (fun q => match q with | .inl s' => itr stX9_keepPast n s' | .inr r => some r) = some (r, M'))  : AW p l e rmX9_keepPast s m args below meth c (MQ below (AQv G ad cs M') args s 0 0 (inA ad)) G ad cs 2 2 [some (.ref (ad 338)), some (.int x1)] [] M := by
  unfold bX9_keepPast_1 at h
  refine ax_iload_n F dX9_keepPast_2 rfl ?_
  refine ax_sipush (v := (630 : Int32)) F dX9_keepPast_3 (by decide) ?_
  refine ax_icmp_ge (t := 43) F dX9_keepPast_6 (by decide) (fun hc => ?_) (fun hc => ?_)
  · have h := it_pos h hc
    refine ax_mask [true, false] ?_
    exact IH.2.2.1  _ h 
  · have h := it_neg h hc
    refine ax_aload_n F dX9_keepPast_9 rfl ?_
    refine ax_get (v := .int (M 338 5)) F ob_338 rfl inGX9 5 (by decide) rfl kf_X9_149 rfl dX9_keepPast_10 ?_
    refine ax_bipush (v := (8 : Int32)) F dX9_keepPast_13 (by decide) ?_
    refine ax_icmp_ne (t := 43) F dX9_keepPast_15 (by decide) (fun hc => ?_) (fun hc => ?_)
    · have h := it_neg h hc
      refine ax_mask [true, false] ?_
      exact IH.2.2.1  _ h 
    · have h := it_pos h hc
      refine ax_aload_n F dX9_keepPast_18 rfl ?_
      refine ax_get (v := .ref (ad 339)) F ob_338 rfl inGX9 0 (by decide) rfl kf_X9_7 rfl dX9_keepPast_19 ?_
      refine ax_bipush (v := (90 : Int32)) F dX9_keepPast_22 (by decide) ?_
      refine ax_iload_n F dX9_keepPast_24 rfl ?_
      refine ax_iadd F dX9_keepPast_25 ?_
      refine ax_aload_n F dX9_keepPast_26 rfl ?_
      refine ax_get (v := .ref (ad 339)) F ob_338 rfl inGX9 0 (by decide) rfl kf_X9_7 rfl dX9_keepPast_27 ?_
      refine ax_sipush (v := (180 : Int32)) F dX9_keepPast_30 (by decide) ?_
      refine ax_iload_n F dX9_keepPast_33 rfl ?_
      refine ax_iadd F dX9_keepPast_34 ?_
      obtain ⟨hg, h⟩ := gd_some h
      refine ax_iald F ar_339 hg dX9_keepPast_35 ?_
      obtain ⟨hg, h⟩ := gd_some h
      refine ax_iast F ar_339 hg dX9_keepPast_36 ?_
      refine ax_iinc (v := (1 : Int32)) F dX9_keepPast_37 rfl (by decide) (by decide) rfl ?_
      refine ax_goto (t := 2) F dX9_keepPast_40 (by decide) ?_
      exact IH.2.1 _ _ h 
set_option maxRecDepth 100000 in
set_option maxHeartbeats 4000000 in
theorem wX9_keepPast_2 {p : Program} {l : Launch} {e : Env} {s : State} {m : MethodId} {args : Array Value} {below : List Frame} {meth : Method} {c : Code} {G : va_G} {ad : Nat → Nat} {cs : Nat → ClassId} {zk zv : Nat → Nat} {r : Int32} {M' : Mm} {n : Nat} (F : Fx G ad cs zk zv p m meth c cX9_keepPast 2 none s args RX9) (IH : PX9_keepPast p l e s m args below meth c G ad cs zk r M' n)  (M : Mm) (h : (bX9_keepPast_2  M).bind (fun q => match q with | .inl s' => itr stX9_keepPast n s' | .inr r => some r) = some (r, M'))  : AW p l e rmX9_keepPast s m args below meth c (MQ below (AQv G ad cs M') args s 0 0 (inA ad)) G ad cs 2 43 [some (.ref (ad 338)), none] [] M := by
  unfold bX9_keepPast_2 at h
  refine ax_aload_n F dX9_keepPast_43 rfl ?_
  refine ax_dup F dX9_keepPast_44 rfl ?_
  refine ax_get (v := .int (M 338 5)) F ob_338 rfl inGX9 5 (by decide) rfl kf_X9_149 rfl dX9_keepPast_45 ?_
  refine ax_aload_n F dX9_keepPast_48 rfl ?_
  refine ax_get (v := .int (M 338 5)) F ob_338 rfl inGX9 5 (by decide) rfl kf_X9_149 rfl dX9_keepPast_49 ?_
  refine ax_bipush (v := (8 : Int32)) F dX9_keepPast_52 (by decide) ?_
  refine ax_icmp_ne (t := 61) F dX9_keepPast_54 (by decide) (fun hc => ?_) (fun hc => ?_)
  · have h := it_neg h hc
    refine ax_iconst (v := (0 : Int32)) F dX9_keepPast_61 (by decide) ?_
    exact IH.2.2.2 _ _ _ h 
  · have h := it_pos h hc
    refine ax_iconst (v := (1 : Int32)) F dX9_keepPast_57 (by decide) ?_
    refine ax_goto (t := 62) F dX9_keepPast_58 (by decide) ?_
    exact IH.2.2.2 _ _ _ h 
set_option maxRecDepth 100000 in
set_option maxHeartbeats 4000000 in
theorem wX9_keepPast_3 {p : Program} {l : Launch} {e : Env} {s : State} {m : MethodId} {args : Array Value} {below : List Frame} {meth : Method} {c : Code} {G : va_G} {ad : Nat → Nat} {cs : Nat → ClassId} {zk zv : Nat → Nat} {r : Int32} {M' : Mm} {n : Nat} (F : Fx G ad cs zk zv p m meth c cX9_keepPast 2 none s args RX9) (IH : PX9_keepPast p l e s m args below meth c G ad cs zk r M' n) (s0 : Int32) (s1 : Int32) (M : Mm) (h : (bX9_keepPast_3 s0 s1 M).bind (fun q => match q with | .inl s' => itr stX9_keepPast n s' | .inr r => some r) = some (r, M'))  : AW p l e rmX9_keepPast s m args below meth c (MQ below (AQv G ad cs M') args s 0 0 (inA ad)) G ad cs 2 62 [some (.ref (ad 338)), none] [.int s0, .int s1, .ref (ad 338)] M := by
  unfold bX9_keepPast_3 at h
  refine ax_isub F dX9_keepPast_62 ?_
  refine ax_put (ty := .int) F ob_338 rfl inGX9 tyX9 tyX9_ok nmX9 5 (by decide) rfl kf_X9_149 (by decide) rfl rfl (Nat.le_of_ble_eq_true rfl) rfl dX9_keepPast_63 ?_
  refine ax_aload_n F dX9_keepPast_66 rfl ?_
  refine ax_iconst (v := (0 : Int32)) F dX9_keepPast_67 (by decide) ?_
  refine ax_bipush (v := (90 : Int32)) F dX9_keepPast_68 (by decide) ?_
  refine ax_bipush (v := (90 : Int32)) F dX9_keepPast_70 (by decide) ?_
  refine ax_aload_n F dX9_keepPast_72 rfl ?_
  refine ax_get (v := .int ((up2 M 338 5 (s1 - s0)) 338 5)) F ob_338 rfl inGX9 5 (by decide) rfl kf_X9_149 rfl dX9_keepPast_73 ?_
  refine ax_imul F dX9_keepPast_76 ?_
  refine ax_iadd F dX9_keepPast_77 ?_
  obtain ⟨r1, M1, hq1, h⟩ := cq_some h
  refine ax_callVv (As := [.int (0 : Int32), .int ((90 : Int32) + ((90 : Int32) * ((up2 M 338 5 (s1 - s0)) 338 5)))]) (st := []) F (tX9_copyRow F.2.2.2.2.2.2.1 _ _  _ _ _ hq1) ob_338 rfl kc_X9_copyRow kz_X9 ki_X9_copyRow ks_X9_copyRow km_X9_198 ⟨kn_X9_copyRow, rfl, rfl, Nat.le_of_ble_eq_true rfl, Nat.le_of_ble_eq_true rfl⟩ rfl (Nat.le_of_ble_eq_true rfl) dX9_keepPast_78 ?_
  refine ax_aload_n F dX9_keepPast_81 rfl ?_
  refine ax_dup F dX9_keepPast_82 rfl ?_
  refine ax_get (v := .int (M1 338 5)) F ob_338 rfl inGX9 5 (by decide) rfl kf_X9_149 rfl dX9_keepPast_83 ?_
  refine ax_iconst (v := (1 : Int32)) F dX9_keepPast_86 (by decide) ?_
  refine ax_iadd F dX9_keepPast_87 ?_
  refine ax_put (ty := .int) F ob_338 rfl inGX9 tyX9 tyX9_ok nmX9 5 (by decide) rfl kf_X9_149 (by decide) rfl rfl (Nat.le_of_ble_eq_true rfl) rfl dX9_keepPast_88 ?_
  obtain ⟨h1, h2⟩ := rt_some h
  subst h2
  exact ax_vret F dX9_keepPast_91
set_option maxRecDepth 100000 in
set_option maxHeartbeats 4000000 in
theorem wX9_keepPast {p : Program} {l : Launch} {e : Env} {s : State} {m : MethodId} {args : Array Value} {below : List Frame} {meth : Method} {c : Code} {G : va_G} {ad : Nat → Nat} {cs : Nat → ClassId} {zk zv : Nat → Nat} {r : Int32} {M' : Mm} (F : Fx G ad cs zk zv p m meth c cX9_keepPast 2 none s args RX9) (n : Nat) : PX9_keepPast p l e s m args below meth c G ad cs zk r M' n := by
  induction n with
  | zero => exact ⟨(fun  M h => by cases h), (fun x1 M h => by cases h), (fun  M h => by cases h), (fun s0 s1 M h => by cases h)⟩
  | succ n ih =>
    exact ⟨fun  M h  => wX9_keepPast_0 F ih  M h ,
      fun x1 M h  => wX9_keepPast_1 F ih x1 M h ,
      fun  M h  => wX9_keepPast_2 F ih  M h ,
      fun s0 s1 M h  => wX9_keepPast_3 F ih s0 s1 M h ⟩
set_option maxRecDepth 100000 in
set_option maxHeartbeats 4000000 in
theorem tX9_keepPast {l : Launch} {G : va_G} {ad : Nat → Nat} {cs : Nat → ClassId} {zk zv : Nat → Nat} (hinj : inj ad)   (M : Mm) (r : Int32) (M' : Mm) (h : fX9_keepPast  M = some (r, M')) : Met l yX9_keepPast (tgW yX9_keepPast cX9_keepPast 2 none) rmX9_keepPast (APre G ad cs zk zv [.ref (ad 338)] M) (AQv G ad cs M') 0 0 (inA ad) := by
  refine met_of (Eq.refl true) (Nat.le_of_ble_eq_true rfl) hinj [some (.ref (ad 338)), none] rfl ?_
  intro p e s m below meth c F
  replace F : Fx G ad cs zk zv p m meth c cX9_keepPast 2 none s _ RX9 := F
  obtain ⟨n, hn⟩ := run_ex h
  exact (wX9_keepPast F n).1  M hn 
def rmX9_entries : Room := { frames := 0, cells := 0, slots := 0, locals := 0 }
theorem kn_X9_entries : yX9_entries.cls ≠ "java/lang/invoke/MethodHandle" ∧ yX9_entries.cls ≠ "java/lang/invoke/VarHandle" ∧ (parseMethodDescriptor yX9_entries.desc).map (fun d => d.parameters.length) = some 0 := by decide +kernel
noncomputable def bX9_entries_0  (M : Mm) : Option (Sst ⊕ Rst) := some (.inl (1, [], [(0 : Int32), (0 : Int32)], M))
noncomputable def bX9_entries_1 (x1 : Int32) (x2 : Int32) (M : Mm) : Option (Sst ⊕ Rst) := if (M 338 1) ≤ x2 then (some (.inr (x1, M))) else (gd (okI ((2 : Int32) + x2) 1080) (some (.inl (1, [], [(x1 + (M 339 (ix ((2 : Int32) + x2)))), (x2 + (1 : Int32))], M))))
noncomputable def stX9_entries : Sst → Option (Sst ⊕ Rst) := fun q => match q.1 with
  | 0 => bX9_entries_0  q.2.2.2
  | 1 => bX9_entries_1 (q.2.2.1.getD 0 0) (q.2.2.1.getD 1 0) q.2.2.2
  | _ => none
noncomputable def fX9_entries  (M : Mm) : Option Rst := run stX9_entries (0, [], [], M)
def PX9_entries (p : Program) (l : Launch) (e : Env) (s : State) (m : MethodId) (args : Array Value) (below : List Frame) (meth : Method) (c : Code) (G : va_G) (ad : Nat → Nat) (cs : Nat → ClassId) (zk : Nat → Nat) (r : Int32) (M' : Mm) (n : Nat) : Prop := (∀  (M : Mm), itr stX9_entries n (0, [], [], M) = some (r, M') → AW p l e rmX9_entries s m args below meth c (MQ below (AQi G ad cs r M') args s 0 0 (inA ad)) G ad cs 3 0 [some (.ref (ad 338)), none, none] [] M) ∧ (∀ (x1 : Int32) (x2 : Int32) (M : Mm), itr stX9_entries n (1, [], [x1, x2], M) = some (r, M') → AW p l e rmX9_entries s m args below meth c (MQ below (AQi G ad cs r M') args s 0 0 (inA ad)) G ad cs 3 4 [some (.ref (ad 338)), some (.int x1), some (.int x2)] [] M)
set_option maxRecDepth 100000 in
set_option maxHeartbeats 4000000 in
theorem wX9_entries_0 {p : Program} {l : Launch} {e : Env} {s : State} {m : MethodId} {args : Array Value} {below : List Frame} {meth : Method} {c : Code} {G : va_G} {ad : Nat → Nat} {cs : Nat → ClassId} {zk zv : Nat → Nat} {r : Int32} {M' : Mm} {n : Nat} (F : Fx G ad cs zk zv p m meth c cX9_entries 3 (some .int) s args RX9) (IH : PX9_entries p l e s m args below meth c G ad cs zk r M' n)  (M : Mm) (h : (bX9_entries_0  M).bind (fun q => match q with | .inl s' => itr stX9_entries n s' | .inr r => some r) = some (r, M'))  : AW p l e rmX9_entries s m args below meth c (MQ below (AQi G ad cs r M') args s 0 0 (inA ad)) G ad cs 3 0 [some (.ref (ad 338)), none, none] [] M := by
  unfold bX9_entries_0 at h
  refine ax_iconst (v := (0 : Int32)) F dX9_entries_0 (by decide) ?_
  refine ax_istore_n F dX9_entries_1 (by decide) rfl ?_
  refine ax_iconst (v := (0 : Int32)) F dX9_entries_2 (by decide) ?_
  refine ax_istore_n F dX9_entries_3 (by decide) rfl ?_
  exact IH.2 _ _ _ h 
set_option maxRecDepth 100000 in
set_option maxHeartbeats 4000000 in
theorem wX9_entries_1 {p : Program} {l : Launch} {e : Env} {s : State} {m : MethodId} {args : Array Value} {below : List Frame} {meth : Method} {c : Code} {G : va_G} {ad : Nat → Nat} {cs : Nat → ClassId} {zk zv : Nat → Nat} {r : Int32} {M' : Mm} {n : Nat} (F : Fx G ad cs zk zv p m meth c cX9_entries 3 (some .int) s args RX9) (IH : PX9_entries p l e s m args below meth c G ad cs zk r M' n) (x1 : Int32) (x2 : Int32) (M : Mm) (h : (bX9_entries_1 x1 x2 M).bind (fun q => match q with | .inl s' => itr stX9_entries n s' | .inr r => some r) = some (r, M'))  : AW p l e rmX9_entries s m args below meth c (MQ below (AQi G ad cs r M') args s 0 0 (inA ad)) G ad cs 3 4 [some (.ref (ad 338)), some (.int x1), some (.int x2)] [] M := by
  unfold bX9_entries_1 at h
  refine ax_iload_n F dX9_entries_4 rfl ?_
  refine ax_aload_n F dX9_entries_5 rfl ?_
  refine ax_get (v := .int (M 338 1)) F ob_338 rfl inGX9 1 (by decide) rfl kf_X9_48 rfl dX9_entries_6 ?_
  refine ax_icmp_ge (t := 29) F dX9_entries_9 (by decide) (fun hc => ?_) (fun hc => ?_)
  · have h := it_pos h hc
    refine ax_iload_n F dX9_entries_29 rfl ?_
    obtain ⟨h1, h2⟩ := rt_some h
    subst h1; subst h2
    exact ax_iret F dX9_entries_30
  · have h := it_neg h hc
    refine ax_iload_n F dX9_entries_12 rfl ?_
    refine ax_aload_n F dX9_entries_13 rfl ?_
    refine ax_get (v := .ref (ad 339)) F ob_338 rfl inGX9 0 (by decide) rfl kf_X9_7 rfl dX9_entries_14 ?_
    refine ax_iconst (v := (2 : Int32)) F dX9_entries_17 (by decide) ?_
    refine ax_iload_n F dX9_entries_18 rfl ?_
    refine ax_iadd F dX9_entries_19 ?_
    obtain ⟨hg, h⟩ := gd_some h
    refine ax_iald F ar_339 hg dX9_entries_20 ?_
    refine ax_iadd F dX9_entries_21 ?_
    refine ax_istore_n F dX9_entries_22 (by decide) rfl ?_
    refine ax_iinc (v := (1 : Int32)) F dX9_entries_23 rfl (by decide) (by decide) rfl ?_
    refine ax_goto (t := 4) F dX9_entries_26 (by decide) ?_
    exact IH.2 _ _ _ h 
set_option maxRecDepth 100000 in
set_option maxHeartbeats 4000000 in
theorem wX9_entries {p : Program} {l : Launch} {e : Env} {s : State} {m : MethodId} {args : Array Value} {below : List Frame} {meth : Method} {c : Code} {G : va_G} {ad : Nat → Nat} {cs : Nat → ClassId} {zk zv : Nat → Nat} {r : Int32} {M' : Mm} (F : Fx G ad cs zk zv p m meth c cX9_entries 3 (some .int) s args RX9) (n : Nat) : PX9_entries p l e s m args below meth c G ad cs zk r M' n := by
  induction n with
  | zero => exact ⟨(fun  M h => by cases h), (fun x1 x2 M h => by cases h)⟩
  | succ n ih =>
    exact ⟨fun  M h  => wX9_entries_0 F ih  M h ,
      fun x1 x2 M h  => wX9_entries_1 F ih x1 x2 M h ⟩
set_option maxRecDepth 100000 in
set_option maxHeartbeats 4000000 in
theorem tX9_entries {l : Launch} {G : va_G} {ad : Nat → Nat} {cs : Nat → ClassId} {zk zv : Nat → Nat} (hinj : inj ad)   (M : Mm) (r : Int32) (M' : Mm) (h : fX9_entries  M = some (r, M')) : Met l yX9_entries (tgW yX9_entries cX9_entries 3 (some .int)) rmX9_entries (APre G ad cs zk zv [.ref (ad 338)] M) (AQi G ad cs r M') 0 0 (inA ad) := by
  refine met_of (Eq.refl true) (Nat.le_of_ble_eq_true rfl) hinj [some (.ref (ad 338)), none, none] rfl ?_
  intro p e s m below meth c F
  replace F : Fx G ad cs zk zv p m meth c cX9_entries 3 (some .int) s _ RX9 := F
  obtain ⟨n, hn⟩ := run_ex h
  exact (wX9_entries F n).1  M hn 
noncomputable def fX9_round (x1 : Int32) (M : Mm) : Option Rst := cl (fX9_isNode x1 M) (fun r1 M1 => if r1 = 0 then (some ((-2 : Int32), M1)) else (cl (fX9_isDead (0 : Int32) x1 M1) (fun r2 M2 => if r2 = 0 then (cl (fX9_keepPast M2) (fun r3 M3 => cl (fX9_rounds (0 : Int32) x1 M3) (fun r4 M4 => some (r4, M4)))) else (some ((-4 : Int32), M2)))))
def rmX9_round : Room := { frames := 4, cells := 0, slots := 0, locals := 100 }
theorem kn_X9_round : yX9_round.cls ≠ "java/lang/invoke/MethodHandle" ∧ yX9_round.cls ≠ "java/lang/invoke/VarHandle" ∧ (parseMethodDescriptor yX9_round.desc).map (fun d => d.parameters.length) = some 1 := by decide +kernel
set_option maxRecDepth 100000 in
set_option maxHeartbeats 4000000 in
theorem tX9_round {l : Launch} {G : va_G} {ad : Nat → Nat} {cs : Nat → ClassId} {zk zv : Nat → Nat} (hinj : inj ad) (x1 : Int32)  (M : Mm) (r : Int32) (M' : Mm) (h : fX9_round x1 M = some (r, M')) : Met l yX9_round (tgW yX9_round cX9_round 2 (some .int)) rmX9_round (APre G ad cs zk zv [.ref (ad 338), .int x1] M) (AQi G ad cs r M') 0 0 (inA ad) := by
  refine met_of (Eq.refl true) (Nat.le_of_ble_eq_true rfl) hinj [some (.ref (ad 338)), some (.int x1)] rfl ?_
  intro p e s m below meth c F
  replace F : Fx G ad cs zk zv p m meth c cX9_round 2 (some .int) s _ RX9 := F
  unfold fX9_round at h
  refine ax_aload_n F dX9_round_0 rfl ?_
  refine ax_iload_n F dX9_round_1 rfl ?_
  obtain ⟨r1, M1, hq1, h⟩ := cq_some0 h
  refine ax_callVi (As := [.int x1]) (st := []) F (tX9_isNode F.2.2.2.2.2.2.1 _  _ _ _ hq1) ob_338 rfl kc_X9_isNode kz_X9 ki_X9_isNode ks_X9_isNode km_X9_188 ⟨kn_X9_isNode, rfl, rfl, Nat.le_of_ble_eq_true rfl, Nat.le_of_ble_eq_true rfl⟩ rfl (Nat.le_of_ble_eq_true rfl) dX9_round_2 ?_
  refine ax_if_ne (t := 11) F dX9_round_5 (by decide) (fun hc => ?_) (fun hc => ?_)
  · have h := it_neg0 h hc
    refine ax_aload_n F dX9_round_11 rfl ?_
    refine ax_iconst (v := (0 : Int32)) F dX9_round_12 (by decide) ?_
    refine ax_iload_n F dX9_round_13 rfl ?_
    obtain ⟨r2, M2, hq2, h⟩ := cq_some0 h
    refine ax_callVi (As := [.int (0 : Int32), .int x1]) (st := []) F (tX9_isDead F.2.2.2.2.2.2.1 _ _  _ _ _ hq2) ob_338 rfl kc_X9_isDead kz_X9 ki_X9_isDead ks_X9_isDead km_X9_176 ⟨kn_X9_isDead, rfl, rfl, Nat.le_of_ble_eq_true rfl, Nat.le_of_ble_eq_true rfl⟩ rfl (Nat.le_of_ble_eq_true rfl) dX9_round_14 ?_
    refine ax_if_eq (t := 23) F dX9_round_17 (by decide) (fun hc => ?_) (fun hc => ?_)
    · have h := it_pos0 h hc
      refine ax_aload_n F dX9_round_23 rfl ?_
      obtain ⟨r3, M3, hq3, h⟩ := cq_some0 h
      refine ax_callVv (As := []) (st := []) F (tX9_keepPast F.2.2.2.2.2.2.1   _ _ _ hq3) ob_338 rfl kc_X9_keepPast kz_X9 ki_X9_keepPast ks_X9_keepPast km_X9_201 ⟨kn_X9_keepPast, rfl, rfl, Nat.le_of_ble_eq_true rfl, Nat.le_of_ble_eq_true rfl⟩ rfl (Nat.le_of_ble_eq_true rfl) dX9_round_24 ?_
      refine ax_aload_n F dX9_round_27 rfl ?_
      refine ax_iconst (v := (0 : Int32)) F dX9_round_28 (by decide) ?_
      refine ax_iload_n F dX9_round_29 rfl ?_
      obtain ⟨r4, M4, hq4, h⟩ := cq_some0 h
      refine ax_callVi (As := [.int (0 : Int32), .int x1]) (st := []) F (tX9_rounds F.2.2.2.2.2.2.1 _ _  _ _ _ hq4) ob_338 rfl kc_X9_rounds kz_X9 ki_X9_rounds ks_X9_rounds km_X9_185 ⟨kn_X9_rounds, rfl, rfl, Nat.le_of_ble_eq_true rfl, Nat.le_of_ble_eq_true rfl⟩ rfl (Nat.le_of_ble_eq_true rfl) dX9_round_30 ?_
      obtain ⟨h1, h2⟩ := rt_some0 h
      subst h1; subst h2
      exact ax_iret F dX9_round_33
    · have h := it_neg0 h hc
      refine ax_bipush (v := (-4 : Int32)) F dX9_round_20 (by decide) ?_
      obtain ⟨h1, h2⟩ := rt_some0 h
      subst h1; subst h2
      exact ax_iret F dX9_round_22
  · have h := it_pos0 h hc
    refine ax_bipush (v := (-2 : Int32)) F dX9_round_8 (by decide) ?_
    obtain ⟨h1, h2⟩ := rt_some0 h
    subst h1; subst h2
    exact ax_iret F dX9_round_10
def rmX9_cycle : Room := { frames := 5, cells := 0, slots := 0, locals := 122 }
theorem kn_X9_cycle : yX9_cycle.cls ≠ "java/lang/invoke/MethodHandle" ∧ yX9_cycle.cls ≠ "java/lang/invoke/VarHandle" ∧ (parseMethodDescriptor yX9_cycle.desc).map (fun d => d.parameters.length) = some 1 := by decide +kernel
noncomputable def bX9_cycle_0 (x1 : Int32) (M : Mm) : Option (Sst ⊕ Rst) := cl (fX9_in (x1).toInt64 (1 : Int64) (20 : Int64) M) (fun r1 M1 => if r1 = 0 then (some (.inr ((-3 : Int32), M1))) else (cl (fX9_keepPast M1) (fun r2 M2 => some (.inl (1, [], [x1, (0 : Int32)], M2)))))
noncomputable def bX9_cycle_1 (x1 : Int32) (x2 : Int32) (M : Mm) : Option (Sst ⊕ Rst) := if x1 ≤ x2 then (cl (fX9_entries M) (fun r1 M1 => some (.inr (r1, M1)))) else (cl (fX9_cycles (0 : Int32) M) (fun r2 M2 => some (.inl (1, [], [x1, (x2 + (1 : Int32))], M2))))
noncomputable def stX9_cycle : Sst → Option (Sst ⊕ Rst) := fun q => match q.1 with
  | 0 => bX9_cycle_0 (q.2.2.1.getD 0 0) q.2.2.2
  | 1 => bX9_cycle_1 (q.2.2.1.getD 0 0) (q.2.2.1.getD 1 0) q.2.2.2
  | _ => none
noncomputable def fX9_cycle (x1 : Int32) (M : Mm) : Option Rst := run stX9_cycle (0, [], [x1], M)
def PX9_cycle (p : Program) (l : Launch) (e : Env) (s : State) (m : MethodId) (args : Array Value) (below : List Frame) (meth : Method) (c : Code) (G : va_G) (ad : Nat → Nat) (cs : Nat → ClassId) (zk : Nat → Nat) (r : Int32) (M' : Mm) (n : Nat) : Prop := (∀ (x1 : Int32) (M : Mm), itr stX9_cycle n (0, [], [x1], M) = some (r, M') → AW p l e rmX9_cycle s m args below meth c (MQ below (AQi G ad cs r M') args s 0 0 (inA ad)) G ad cs 3 0 [some (.ref (ad 338)), some (.int x1), none] [] M) ∧ (∀ (x1 : Int32) (x2 : Int32) (M : Mm), itr stX9_cycle n (1, [], [x1, x2], M) = some (r, M') → AW p l e rmX9_cycle s m args below meth c (MQ below (AQi G ad cs r M') args s 0 0 (inA ad)) G ad cs 3 21 [some (.ref (ad 338)), some (.int x1), some (.int x2)] [] M)
set_option maxRecDepth 100000 in
set_option maxHeartbeats 4000000 in
theorem wX9_cycle_0 {p : Program} {l : Launch} {e : Env} {s : State} {m : MethodId} {args : Array Value} {below : List Frame} {meth : Method} {c : Code} {G : va_G} {ad : Nat → Nat} {cs : Nat → ClassId} {zk zv : Nat → Nat} {r : Int32} {M' : Mm} {n : Nat} (F : Fx G ad cs zk zv p m meth c cX9_cycle 3 (some .int) s args RX9) (IH : PX9_cycle p l e s m args below meth c G ad cs zk r M' n) (x1 : Int32) (M : Mm) (h : (bX9_cycle_0 x1 M).bind (fun q => match q with | .inl s' => itr stX9_cycle n s' | .inr r => some r) = some (r, M'))  : AW p l e rmX9_cycle s m args below meth c (MQ below (AQi G ad cs r M') args s 0 0 (inA ad)) G ad cs 3 0 [some (.ref (ad 338)), some (.int x1), none] [] M := by
  unfold bX9_cycle_0 at h
  refine ax_iload_n F dX9_cycle_0 rfl ?_
  refine ax_i2l F dX9_cycle_1 ?_
  refine ax_lconst (v := (1 : Int64)) F dX9_cycle_2 (by decide) ?_
  refine ax_ldc2 (v := (20 : Int64)) F kk_X9_204 dX9_cycle_3 ?_
  obtain ⟨r1, M1, hq1, h⟩ := cq_some h
  refine ax_callSi (As := [.long (x1).toInt64, .long (1 : Int64), .long (20 : Int64)]) (st := []) F (tX9_in F.2.2.2.2.2.2.1 _ _ _  _ _ _ hq1) kc_X9_in kz_X9 kt_X9_in km_X9_66 ⟨kn_X9_in, rfl, rfl, Nat.le_of_ble_eq_true rfl, Nat.le_of_ble_eq_true rfl⟩ rfl (Nat.le_of_ble_eq_true rfl) dX9_cycle_6 ?_
  refine ax_if_ne (t := 15) F dX9_cycle_9 (by decide) (fun hc => ?_) (fun hc => ?_)
  · have h := it_neg h hc
    refine ax_aload_n F dX9_cycle_15 rfl ?_
    obtain ⟨r2, M2, hq2, h⟩ := cq_some h
    refine ax_callVv (As := []) (st := []) F (tX9_keepPast F.2.2.2.2.2.2.1   _ _ _ hq2) ob_338 rfl kc_X9_keepPast kz_X9 ki_X9_keepPast ks_X9_keepPast km_X9_201 ⟨kn_X9_keepPast, rfl, rfl, Nat.le_of_ble_eq_true rfl, Nat.le_of_ble_eq_true rfl⟩ rfl (Nat.le_of_ble_eq_true rfl) dX9_cycle_16 ?_
    refine ax_iconst (v := (0 : Int32)) F dX9_cycle_19 (by decide) ?_
    refine ax_istore_n F dX9_cycle_20 (by decide) rfl ?_
    exact IH.2 _ _ _ h 
  · have h := it_pos h hc
    refine ax_bipush (v := (-3 : Int32)) F dX9_cycle_12 (by decide) ?_
    obtain ⟨h1, h2⟩ := rt_some h
    subst h1; subst h2
    exact ax_iret F dX9_cycle_14
set_option maxRecDepth 100000 in
set_option maxHeartbeats 4000000 in
theorem wX9_cycle_1 {p : Program} {l : Launch} {e : Env} {s : State} {m : MethodId} {args : Array Value} {below : List Frame} {meth : Method} {c : Code} {G : va_G} {ad : Nat → Nat} {cs : Nat → ClassId} {zk zv : Nat → Nat} {r : Int32} {M' : Mm} {n : Nat} (F : Fx G ad cs zk zv p m meth c cX9_cycle 3 (some .int) s args RX9) (IH : PX9_cycle p l e s m args below meth c G ad cs zk r M' n) (x1 : Int32) (x2 : Int32) (M : Mm) (h : (bX9_cycle_1 x1 x2 M).bind (fun q => match q with | .inl s' => itr stX9_cycle n s' | .inr r => some r) = some (r, M'))  : AW p l e rmX9_cycle s m args below meth c (MQ below (AQi G ad cs r M') args s 0 0 (inA ad)) G ad cs 3 21 [some (.ref (ad 338)), some (.int x1), some (.int x2)] [] M := by
  unfold bX9_cycle_1 at h
  refine ax_iload_n F dX9_cycle_21 rfl ?_
  refine ax_iload_n F dX9_cycle_22 rfl ?_
  refine ax_icmp_ge (t := 37) F dX9_cycle_23 (by decide) (fun hc => ?_) (fun hc => ?_)
  · have h := it_pos h hc
    refine ax_aload_n F dX9_cycle_37 rfl ?_
    obtain ⟨r1, M1, hq1, h⟩ := cq_some h
    refine ax_callVi (As := []) (st := []) F (tX9_entries F.2.2.2.2.2.2.1   _ _ _ hq1) ob_338 rfl kc_X9_entries kz_X9 ki_X9_entries ks_X9_entries km_X9_209 ⟨kn_X9_entries, rfl, rfl, Nat.le_of_ble_eq_true rfl, Nat.le_of_ble_eq_true rfl⟩ rfl (Nat.le_of_ble_eq_true rfl) dX9_cycle_38 ?_
    obtain ⟨h1, h2⟩ := rt_some h
    subst h1; subst h2
    exact ax_iret F dX9_cycle_41
  · have h := it_neg h hc
    refine ax_aload_n F dX9_cycle_26 rfl ?_
    refine ax_iconst (v := (0 : Int32)) F dX9_cycle_27 (by decide) ?_
    obtain ⟨r2, M2, hq2, h⟩ := cq_some h
    refine ax_callVv (As := [.int (0 : Int32)]) (st := []) F (tX9_cycles F.2.2.2.2.2.2.1 _  _ _ _ hq2) ob_338 rfl kc_X9_cycles kz_X9 ki_X9_cycles ks_X9_cycles km_X9_206 ⟨kn_X9_cycles, rfl, rfl, Nat.le_of_ble_eq_true rfl, Nat.le_of_ble_eq_true rfl⟩ rfl (Nat.le_of_ble_eq_true rfl) dX9_cycle_28 ?_
    refine ax_iinc (v := (1 : Int32)) F dX9_cycle_31 rfl (by decide) (by decide) rfl ?_
    refine ax_goto (t := 21) F dX9_cycle_34 (by decide) ?_
    exact IH.2 _ _ _ h 
set_option maxRecDepth 100000 in
set_option maxHeartbeats 4000000 in
theorem wX9_cycle {p : Program} {l : Launch} {e : Env} {s : State} {m : MethodId} {args : Array Value} {below : List Frame} {meth : Method} {c : Code} {G : va_G} {ad : Nat → Nat} {cs : Nat → ClassId} {zk zv : Nat → Nat} {r : Int32} {M' : Mm} (F : Fx G ad cs zk zv p m meth c cX9_cycle 3 (some .int) s args RX9) (n : Nat) : PX9_cycle p l e s m args below meth c G ad cs zk r M' n := by
  induction n with
  | zero => exact ⟨(fun x1 M h => by cases h), (fun x1 x2 M h => by cases h)⟩
  | succ n ih =>
    exact ⟨fun x1 M h  => wX9_cycle_0 F ih x1 M h ,
      fun x1 x2 M h  => wX9_cycle_1 F ih x1 x2 M h ⟩
set_option maxRecDepth 100000 in
set_option maxHeartbeats 4000000 in
theorem tX9_cycle {l : Launch} {G : va_G} {ad : Nat → Nat} {cs : Nat → ClassId} {zk zv : Nat → Nat} (hinj : inj ad) (x1 : Int32)  (M : Mm) (r : Int32) (M' : Mm) (h : fX9_cycle x1 M = some (r, M')) : Met l yX9_cycle (tgW yX9_cycle cX9_cycle 3 (some .int)) rmX9_cycle (APre G ad cs zk zv [.ref (ad 338), .int x1] M) (AQi G ad cs r M') 0 0 (inA ad) := by
  refine met_of (Eq.refl true) (Nat.le_of_ble_eq_true rfl) hinj [some (.ref (ad 338)), some (.int x1), none] rfl ?_
  intro p e s m below meth c F
  replace F : Fx G ad cs zk zv p m meth c cX9_cycle 3 (some .int) s _ RX9 := F
  obtain ⟨n, hn⟩ := run_ex h
  exact (wX9_cycle F n).1 x1 M hn 
noncomputable def fX9_alive (x1 : Int32) (M : Mm) : Option Rst := gd (okI (x1 + (1 : Int32)) 1080) (some ((((M 339 (ix (x1 + (1 : Int32)))) ^^^ (-1 : Int32)) &&& ((ish (1 : Int32) (M 338 1)) - (1 : Int32))), M))
def rmX9_alive : Room := { frames := 0, cells := 0, slots := 0, locals := 0 }
theorem kn_X9_alive : yX9_alive.cls ≠ "java/lang/invoke/MethodHandle" ∧ yX9_alive.cls ≠ "java/lang/invoke/VarHandle" ∧ (parseMethodDescriptor yX9_alive.desc).map (fun d => d.parameters.length) = some 1 := by decide +kernel
set_option maxRecDepth 100000 in
set_option maxHeartbeats 4000000 in
theorem tX9_alive {l : Launch} {G : va_G} {ad : Nat → Nat} {cs : Nat → ClassId} {zk zv : Nat → Nat} (hinj : inj ad) (x1 : Int32)  (M : Mm) (r : Int32) (M' : Mm) (h : fX9_alive x1 M = some (r, M')) : Met l yX9_alive (tgW yX9_alive cX9_alive 2 (some .int)) rmX9_alive (APre G ad cs zk zv [.ref (ad 338), .int x1] M) (AQi G ad cs r M') 0 0 (inA ad) := by
  refine met_of (Eq.refl true) (Nat.le_of_ble_eq_true rfl) hinj [some (.ref (ad 338)), some (.int x1)] rfl ?_
  intro p e s m below meth c F
  replace F : Fx G ad cs zk zv p m meth c cX9_alive 2 (some .int) s _ RX9 := F
  unfold fX9_alive at h
  refine ax_aload_n F dX9_alive_0 rfl ?_
  refine ax_get (v := .ref (ad 339)) F ob_338 rfl inGX9 0 (by decide) rfl kf_X9_7 rfl dX9_alive_1 ?_
  refine ax_iload_n F dX9_alive_4 rfl ?_
  refine ax_iconst (v := (1 : Int32)) F dX9_alive_5 (by decide) ?_
  refine ax_iadd F dX9_alive_6 ?_
  obtain ⟨hg, h⟩ := gd_some0 h
  refine ax_iald F ar_339 hg dX9_alive_7 ?_
  refine ax_iconst (v := (-1 : Int32)) F dX9_alive_8 (by decide) ?_
  refine ax_ixor F dX9_alive_9 ?_
  refine ax_iconst (v := (1 : Int32)) F dX9_alive_10 (by decide) ?_
  refine ax_aload_n F dX9_alive_11 rfl ?_
  refine ax_get (v := .int (M 338 1)) F ob_338 rfl inGX9 1 (by decide) rfl kf_X9_48 rfl dX9_alive_12 ?_
  refine ax_ishl F dX9_alive_15 ?_
  refine ax_iconst (v := (1 : Int32)) F dX9_alive_16 (by decide) ?_
  refine ax_isub F dX9_alive_17 ?_
  refine ax_iand F dX9_alive_18 ?_
  obtain ⟨h1, h2⟩ := rt_some0 h
  subst h1; subst h2
  exact ax_iret F dX9_alive_19
def rmX9_ones : Room := { frames := 0, cells := 0, slots := 0, locals := 0 }
theorem kn_X9_ones : yX9_ones.cls ≠ "java/lang/invoke/MethodHandle" ∧ yX9_ones.cls ≠ "java/lang/invoke/VarHandle" ∧ (parseMethodDescriptor yX9_ones.desc).map (fun d => d.parameters.length) = some 1 := by decide +kernel
noncomputable def bX9_ones_0 (x0 : Int32) (M : Mm) : Option (Sst ⊕ Rst) := some (.inl (1, [], [x0, (0 : Int32), (0 : Int32)], M))
noncomputable def bX9_ones_1 (x0 : Int32) (x1 : Int32) (x2 : Int32) (M : Mm) : Option (Sst ⊕ Rst) := if (8 : Int32) ≤ x2 then (some (.inr (x1, M))) else (some (.inl (1, [], [x0, (x1 + ((isr x0 x2) &&& (1 : Int32))), (x2 + (1 : Int32))], M)))
noncomputable def stX9_ones : Sst → Option (Sst ⊕ Rst) := fun q => match q.1 with
  | 0 => bX9_ones_0 (q.2.2.1.getD 0 0) q.2.2.2
  | 1 => bX9_ones_1 (q.2.2.1.getD 0 0) (q.2.2.1.getD 1 0) (q.2.2.1.getD 2 0) q.2.2.2
  | _ => none
noncomputable def fX9_ones (x0 : Int32) (M : Mm) : Option Rst := run stX9_ones (0, [], [x0], M)
def PX9_ones (p : Program) (l : Launch) (e : Env) (s : State) (m : MethodId) (args : Array Value) (below : List Frame) (meth : Method) (c : Code) (G : va_G) (ad : Nat → Nat) (cs : Nat → ClassId) (zk : Nat → Nat) (r : Int32) (M' : Mm) (n : Nat) : Prop := (∀ (x0 : Int32) (M : Mm), itr stX9_ones n (0, [], [x0], M) = some (r, M') → AW p l e rmX9_ones s m args below meth c (MQ below (AQi G ad cs r M') args s 0 0 (inA ad)) G ad cs 3 0 [some (.int x0), none, none] [] M) ∧ (∀ (x0 : Int32) (x1 : Int32) (x2 : Int32) (M : Mm), itr stX9_ones n (1, [], [x0, x1, x2], M) = some (r, M') → AW p l e rmX9_ones s m args below meth c (MQ below (AQi G ad cs r M') args s 0 0 (inA ad)) G ad cs 3 4 [some (.int x0), some (.int x1), some (.int x2)] [] M)
set_option maxRecDepth 100000 in
set_option maxHeartbeats 4000000 in
theorem wX9_ones_0 {p : Program} {l : Launch} {e : Env} {s : State} {m : MethodId} {args : Array Value} {below : List Frame} {meth : Method} {c : Code} {G : va_G} {ad : Nat → Nat} {cs : Nat → ClassId} {zk zv : Nat → Nat} {r : Int32} {M' : Mm} {n : Nat} (F : Fx G ad cs zk zv p m meth c cX9_ones 3 (some .int) s args RX9) (IH : PX9_ones p l e s m args below meth c G ad cs zk r M' n) (x0 : Int32) (M : Mm) (h : (bX9_ones_0 x0 M).bind (fun q => match q with | .inl s' => itr stX9_ones n s' | .inr r => some r) = some (r, M'))  : AW p l e rmX9_ones s m args below meth c (MQ below (AQi G ad cs r M') args s 0 0 (inA ad)) G ad cs 3 0 [some (.int x0), none, none] [] M := by
  unfold bX9_ones_0 at h
  refine ax_iconst (v := (0 : Int32)) F dX9_ones_0 (by decide) ?_
  refine ax_istore_n F dX9_ones_1 (by decide) rfl ?_
  refine ax_iconst (v := (0 : Int32)) F dX9_ones_2 (by decide) ?_
  refine ax_istore_n F dX9_ones_3 (by decide) rfl ?_
  exact IH.2 _ _ _ _ h 
set_option maxRecDepth 100000 in
set_option maxHeartbeats 4000000 in
theorem wX9_ones_1 {p : Program} {l : Launch} {e : Env} {s : State} {m : MethodId} {args : Array Value} {below : List Frame} {meth : Method} {c : Code} {G : va_G} {ad : Nat → Nat} {cs : Nat → ClassId} {zk zv : Nat → Nat} {r : Int32} {M' : Mm} {n : Nat} (F : Fx G ad cs zk zv p m meth c cX9_ones 3 (some .int) s args RX9) (IH : PX9_ones p l e s m args below meth c G ad cs zk r M' n) (x0 : Int32) (x1 : Int32) (x2 : Int32) (M : Mm) (h : (bX9_ones_1 x0 x1 x2 M).bind (fun q => match q with | .inl s' => itr stX9_ones n s' | .inr r => some r) = some (r, M'))  : AW p l e rmX9_ones s m args below meth c (MQ below (AQi G ad cs r M') args s 0 0 (inA ad)) G ad cs 3 4 [some (.int x0), some (.int x1), some (.int x2)] [] M := by
  unfold bX9_ones_1 at h
  refine ax_iload_n F dX9_ones_4 rfl ?_
  refine ax_bipush (v := (8 : Int32)) F dX9_ones_5 (by decide) ?_
  refine ax_icmp_ge (t := 24) F dX9_ones_7 (by decide) (fun hc => ?_) (fun hc => ?_)
  · have h := it_pos h hc
    refine ax_iload_n F dX9_ones_24 rfl ?_
    obtain ⟨h1, h2⟩ := rt_some h
    subst h1; subst h2
    exact ax_iret F dX9_ones_25
  · have h := it_neg h hc
    refine ax_iload_n F dX9_ones_10 rfl ?_
    refine ax_iload_n F dX9_ones_11 rfl ?_
    refine ax_iload_n F dX9_ones_12 rfl ?_
    refine ax_ishr F dX9_ones_13 ?_
    refine ax_iconst (v := (1 : Int32)) F dX9_ones_14 (by decide) ?_
    refine ax_iand F dX9_ones_15 ?_
    refine ax_iadd F dX9_ones_16 ?_
    refine ax_istore_n F dX9_ones_17 (by decide) rfl ?_
    refine ax_iinc (v := (1 : Int32)) F dX9_ones_18 rfl (by decide) (by decide) rfl ?_
    refine ax_goto (t := 4) F dX9_ones_21 (by decide) ?_
    exact IH.2 _ _ _ _ h 
set_option maxRecDepth 100000 in
set_option maxHeartbeats 4000000 in
theorem wX9_ones {p : Program} {l : Launch} {e : Env} {s : State} {m : MethodId} {args : Array Value} {below : List Frame} {meth : Method} {c : Code} {G : va_G} {ad : Nat → Nat} {cs : Nat → ClassId} {zk zv : Nat → Nat} {r : Int32} {M' : Mm} (F : Fx G ad cs zk zv p m meth c cX9_ones 3 (some .int) s args RX9) (n : Nat) : PX9_ones p l e s m args below meth c G ad cs zk r M' n := by
  induction n with
  | zero => exact ⟨(fun x0 M h => by cases h), (fun x0 x1 x2 M h => by cases h)⟩
  | succ n ih =>
    exact ⟨fun x0 M h  => wX9_ones_0 F ih x0 M h ,
      fun x0 x1 x2 M h  => wX9_ones_1 F ih x0 x1 x2 M h ⟩
set_option maxRecDepth 100000 in
set_option maxHeartbeats 4000000 in
theorem tX9_ones {l : Launch} {G : va_G} {ad : Nat → Nat} {cs : Nat → ClassId} {zk zv : Nat → Nat} (hinj : inj ad) (x0 : Int32)  (M : Mm) (r : Int32) (M' : Mm) (h : fX9_ones x0 M = some (r, M')) : Met l yX9_ones (tgW yX9_ones cX9_ones 3 (some .int)) rmX9_ones (APre G ad cs zk zv [.int x0] M) (AQi G ad cs r M') 0 0 (inA ad) := by
  refine met_of (Eq.refl true) (Nat.le_of_ble_eq_true rfl) hinj [some (.int x0), none, none] rfl ?_
  intro p e s m below meth c F
  replace F : Fx G ad cs zk zv p m meth c cX9_ones 3 (some .int) s _ RX9 := F
  obtain ⟨n, hn⟩ := run_ex h
  exact (wX9_ones F n).1 x0 M hn 
noncomputable def fX9_die (x1 : Int32) (x2 : Int32) (M : Mm) : Option Rst := cl (fX9_isNode x1 M) (fun r1 M1 => if r1 = 0 then (some ((-2 : Int32), M1)) else (cl (fX9_in (x2).toInt64 (0 : Int64) (1 : Int64) M1) (fun r2 M2 => if r2 = 0 then (some ((-3 : Int32), M2)) else (if ((isr (M2 339 (ix (1 : Int32))) x1) &&& (1 : Int32)) = x2 then (some ((-4 : Int32), M2)) else (cl (fX9_keepPast M2) (fun r3 M3 => cl (fX9_alive (0 : Int32) (up2 M3 339 (ix (1 : Int32)) ((M3 339 (ix (1 : Int32))) ^^^ (ish (1 : Int32) x1)))) (fun r4 M4 => cl (fX9_ones r4 M4) (fun r5 M5 => some (r5, M5)))))))))
def rmX9_die : Room := { frames := 2, cells := 0, slots := 0, locals := 46 }
theorem kn_X9_die : yX9_die.cls ≠ "java/lang/invoke/MethodHandle" ∧ yX9_die.cls ≠ "java/lang/invoke/VarHandle" ∧ (parseMethodDescriptor yX9_die.desc).map (fun d => d.parameters.length) = some 2 := by decide +kernel
set_option maxRecDepth 100000 in
set_option maxHeartbeats 4000000 in
theorem tX9_die {l : Launch} {G : va_G} {ad : Nat → Nat} {cs : Nat → ClassId} {zk zv : Nat → Nat} (hinj : inj ad) (x1 : Int32) (x2 : Int32)  (M : Mm) (r : Int32) (M' : Mm) (h : fX9_die x1 x2 M = some (r, M')) : Met l yX9_die (tgW yX9_die cX9_die 3 (some .int)) rmX9_die (APre G ad cs zk zv [.ref (ad 338), .int x1, .int x2] M) (AQi G ad cs r M') 0 0 (inA ad) := by
  refine met_of (Eq.refl true) (Nat.le_of_ble_eq_true rfl) hinj [some (.ref (ad 338)), some (.int x1), some (.int x2)] rfl ?_
  intro p e s m below meth c F
  replace F : Fx G ad cs zk zv p m meth c cX9_die 3 (some .int) s _ RX9 := F
  unfold fX9_die at h
  refine ax_aload_n F dX9_die_0 rfl ?_
  refine ax_iload_n F dX9_die_1 rfl ?_
  obtain ⟨r1, M1, hq1, h⟩ := cq_some0 h
  refine ax_callVi (As := [.int x1]) (st := []) F (tX9_isNode F.2.2.2.2.2.2.1 _  _ _ _ hq1) ob_338 rfl kc_X9_isNode kz_X9 ki_X9_isNode ks_X9_isNode km_X9_188 ⟨kn_X9_isNode, rfl, rfl, Nat.le_of_ble_eq_true rfl, Nat.le_of_ble_eq_true rfl⟩ rfl (Nat.le_of_ble_eq_true rfl) dX9_die_2 ?_
  refine ax_if_ne (t := 11) F dX9_die_5 (by decide) (fun hc => ?_) (fun hc => ?_)
  · have h := it_neg0 h hc
    refine ax_iload_n F dX9_die_11 rfl ?_
    refine ax_i2l F dX9_die_12 ?_
    refine ax_lconst (v := (0 : Int64)) F dX9_die_13 (by decide) ?_
    refine ax_lconst (v := (1 : Int64)) F dX9_die_14 (by decide) ?_
    obtain ⟨r2, M2, hq2, h⟩ := cq_some0 h
    refine ax_callSi (As := [.long (x2).toInt64, .long (0 : Int64), .long (1 : Int64)]) (st := []) F (tX9_in F.2.2.2.2.2.2.1 _ _ _  _ _ _ hq2) kc_X9_in kz_X9 kt_X9_in km_X9_66 ⟨kn_X9_in, rfl, rfl, Nat.le_of_ble_eq_true rfl, Nat.le_of_ble_eq_true rfl⟩ rfl (Nat.le_of_ble_eq_true rfl) dX9_die_15 ?_
    refine ax_if_ne (t := 24) F dX9_die_18 (by decide) (fun hc => ?_) (fun hc => ?_)
    · have h := it_neg0 h hc
      refine ax_aload_n F dX9_die_24 rfl ?_
      refine ax_get (v := .ref (ad 339)) F ob_338 rfl inGX9 0 (by decide) rfl kf_X9_7 rfl dX9_die_25 ?_
      refine ax_iconst (v := (1 : Int32)) F dX9_die_28 (by decide) ?_
      refine ax_iald F ar_339 (by decide) dX9_die_29 ?_
      refine ax_iload_n F dX9_die_30 rfl ?_
      refine ax_ishr F dX9_die_31 ?_
      refine ax_iconst (v := (1 : Int32)) F dX9_die_32 (by decide) ?_
      refine ax_iand F dX9_die_33 ?_
      refine ax_iload_n F dX9_die_34 rfl ?_
      refine ax_icmp_ne (t := 41) F dX9_die_35 (by decide) (fun hc => ?_) (fun hc => ?_)
      · have h := it_neg0 h hc
        refine ax_aload_n F dX9_die_41 rfl ?_
        obtain ⟨r3, M3, hq3, h⟩ := cq_some0 h
        refine ax_callVv (As := []) (st := []) F (tX9_keepPast F.2.2.2.2.2.2.1   _ _ _ hq3) ob_338 rfl kc_X9_keepPast kz_X9 ki_X9_keepPast ks_X9_keepPast km_X9_201 ⟨kn_X9_keepPast, rfl, rfl, Nat.le_of_ble_eq_true rfl, Nat.le_of_ble_eq_true rfl⟩ rfl (Nat.le_of_ble_eq_true rfl) dX9_die_42 ?_
        refine ax_aload_n F dX9_die_45 rfl ?_
        refine ax_get (v := .ref (ad 339)) F ob_338 rfl inGX9 0 (by decide) rfl kf_X9_7 rfl dX9_die_46 ?_
        refine ax_iconst (v := (1 : Int32)) F dX9_die_49 (by decide) ?_
        refine ax_dup2 F dX9_die_50 rfl rfl ?_
        refine ax_iald F ar_339 (by decide) dX9_die_51 ?_
        refine ax_iconst (v := (1 : Int32)) F dX9_die_52 (by decide) ?_
        refine ax_iload_n F dX9_die_53 rfl ?_
        refine ax_ishl F dX9_die_54 ?_
        refine ax_ixor F dX9_die_55 ?_
        refine ax_iast F ar_339 (by decide) dX9_die_56 ?_
        refine ax_aload_n F dX9_die_57 rfl ?_
        refine ax_iconst (v := (0 : Int32)) F dX9_die_58 (by decide) ?_
        obtain ⟨r4, M4, hq4, h⟩ := cq_some0 h
        refine ax_callVi (As := [.int (0 : Int32)]) (st := []) F (tX9_alive F.2.2.2.2.2.2.1 _  _ _ _ hq4) ob_338 rfl kc_X9_alive kz_X9 ki_X9_alive ks_X9_alive km_X9_212 ⟨kn_X9_alive, rfl, rfl, Nat.le_of_ble_eq_true rfl, Nat.le_of_ble_eq_true rfl⟩ rfl (Nat.le_of_ble_eq_true rfl) dX9_die_59 ?_
        obtain ⟨r5, M5, hq5, h⟩ := cq_some0 h
        refine ax_callSi (As := [.int r4]) (st := []) F (tX9_ones F.2.2.2.2.2.2.1 _  _ _ _ hq5) kc_X9_ones kz_X9 kt_X9_ones km_X9_215 ⟨kn_X9_ones, rfl, rfl, Nat.le_of_ble_eq_true rfl, Nat.le_of_ble_eq_true rfl⟩ rfl (Nat.le_of_ble_eq_true rfl) dX9_die_62 ?_
        obtain ⟨h1, h2⟩ := rt_some0 h
        subst h1; subst h2
        exact ax_iret F dX9_die_65
      · have h := it_pos0 h hc
        refine ax_bipush (v := (-4 : Int32)) F dX9_die_38 (by decide) ?_
        obtain ⟨h1, h2⟩ := rt_some0 h
        subst h1; subst h2
        exact ax_iret F dX9_die_40
    · have h := it_pos0 h hc
      refine ax_bipush (v := (-3 : Int32)) F dX9_die_21 (by decide) ?_
      obtain ⟨h1, h2⟩ := rt_some0 h
      subst h1; subst h2
      exact ax_iret F dX9_die_23
  · have h := it_pos0 h hc
    refine ax_bipush (v := (-2 : Int32)) F dX9_die_8 (by decide) ?_
    obtain ⟨h1, h2⟩ := rt_some0 h
    subst h1; subst h2
    exact ax_iret F dX9_die_10
noncomputable def fX9_link (x1 : Int32) (x2 : Int32) (M : Mm) : Option Rst := cl (fX9_isNode x1 M) (fun r1 M1 => if r1 = 0 then (some ((-2 : Int32), M1)) else (cl (fX9_isNode x2 M1) (fun r2 M2 => if r2 = 0 then (some ((-2 : Int32), M2)) else (if x1 = x2 then (some ((-2 : Int32), M2)) else (cl (fX9_placeOf (0 : Int32) x1 x2 M2) (fun r3 M3 => if r3 = (-1 : Int32) then (gd (okI ((2 : Int32) + x1) 1080) (if (M3 339 (ix ((2 : Int32) + x1))) = (M3 338 2) then (some ((-5 : Int32), M3)) else (cl (fX9_keepPast M3) (fun r4 M4 => cl (fX9_put (0 : Int32) x1 x2 (0 : Int32) M4) (fun r5 M5 => gd (okI ((2 : Int32) + x1) 1080) (some ((M5 339 (ix ((2 : Int32) + x1))), M5))))))) else (some ((-4 : Int32), M3))))))))
def rmX9_link : Room := { frames := 2, cells := 0, slots := 0, locals := 46 }
theorem kn_X9_link : yX9_link.cls ≠ "java/lang/invoke/MethodHandle" ∧ yX9_link.cls ≠ "java/lang/invoke/VarHandle" ∧ (parseMethodDescriptor yX9_link.desc).map (fun d => d.parameters.length) = some 2 := by decide +kernel
set_option maxRecDepth 100000 in
set_option maxHeartbeats 4000000 in
theorem tX9_link {l : Launch} {G : va_G} {ad : Nat → Nat} {cs : Nat → ClassId} {zk zv : Nat → Nat} (hinj : inj ad) (x1 : Int32) (x2 : Int32)  (M : Mm) (r : Int32) (M' : Mm) (h : fX9_link x1 x2 M = some (r, M')) : Met l yX9_link (tgW yX9_link cX9_link 3 (some .int)) rmX9_link (APre G ad cs zk zv [.ref (ad 338), .int x1, .int x2] M) (AQi G ad cs r M') 0 0 (inA ad) := by
  refine met_of (Eq.refl true) (Nat.le_of_ble_eq_true rfl) hinj [some (.ref (ad 338)), some (.int x1), some (.int x2)] rfl ?_
  intro p e s m below meth c F
  replace F : Fx G ad cs zk zv p m meth c cX9_link 3 (some .int) s _ RX9 := F
  unfold fX9_link at h
  refine ax_aload_n F dX9_link_0 rfl ?_
  refine ax_iload_n F dX9_link_1 rfl ?_
  obtain ⟨r1, M1, hq1, h⟩ := cq_some0 h
  refine ax_callVi (As := [.int x1]) (st := []) F (tX9_isNode F.2.2.2.2.2.2.1 _  _ _ _ hq1) ob_338 rfl kc_X9_isNode kz_X9 ki_X9_isNode ks_X9_isNode km_X9_188 ⟨kn_X9_isNode, rfl, rfl, Nat.le_of_ble_eq_true rfl, Nat.le_of_ble_eq_true rfl⟩ rfl (Nat.le_of_ble_eq_true rfl) dX9_link_2 ?_
  refine ax_if_eq (t := 21) F dX9_link_5 (by decide) (fun hc => ?_) (fun hc => ?_)
  · have h := it_pos0 h hc
    refine ax_bipush (v := (-2 : Int32)) F dX9_link_21 (by decide) ?_
    obtain ⟨h1, h2⟩ := rt_some0 h
    subst h1; subst h2
    exact ax_iret F dX9_link_23
  · have h := it_neg0 h hc
    refine ax_aload_n F dX9_link_8 rfl ?_
    refine ax_iload_n F dX9_link_9 rfl ?_
    obtain ⟨r2, M2, hq2, h⟩ := cq_some0 h
    refine ax_callVi (As := [.int x2]) (st := []) F (tX9_isNode F.2.2.2.2.2.2.1 _  _ _ _ hq2) ob_338 rfl kc_X9_isNode kz_X9 ki_X9_isNode ks_X9_isNode km_X9_188 ⟨kn_X9_isNode, rfl, rfl, Nat.le_of_ble_eq_true rfl, Nat.le_of_ble_eq_true rfl⟩ rfl (Nat.le_of_ble_eq_true rfl) dX9_link_10 ?_
    refine ax_if_eq (t := 21) F dX9_link_13 (by decide) (fun hc => ?_) (fun hc => ?_)
    · have h := it_pos0 h hc
      refine ax_bipush (v := (-2 : Int32)) F dX9_link_21 (by decide) ?_
      obtain ⟨h1, h2⟩ := rt_some0 h
      subst h1; subst h2
      exact ax_iret F dX9_link_23
    · have h := it_neg0 h hc
      refine ax_iload_n F dX9_link_16 rfl ?_
      refine ax_iload_n F dX9_link_17 rfl ?_
      refine ax_icmp_ne (t := 24) F dX9_link_18 (by decide) (fun hc => ?_) (fun hc => ?_)
      · have h := it_neg0 h hc
        refine ax_aload_n F dX9_link_24 rfl ?_
        refine ax_iconst (v := (0 : Int32)) F dX9_link_25 (by decide) ?_
        refine ax_iload_n F dX9_link_26 rfl ?_
        refine ax_iload_n F dX9_link_27 rfl ?_
        obtain ⟨r3, M3, hq3, h⟩ := cq_some0 h
        refine ax_callVi (As := [.int (0 : Int32), .int x1, .int x2]) (st := []) F (tX9_placeOf F.2.2.2.2.2.2.1 _ _ _  _ _ _ hq3) ob_338 rfl kc_X9_placeOf kz_X9 ki_X9_placeOf ks_X9_placeOf km_X9_108 ⟨kn_X9_placeOf, rfl, rfl, Nat.le_of_ble_eq_true rfl, Nat.le_of_ble_eq_true rfl⟩ rfl (Nat.le_of_ble_eq_true rfl) dX9_link_28 ?_
        refine ax_iconst (v := (-1 : Int32)) F dX9_link_31 (by decide) ?_
        refine ax_icmp_eq (t := 38) F dX9_link_32 (by decide) (fun hc => ?_) (fun hc => ?_)
        · have h := it_pos0 h hc
          refine ax_aload_n F dX9_link_38 rfl ?_
          refine ax_get (v := .ref (ad 339)) F ob_338 rfl inGX9 0 (by decide) rfl kf_X9_7 rfl dX9_link_39 ?_
          refine ax_iconst (v := (2 : Int32)) F dX9_link_42 (by decide) ?_
          refine ax_iload_n F dX9_link_43 rfl ?_
          refine ax_iadd F dX9_link_44 ?_
          obtain ⟨hg, h⟩ := gd_some0 h
          refine ax_iald F ar_339 hg dX9_link_45 ?_
          refine ax_aload_n F dX9_link_46 rfl ?_
          refine ax_get (v := .int (M3 338 2)) F ob_338 rfl inGX9 2 (by decide) rfl kf_X9_52 rfl dX9_link_47 ?_
          refine ax_icmp_ne (t := 56) F dX9_link_50 (by decide) (fun hc => ?_) (fun hc => ?_)
          · have h := it_neg0 h hc
            refine ax_aload_n F dX9_link_56 rfl ?_
            obtain ⟨r4, M4, hq4, h⟩ := cq_some0 h
            refine ax_callVv (As := []) (st := []) F (tX9_keepPast F.2.2.2.2.2.2.1   _ _ _ hq4) ob_338 rfl kc_X9_keepPast kz_X9 ki_X9_keepPast ks_X9_keepPast km_X9_201 ⟨kn_X9_keepPast, rfl, rfl, Nat.le_of_ble_eq_true rfl, Nat.le_of_ble_eq_true rfl⟩ rfl (Nat.le_of_ble_eq_true rfl) dX9_link_57 ?_
            refine ax_aload_n F dX9_link_60 rfl ?_
            refine ax_iconst (v := (0 : Int32)) F dX9_link_61 (by decide) ?_
            refine ax_iload_n F dX9_link_62 rfl ?_
            refine ax_iload_n F dX9_link_63 rfl ?_
            refine ax_iconst (v := (0 : Int32)) F dX9_link_64 (by decide) ?_
            obtain ⟨r5, M5, hq5, h⟩ := cq_some0 h
            refine ax_callVv (As := [.int (0 : Int32), .int x1, .int x2, .int (0 : Int32)]) (st := []) F (tX9_put F.2.2.2.2.2.2.1 _ _ _ _  _ _ _ hq5) ob_338 rfl kc_X9_put kz_X9 ki_X9_put ks_X9_put km_X9_61 ⟨kn_X9_put, rfl, rfl, Nat.le_of_ble_eq_true rfl, Nat.le_of_ble_eq_true rfl⟩ rfl (Nat.le_of_ble_eq_true rfl) dX9_link_65 ?_
            refine ax_aload_n F dX9_link_68 rfl ?_
            refine ax_get (v := .ref (ad 339)) F ob_338 rfl inGX9 0 (by decide) rfl kf_X9_7 rfl dX9_link_69 ?_
            refine ax_iconst (v := (2 : Int32)) F dX9_link_72 (by decide) ?_
            refine ax_iload_n F dX9_link_73 rfl ?_
            refine ax_iadd F dX9_link_74 ?_
            obtain ⟨hg, h⟩ := gd_some0 h
            refine ax_iald F ar_339 hg dX9_link_75 ?_
            obtain ⟨h1, h2⟩ := rt_some0 h
            subst h1; subst h2
            exact ax_iret F dX9_link_76
          · have h := it_pos0 h hc
            refine ax_bipush (v := (-5 : Int32)) F dX9_link_53 (by decide) ?_
            obtain ⟨h1, h2⟩ := rt_some0 h
            subst h1; subst h2
            exact ax_iret F dX9_link_55
        · have h := it_neg0 h hc
          refine ax_bipush (v := (-4 : Int32)) F dX9_link_35 (by decide) ?_
          obtain ⟨h1, h2⟩ := rt_some0 h
          subst h1; subst h2
          exact ax_iret F dX9_link_37
      · have h := it_pos0 h hc
        refine ax_bipush (v := (-2 : Int32)) F dX9_link_21 (by decide) ?_
        obtain ⟨h1, h2⟩ := rt_some0 h
        subst h1; subst h2
        exact ax_iret F dX9_link_23
noncomputable def fX9_undo  (M : Mm) : Option Rst := if (M 338 5) = 0 then (some ((-4 : Int32), M)) else (cl (fX9_copyRow ((90 : Int32) + ((90 : Int32) * ((up2 M 338 5 ((M 338 5) - (1 : Int32))) 338 5))) (0 : Int32) (up2 M 338 5 ((M 338 5) - (1 : Int32)))) (fun r1 M1 => some ((M1 338 5), M1)))
def rmX9_undo : Room := { frames := 1, cells := 0, slots := 0, locals := 23 }
theorem kn_X9_undo : yX9_undo.cls ≠ "java/lang/invoke/MethodHandle" ∧ yX9_undo.cls ≠ "java/lang/invoke/VarHandle" ∧ (parseMethodDescriptor yX9_undo.desc).map (fun d => d.parameters.length) = some 0 := by decide +kernel
set_option maxRecDepth 100000 in
set_option maxHeartbeats 4000000 in
theorem tX9_undo {l : Launch} {G : va_G} {ad : Nat → Nat} {cs : Nat → ClassId} {zk zv : Nat → Nat} (hinj : inj ad)   (M : Mm) (r : Int32) (M' : Mm) (h : fX9_undo  M = some (r, M')) : Met l yX9_undo (tgW yX9_undo cX9_undo 1 (some .int)) rmX9_undo (APre G ad cs zk zv [.ref (ad 338)] M) (AQi G ad cs r M') 0 0 (inA ad) := by
  refine met_of (Eq.refl true) (Nat.le_of_ble_eq_true rfl) hinj [some (.ref (ad 338))] rfl ?_
  intro p e s m below meth c F
  replace F : Fx G ad cs zk zv p m meth c cX9_undo 1 (some .int) s _ RX9 := F
  unfold fX9_undo at h
  refine ax_aload_n F dX9_undo_0 rfl ?_
  refine ax_get (v := .int (M 338 5)) F ob_338 rfl inGX9 5 (by decide) rfl kf_X9_149 rfl dX9_undo_1 ?_
  refine ax_if_ne (t := 10) F dX9_undo_4 (by decide) (fun hc => ?_) (fun hc => ?_)
  · have h := it_neg0 h hc
    refine ax_aload_n F dX9_undo_10 rfl ?_
    refine ax_dup F dX9_undo_11 rfl ?_
    refine ax_get (v := .int (M 338 5)) F ob_338 rfl inGX9 5 (by decide) rfl kf_X9_149 rfl dX9_undo_12 ?_
    refine ax_iconst (v := (1 : Int32)) F dX9_undo_15 (by decide) ?_
    refine ax_isub F dX9_undo_16 ?_
    refine ax_put (ty := .int) F ob_338 rfl inGX9 tyX9 tyX9_ok nmX9 5 (by decide) rfl kf_X9_149 (by decide) rfl rfl (Nat.le_of_ble_eq_true rfl) rfl dX9_undo_17 ?_
    refine ax_aload_n F dX9_undo_20 rfl ?_
    refine ax_bipush (v := (90 : Int32)) F dX9_undo_21 (by decide) ?_
    refine ax_bipush (v := (90 : Int32)) F dX9_undo_23 (by decide) ?_
    refine ax_aload_n F dX9_undo_25 rfl ?_
    refine ax_get (v := .int ((up2 M 338 5 ((M 338 5) - (1 : Int32))) 338 5)) F ob_338 rfl inGX9 5 (by decide) rfl kf_X9_149 rfl dX9_undo_26 ?_
    refine ax_imul F dX9_undo_29 ?_
    refine ax_iadd F dX9_undo_30 ?_
    refine ax_iconst (v := (0 : Int32)) F dX9_undo_31 (by decide) ?_
    obtain ⟨r1, M1, hq1, h⟩ := cq_some0 h
    refine ax_callVv (As := [.int ((90 : Int32) + ((90 : Int32) * ((up2 M 338 5 ((M 338 5) - (1 : Int32))) 338 5))), .int (0 : Int32)]) (st := []) F (tX9_copyRow F.2.2.2.2.2.2.1 _ _  _ _ _ hq1) ob_338 rfl kc_X9_copyRow kz_X9 ki_X9_copyRow ks_X9_copyRow km_X9_198 ⟨kn_X9_copyRow, rfl, rfl, Nat.le_of_ble_eq_true rfl, Nat.le_of_ble_eq_true rfl⟩ rfl (Nat.le_of_ble_eq_true rfl) dX9_undo_32 ?_
    refine ax_aload_n F dX9_undo_35 rfl ?_
    refine ax_get (v := .int (M1 338 5)) F ob_338 rfl inGX9 5 (by decide) rfl kf_X9_149 rfl dX9_undo_36 ?_
    obtain ⟨h1, h2⟩ := rt_some0 h
    subst h1; subst h2
    exact ax_iret F dX9_undo_39
  · have h := it_pos0 h hc
    refine ax_bipush (v := (-4 : Int32)) F dX9_undo_7 (by decide) ?_
    obtain ⟨h1, h2⟩ := rt_some0 h
    subst h1; subst h2
    exact ax_iret F dX9_undo_9
