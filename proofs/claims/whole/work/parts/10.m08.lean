noncomputable def fX9_readsRest (x1 : Int32) (M : Mm) : Option Rst := if x1 = (0 : Int32) then (cl (fX9_number (0 : Int32) (2 : Int32) (8 : Int32) (-1 : Int32) M) (fun r1 M1 => if r1 = 0 then (some ((0 : Int32), M1)) else (cl (fX9_number (1 : Int32) (1 : Int32) (5 : Int32) (-1 : Int32) M1) (fun r2 M2 => if r2 = 0 then (some ((0 : Int32), M2)) else (cl (fX9_number (2 : Int32) (1 : Int32) (M2 344 (ix (1 : Int32))) (-1 : Int32) M2) (fun r3 M3 => if r3 = 0 then (some ((0 : Int32), M3)) else (cl (fX9_number (3 : Int32) (1 : Int32) (999 : Int32) (-1 : Int32) M3) (fun r4 M4 => if r4 = 0 then (some ((0 : Int32), M4)) else (some ((1 : Int32), M4)))))))))) else if x1 = (1 : Int32) then (cl (fX9_readsNode (0 : Int32) (-1 : Int32) M) (fun r5 M5 => gd (okZ r5) (some (r5, M5)))) else if x1 = (2 : Int32) then (cl (fX9_readsNode (0 : Int32) (-1 : Int32) M) (fun r6 M6 => gd (okZ r6) (some (r6, M6)))) else if x1 = (3 : Int32) then (cl (fX9_readsNode (0 : Int32) (-1 : Int32) M) (fun r7 M7 => if r7 = 0 then (some ((0 : Int32), M7)) else (cl (fX9_readsNode (1 : Int32) (M7 344 (ix (0 : Int32))) M7) (fun r8 M8 => if r8 = 0 then (some ((0 : Int32), M8)) else (cl (fX9_number (2 : Int32) (0 : Int32) (99 : Int32) (-1 : Int32) M8) (fun r9 M9 => if r9 = 0 then (some ((0 : Int32), M9)) else (some ((1 : Int32), M9)))))))) else if x1 = (4 : Int32) then (cl (fX9_readsNode (0 : Int32) (-1 : Int32) M) (fun r10 M10 => if r10 = 0 then (some ((0 : Int32), M10)) else (cl (fX9_readsNode (1 : Int32) (M10 344 (ix (0 : Int32))) M10) (fun r11 M11 => if r11 = 0 then (some ((0 : Int32), M11)) else (some ((1 : Int32), M11)))))) else (cl (fX9_readsNode (0 : Int32) (-1 : Int32) M) (fun r12 M12 => gd (okZ r12) (some (r12, M12))))
def rmX9_readsRest : Room := { frames := 5, cells := 0, slots := 0, locals := 113 }
theorem kn_X9_readsRest : yX9_readsRest.cls ≠ "java/lang/invoke/MethodHandle" ∧ yX9_readsRest.cls ≠ "java/lang/invoke/VarHandle" ∧ (parseMethodDescriptor yX9_readsRest.desc).map (fun d => d.parameters.length) = some 1 := by decide +kernel
set_option maxRecDepth 100000 in
set_option maxHeartbeats 4000000 in
theorem tX9_readsRest {l : Launch} {G : va_G} {L : List Nat} {ad : Nat → Nat} {cs : Nat → ClassId} {z : Bool} {zk zv : Nat → Nat} (hinj : inj L ad) (hm : isM L) (x1 : Int32)  (M : Mm) (r : Int32) (M' : Mm) (h : fX9_readsRest x1 M = some (r, M')) : Met l yX9_readsRest (tgW yX9_readsRest cX9_readsRest 2 (some .boolean)) rmX9_readsRest (APre G L ad cs z zk zv [.ref (ad 338), .int x1] M) (AQi G L ad cs r M') 0 0 (inA L ad) := by
  refine met_of (Eq.refl true) (Nat.le_of_ble_eq_true rfl) hinj [some (.ref (ad 338)), some (.int x1)] rfl ?_
  intro p e s m below meth c F
  replace F : Fx G L ad cs z zk zv p m meth c cX9_readsRest 2 (some .boolean) s _ RX9 := F
  unfold fX9_readsRest at h
  refine ax_iload_n F dX9_readsRest_0 rfl ?_
  by_cases hc0 : x1 = (0 : Int32)
  · have h := it_pos0 h hc0
    refine ax_swK (v := (0 : Int32)) (t := 36) F dX9_readsRest_1 hc0 (by decide) (by decide) rfl (by decide) ?_
    refine ax_aload_n F dX9_readsRest_36 rfl ?_
    refine ax_iconst (v := (0 : Int32)) F dX9_readsRest_37 (by decide) ?_
    refine ax_iconst (v := (2 : Int32)) F dX9_readsRest_38 (by decide) ?_
    refine ax_bipush (v := (8 : Int32)) F dX9_readsRest_39 (by decide) ?_
    refine ax_iconst (v := (-1 : Int32)) F dX9_readsRest_41 (by decide) ?_
    obtain ⟨r1, M1, hq1, h⟩ := cq_some0 h
    refine ax_callVi (As := [.int (0 : Int32), .int (2 : Int32), .int (8 : Int32), .int (-1 : Int32)]) (st := []) F (tX9_number F.2.2.2.2.2.2.1 hm _ _ _ _  _ _ _ hq1) (ob_338 hm) rfl kc_X9_number kz_X9 ki_X9_number ks_X9_number km_X9_100 ⟨kn_X9_number, rfl, rfl, Nat.le_of_ble_eq_true rfl, Nat.le_of_ble_eq_true rfl⟩ rfl (Nat.le_of_ble_eq_true rfl) dX9_readsRest_42 ?_
    refine ax_if_eq (t := 92) F dX9_readsRest_45 (by decide) (fun hc => ?_) (fun hc => ?_)
    · have h := it_pos0 h hc
      refine ax_iconst (v := (0 : Int32)) F dX9_readsRest_92 (by decide) ?_
      obtain ⟨h1, h2⟩ := rt_some0 h
      subst h1; subst h2
      exact ax_zret F (by decide) dX9_readsRest_93
    · have h := it_neg0 h hc
      refine ax_aload_n F dX9_readsRest_48 rfl ?_
      refine ax_iconst (v := (1 : Int32)) F dX9_readsRest_49 (by decide) ?_
      refine ax_iconst (v := (1 : Int32)) F dX9_readsRest_50 (by decide) ?_
      refine ax_iconst (v := (5 : Int32)) F dX9_readsRest_51 (by decide) ?_
      refine ax_iconst (v := (-1 : Int32)) F dX9_readsRest_52 (by decide) ?_
      obtain ⟨r2, M2, hq2, h⟩ := cq_some0 h
      refine ax_callVi (As := [.int (1 : Int32), .int (1 : Int32), .int (5 : Int32), .int (-1 : Int32)]) (st := []) F (tX9_number F.2.2.2.2.2.2.1 hm _ _ _ _  _ _ _ hq2) (ob_338 hm) rfl kc_X9_number kz_X9 ki_X9_number ks_X9_number km_X9_100 ⟨kn_X9_number, rfl, rfl, Nat.le_of_ble_eq_true rfl, Nat.le_of_ble_eq_true rfl⟩ rfl (Nat.le_of_ble_eq_true rfl) dX9_readsRest_53 ?_
      refine ax_if_eq (t := 92) F dX9_readsRest_56 (by decide) (fun hc => ?_) (fun hc => ?_)
      · have h := it_pos0 h hc
        refine ax_iconst (v := (0 : Int32)) F dX9_readsRest_92 (by decide) ?_
        obtain ⟨h1, h2⟩ := rt_some0 h
        subst h1; subst h2
        exact ax_zret F (by decide) dX9_readsRest_93
      · have h := it_neg0 h hc
        refine ax_aload_n F dX9_readsRest_59 rfl ?_
        refine ax_iconst (v := (2 : Int32)) F dX9_readsRest_60 (by decide) ?_
        refine ax_iconst (v := (1 : Int32)) F dX9_readsRest_61 (by decide) ?_
        refine ax_aload_n F dX9_readsRest_62 rfl ?_
        refine ax_get (v := .ref (ad 344)) F (ob_338 hm) rfl inGX9 16 (by decide) rfl kf_X9_26 rfl dX9_readsRest_63 ?_
        refine ax_iconst (v := (1 : Int32)) F dX9_readsRest_66 (by decide) ?_
        refine ax_iald F (ar_344 hm) (by decide) dX9_readsRest_67 ?_
        refine ax_iconst (v := (-1 : Int32)) F dX9_readsRest_68 (by decide) ?_
        obtain ⟨r3, M3, hq3, h⟩ := cq_some0 h
        refine ax_callVi (As := [.int (2 : Int32), .int (1 : Int32), .int (M2 344 (ix (1 : Int32))), .int (-1 : Int32)]) (st := []) F (tX9_number F.2.2.2.2.2.2.1 hm _ _ _ _  _ _ _ hq3) (ob_338 hm) rfl kc_X9_number kz_X9 ki_X9_number ks_X9_number km_X9_100 ⟨kn_X9_number, rfl, rfl, Nat.le_of_ble_eq_true rfl, Nat.le_of_ble_eq_true rfl⟩ rfl (Nat.le_of_ble_eq_true rfl) dX9_readsRest_69 ?_
        refine ax_if_eq (t := 92) F dX9_readsRest_72 (by decide) (fun hc => ?_) (fun hc => ?_)
        · have h := it_pos0 h hc
          refine ax_iconst (v := (0 : Int32)) F dX9_readsRest_92 (by decide) ?_
          obtain ⟨h1, h2⟩ := rt_some0 h
          subst h1; subst h2
          exact ax_zret F (by decide) dX9_readsRest_93
        · have h := it_neg0 h hc
          refine ax_aload_n F dX9_readsRest_75 rfl ?_
          refine ax_iconst (v := (3 : Int32)) F dX9_readsRest_76 (by decide) ?_
          refine ax_iconst (v := (1 : Int32)) F dX9_readsRest_77 (by decide) ?_
          refine ax_sipush (v := (999 : Int32)) F dX9_readsRest_78 (by decide) ?_
          refine ax_iconst (v := (-1 : Int32)) F dX9_readsRest_81 (by decide) ?_
          obtain ⟨r4, M4, hq4, h⟩ := cq_some0 h
          refine ax_callVi (As := [.int (3 : Int32), .int (1 : Int32), .int (999 : Int32), .int (-1 : Int32)]) (st := []) F (tX9_number F.2.2.2.2.2.2.1 hm _ _ _ _  _ _ _ hq4) (ob_338 hm) rfl kc_X9_number kz_X9 ki_X9_number ks_X9_number km_X9_100 ⟨kn_X9_number, rfl, rfl, Nat.le_of_ble_eq_true rfl, Nat.le_of_ble_eq_true rfl⟩ rfl (Nat.le_of_ble_eq_true rfl) dX9_readsRest_82 ?_
          refine ax_if_eq (t := 92) F dX9_readsRest_85 (by decide) (fun hc => ?_) (fun hc => ?_)
          · have h := it_pos0 h hc
            refine ax_iconst (v := (0 : Int32)) F dX9_readsRest_92 (by decide) ?_
            obtain ⟨h1, h2⟩ := rt_some0 h
            subst h1; subst h2
            exact ax_zret F (by decide) dX9_readsRest_93
          · have h := it_neg0 h hc
            refine ax_iconst (v := (1 : Int32)) F dX9_readsRest_88 (by decide) ?_
            refine ax_goto (t := 93) F dX9_readsRest_89 (by decide) ?_
            obtain ⟨h1, h2⟩ := rt_some0 h
            subst h1; subst h2
            exact ax_zret F (by decide) dX9_readsRest_93
  replace h := it_neg0 h hc0
  by_cases hc1 : x1 = (1 : Int32)
  · have h := it_pos0 h hc1
    refine ax_swK (v := (1 : Int32)) (t := 164) F dX9_readsRest_1 hc1 (by decide) (by decide) rfl (by decide) ?_
    refine ax_aload_n F dX9_readsRest_164 rfl ?_
    refine ax_iconst (v := (0 : Int32)) F dX9_readsRest_165 (by decide) ?_
    refine ax_iconst (v := (-1 : Int32)) F dX9_readsRest_166 (by decide) ?_
    obtain ⟨r5, M5, hq5, h⟩ := cq_some0 h
    refine ax_callVi (As := [.int (0 : Int32), .int (-1 : Int32)]) (st := []) F (tX9_readsNode F.2.2.2.2.2.2.1 hm _ _  _ _ _ hq5) (ob_338 hm) rfl kc_X9_readsNode kz_X9 ki_X9_readsNode ks_X9_readsNode km_X9_104 ⟨kn_X9_readsNode, rfl, rfl, Nat.le_of_ble_eq_true rfl, Nat.le_of_ble_eq_true rfl⟩ rfl (Nat.le_of_ble_eq_true rfl) dX9_readsRest_167 ?_
    obtain ⟨hz, h⟩ := gd_some0 h
    obtain ⟨h1, h2⟩ := rt_some0 h
    subst h1; subst h2
    exact ax_zret F hz dX9_readsRest_170
  replace h := it_neg0 h hc1
  by_cases hc2 : x1 = (2 : Int32)
  · have h := it_pos0 h hc2
    refine ax_swK (v := (2 : Int32)) (t := 164) F dX9_readsRest_1 hc2 (by decide) (by decide) rfl (by decide) ?_
    refine ax_aload_n F dX9_readsRest_164 rfl ?_
    refine ax_iconst (v := (0 : Int32)) F dX9_readsRest_165 (by decide) ?_
    refine ax_iconst (v := (-1 : Int32)) F dX9_readsRest_166 (by decide) ?_
    obtain ⟨r6, M6, hq6, h⟩ := cq_some0 h
    refine ax_callVi (As := [.int (0 : Int32), .int (-1 : Int32)]) (st := []) F (tX9_readsNode F.2.2.2.2.2.2.1 hm _ _  _ _ _ hq6) (ob_338 hm) rfl kc_X9_readsNode kz_X9 ki_X9_readsNode ks_X9_readsNode km_X9_104 ⟨kn_X9_readsNode, rfl, rfl, Nat.le_of_ble_eq_true rfl, Nat.le_of_ble_eq_true rfl⟩ rfl (Nat.le_of_ble_eq_true rfl) dX9_readsRest_167 ?_
    obtain ⟨hz, h⟩ := gd_some0 h
    obtain ⟨h1, h2⟩ := rt_some0 h
    subst h1; subst h2
    exact ax_zret F hz dX9_readsRest_170
  replace h := it_neg0 h hc2
  by_cases hc3 : x1 = (3 : Int32)
  · have h := it_pos0 h hc3
    refine ax_swK (v := (3 : Int32)) (t := 94) F dX9_readsRest_1 hc3 (by decide) (by decide) rfl (by decide) ?_
    refine ax_aload_n F dX9_readsRest_94 rfl ?_
    refine ax_iconst (v := (0 : Int32)) F dX9_readsRest_95 (by decide) ?_
    refine ax_iconst (v := (-1 : Int32)) F dX9_readsRest_96 (by decide) ?_
    obtain ⟨r7, M7, hq7, h⟩ := cq_some0 h
    refine ax_callVi (As := [.int (0 : Int32), .int (-1 : Int32)]) (st := []) F (tX9_readsNode F.2.2.2.2.2.2.1 hm _ _  _ _ _ hq7) (ob_338 hm) rfl kc_X9_readsNode kz_X9 ki_X9_readsNode ks_X9_readsNode km_X9_104 ⟨kn_X9_readsNode, rfl, rfl, Nat.le_of_ble_eq_true rfl, Nat.le_of_ble_eq_true rfl⟩ rfl (Nat.le_of_ble_eq_true rfl) dX9_readsRest_97 ?_
    refine ax_if_eq (t := 133) F dX9_readsRest_100 (by decide) (fun hc => ?_) (fun hc => ?_)
    · have h := it_pos0 h hc
      refine ax_iconst (v := (0 : Int32)) F dX9_readsRest_133 (by decide) ?_
      obtain ⟨h1, h2⟩ := rt_some0 h
      subst h1; subst h2
      exact ax_zret F (by decide) dX9_readsRest_134
    · have h := it_neg0 h hc
      refine ax_aload_n F dX9_readsRest_103 rfl ?_
      refine ax_iconst (v := (1 : Int32)) F dX9_readsRest_104 (by decide) ?_
      refine ax_aload_n F dX9_readsRest_105 rfl ?_
      refine ax_get (v := .ref (ad 344)) F (ob_338 hm) rfl inGX9 16 (by decide) rfl kf_X9_26 rfl dX9_readsRest_106 ?_
      refine ax_iconst (v := (0 : Int32)) F dX9_readsRest_109 (by decide) ?_
      refine ax_iald F (ar_344 hm) (by decide) dX9_readsRest_110 ?_
      obtain ⟨r8, M8, hq8, h⟩ := cq_some0 h
      refine ax_callVi (As := [.int (1 : Int32), .int (M7 344 (ix (0 : Int32)))]) (st := []) F (tX9_readsNode F.2.2.2.2.2.2.1 hm _ _  _ _ _ hq8) (ob_338 hm) rfl kc_X9_readsNode kz_X9 ki_X9_readsNode ks_X9_readsNode km_X9_104 ⟨kn_X9_readsNode, rfl, rfl, Nat.le_of_ble_eq_true rfl, Nat.le_of_ble_eq_true rfl⟩ rfl (Nat.le_of_ble_eq_true rfl) dX9_readsRest_111 ?_
      refine ax_if_eq (t := 133) F dX9_readsRest_114 (by decide) (fun hc => ?_) (fun hc => ?_)
      · have h := it_pos0 h hc
        refine ax_iconst (v := (0 : Int32)) F dX9_readsRest_133 (by decide) ?_
        obtain ⟨h1, h2⟩ := rt_some0 h
        subst h1; subst h2
        exact ax_zret F (by decide) dX9_readsRest_134
      · have h := it_neg0 h hc
        refine ax_aload_n F dX9_readsRest_117 rfl ?_
        refine ax_iconst (v := (2 : Int32)) F dX9_readsRest_118 (by decide) ?_
        refine ax_iconst (v := (0 : Int32)) F dX9_readsRest_119 (by decide) ?_
        refine ax_bipush (v := (99 : Int32)) F dX9_readsRest_120 (by decide) ?_
        refine ax_iconst (v := (-1 : Int32)) F dX9_readsRest_122 (by decide) ?_
        obtain ⟨r9, M9, hq9, h⟩ := cq_some0 h
        refine ax_callVi (As := [.int (2 : Int32), .int (0 : Int32), .int (99 : Int32), .int (-1 : Int32)]) (st := []) F (tX9_number F.2.2.2.2.2.2.1 hm _ _ _ _  _ _ _ hq9) (ob_338 hm) rfl kc_X9_number kz_X9 ki_X9_number ks_X9_number km_X9_100 ⟨kn_X9_number, rfl, rfl, Nat.le_of_ble_eq_true rfl, Nat.le_of_ble_eq_true rfl⟩ rfl (Nat.le_of_ble_eq_true rfl) dX9_readsRest_123 ?_
        refine ax_if_eq (t := 133) F dX9_readsRest_126 (by decide) (fun hc => ?_) (fun hc => ?_)
        · have h := it_pos0 h hc
          refine ax_iconst (v := (0 : Int32)) F dX9_readsRest_133 (by decide) ?_
          obtain ⟨h1, h2⟩ := rt_some0 h
          subst h1; subst h2
          exact ax_zret F (by decide) dX9_readsRest_134
        · have h := it_neg0 h hc
          refine ax_iconst (v := (1 : Int32)) F dX9_readsRest_129 (by decide) ?_
          refine ax_goto (t := 134) F dX9_readsRest_130 (by decide) ?_
          obtain ⟨h1, h2⟩ := rt_some0 h
          subst h1; subst h2
          exact ax_zret F (by decide) dX9_readsRest_134
  replace h := it_neg0 h hc3
  by_cases hc4 : x1 = (4 : Int32)
  · have h := it_pos0 h hc4
    refine ax_swK (v := (4 : Int32)) (t := 135) F dX9_readsRest_1 hc4 (by decide) (by decide) rfl (by decide) ?_
    refine ax_aload_n F dX9_readsRest_135 rfl ?_
    refine ax_iconst (v := (0 : Int32)) F dX9_readsRest_136 (by decide) ?_
    refine ax_iconst (v := (-1 : Int32)) F dX9_readsRest_137 (by decide) ?_
    obtain ⟨r10, M10, hq10, h⟩ := cq_some0 h
    refine ax_callVi (As := [.int (0 : Int32), .int (-1 : Int32)]) (st := []) F (tX9_readsNode F.2.2.2.2.2.2.1 hm _ _  _ _ _ hq10) (ob_338 hm) rfl kc_X9_readsNode kz_X9 ki_X9_readsNode ks_X9_readsNode km_X9_104 ⟨kn_X9_readsNode, rfl, rfl, Nat.le_of_ble_eq_true rfl, Nat.le_of_ble_eq_true rfl⟩ rfl (Nat.le_of_ble_eq_true rfl) dX9_readsRest_138 ?_
    refine ax_if_eq (t := 162) F dX9_readsRest_141 (by decide) (fun hc => ?_) (fun hc => ?_)
    · have h := it_pos0 h hc
      refine ax_iconst (v := (0 : Int32)) F dX9_readsRest_162 (by decide) ?_
      obtain ⟨h1, h2⟩ := rt_some0 h
      subst h1; subst h2
      exact ax_zret F (by decide) dX9_readsRest_163
    · have h := it_neg0 h hc
      refine ax_aload_n F dX9_readsRest_144 rfl ?_
      refine ax_iconst (v := (1 : Int32)) F dX9_readsRest_145 (by decide) ?_
      refine ax_aload_n F dX9_readsRest_146 rfl ?_
      refine ax_get (v := .ref (ad 344)) F (ob_338 hm) rfl inGX9 16 (by decide) rfl kf_X9_26 rfl dX9_readsRest_147 ?_
      refine ax_iconst (v := (0 : Int32)) F dX9_readsRest_150 (by decide) ?_
      refine ax_iald F (ar_344 hm) (by decide) dX9_readsRest_151 ?_
      obtain ⟨r11, M11, hq11, h⟩ := cq_some0 h
      refine ax_callVi (As := [.int (1 : Int32), .int (M10 344 (ix (0 : Int32)))]) (st := []) F (tX9_readsNode F.2.2.2.2.2.2.1 hm _ _  _ _ _ hq11) (ob_338 hm) rfl kc_X9_readsNode kz_X9 ki_X9_readsNode ks_X9_readsNode km_X9_104 ⟨kn_X9_readsNode, rfl, rfl, Nat.le_of_ble_eq_true rfl, Nat.le_of_ble_eq_true rfl⟩ rfl (Nat.le_of_ble_eq_true rfl) dX9_readsRest_152 ?_
      refine ax_if_eq (t := 162) F dX9_readsRest_155 (by decide) (fun hc => ?_) (fun hc => ?_)
      · have h := it_pos0 h hc
        refine ax_iconst (v := (0 : Int32)) F dX9_readsRest_162 (by decide) ?_
        obtain ⟨h1, h2⟩ := rt_some0 h
        subst h1; subst h2
        exact ax_zret F (by decide) dX9_readsRest_163
      · have h := it_neg0 h hc
        refine ax_iconst (v := (1 : Int32)) F dX9_readsRest_158 (by decide) ?_
        refine ax_goto (t := 163) F dX9_readsRest_159 (by decide) ?_
        obtain ⟨h1, h2⟩ := rt_some0 h
        subst h1; subst h2
        exact ax_zret F (by decide) dX9_readsRest_163
  replace h := it_neg0 h hc4
  have hd0 : (x1).toInt ≠ 0 := fun e => hc0 (Int32.toInt_inj.mp (by rw [e]; rfl))
  have hd1 : (x1).toInt ≠ 1 := fun e => hc1 (Int32.toInt_inj.mp (by rw [e]; rfl))
  have hd2 : (x1).toInt ≠ 2 := fun e => hc2 (Int32.toInt_inj.mp (by rw [e]; rfl))
  have hd3 : (x1).toInt ≠ 3 := fun e => hc3 (Int32.toInt_inj.mp (by rw [e]; rfl))
  have hd4 : (x1).toInt ≠ 4 := fun e => hc4 (Int32.toInt_inj.mp (by rw [e]; rfl))
  refine ax_swOut (t := 164) F dX9_readsRest_1 (by omega) (by decide) ?_
  refine ax_aload_n F dX9_readsRest_164 rfl ?_
  refine ax_iconst (v := (0 : Int32)) F dX9_readsRest_165 (by decide) ?_
  refine ax_iconst (v := (-1 : Int32)) F dX9_readsRest_166 (by decide) ?_
  obtain ⟨r12, M12, hq12, h⟩ := cq_some0 h
  refine ax_callVi (As := [.int (0 : Int32), .int (-1 : Int32)]) (st := []) F (tX9_readsNode F.2.2.2.2.2.2.1 hm _ _  _ _ _ hq12) (ob_338 hm) rfl kc_X9_readsNode kz_X9 ki_X9_readsNode ks_X9_readsNode km_X9_104 ⟨kn_X9_readsNode, rfl, rfl, Nat.le_of_ble_eq_true rfl, Nat.le_of_ble_eq_true rfl⟩ rfl (Nat.le_of_ble_eq_true rfl) dX9_readsRest_167 ?_
  obtain ⟨hz, h⟩ := gd_some0 h
  obtain ⟨h1, h2⟩ := rt_some0 h
  subst h1; subst h2
  exact ax_zret F hz dX9_readsRest_170
noncomputable def fX9_links (x1 : Int32) (x2 : Int32) (x3 : Int32) (M : Mm) : Option Rst := cl (fX9_placeOf (0 : Int32) x1 x2 M) (fun r1 M1 => gd (okI ((2 : Int32) + x1) 1080) (if r1 = (-1 : Int32) then (if (M1 338 2) ≤ (M1 339 (ix ((2 : Int32) + x1))) then (cl (fX9_replace (0 : Int32) x1 ((M1 339 (ix ((2 : Int32) + x1))) - (1 : Int32)) x2 x3 M1) (fun r2 M2 => some ((0 : Int32), M2))) else (cl (fX9_put (0 : Int32) x1 x2 x3 M1) (fun r3 M3 => some ((0 : Int32), M3)))) else (cl (fX9_replace (0 : Int32) x1 r1 x2 x3 M1) (fun r4 M4 => some ((0 : Int32), M4)))))
def rmX9_links : Room := { frames := 1, cells := 0, slots := 0, locals := 25 }
theorem kn_X9_links : yX9_links.cls ≠ "java/lang/invoke/MethodHandle" ∧ yX9_links.cls ≠ "java/lang/invoke/VarHandle" ∧ (parseMethodDescriptor yX9_links.desc).map (fun d => d.parameters.length) = some 3 := by decide +kernel
set_option maxRecDepth 100000 in
set_option maxHeartbeats 4000000 in
theorem tX9_links {l : Launch} {G : va_G} {L : List Nat} {ad : Nat → Nat} {cs : Nat → ClassId} {z : Bool} {zk zv : Nat → Nat} (hinj : inj L ad) (hm : isM L) (x1 : Int32) (x2 : Int32) (x3 : Int32)  (M : Mm) (r : Int32) (M' : Mm) (h : fX9_links x1 x2 x3 M = some (r, M')) : Met l yX9_links (tgW yX9_links cX9_links 6 none) rmX9_links (APre G L ad cs z zk zv [.ref (ad 338), .int x1, .int x2, .int x3] M) (AQv G L ad cs M') 0 0 (inA L ad) := by
  refine met_of (Eq.refl true) (Nat.le_of_ble_eq_true rfl) hinj [some (.ref (ad 338)), some (.int x1), some (.int x2), some (.int x3), none, none] rfl ?_
  intro p e s m below meth c F
  replace F : Fx G L ad cs z zk zv p m meth c cX9_links 6 none s _ RX9 := F
  unfold fX9_links at h
  refine ax_aload_n F dX9_links_0 rfl ?_
  refine ax_iconst (v := (0 : Int32)) F dX9_links_1 (by decide) ?_
  refine ax_iload_n F dX9_links_2 rfl ?_
  refine ax_iload_n F dX9_links_3 rfl ?_
  obtain ⟨r1, M1, hq1, h⟩ := cq_some0 h
  refine ax_callVi (As := [.int (0 : Int32), .int x1, .int x2]) (st := []) F (tX9_placeOf F.2.2.2.2.2.2.1 hm _ _ _  _ _ _ hq1) (ob_338 hm) rfl kc_X9_placeOf kz_X9 ki_X9_placeOf ks_X9_placeOf km_X9_108 ⟨kn_X9_placeOf, rfl, rfl, Nat.le_of_ble_eq_true rfl, Nat.le_of_ble_eq_true rfl⟩ rfl (Nat.le_of_ble_eq_true rfl) dX9_links_4 ?_
  refine ax_istore F dX9_links_7 (by decide) rfl ?_
  refine ax_aload_n F dX9_links_9 rfl ?_
  refine ax_get (v := .ref (ad 339)) F (ob_338 hm) rfl inGX9 0 (by decide) rfl kf_X9_7 rfl dX9_links_10 ?_
  refine ax_iconst (v := (2 : Int32)) F dX9_links_13 (by decide) ?_
  refine ax_iload_n F dX9_links_14 rfl ?_
  refine ax_iadd F dX9_links_15 ?_
  obtain ⟨hg, h⟩ := gd_some0 h
  refine ax_iald F (ar_339 hm) hg dX9_links_16 ?_
  refine ax_istore F dX9_links_17 (by decide) rfl ?_
  refine ax_iload F dX9_links_19 rfl ?_
  refine ax_iconst (v := (-1 : Int32)) F dX9_links_21 (by decide) ?_
  refine ax_icmp_eq (t := 38) F dX9_links_22 (by decide) (fun hc => ?_) (fun hc => ?_)
  · have h := it_pos0 h hc
    refine ax_iload F dX9_links_38 rfl ?_
    refine ax_aload_n F dX9_links_40 rfl ?_
    refine ax_get (v := .int (M1 338 2)) F (ob_338 hm) rfl inGX9 2 (by decide) rfl kf_X9_52 rfl dX9_links_41 ?_
    refine ax_icmp_ge (t := 58) F dX9_links_44 (by decide) (fun hc => ?_) (fun hc => ?_)
    · have h := it_pos0 h hc
      refine ax_aload_n F dX9_links_58 rfl ?_
      refine ax_iconst (v := (0 : Int32)) F dX9_links_59 (by decide) ?_
      refine ax_iload_n F dX9_links_60 rfl ?_
      refine ax_iload F dX9_links_61 rfl ?_
      refine ax_iconst (v := (1 : Int32)) F dX9_links_63 (by decide) ?_
      refine ax_isub F dX9_links_64 ?_
      refine ax_iload_n F dX9_links_65 rfl ?_
      refine ax_iload_n F dX9_links_66 rfl ?_
      obtain ⟨r2, M2, hq2, h⟩ := cq_some0 h
      refine ax_callVv (As := [.int (0 : Int32), .int x1, .int ((M1 339 (ix ((2 : Int32) + x1))) - (1 : Int32)), .int x2, .int x3]) (st := []) F (tX9_replace F.2.2.2.2.2.2.1 hm _ _ _ _ _  _ _ _ hq2) (ob_338 hm) rfl kc_X9_replace kz_X9 ki_X9_replace ks_X9_replace km_X9_112 ⟨kn_X9_replace, rfl, rfl, Nat.le_of_ble_eq_true rfl, Nat.le_of_ble_eq_true rfl⟩ rfl (Nat.le_of_ble_eq_true rfl) dX9_links_67 ?_
      obtain ⟨h1, h2⟩ := rt_some0 h
      subst h2
      exact ax_vret F dX9_links_70
    · have h := it_neg0 h hc
      refine ax_aload_n F dX9_links_47 rfl ?_
      refine ax_iconst (v := (0 : Int32)) F dX9_links_48 (by decide) ?_
      refine ax_iload_n F dX9_links_49 rfl ?_
      refine ax_iload_n F dX9_links_50 rfl ?_
      refine ax_iload_n F dX9_links_51 rfl ?_
      obtain ⟨r3, M3, hq3, h⟩ := cq_some0 h
      refine ax_callVv (As := [.int (0 : Int32), .int x1, .int x2, .int x3]) (st := []) F (tX9_put F.2.2.2.2.2.2.1 hm _ _ _ _  _ _ _ hq3) (ob_338 hm) rfl kc_X9_put kz_X9 ki_X9_put ks_X9_put km_X9_61 ⟨kn_X9_put, rfl, rfl, Nat.le_of_ble_eq_true rfl, Nat.le_of_ble_eq_true rfl⟩ rfl (Nat.le_of_ble_eq_true rfl) dX9_links_52 ?_
      refine ax_goto (t := 70) F dX9_links_55 (by decide) ?_
      obtain ⟨h1, h2⟩ := rt_some0 h
      subst h2
      exact ax_vret F dX9_links_70
  · have h := it_neg0 h hc
    refine ax_aload_n F dX9_links_25 rfl ?_
    refine ax_iconst (v := (0 : Int32)) F dX9_links_26 (by decide) ?_
    refine ax_iload_n F dX9_links_27 rfl ?_
    refine ax_iload F dX9_links_28 rfl ?_
    refine ax_iload_n F dX9_links_30 rfl ?_
    refine ax_iload_n F dX9_links_31 rfl ?_
    obtain ⟨r4, M4, hq4, h⟩ := cq_some0 h
    refine ax_callVv (As := [.int (0 : Int32), .int x1, .int r1, .int x2, .int x3]) (st := []) F (tX9_replace F.2.2.2.2.2.2.1 hm _ _ _ _ _  _ _ _ hq4) (ob_338 hm) rfl kc_X9_replace kz_X9 ki_X9_replace ks_X9_replace km_X9_112 ⟨kn_X9_replace, rfl, rfl, Nat.le_of_ble_eq_true rfl, Nat.le_of_ble_eq_true rfl⟩ rfl (Nat.le_of_ble_eq_true rfl) dX9_links_32 ?_
    refine ax_goto (t := 70) F dX9_links_35 (by decide) ?_
    obtain ⟨h1, h2⟩ := rt_some0 h
    subst h2
    exact ax_vret F dX9_links_70
noncomputable def fX9_does (x1 : Int32) (M : Mm) : Option Rst := if x1 = (0 : Int32) then (cl (fX9_anew (M 344 (ix (0 : Int32))) (M 344 (ix (1 : Int32))) (M 344 (ix (2 : Int32))) (M 344 (ix (3 : Int32))) M) (fun r1 M1 => some ((0 : Int32), M1))) else if x1 = (1 : Int32) then (some ((0 : Int32), (up2 M 339 (ix (1 : Int32)) ((M 339 (ix (1 : Int32))) ||| (ish (1 : Int32) (M 344 (ix (0 : Int32)))))))) else if x1 = (2 : Int32) then (some ((0 : Int32), (up2 M 338 4 ((M 338 4) ||| (ish (1 : Int32) (M 344 (ix (0 : Int32)))))))) else if x1 = (3 : Int32) then (cl (fX9_links (M 344 (ix (0 : Int32))) (M 344 (ix (1 : Int32))) (M 344 (ix (2 : Int32))) M) (fun r2 M2 => some ((0 : Int32), M2))) else (cl (fX9_placeOf (0 : Int32) (M 344 (ix (0 : Int32))) (M 344 (ix (1 : Int32))) M) (fun r3 M3 => if r3 = (-1 : Int32) then (some ((0 : Int32), M3)) else (cl (fX9_strike (0 : Int32) (M3 344 (ix (0 : Int32))) r3 M3) (fun r4 M4 => some ((0 : Int32), M4)))))
def rmX9_does : Room := { frames := 2, cells := 0, slots := 0, locals := 51 }
theorem kn_X9_does : yX9_does.cls ≠ "java/lang/invoke/MethodHandle" ∧ yX9_does.cls ≠ "java/lang/invoke/VarHandle" ∧ (parseMethodDescriptor yX9_does.desc).map (fun d => d.parameters.length) = some 1 := by decide +kernel
set_option maxRecDepth 100000 in
set_option maxHeartbeats 4000000 in
theorem tX9_does {l : Launch} {G : va_G} {L : List Nat} {ad : Nat → Nat} {cs : Nat → ClassId} {z : Bool} {zk zv : Nat → Nat} (hinj : inj L ad) (hm : isM L) (x1 : Int32)  (M : Mm) (r : Int32) (M' : Mm) (h : fX9_does x1 M = some (r, M')) : Met l yX9_does (tgW yX9_does cX9_does 3 none) rmX9_does (APre G L ad cs z zk zv [.ref (ad 338), .int x1] M) (AQv G L ad cs M') 0 0 (inA L ad) := by
  refine met_of (Eq.refl true) (Nat.le_of_ble_eq_true rfl) hinj [some (.ref (ad 338)), some (.int x1), none] rfl ?_
  intro p e s m below meth c F
  replace F : Fx G L ad cs z zk zv p m meth c cX9_does 3 none s _ RX9 := F
  unfold fX9_does at h
  refine ax_iload_n F dX9_does_0 rfl ?_
  by_cases hc0 : x1 = (0 : Int32)
  · have h := it_pos0 h hc0
    refine ax_swK (v := (0 : Int32)) (t := 32) F dX9_does_1 hc0 (by decide) (by decide) rfl (by decide) ?_
    refine ax_aload_n F dX9_does_32 rfl ?_
    refine ax_aload_n F dX9_does_33 rfl ?_
    refine ax_get (v := .ref (ad 344)) F (ob_338 hm) rfl inGX9 16 (by decide) rfl kf_X9_26 rfl dX9_does_34 ?_
    refine ax_iconst (v := (0 : Int32)) F dX9_does_37 (by decide) ?_
    refine ax_iald F (ar_344 hm) (by decide) dX9_does_38 ?_
    refine ax_aload_n F dX9_does_39 rfl ?_
    refine ax_get (v := .ref (ad 344)) F (ob_338 hm) rfl inGX9 16 (by decide) rfl kf_X9_26 rfl dX9_does_40 ?_
    refine ax_iconst (v := (1 : Int32)) F dX9_does_43 (by decide) ?_
    refine ax_iald F (ar_344 hm) (by decide) dX9_does_44 ?_
    refine ax_aload_n F dX9_does_45 rfl ?_
    refine ax_get (v := .ref (ad 344)) F (ob_338 hm) rfl inGX9 16 (by decide) rfl kf_X9_26 rfl dX9_does_46 ?_
    refine ax_iconst (v := (2 : Int32)) F dX9_does_49 (by decide) ?_
    refine ax_iald F (ar_344 hm) (by decide) dX9_does_50 ?_
    refine ax_aload_n F dX9_does_51 rfl ?_
    refine ax_get (v := .ref (ad 344)) F (ob_338 hm) rfl inGX9 16 (by decide) rfl kf_X9_26 rfl dX9_does_52 ?_
    refine ax_iconst (v := (3 : Int32)) F dX9_does_55 (by decide) ?_
    refine ax_iald F (ar_344 hm) (by decide) dX9_does_56 ?_
    obtain ⟨r1, M1, hq1, h⟩ := cq_some0 h
    refine ax_callVv (As := [.int (M 344 (ix (0 : Int32))), .int (M 344 (ix (1 : Int32))), .int (M 344 (ix (2 : Int32))), .int (M 344 (ix (3 : Int32)))]) (st := []) F (tX9_anew F.2.2.2.2.2.2.1 hm _ _ _ _  _ _ _ hq1) (ob_338 hm) rfl kc_X9_anew kz_X9 ki_X9_anew ks_X9_anew km_X9_44 ⟨kn_X9_anew, rfl, rfl, Nat.le_of_ble_eq_true rfl, Nat.le_of_ble_eq_true rfl⟩ rfl (Nat.le_of_ble_eq_true rfl) dX9_does_57 ?_
    refine ax_goto (t := 163) F dX9_does_60 (by decide) ?_
    obtain ⟨h1, h2⟩ := rt_some0 h
    subst h2
    exact ax_vret F dX9_does_163
  replace h := it_neg0 h hc0
  by_cases hc1 : x1 = (1 : Int32)
  · have h := it_pos0 h hc1
    refine ax_swK (v := (1 : Int32)) (t := 63) F dX9_does_1 hc1 (by decide) (by decide) rfl (by decide) ?_
    refine ax_aload_n F dX9_does_63 rfl ?_
    refine ax_get (v := .ref (ad 339)) F (ob_338 hm) rfl inGX9 0 (by decide) rfl kf_X9_7 rfl dX9_does_64 ?_
    refine ax_iconst (v := (1 : Int32)) F dX9_does_67 (by decide) ?_
    refine ax_dup2 F dX9_does_68 rfl rfl ?_
    refine ax_iald F (ar_339 hm) (by decide) dX9_does_69 ?_
    refine ax_iconst (v := (1 : Int32)) F dX9_does_70 (by decide) ?_
    refine ax_aload_n F dX9_does_71 rfl ?_
    refine ax_get (v := .ref (ad 344)) F (ob_338 hm) rfl inGX9 16 (by decide) rfl kf_X9_26 rfl dX9_does_72 ?_
    refine ax_iconst (v := (0 : Int32)) F dX9_does_75 (by decide) ?_
    refine ax_iald F (ar_344 hm) (by decide) dX9_does_76 ?_
    refine ax_ishl F dX9_does_77 ?_
    refine ax_ior F dX9_does_78 ?_
    refine ax_iast F (ar_339 hm) (by decide) dX9_does_79 ?_
    refine ax_goto (t := 163) F dX9_does_80 (by decide) ?_
    obtain ⟨h1, h2⟩ := rt_some0 h
    subst h2
    exact ax_vret F dX9_does_163
  replace h := it_neg0 h hc1
  by_cases hc2 : x1 = (2 : Int32)
  · have h := it_pos0 h hc2
    refine ax_swK (v := (2 : Int32)) (t := 83) F dX9_does_1 hc2 (by decide) (by decide) rfl (by decide) ?_
    refine ax_aload_n F dX9_does_83 rfl ?_
    refine ax_dup F dX9_does_84 rfl ?_
    refine ax_get (v := .int (M 338 4)) F (ob_338 hm) rfl inGX9 4 (by decide) rfl kf_X9_58 rfl dX9_does_85 ?_
    refine ax_iconst (v := (1 : Int32)) F dX9_does_88 (by decide) ?_
    refine ax_aload_n F dX9_does_89 rfl ?_
    refine ax_get (v := .ref (ad 344)) F (ob_338 hm) rfl inGX9 16 (by decide) rfl kf_X9_26 rfl dX9_does_90 ?_
    refine ax_iconst (v := (0 : Int32)) F dX9_does_93 (by decide) ?_
    refine ax_iald F (ar_344 hm) (by decide) dX9_does_94 ?_
    refine ax_ishl F dX9_does_95 ?_
    refine ax_ior F dX9_does_96 ?_
    refine ax_put (ty := .int) F (ob_338 hm) rfl inGX9 tyX9 tyX9_ok nmX9 4 (by decide) rfl kf_X9_58 (by decide) rfl rfl (Nat.le_of_ble_eq_true rfl) rfl dX9_does_97 ?_
    refine ax_goto (t := 163) F dX9_does_100 (by decide) ?_
    obtain ⟨h1, h2⟩ := rt_some0 h
    subst h2
    exact ax_vret F dX9_does_163
  replace h := it_neg0 h hc2
  by_cases hc3 : x1 = (3 : Int32)
  · have h := it_pos0 h hc3
    refine ax_swK (v := (3 : Int32)) (t := 103) F dX9_does_1 hc3 (by decide) (by decide) rfl (by decide) ?_
    refine ax_aload_n F dX9_does_103 rfl ?_
    refine ax_aload_n F dX9_does_104 rfl ?_
    refine ax_get (v := .ref (ad 344)) F (ob_338 hm) rfl inGX9 16 (by decide) rfl kf_X9_26 rfl dX9_does_105 ?_
    refine ax_iconst (v := (0 : Int32)) F dX9_does_108 (by decide) ?_
    refine ax_iald F (ar_344 hm) (by decide) dX9_does_109 ?_
    refine ax_aload_n F dX9_does_110 rfl ?_
    refine ax_get (v := .ref (ad 344)) F (ob_338 hm) rfl inGX9 16 (by decide) rfl kf_X9_26 rfl dX9_does_111 ?_
    refine ax_iconst (v := (1 : Int32)) F dX9_does_114 (by decide) ?_
    refine ax_iald F (ar_344 hm) (by decide) dX9_does_115 ?_
    refine ax_aload_n F dX9_does_116 rfl ?_
    refine ax_get (v := .ref (ad 344)) F (ob_338 hm) rfl inGX9 16 (by decide) rfl kf_X9_26 rfl dX9_does_117 ?_
    refine ax_iconst (v := (2 : Int32)) F dX9_does_120 (by decide) ?_
    refine ax_iald F (ar_344 hm) (by decide) dX9_does_121 ?_
    obtain ⟨r2, M2, hq2, h⟩ := cq_some0 h
    refine ax_callVv (As := [.int (M 344 (ix (0 : Int32))), .int (M 344 (ix (1 : Int32))), .int (M 344 (ix (2 : Int32)))]) (st := []) F (tX9_links F.2.2.2.2.2.2.1 hm _ _ _  _ _ _ hq2) (ob_338 hm) rfl kc_X9_links kz_X9 ki_X9_links ks_X9_links km_X9_116 ⟨kn_X9_links, rfl, rfl, Nat.le_of_ble_eq_true rfl, Nat.le_of_ble_eq_true rfl⟩ rfl (Nat.le_of_ble_eq_true rfl) dX9_does_122 ?_
    refine ax_goto (t := 163) F dX9_does_125 (by decide) ?_
    obtain ⟨h1, h2⟩ := rt_some0 h
    subst h2
    exact ax_vret F dX9_does_163
  replace h := it_neg0 h hc3
  have hd0 : (x1).toInt ≠ 0 := fun e => hc0 (Int32.toInt_inj.mp (by rw [e]; rfl))
  have hd1 : (x1).toInt ≠ 1 := fun e => hc1 (Int32.toInt_inj.mp (by rw [e]; rfl))
  have hd2 : (x1).toInt ≠ 2 := fun e => hc2 (Int32.toInt_inj.mp (by rw [e]; rfl))
  have hd3 : (x1).toInt ≠ 3 := fun e => hc3 (Int32.toInt_inj.mp (by rw [e]; rfl))
  refine ax_swOut (t := 128) F dX9_does_1 (by omega) (by decide) ?_
  refine ax_aload_n F dX9_does_128 rfl ?_
  refine ax_iconst (v := (0 : Int32)) F dX9_does_129 (by decide) ?_
  refine ax_aload_n F dX9_does_130 rfl ?_
  refine ax_get (v := .ref (ad 344)) F (ob_338 hm) rfl inGX9 16 (by decide) rfl kf_X9_26 rfl dX9_does_131 ?_
  refine ax_iconst (v := (0 : Int32)) F dX9_does_134 (by decide) ?_
  refine ax_iald F (ar_344 hm) (by decide) dX9_does_135 ?_
  refine ax_aload_n F dX9_does_136 rfl ?_
  refine ax_get (v := .ref (ad 344)) F (ob_338 hm) rfl inGX9 16 (by decide) rfl kf_X9_26 rfl dX9_does_137 ?_
  refine ax_iconst (v := (1 : Int32)) F dX9_does_140 (by decide) ?_
  refine ax_iald F (ar_344 hm) (by decide) dX9_does_141 ?_
  obtain ⟨r3, M3, hq3, h⟩ := cq_some0 h
  refine ax_callVi (As := [.int (0 : Int32), .int (M 344 (ix (0 : Int32))), .int (M 344 (ix (1 : Int32)))]) (st := []) F (tX9_placeOf F.2.2.2.2.2.2.1 hm _ _ _  _ _ _ hq3) (ob_338 hm) rfl kc_X9_placeOf kz_X9 ki_X9_placeOf ks_X9_placeOf km_X9_108 ⟨kn_X9_placeOf, rfl, rfl, Nat.le_of_ble_eq_true rfl, Nat.le_of_ble_eq_true rfl⟩ rfl (Nat.le_of_ble_eq_true rfl) dX9_does_142 ?_
  refine ax_istore_n F dX9_does_145 (by decide) rfl ?_
  refine ax_iload_n F dX9_does_146 rfl ?_
  refine ax_iconst (v := (-1 : Int32)) F dX9_does_147 (by decide) ?_
  refine ax_icmp_eq (t := 163) F dX9_does_148 (by decide) (fun hc => ?_) (fun hc => ?_)
  · have h := it_pos0 h hc
    obtain ⟨h1, h2⟩ := rt_some0 h
    subst h2
    exact ax_vret F dX9_does_163
  · have h := it_neg0 h hc
    refine ax_aload_n F dX9_does_151 rfl ?_
    refine ax_iconst (v := (0 : Int32)) F dX9_does_152 (by decide) ?_
    refine ax_aload_n F dX9_does_153 rfl ?_
    refine ax_get (v := .ref (ad 344)) F (ob_338 hm) rfl inGX9 16 (by decide) rfl kf_X9_26 rfl dX9_does_154 ?_
    refine ax_iconst (v := (0 : Int32)) F dX9_does_157 (by decide) ?_
    refine ax_iald F (ar_344 hm) (by decide) dX9_does_158 ?_
    refine ax_iload_n F dX9_does_159 rfl ?_
    obtain ⟨r4, M4, hq4, h⟩ := cq_some0 h
    refine ax_callVv (As := [.int (0 : Int32), .int (M3 344 (ix (0 : Int32))), .int r3]) (st := []) F (tX9_strike F.2.2.2.2.2.2.1 hm _ _ _  _ _ _ hq4) (ob_338 hm) rfl kc_X9_strike kz_X9 ki_X9_strike ks_X9_strike km_X9_120 ⟨kn_X9_strike, rfl, rfl, Nat.le_of_ble_eq_true rfl, Nat.le_of_ble_eq_true rfl⟩ rfl (Nat.le_of_ble_eq_true rfl) dX9_does_160 ?_
    obtain ⟨h1, h2⟩ := rt_some0 h
    subst h2
    exact ax_vret F dX9_does_163
noncomputable def fX9_readsClause  (M : Mm) : Option Rst := cl (fX9_wordHere M) (fun r1 M1 => if r1 = (-1 : Int32) then (some ((0 : Int32), M1)) else (cl (fX9_nextToken M1) (fun r2 M2 => cl (fX9_readsRest r1 M2) (fun r3 M3 => if r3 = 0 then (some ((0 : Int32), M3)) else (if r1 = 0 then (if ((up2 M3 338 13 (M3 344 (ix (0 : Int32)))) 338 15) = 0 then (some ((1 : Int32), (up2 M3 338 13 (M3 344 (ix (0 : Int32)))))) else (cl (fX9_does r1 (up2 M3 338 13 (M3 344 (ix (0 : Int32))))) (fun r5 M5 => some ((1 : Int32), M5)))) else (if ((up2 M3 338 13 (M3 338 13)) 338 15) = 0 then (some ((1 : Int32), (up2 M3 338 13 (M3 338 13)))) else (cl (fX9_does r1 (up2 M3 338 13 (M3 338 13))) (fun r4 M4 => some ((1 : Int32), M4)))))))))
def rmX9_readsClause : Room := { frames := 6, cells := 0, slots := 0, locals := 134 }
theorem kn_X9_readsClause : yX9_readsClause.cls ≠ "java/lang/invoke/MethodHandle" ∧ yX9_readsClause.cls ≠ "java/lang/invoke/VarHandle" ∧ (parseMethodDescriptor yX9_readsClause.desc).map (fun d => d.parameters.length) = some 0 := by decide +kernel
set_option maxRecDepth 100000 in
set_option maxHeartbeats 4000000 in
theorem tX9_readsClause {l : Launch} {G : va_G} {L : List Nat} {ad : Nat → Nat} {cs : Nat → ClassId} {z : Bool} {zk zv : Nat → Nat} (hinj : inj L ad) (hm : isM L)   (M : Mm) (r : Int32) (M' : Mm) (h : fX9_readsClause  M = some (r, M')) : Met l yX9_readsClause (tgW yX9_readsClause cX9_readsClause 2 (some .boolean)) rmX9_readsClause (APre G L ad cs z zk zv [.ref (ad 338)] M) (AQi G L ad cs r M') 0 0 (inA L ad) := by
  refine met_of (Eq.refl true) (Nat.le_of_ble_eq_true rfl) hinj [some (.ref (ad 338)), none] rfl ?_
  intro p e s m below meth c F
  replace F : Fx G L ad cs z zk zv p m meth c cX9_readsClause 2 (some .boolean) s _ RX9 := F
  unfold fX9_readsClause at h
  refine ax_aload_n F dX9_readsClause_0 rfl ?_
  obtain ⟨r1, M1, hq1, h⟩ := cq_some0 h
  refine ax_callVi (As := []) (st := []) F (tX9_wordHere F.2.2.2.2.2.2.1 hm   _ _ _ hq1) (ob_338 hm) rfl kc_X9_wordHere kz_X9 ki_X9_wordHere ks_X9_wordHere km_X9_123 ⟨kn_X9_wordHere, rfl, rfl, Nat.le_of_ble_eq_true rfl, Nat.le_of_ble_eq_true rfl⟩ rfl (Nat.le_of_ble_eq_true rfl) dX9_readsClause_1 ?_
  refine ax_istore_n F dX9_readsClause_4 (by decide) rfl ?_
  refine ax_iload_n F dX9_readsClause_5 rfl ?_
  refine ax_iconst (v := (-1 : Int32)) F dX9_readsClause_6 (by decide) ?_
  refine ax_icmp_ne (t := 12) F dX9_readsClause_7 (by decide) (fun hc => ?_) (fun hc => ?_)
  · have h := it_neg0 h hc
    refine ax_aload_n F dX9_readsClause_12 rfl ?_
    obtain ⟨r2, M2, hq2, h⟩ := cq_some0 h
    refine ax_callVv (As := []) (st := []) F (tX9_nextToken F.2.2.2.2.2.2.1 hm   _ _ _ hq2) (ob_338 hm) rfl kc_X9_nextToken kz_X9 ki_X9_nextToken ks_X9_nextToken km_X9_94 ⟨kn_X9_nextToken, rfl, rfl, Nat.le_of_ble_eq_true rfl, Nat.le_of_ble_eq_true rfl⟩ rfl (Nat.le_of_ble_eq_true rfl) dX9_readsClause_13 ?_
    refine ax_aload_n F dX9_readsClause_16 rfl ?_
    refine ax_iload_n F dX9_readsClause_17 rfl ?_
    obtain ⟨r3, M3, hq3, h⟩ := cq_some0 h
    refine ax_callVi (As := [.int r1]) (st := []) F (tX9_readsRest F.2.2.2.2.2.2.1 hm _  _ _ _ hq3) (ob_338 hm) rfl kc_X9_readsRest kz_X9 ki_X9_readsRest ks_X9_readsRest km_X9_127 ⟨kn_X9_readsRest, rfl, rfl, Nat.le_of_ble_eq_true rfl, Nat.le_of_ble_eq_true rfl⟩ rfl (Nat.le_of_ble_eq_true rfl) dX9_readsClause_18 ?_
    refine ax_if_ne (t := 26) F dX9_readsClause_21 (by decide) (fun hc => ?_) (fun hc => ?_)
    · have h := it_neg0 h hc
      refine ax_aload_n F dX9_readsClause_26 rfl ?_
      refine ax_iload_n F dX9_readsClause_27 rfl ?_
      refine ax_if_ne (t := 40) F dX9_readsClause_28 (by decide) (fun hc => ?_) (fun hc => ?_)
      · have h := it_neg0 h hc
        refine ax_aload_n F dX9_readsClause_40 rfl ?_
        refine ax_get (v := .int (M3 338 13)) F (ob_338 hm) rfl inGX9 13 (by decide) rfl kf_X9_97 rfl dX9_readsClause_41 ?_
        refine ax_put (ty := .int) F (ob_338 hm) rfl inGX9 tyX9 tyX9_ok nmX9 13 (by decide) rfl kf_X9_97 (by decide) rfl rfl (Nat.le_of_ble_eq_true rfl) rfl dX9_readsClause_44 ?_
        refine ax_aload_n F dX9_readsClause_47 rfl ?_
        refine ax_get (v := .int ((up2 M3 338 13 (M3 338 13)) 338 15)) F (ob_338 hm) rfl inGX9 15 (by decide) rfl kf_X9_130 rfl dX9_readsClause_48 ?_
        refine ax_if_eq (t := 59) F dX9_readsClause_51 (by decide) (fun hc => ?_) (fun hc => ?_)
        · have h := it_pos0 h hc
          refine ax_iconst (v := (1 : Int32)) F dX9_readsClause_59 (by decide) ?_
          obtain ⟨h1, h2⟩ := rt_some0 h
          subst h1; subst h2
          exact ax_zret F (by decide) dX9_readsClause_60
        · have h := it_neg0 h hc
          refine ax_aload_n F dX9_readsClause_54 rfl ?_
          refine ax_iload_n F dX9_readsClause_55 rfl ?_
          obtain ⟨r4, M4, hq4, h⟩ := cq_some0 h
          refine ax_callVv (As := [.int r1]) (st := []) F (tX9_does F.2.2.2.2.2.2.1 hm _  _ _ _ hq4) (ob_338 hm) rfl kc_X9_does kz_X9 ki_X9_does ks_X9_does km_X9_134 ⟨kn_X9_does, rfl, rfl, Nat.le_of_ble_eq_true rfl, Nat.le_of_ble_eq_true rfl⟩ rfl (Nat.le_of_ble_eq_true rfl) dX9_readsClause_56 ?_
          refine ax_iconst (v := (1 : Int32)) F dX9_readsClause_59 (by decide) ?_
          obtain ⟨h1, h2⟩ := rt_some0 h
          subst h1; subst h2
          exact ax_zret F (by decide) dX9_readsClause_60
      · have h := it_pos0 h hc
        refine ax_aload_n F dX9_readsClause_31 rfl ?_
        refine ax_get (v := .ref (ad 344)) F (ob_338 hm) rfl inGX9 16 (by decide) rfl kf_X9_26 rfl dX9_readsClause_32 ?_
        refine ax_iconst (v := (0 : Int32)) F dX9_readsClause_35 (by decide) ?_
        refine ax_iald F (ar_344 hm) (by decide) dX9_readsClause_36 ?_
        refine ax_goto (t := 44) F dX9_readsClause_37 (by decide) ?_
        refine ax_put (ty := .int) F (ob_338 hm) rfl inGX9 tyX9 tyX9_ok nmX9 13 (by decide) rfl kf_X9_97 (by decide) rfl rfl (Nat.le_of_ble_eq_true rfl) rfl dX9_readsClause_44 ?_
        refine ax_aload_n F dX9_readsClause_47 rfl ?_
        refine ax_get (v := .int ((up2 M3 338 13 (M3 344 (ix (0 : Int32)))) 338 15)) F (ob_338 hm) rfl inGX9 15 (by decide) rfl kf_X9_130 rfl dX9_readsClause_48 ?_
        refine ax_if_eq (t := 59) F dX9_readsClause_51 (by decide) (fun hc => ?_) (fun hc => ?_)
        · have h := it_pos0 h hc
          refine ax_iconst (v := (1 : Int32)) F dX9_readsClause_59 (by decide) ?_
          obtain ⟨h1, h2⟩ := rt_some0 h
          subst h1; subst h2
          exact ax_zret F (by decide) dX9_readsClause_60
        · have h := it_neg0 h hc
          refine ax_aload_n F dX9_readsClause_54 rfl ?_
          refine ax_iload_n F dX9_readsClause_55 rfl ?_
          obtain ⟨r5, M5, hq5, h⟩ := cq_some0 h
          refine ax_callVv (As := [.int r1]) (st := []) F (tX9_does F.2.2.2.2.2.2.1 hm _  _ _ _ hq5) (ob_338 hm) rfl kc_X9_does kz_X9 ki_X9_does ks_X9_does km_X9_134 ⟨kn_X9_does, rfl, rfl, Nat.le_of_ble_eq_true rfl, Nat.le_of_ble_eq_true rfl⟩ rfl (Nat.le_of_ble_eq_true rfl) dX9_readsClause_56 ?_
          refine ax_iconst (v := (1 : Int32)) F dX9_readsClause_59 (by decide) ?_
          obtain ⟨h1, h2⟩ := rt_some0 h
          subst h1; subst h2
          exact ax_zret F (by decide) dX9_readsClause_60
    · have h := it_pos0 h hc
      refine ax_iconst (v := (0 : Int32)) F dX9_readsClause_24 (by decide) ?_
      obtain ⟨h1, h2⟩ := rt_some0 h
      subst h1; subst h2
      exact ax_zret F (by decide) dX9_readsClause_25
  · have h := it_pos0 h hc
    refine ax_iconst (v := (0 : Int32)) F dX9_readsClause_10 (by decide) ?_
    obtain ⟨h1, h2⟩ := rt_some0 h
    subst h1; subst h2
    exact ax_zret F (by decide) dX9_readsClause_11
def rmX9_reads : Room := { frames := 7, cells := 0, slots := 0, locals := 155 }
theorem kn_X9_reads : yX9_reads.cls ≠ "java/lang/invoke/MethodHandle" ∧ yX9_reads.cls ≠ "java/lang/invoke/VarHandle" ∧ (parseMethodDescriptor yX9_reads.desc).map (fun d => d.parameters.length) = some 1 := by decide +kernel
noncomputable def bX9_reads_0 (x1 : Int32) (M : Mm) : Option (Sst ⊕ Rst) := gd (okZ x1) (cl (fX9_nextToken (up2 (up2 (up2 (up2 M 338 15 x1) 338 12 (0 : Int32)) 338 14 (1 : Int32)) 338 13 ((up2 (up2 (up2 M 338 15 x1) 338 12 (0 : Int32)) 338 14 (1 : Int32)) 338 1))) (fun r1 M1 => cl (fX9_readsClause M1) (fun r2 M2 => some (.inl (1, [], [r2], M2)))))
noncomputable def bX9_reads_1 (x2 : Int32) (M : Mm) : Option (Sst ⊕ Rst) := if x2 = 0 then (gd (okZ x2) (some (.inr (x2, M)))) else (if (M 338 8) ≤ (M 338 11) then (gd (okZ x2) (some (.inr (x2, M)))) else (if (24 : Int32) ≤ (M 338 14) then (some (.inl (2, [], [(0 : Int32)], M))) else (gd (okI (M 338 11) 200) (if (M 341 (ix (M 338 11))) = (59 : Int32) then (some (.inl (2, [], [(1 : Int32)], M))) else (some (.inl (2, [], [(0 : Int32)], M)))))))
noncomputable def bX9_reads_2 (s0 : Int32) (M : Mm) : Option (Sst ⊕ Rst) := if s0 = 0 then (some (.inl (1, [], [s0], M))) else (cl (fX9_nextToken M) (fun r1 M1 => cl (fX9_readsClause M1) (fun r2 M2 => some (.inl (1, [], [r2], (up2 M2 338 14 ((M2 338 14) + (1 : Int32))))))))
noncomputable def stX9_reads : Sst → Option (Sst ⊕ Rst) := fun q => match q.1 with
  | 0 => bX9_reads_0 (q.2.2.1.getD 0 0) q.2.2.2
  | 1 => bX9_reads_1 (q.2.2.1.getD 0 0) q.2.2.2
  | 2 => bX9_reads_2 (q.2.2.1.getD 0 0) q.2.2.2
  | _ => none
noncomputable def fX9_reads (x1 : Int32) (M : Mm) : Option Rst := run stX9_reads (0, [], [x1], M)
def PX9_reads (p : Program) (l : Launch) (e : Env) (s : State) (m : MethodId) (args : Array Value) (below : List Frame) (meth : Method) (c : Code) (G : va_G) (L : List Nat) (ad : Nat → Nat) (cs : Nat → ClassId) (zk : Nat → Nat) (r : Int32) (M' : Mm) (n : Nat) : Prop := (∀ (x1 : Int32) (M : Mm), itr stX9_reads n (0, [], [x1], M) = some (r, M') → AW p l e rmX9_reads s m args below meth c (MQ below (AQi G L ad cs r M') args s 0 0 (inA L ad)) G L ad cs 3 0 [some (.ref (ad 338)), some (.int x1), none] [] M) ∧ (∀ (x2 : Int32) (M : Mm), itr stX9_reads n (1, [], [x2], M) = some (r, M') → AW p l e rmX9_reads s m args below meth c (MQ below (AQi G L ad cs r M') args s 0 0 (inA L ad)) G L ad cs 3 32 [some (.ref (ad 338)), none, some (.int x2)] [] M) ∧ (∀ (s0 : Int32) (M : Mm), itr stX9_reads n (2, [], [s0], M) = some (r, M') → AW p l e rmX9_reads s m args below meth c (MQ below (AQi G L ad cs r M') args s 0 0 (inA L ad)) G L ad cs 3 75 [some (.ref (ad 338)), none, none] [.int s0] M)
set_option maxRecDepth 100000 in
set_option maxHeartbeats 4000000 in
theorem wX9_reads_0 {p : Program} {l : Launch} {e : Env} {s : State} {m : MethodId} {args : Array Value} {below : List Frame} {meth : Method} {c : Code} {G : va_G} {L : List Nat} {ad : Nat → Nat} {cs : Nat → ClassId} {z : Bool} {zk zv : Nat → Nat} {r : Int32} {M' : Mm} {n : Nat} (F : Fx G L ad cs z zk zv p m meth c cX9_reads 3 (some .boolean) s args RX9) (hm : isM L) (IH : PX9_reads p l e s m args below meth c G L ad cs zk r M' n) (x1 : Int32) (M : Mm) (h : (bX9_reads_0 x1 M).bind (fun q => match q with | .inl s' => itr stX9_reads n s' | .inr r => some r) = some (r, M'))  : AW p l e rmX9_reads s m args below meth c (MQ below (AQi G L ad cs r M') args s 0 0 (inA L ad)) G L ad cs 3 0 [some (.ref (ad 338)), some (.int x1), none] [] M := by
  unfold bX9_reads_0 at h
  refine ax_aload_n F dX9_reads_0 rfl ?_
  refine ax_iload_n F dX9_reads_1 rfl ?_
  obtain ⟨hg, h⟩ := gd_some h
  refine ax_put (ty := .boolean) F (ob_338 hm) rfl inGX9 tyX9 tyX9_ok nmX9 15 (by decide) rfl kf_X9_130 (by decide) (nar_z hg) (fit_z hg) (Nat.le_of_ble_eq_true rfl) rfl dX9_reads_2 ?_
  refine ax_aload_n F dX9_reads_5 rfl ?_
  refine ax_iconst (v := (0 : Int32)) F dX9_reads_6 (by decide) ?_
  refine ax_put (ty := .int) F (ob_338 hm) rfl inGX9 tyX9 tyX9_ok nmX9 12 (by decide) rfl kf_X9_81 (by decide) rfl rfl (Nat.le_of_ble_eq_true rfl) rfl dX9_reads_7 ?_
  refine ax_aload_n F dX9_reads_10 rfl ?_
  refine ax_iconst (v := (1 : Int32)) F dX9_reads_11 (by decide) ?_
  refine ax_put (ty := .int) F (ob_338 hm) rfl inGX9 tyX9 tyX9_ok nmX9 14 (by decide) rfl kf_X9_138 (by decide) rfl rfl (Nat.le_of_ble_eq_true rfl) rfl dX9_reads_12 ?_
  refine ax_aload_n F dX9_reads_15 rfl ?_
  refine ax_aload_n F dX9_reads_16 rfl ?_
  refine ax_get (v := .int ((up2 (up2 (up2 M 338 15 x1) 338 12 (0 : Int32)) 338 14 (1 : Int32)) 338 1)) F (ob_338 hm) rfl inGX9 1 (by decide) rfl kf_X9_48 rfl dX9_reads_17 ?_
  refine ax_put (ty := .int) F (ob_338 hm) rfl inGX9 tyX9 tyX9_ok nmX9 13 (by decide) rfl kf_X9_97 (by decide) rfl rfl (Nat.le_of_ble_eq_true rfl) rfl dX9_reads_20 ?_
  refine ax_aload_n F dX9_reads_23 rfl ?_
  obtain ⟨r1, M1, hq1, h⟩ := cq_some h
  refine ax_callVv (As := []) (st := []) F (tX9_nextToken F.2.2.2.2.2.2.1 hm   _ _ _ hq1) (ob_338 hm) rfl kc_X9_nextToken kz_X9 ki_X9_nextToken ks_X9_nextToken km_X9_94 ⟨kn_X9_nextToken, rfl, rfl, Nat.le_of_ble_eq_true rfl, Nat.le_of_ble_eq_true rfl⟩ rfl (Nat.le_of_ble_eq_true rfl) dX9_reads_24 ?_
  refine ax_aload_n F dX9_reads_27 rfl ?_
  obtain ⟨r2, M2, hq2, h⟩ := cq_some h
  refine ax_callVi (As := []) (st := []) F (tX9_readsClause F.2.2.2.2.2.2.1 hm   _ _ _ hq2) (ob_338 hm) rfl kc_X9_readsClause kz_X9 ki_X9_readsClause ks_X9_readsClause km_X9_141 ⟨kn_X9_readsClause, rfl, rfl, Nat.le_of_ble_eq_true rfl, Nat.le_of_ble_eq_true rfl⟩ rfl (Nat.le_of_ble_eq_true rfl) dX9_reads_28 ?_
  refine ax_istore_n F dX9_reads_31 (by decide) rfl ?_
  refine ax_mask [true, false, true] ?_
  exact IH.2.1 _ _ h 
set_option maxRecDepth 100000 in
set_option maxHeartbeats 4000000 in
theorem wX9_reads_1 {p : Program} {l : Launch} {e : Env} {s : State} {m : MethodId} {args : Array Value} {below : List Frame} {meth : Method} {c : Code} {G : va_G} {L : List Nat} {ad : Nat → Nat} {cs : Nat → ClassId} {z : Bool} {zk zv : Nat → Nat} {r : Int32} {M' : Mm} {n : Nat} (F : Fx G L ad cs z zk zv p m meth c cX9_reads 3 (some .boolean) s args RX9) (hm : isM L) (IH : PX9_reads p l e s m args below meth c G L ad cs zk r M' n) (x2 : Int32) (M : Mm) (h : (bX9_reads_1 x2 M).bind (fun q => match q with | .inl s' => itr stX9_reads n s' | .inr r => some r) = some (r, M'))  : AW p l e rmX9_reads s m args below meth c (MQ below (AQi G L ad cs r M') args s 0 0 (inA L ad)) G L ad cs 3 32 [some (.ref (ad 338)), none, some (.int x2)] [] M := by
  unfold bX9_reads_1 at h
  refine ax_iload_n F dX9_reads_32 rfl ?_
  refine ax_if_eq (t := 102) F dX9_reads_33 (by decide) (fun hc => ?_) (fun hc => ?_)
  · have h := it_pos h hc
    refine ax_iload_n F dX9_reads_102 rfl ?_
    obtain ⟨hz, h⟩ := gd_some h
    obtain ⟨h1, h2⟩ := rt_some h
    subst h1; subst h2
    exact ax_zret F hz dX9_reads_103
  · have h := it_neg h hc
    refine ax_aload_n F dX9_reads_36 rfl ?_
    refine ax_get (v := .int (M 338 11)) F (ob_338 hm) rfl inGX9 11 (by decide) rfl kf_X9_84 rfl dX9_reads_37 ?_
    refine ax_aload_n F dX9_reads_40 rfl ?_
    refine ax_get (v := .int (M 338 8)) F (ob_338 hm) rfl inGX9 8 (by decide) rfl kf_X9_70 rfl dX9_reads_41 ?_
    refine ax_icmp_ge (t := 102) F dX9_reads_44 (by decide) (fun hc => ?_) (fun hc => ?_)
    · have h := it_pos h hc
      refine ax_iload_n F dX9_reads_102 rfl ?_
      obtain ⟨hz, h⟩ := gd_some h
      obtain ⟨h1, h2⟩ := rt_some h
      subst h1; subst h2
      exact ax_zret F hz dX9_reads_103
    · have h := it_neg h hc
      refine ax_aload_n F dX9_reads_47 rfl ?_
      refine ax_get (v := .int (M 338 14)) F (ob_338 hm) rfl inGX9 14 (by decide) rfl kf_X9_138 rfl dX9_reads_48 ?_
      refine ax_bipush (v := (24 : Int32)) F dX9_reads_51 (by decide) ?_
      refine ax_icmp_ge (t := 74) F dX9_reads_53 (by decide) (fun hc => ?_) (fun hc => ?_)
      · have h := it_pos h hc
        refine ax_iconst (v := (0 : Int32)) F dX9_reads_74 (by decide) ?_
        refine ax_mask [true, false, false] ?_
        exact IH.2.2 _ _ h 
      · have h := it_neg h hc
        refine ax_aload_n F dX9_reads_56 rfl ?_
        refine ax_get (v := .ref (ad 341)) F (ob_338 hm) rfl inGX9 7 (by decide) rfl kf_X9_17 rfl dX9_reads_57 ?_
        refine ax_aload_n F dX9_reads_60 rfl ?_
        refine ax_get (v := .int (M 338 11)) F (ob_338 hm) rfl inGX9 11 (by decide) rfl kf_X9_84 rfl dX9_reads_61 ?_
        obtain ⟨hg, h⟩ := gd_some h
        refine ax_iald F (ar_341 hm) hg dX9_reads_64 ?_
        refine ax_bipush (v := (59 : Int32)) F dX9_reads_65 (by decide) ?_
        refine ax_icmp_ne (t := 74) F dX9_reads_67 (by decide) (fun hc => ?_) (fun hc => ?_)
        · have h := it_neg h hc
          refine ax_iconst (v := (0 : Int32)) F dX9_reads_74 (by decide) ?_
          refine ax_mask [true, false, false] ?_
          exact IH.2.2 _ _ h 
        · have h := it_pos h hc
          refine ax_iconst (v := (1 : Int32)) F dX9_reads_70 (by decide) ?_
          refine ax_goto (t := 75) F dX9_reads_71 (by decide) ?_
          refine ax_mask [true, false, false] ?_
          exact IH.2.2 _ _ h 
set_option maxRecDepth 100000 in
set_option maxHeartbeats 4000000 in
theorem wX9_reads_2 {p : Program} {l : Launch} {e : Env} {s : State} {m : MethodId} {args : Array Value} {below : List Frame} {meth : Method} {c : Code} {G : va_G} {L : List Nat} {ad : Nat → Nat} {cs : Nat → ClassId} {z : Bool} {zk zv : Nat → Nat} {r : Int32} {M' : Mm} {n : Nat} (F : Fx G L ad cs z zk zv p m meth c cX9_reads 3 (some .boolean) s args RX9) (hm : isM L) (IH : PX9_reads p l e s m args below meth c G L ad cs zk r M' n) (s0 : Int32) (M : Mm) (h : (bX9_reads_2 s0 M).bind (fun q => match q with | .inl s' => itr stX9_reads n s' | .inr r => some r) = some (r, M'))  : AW p l e rmX9_reads s m args below meth c (MQ below (AQi G L ad cs r M') args s 0 0 (inA L ad)) G L ad cs 3 75 [some (.ref (ad 338)), none, none] [.int s0] M := by
  unfold bX9_reads_2 at h
  refine ax_istore_n F dX9_reads_75 (by decide) rfl ?_
  refine ax_iload_n F dX9_reads_76 rfl ?_
  refine ax_if_eq (t := 32) F dX9_reads_77 (by decide) (fun hc => ?_) (fun hc => ?_)
  · have h := it_pos h hc
    exact IH.2.1 _ _ h 
  · have h := it_neg h hc
    refine ax_aload_n F dX9_reads_80 rfl ?_
    obtain ⟨r1, M1, hq1, h⟩ := cq_some h
    refine ax_callVv (As := []) (st := []) F (tX9_nextToken F.2.2.2.2.2.2.1 hm   _ _ _ hq1) (ob_338 hm) rfl kc_X9_nextToken kz_X9 ki_X9_nextToken ks_X9_nextToken km_X9_94 ⟨kn_X9_nextToken, rfl, rfl, Nat.le_of_ble_eq_true rfl, Nat.le_of_ble_eq_true rfl⟩ rfl (Nat.le_of_ble_eq_true rfl) dX9_reads_81 ?_
    refine ax_aload_n F dX9_reads_84 rfl ?_
    obtain ⟨r2, M2, hq2, h⟩ := cq_some h
    refine ax_callVi (As := []) (st := []) F (tX9_readsClause F.2.2.2.2.2.2.1 hm   _ _ _ hq2) (ob_338 hm) rfl kc_X9_readsClause kz_X9 ki_X9_readsClause ks_X9_readsClause km_X9_141 ⟨kn_X9_readsClause, rfl, rfl, Nat.le_of_ble_eq_true rfl, Nat.le_of_ble_eq_true rfl⟩ rfl (Nat.le_of_ble_eq_true rfl) dX9_reads_85 ?_
    refine ax_istore_n F dX9_reads_88 (by decide) rfl ?_
    refine ax_aload_n F dX9_reads_89 rfl ?_
    refine ax_dup F dX9_reads_90 rfl ?_
    refine ax_get (v := .int (M2 338 14)) F (ob_338 hm) rfl inGX9 14 (by decide) rfl kf_X9_138 rfl dX9_reads_91 ?_
    refine ax_iconst (v := (1 : Int32)) F dX9_reads_94 (by decide) ?_
    refine ax_iadd F dX9_reads_95 ?_
    refine ax_put (ty := .int) F (ob_338 hm) rfl inGX9 tyX9 tyX9_ok nmX9 14 (by decide) rfl kf_X9_138 (by decide) rfl rfl (Nat.le_of_ble_eq_true rfl) rfl dX9_reads_96 ?_
    refine ax_goto (t := 32) F dX9_reads_99 (by decide) ?_
    exact IH.2.1 _ _ h 
set_option maxRecDepth 100000 in
set_option maxHeartbeats 4000000 in
theorem wX9_reads {p : Program} {l : Launch} {e : Env} {s : State} {m : MethodId} {args : Array Value} {below : List Frame} {meth : Method} {c : Code} {G : va_G} {L : List Nat} {ad : Nat → Nat} {cs : Nat → ClassId} {z : Bool} {zk zv : Nat → Nat} {r : Int32} {M' : Mm} (F : Fx G L ad cs z zk zv p m meth c cX9_reads 3 (some .boolean) s args RX9) (hm : isM L) (n : Nat) : PX9_reads p l e s m args below meth c G L ad cs zk r M' n := by
  induction n with
  | zero => exact ⟨(fun x1 M h => by cases h), (fun x2 M h => by cases h), (fun s0 M h => by cases h)⟩
  | succ n ih =>
    exact ⟨fun x1 M h  => wX9_reads_0 F hm ih x1 M h ,
      fun x2 M h  => wX9_reads_1 F hm ih x2 M h ,
      fun s0 M h  => wX9_reads_2 F hm ih s0 M h ⟩
set_option maxRecDepth 100000 in
set_option maxHeartbeats 4000000 in
theorem tX9_reads {l : Launch} {G : va_G} {L : List Nat} {ad : Nat → Nat} {cs : Nat → ClassId} {z : Bool} {zk zv : Nat → Nat} (hinj : inj L ad) (hm : isM L) (x1 : Int32)  (M : Mm) (r : Int32) (M' : Mm) (h : fX9_reads x1 M = some (r, M')) : Met l yX9_reads (tgW yX9_reads cX9_reads 3 (some .boolean)) rmX9_reads (APre G L ad cs z zk zv [.ref (ad 338), .int x1] M) (AQi G L ad cs r M') 0 0 (inA L ad) := by
  refine met_of (Eq.refl true) (Nat.le_of_ble_eq_true rfl) hinj [some (.ref (ad 338)), some (.int x1), none] rfl ?_
  intro p e s m below meth c F
  replace F : Fx G L ad cs z zk zv p m meth c cX9_reads 3 (some .boolean) s _ RX9 := F
  obtain ⟨n, hn⟩ := run_ex h
  exact (wX9_reads F hm n).1 x1 M hn 
noncomputable def fX9_fault  (M : Mm) : Option Rst := cl (fX9_reads (0 : Int32) M) (fun r1 M1 => if r1 = 0 then (some ((M1 338 11), M1)) else (some ((-1 : Int32), M1)))
def rmX9_fault : Room := { frames := 8, cells := 0, slots := 0, locals := 177 }
theorem kn_X9_fault : yX9_fault.cls ≠ "java/lang/invoke/MethodHandle" ∧ yX9_fault.cls ≠ "java/lang/invoke/VarHandle" ∧ (parseMethodDescriptor yX9_fault.desc).map (fun d => d.parameters.length) = some 0 := by decide +kernel
set_option maxRecDepth 100000 in
set_option maxHeartbeats 4000000 in
theorem tX9_fault {l : Launch} {G : va_G} {L : List Nat} {ad : Nat → Nat} {cs : Nat → ClassId} {z : Bool} {zk zv : Nat → Nat} (hinj : inj L ad) (hm : isM L)   (M : Mm) (r : Int32) (M' : Mm) (h : fX9_fault  M = some (r, M')) : Met l yX9_fault (tgW yX9_fault cX9_fault 1 (some .int)) rmX9_fault (APre G L ad cs z zk zv [.ref (ad 338)] M) (AQi G L ad cs r M') 0 0 (inA L ad) := by
  refine met_of (Eq.refl true) (Nat.le_of_ble_eq_true rfl) hinj [some (.ref (ad 338))] rfl ?_
  intro p e s m below meth c F
  replace F : Fx G L ad cs z zk zv p m meth c cX9_fault 1 (some .int) s _ RX9 := F
  unfold fX9_fault at h
  refine ax_aload_n F dX9_fault_0 rfl ?_
  refine ax_iconst (v := (0 : Int32)) F dX9_fault_1 (by decide) ?_
  obtain ⟨r1, M1, hq1, h⟩ := cq_some0 h
  refine ax_callVi (As := [.int (0 : Int32)]) (st := []) F (tX9_reads F.2.2.2.2.2.2.1 hm _  _ _ _ hq1) (ob_338 hm) rfl kc_X9_reads kz_X9 ki_X9_reads ks_X9_reads km_X9_145 ⟨kn_X9_reads, rfl, rfl, Nat.le_of_ble_eq_true rfl, Nat.le_of_ble_eq_true rfl⟩ rfl (Nat.le_of_ble_eq_true rfl) dX9_fault_2 ?_
  refine ax_if_eq (t := 12) F dX9_fault_5 (by decide) (fun hc => ?_) (fun hc => ?_)
  · have h := it_pos0 h hc
    refine ax_aload_n F dX9_fault_12 rfl ?_
    refine ax_get (v := .int (M1 338 11)) F (ob_338 hm) rfl inGX9 11 (by decide) rfl kf_X9_84 rfl dX9_fault_13 ?_
    obtain ⟨h1, h2⟩ := rt_some0 h
    subst h1; subst h2
    exact ax_iret F dX9_fault_16
  · have h := it_neg0 h hc
    refine ax_iconst (v := (-1 : Int32)) F dX9_fault_8 (by decide) ?_
    refine ax_goto (t := 16) F dX9_fault_9 (by decide) ?_
    obtain ⟨h1, h2⟩ := rt_some0 h
    subst h1; subst h2
    exact ax_iret F dX9_fault_16
def rmX9_net : Room := { frames := 8, cells := 0, slots := 0, locals := 177 }
theorem kn_X9_net : yX9_net.cls ≠ "java/lang/invoke/MethodHandle" ∧ yX9_net.cls ≠ "java/lang/invoke/VarHandle" ∧ (parseMethodDescriptor yX9_net.desc).map (fun d => d.parameters.length) = some 0 := by decide +kernel
noncomputable def bX9_net_0  (M : Mm) : Option (Sst ⊕ Rst) := cl (fX9_reads (0 : Int32) M) (fun r1 M1 => if r1 = 0 then (some (.inr ((-4 : Int32), M1))) else (cl (fX9_reads (1 : Int32) M1) (fun r2 M2 => some (.inl (1, [], [(0 : Int32)], (up2 (up2 (up2 (up2 M2 338 8 (0 : Int32)) 338 5 (0 : Int32)) 340 (ix (0 : Int32)) (0 : Int32)) 340 (ix (1 : Int32)) (0 : Int32)))))))
noncomputable def bX9_net_1 (x1 : Int32) (M : Mm) : Option (Sst ⊕ Rst) := if (3 : Int32) ≤ x1 then (some (.inr ((M 338 14), M))) else (gd (okI x1 3) (some (.inl (1, [], [(x1 + (1 : Int32))], (up2 M 342 (ix x1) (-1 : Int32))))))
noncomputable def stX9_net : Sst → Option (Sst ⊕ Rst) := fun q => match q.1 with
  | 0 => bX9_net_0  q.2.2.2
  | 1 => bX9_net_1 (q.2.2.1.getD 0 0) q.2.2.2
  | _ => none
noncomputable def fX9_net  (M : Mm) : Option Rst := run stX9_net (0, [], [], M)
def PX9_net (p : Program) (l : Launch) (e : Env) (s : State) (m : MethodId) (args : Array Value) (below : List Frame) (meth : Method) (c : Code) (G : va_G) (L : List Nat) (ad : Nat → Nat) (cs : Nat → ClassId) (zk : Nat → Nat) (r : Int32) (M' : Mm) (n : Nat) : Prop := (∀  (M : Mm), itr stX9_net n (0, [], [], M) = some (r, M') → AW p l e rmX9_net s m args below meth c (MQ below (AQi G L ad cs r M') args s 0 0 (inA L ad)) G L ad cs 2 0 [some (.ref (ad 338)), none] [] M) ∧ (∀ (x1 : Int32) (M : Mm), itr stX9_net n (1, [], [x1], M) = some (r, M') → AW p l e rmX9_net s m args below meth c (MQ below (AQi G L ad cs r M') args s 0 0 (inA L ad)) G L ad cs 2 43 [some (.ref (ad 338)), some (.int x1)] [] M)
set_option maxRecDepth 100000 in
set_option maxHeartbeats 4000000 in
theorem wX9_net_0 {p : Program} {l : Launch} {e : Env} {s : State} {m : MethodId} {args : Array Value} {below : List Frame} {meth : Method} {c : Code} {G : va_G} {L : List Nat} {ad : Nat → Nat} {cs : Nat → ClassId} {z : Bool} {zk zv : Nat → Nat} {r : Int32} {M' : Mm} {n : Nat} (F : Fx G L ad cs z zk zv p m meth c cX9_net 2 (some .int) s args RX9) (hm : isM L) (IH : PX9_net p l e s m args below meth c G L ad cs zk r M' n)  (M : Mm) (h : (bX9_net_0  M).bind (fun q => match q with | .inl s' => itr stX9_net n s' | .inr r => some r) = some (r, M'))  : AW p l e rmX9_net s m args below meth c (MQ below (AQi G L ad cs r M') args s 0 0 (inA L ad)) G L ad cs 2 0 [some (.ref (ad 338)), none] [] M := by
  unfold bX9_net_0 at h
  refine ax_aload_n F dX9_net_0 rfl ?_
  refine ax_iconst (v := (0 : Int32)) F dX9_net_1 (by decide) ?_
  obtain ⟨r1, M1, hq1, h⟩ := cq_some h
  refine ax_callVi (As := [.int (0 : Int32)]) (st := []) F (tX9_reads F.2.2.2.2.2.2.1 hm _  _ _ _ hq1) (ob_338 hm) rfl kc_X9_reads kz_X9 ki_X9_reads ks_X9_reads km_X9_145 ⟨kn_X9_reads, rfl, rfl, Nat.le_of_ble_eq_true rfl, Nat.le_of_ble_eq_true rfl⟩ rfl (Nat.le_of_ble_eq_true rfl) dX9_net_2 ?_
  refine ax_if_ne (t := 11) F dX9_net_5 (by decide) (fun hc => ?_) (fun hc => ?_)
  · have h := it_neg h hc
    refine ax_aload_n F dX9_net_11 rfl ?_
    refine ax_iconst (v := (1 : Int32)) F dX9_net_12 (by decide) ?_
    obtain ⟨r2, M2, hq2, h⟩ := cq_some h
    refine ax_callVi (As := [.int (1 : Int32)]) (st := []) F (tX9_reads F.2.2.2.2.2.2.1 hm _  _ _ _ hq2) (ob_338 hm) rfl kc_X9_reads kz_X9 ki_X9_reads ks_X9_reads km_X9_145 ⟨kn_X9_reads, rfl, rfl, Nat.le_of_ble_eq_true rfl, Nat.le_of_ble_eq_true rfl⟩ rfl (Nat.le_of_ble_eq_true rfl) dX9_net_13 ?_
    refine ax_pop F dX9_net_16 rfl ?_
    refine ax_aload_n F dX9_net_17 rfl ?_
    refine ax_iconst (v := (0 : Int32)) F dX9_net_18 (by decide) ?_
    refine ax_put (ty := .int) F (ob_338 hm) rfl inGX9 tyX9 tyX9_ok nmX9 8 (by decide) rfl kf_X9_70 (by decide) rfl rfl (Nat.le_of_ble_eq_true rfl) rfl dX9_net_19 ?_
    refine ax_aload_n F dX9_net_22 rfl ?_
    refine ax_iconst (v := (0 : Int32)) F dX9_net_23 (by decide) ?_
    refine ax_put (ty := .int) F (ob_338 hm) rfl inGX9 tyX9 tyX9_ok nmX9 5 (by decide) rfl kf_X9_149 (by decide) rfl rfl (Nat.le_of_ble_eq_true rfl) rfl dX9_net_24 ?_
    refine ax_aload_n F dX9_net_27 rfl ?_
    refine ax_get (v := .ref (ad 340)) F (ob_338 hm) rfl inGX9 6 (by decide) rfl kf_X9_13 rfl dX9_net_28 ?_
    refine ax_iconst (v := (0 : Int32)) F dX9_net_31 (by decide) ?_
    refine ax_iconst (v := (0 : Int32)) F dX9_net_32 (by decide) ?_
    refine ax_zast F (ar_340 hm) (by decide) (by decide) dX9_net_33 ?_
    refine ax_aload_n F dX9_net_34 rfl ?_
    refine ax_get (v := .ref (ad 340)) F (ob_338 hm) rfl inGX9 6 (by decide) rfl kf_X9_13 rfl dX9_net_35 ?_
    refine ax_iconst (v := (1 : Int32)) F dX9_net_38 (by decide) ?_
    refine ax_iconst (v := (0 : Int32)) F dX9_net_39 (by decide) ?_
    refine ax_zast F (ar_340 hm) (by decide) (by decide) dX9_net_40 ?_
    refine ax_iconst (v := (0 : Int32)) F dX9_net_41 (by decide) ?_
    refine ax_istore_n F dX9_net_42 (by decide) rfl ?_
    exact IH.2 _ _ h 
  · have h := it_pos h hc
    refine ax_bipush (v := (-4 : Int32)) F dX9_net_8 (by decide) ?_
    obtain ⟨h1, h2⟩ := rt_some h
    subst h1; subst h2
    exact ax_iret F dX9_net_10
set_option maxRecDepth 100000 in
set_option maxHeartbeats 4000000 in
theorem wX9_net_1 {p : Program} {l : Launch} {e : Env} {s : State} {m : MethodId} {args : Array Value} {below : List Frame} {meth : Method} {c : Code} {G : va_G} {L : List Nat} {ad : Nat → Nat} {cs : Nat → ClassId} {z : Bool} {zk zv : Nat → Nat} {r : Int32} {M' : Mm} {n : Nat} (F : Fx G L ad cs z zk zv p m meth c cX9_net 2 (some .int) s args RX9) (hm : isM L) (IH : PX9_net p l e s m args below meth c G L ad cs zk r M' n) (x1 : Int32) (M : Mm) (h : (bX9_net_1 x1 M).bind (fun q => match q with | .inl s' => itr stX9_net n s' | .inr r => some r) = some (r, M'))  : AW p l e rmX9_net s m args below meth c (MQ below (AQi G L ad cs r M') args s 0 0 (inA L ad)) G L ad cs 2 43 [some (.ref (ad 338)), some (.int x1)] [] M := by
  unfold bX9_net_1 at h
  refine ax_iload_n F dX9_net_43 rfl ?_
  refine ax_iconst (v := (3 : Int32)) F dX9_net_44 (by decide) ?_
  refine ax_icmp_ge (t := 61) F dX9_net_45 (by decide) (fun hc => ?_) (fun hc => ?_)
  · have h := it_pos h hc
    refine ax_aload_n F dX9_net_61 rfl ?_
    refine ax_get (v := .int (M 338 14)) F (ob_338 hm) rfl inGX9 14 (by decide) rfl kf_X9_138 rfl dX9_net_62 ?_
    obtain ⟨h1, h2⟩ := rt_some h
    subst h1; subst h2
    exact ax_iret F dX9_net_65
  · have h := it_neg h hc
    refine ax_aload_n F dX9_net_48 rfl ?_
    refine ax_get (v := .ref (ad 342)) F (ob_338 hm) rfl inGX9 9 (by decide) rfl kf_X9_20 rfl dX9_net_49 ?_
    refine ax_iload_n F dX9_net_52 rfl ?_
    refine ax_iconst (v := (-1 : Int32)) F dX9_net_53 (by decide) ?_
    obtain ⟨hg, h⟩ := gd_some h
    refine ax_iast F (ar_342 hm) hg dX9_net_54 ?_
    refine ax_iinc (v := (1 : Int32)) F dX9_net_55 rfl (by decide) (by decide) rfl ?_
    refine ax_goto (t := 43) F dX9_net_58 (by decide) ?_
    exact IH.2 _ _ h 
set_option maxRecDepth 100000 in
set_option maxHeartbeats 4000000 in
theorem wX9_net {p : Program} {l : Launch} {e : Env} {s : State} {m : MethodId} {args : Array Value} {below : List Frame} {meth : Method} {c : Code} {G : va_G} {L : List Nat} {ad : Nat → Nat} {cs : Nat → ClassId} {z : Bool} {zk zv : Nat → Nat} {r : Int32} {M' : Mm} (F : Fx G L ad cs z zk zv p m meth c cX9_net 2 (some .int) s args RX9) (hm : isM L) (n : Nat) : PX9_net p l e s m args below meth c G L ad cs zk r M' n := by
  induction n with
  | zero => exact ⟨(fun  M h => by cases h), (fun x1 M h => by cases h)⟩
  | succ n ih =>
    exact ⟨fun  M h  => wX9_net_0 F hm ih  M h ,
      fun x1 M h  => wX9_net_1 F hm ih x1 M h ⟩
set_option maxRecDepth 100000 in
set_option maxHeartbeats 4000000 in
theorem tX9_net {l : Launch} {G : va_G} {L : List Nat} {ad : Nat → Nat} {cs : Nat → ClassId} {z : Bool} {zk zv : Nat → Nat} (hinj : inj L ad) (hm : isM L)   (M : Mm) (r : Int32) (M' : Mm) (h : fX9_net  M = some (r, M')) : Met l yX9_net (tgW yX9_net cX9_net 2 (some .int)) rmX9_net (APre G L ad cs z zk zv [.ref (ad 338)] M) (AQi G L ad cs r M') 0 0 (inA L ad) := by
  refine met_of (Eq.refl true) (Nat.le_of_ble_eq_true rfl) hinj [some (.ref (ad 338)), none] rfl ?_
  intro p e s m below meth c F
  replace F : Fx G L ad cs z zk zv p m meth c cX9_net 2 (some .int) s _ RX9 := F
  obtain ⟨n, hn⟩ := run_ex h
  exact (wX9_net F hm n).1  M hn 
noncomputable def fX9_isNode (x1 : Int32) (M : Mm) : Option Rst := cl (fX9_in (x1).toInt64 (0 : Int64) (((M 338 1) - (1 : Int32))).toInt64 M) (fun r1 M1 => gd (okZ r1) (some (r1, M1)))
def rmX9_isNode : Room := { frames := 1, cells := 0, slots := 0, locals := 25 }
theorem kn_X9_isNode : yX9_isNode.cls ≠ "java/lang/invoke/MethodHandle" ∧ yX9_isNode.cls ≠ "java/lang/invoke/VarHandle" ∧ (parseMethodDescriptor yX9_isNode.desc).map (fun d => d.parameters.length) = some 1 := by decide +kernel
set_option maxRecDepth 100000 in
set_option maxHeartbeats 4000000 in
theorem tX9_isNode {l : Launch} {G : va_G} {L : List Nat} {ad : Nat → Nat} {cs : Nat → ClassId} {z : Bool} {zk zv : Nat → Nat} (hinj : inj L ad) (hm : isM L) (x1 : Int32)  (M : Mm) (r : Int32) (M' : Mm) (h : fX9_isNode x1 M = some (r, M')) : Met l yX9_isNode (tgW yX9_isNode cX9_isNode 2 (some .boolean)) rmX9_isNode (APre G L ad cs z zk zv [.ref (ad 338), .int x1] M) (AQi G L ad cs r M') 0 0 (inA L ad) := by
  refine met_of (Eq.refl true) (Nat.le_of_ble_eq_true rfl) hinj [some (.ref (ad 338)), some (.int x1)] rfl ?_
  intro p e s m below meth c F
  replace F : Fx G L ad cs z zk zv p m meth c cX9_isNode 2 (some .boolean) s _ RX9 := F
  unfold fX9_isNode at h
  refine ax_iload_n F dX9_isNode_0 rfl ?_
  refine ax_i2l F dX9_isNode_1 ?_
  refine ax_lconst (v := (0 : Int64)) F dX9_isNode_2 (by decide) ?_
  refine ax_aload_n F dX9_isNode_3 rfl ?_
  refine ax_get (v := .int (M 338 1)) F (ob_338 hm) rfl inGX9 1 (by decide) rfl kf_X9_48 rfl dX9_isNode_4 ?_
  refine ax_iconst (v := (1 : Int32)) F dX9_isNode_7 (by decide) ?_
  refine ax_isub F dX9_isNode_8 ?_
  refine ax_i2l F dX9_isNode_9 ?_
  obtain ⟨r1, M1, hq1, h⟩ := cq_some0 h
  refine ax_callSi (As := [.long (x1).toInt64, .long (0 : Int64), .long (((M 338 1) - (1 : Int32))).toInt64]) (st := []) F (tX9_in F.2.2.2.2.2.2.1 hm _ _ _  _ _ _ hq1) kc_X9_in kz_X9 kt_X9_in km_X9_66 ⟨kn_X9_in, rfl, rfl, Nat.le_of_ble_eq_true rfl, Nat.le_of_ble_eq_true rfl⟩ rfl (Nat.le_of_ble_eq_true rfl) dX9_isNode_10 ?_
  obtain ⟨hz, h⟩ := gd_some0 h
  obtain ⟨h1, h2⟩ := rt_some0 h
  subst h1; subst h2
  exact ax_zret F hz dX9_isNode_13
noncomputable def fX9_isDead (x1 : Int32) (x2 : Int32) (M : Mm) : Option Rst := gd (okI (x1 + (1 : Int32)) 1080) (cl (fX9_has (M 339 (ix (x1 + (1 : Int32)))) x2 M) (fun r1 M1 => gd (okZ r1) (some (r1, M1))))
def rmX9_isDead : Room := { frames := 1, cells := 0, slots := 0, locals := 21 }
theorem kn_X9_isDead : yX9_isDead.cls ≠ "java/lang/invoke/MethodHandle" ∧ yX9_isDead.cls ≠ "java/lang/invoke/VarHandle" ∧ (parseMethodDescriptor yX9_isDead.desc).map (fun d => d.parameters.length) = some 2 := by decide +kernel
set_option maxRecDepth 100000 in
set_option maxHeartbeats 4000000 in
theorem tX9_isDead {l : Launch} {G : va_G} {L : List Nat} {ad : Nat → Nat} {cs : Nat → ClassId} {z : Bool} {zk zv : Nat → Nat} (hinj : inj L ad) (hm : isM L) (x1 : Int32) (x2 : Int32)  (M : Mm) (r : Int32) (M' : Mm) (h : fX9_isDead x1 x2 M = some (r, M')) : Met l yX9_isDead (tgW yX9_isDead cX9_isDead 3 (some .boolean)) rmX9_isDead (APre G L ad cs z zk zv [.ref (ad 338), .int x1, .int x2] M) (AQi G L ad cs r M') 0 0 (inA L ad) := by
  refine met_of (Eq.refl true) (Nat.le_of_ble_eq_true rfl) hinj [some (.ref (ad 338)), some (.int x1), some (.int x2)] rfl ?_
  intro p e s m below meth c F
  replace F : Fx G L ad cs z zk zv p m meth c cX9_isDead 3 (some .boolean) s _ RX9 := F
  unfold fX9_isDead at h
  refine ax_aload_n F dX9_isDead_0 rfl ?_
  refine ax_get (v := .ref (ad 339)) F (ob_338 hm) rfl inGX9 0 (by decide) rfl kf_X9_7 rfl dX9_isDead_1 ?_
  refine ax_iload_n F dX9_isDead_4 rfl ?_
  refine ax_iconst (v := (1 : Int32)) F dX9_isDead_5 (by decide) ?_
  refine ax_iadd F dX9_isDead_6 ?_
  obtain ⟨hg, h⟩ := gd_some0 h
  refine ax_iald F (ar_339 hm) hg dX9_isDead_7 ?_
  refine ax_iload_n F dX9_isDead_8 rfl ?_
  obtain ⟨r1, M1, hq1, h⟩ := cq_some0 h
  refine ax_callSi (As := [.int (M 339 (ix (x1 + (1 : Int32)))), .int x2]) (st := []) F (tX9_has F.2.2.2.2.2.2.1 hm _ _  _ _ _ hq1) kc_X9_has kz_X9 kt_X9_has km_X9_152 ⟨kn_X9_has, rfl, rfl, Nat.le_of_ble_eq_true rfl, Nat.le_of_ble_eq_true rfl⟩ rfl (Nat.le_of_ble_eq_true rfl) dX9_isDead_9 ?_
  obtain ⟨hz, h⟩ := gd_some0 h
  obtain ⟨h1, h2⟩ := rt_some0 h
  subst h1; subst h2
  exact ax_zret F hz dX9_isDead_12
noncomputable def fX9_draw (x1 : Int32) (x2 : Int32) (M : Mm) : Option Rst := gd (okI (x1 + (0 : Int32)) 1080) (gd (okI (x1 + (0 : Int32)) 1080) (gd (okI (x1 + (0 : Int32)) 1080) (gd (decide (¬ x2 = 0)) (some ((irem (((up2 M 339 (ix (x1 + (0 : Int32))) (irem (((M 339 (ix (x1 + (0 : Int32)))) * (75 : Int32)) + (74 : Int32)) (65537 : Int32))) 339 (ix (x1 + (0 : Int32)))) / (2 : Int32)) x2), (up2 M 339 (ix (x1 + (0 : Int32))) (irem (((M 339 (ix (x1 + (0 : Int32)))) * (75 : Int32)) + (74 : Int32)) (65537 : Int32))))))))
def rmX9_draw : Room := { frames := 0, cells := 0, slots := 0, locals := 0 }
theorem kn_X9_draw : yX9_draw.cls ≠ "java/lang/invoke/MethodHandle" ∧ yX9_draw.cls ≠ "java/lang/invoke/VarHandle" ∧ (parseMethodDescriptor yX9_draw.desc).map (fun d => d.parameters.length) = some 2 := by decide +kernel
set_option maxRecDepth 100000 in
set_option maxHeartbeats 4000000 in
theorem tX9_draw {l : Launch} {G : va_G} {L : List Nat} {ad : Nat → Nat} {cs : Nat → ClassId} {z : Bool} {zk zv : Nat → Nat} (hinj : inj L ad) (hm : isM L) (x1 : Int32) (x2 : Int32)  (M : Mm) (r : Int32) (M' : Mm) (h : fX9_draw x1 x2 M = some (r, M')) : Met l yX9_draw (tgW yX9_draw cX9_draw 3 (some .int)) rmX9_draw (APre G L ad cs z zk zv [.ref (ad 338), .int x1, .int x2] M) (AQi G L ad cs r M') 0 0 (inA L ad) := by
  refine met_of (Eq.refl true) (Nat.le_of_ble_eq_true rfl) hinj [some (.ref (ad 338)), some (.int x1), some (.int x2)] rfl ?_
  intro p e s m below meth c F
  replace F : Fx G L ad cs z zk zv p m meth c cX9_draw 3 (some .int) s _ RX9 := F
  unfold fX9_draw at h
  refine ax_aload_n F dX9_draw_0 rfl ?_
  refine ax_get (v := .ref (ad 339)) F (ob_338 hm) rfl inGX9 0 (by decide) rfl kf_X9_7 rfl dX9_draw_1 ?_
  refine ax_iload_n F dX9_draw_4 rfl ?_
  refine ax_iconst (v := (0 : Int32)) F dX9_draw_5 (by decide) ?_
  refine ax_iadd F dX9_draw_6 ?_
  refine ax_aload_n F dX9_draw_7 rfl ?_
  refine ax_get (v := .ref (ad 339)) F (ob_338 hm) rfl inGX9 0 (by decide) rfl kf_X9_7 rfl dX9_draw_8 ?_
  refine ax_iload_n F dX9_draw_11 rfl ?_
  refine ax_iconst (v := (0 : Int32)) F dX9_draw_12 (by decide) ?_
  refine ax_iadd F dX9_draw_13 ?_
  obtain ⟨hg, h⟩ := gd_some0 h
  refine ax_iald F (ar_339 hm) hg dX9_draw_14 ?_
  refine ax_bipush (v := (75 : Int32)) F dX9_draw_15 (by decide) ?_
  refine ax_imul F dX9_draw_17 ?_
  refine ax_bipush (v := (74 : Int32)) F dX9_draw_18 (by decide) ?_
  refine ax_iadd F dX9_draw_20 ?_
  refine ax_ldc (v := (65537 : Int32)) F kk_X9_155 dX9_draw_21 ?_
  refine ax_irem F dX9_draw_23 (by decide) ?_
  obtain ⟨hg, h⟩ := gd_some0 h
  refine ax_iast F (ar_339 hm) hg dX9_draw_24 ?_
  refine ax_aload_n F dX9_draw_25 rfl ?_
  refine ax_get (v := .ref (ad 339)) F (ob_338 hm) rfl inGX9 0 (by decide) rfl kf_X9_7 rfl dX9_draw_26 ?_
  refine ax_iload_n F dX9_draw_29 rfl ?_
  refine ax_iconst (v := (0 : Int32)) F dX9_draw_30 (by decide) ?_
  refine ax_iadd F dX9_draw_31 ?_
  obtain ⟨hg, h⟩ := gd_some0 h
  refine ax_iald F (ar_339 hm) hg dX9_draw_32 ?_
  refine ax_iconst (v := (2 : Int32)) F dX9_draw_33 (by decide) ?_
  refine ax_idiv F dX9_draw_34 (by decide) ?_
  refine ax_iload_n F dX9_draw_35 rfl ?_
  obtain ⟨hg, h⟩ := gd_some0 h
  refine ax_irem F dX9_draw_36 (of_decide_eq_true hg) ?_
  obtain ⟨h1, h2⟩ := rt_some0 h
  subst h1; subst h2
  exact ax_iret F dX9_draw_37
noncomputable def fX9_send (x1 : Int32) (x2 : Int32) (x3 : Int32) (M : Mm) : Option Rst := gd (okI x1 2) (gd (okI (((6 : Int32) * x1) + (M 348 (ix x1))) 12) (gd (okI (((6 : Int32) * x1) + (M 348 (ix x1))) 12) (gd (okI (((6 : Int32) * x1) + (M 348 (ix x1))) 12) (gd (okI x1 2) (gd (okI x1 2) (some ((0 : Int32), (up2 (up2 (up2 (up2 M 346 (ix (((6 : Int32) * x1) + (M 348 (ix x1)))) x2) 347 (ix (((6 : Int32) * x1) + (M 348 (ix x1)))) x3) 349 (ix (((6 : Int32) * x1) + (M 348 (ix x1)))) (0 : Int32)) 348 (ix x1) (((up2 (up2 (up2 M 346 (ix (((6 : Int32) * x1) + (M 348 (ix x1)))) x2) 347 (ix (((6 : Int32) * x1) + (M 348 (ix x1)))) x3) 349 (ix (((6 : Int32) * x1) + (M 348 (ix x1)))) (0 : Int32)) 348 (ix x1)) + (1 : Int32))))))))))
def rmX9_send : Room := { frames := 0, cells := 0, slots := 0, locals := 0 }
theorem kn_X9_send : yX9_send.cls ≠ "java/lang/invoke/MethodHandle" ∧ yX9_send.cls ≠ "java/lang/invoke/VarHandle" ∧ (parseMethodDescriptor yX9_send.desc).map (fun d => d.parameters.length) = some 3 := by decide +kernel
set_option maxRecDepth 100000 in
set_option maxHeartbeats 4000000 in
theorem tX9_send {l : Launch} {G : va_G} {L : List Nat} {ad : Nat → Nat} {cs : Nat → ClassId} {z : Bool} {zk zv : Nat → Nat} (hinj : inj L ad) (hm : isM L) (x1 : Int32) (x2 : Int32) (x3 : Int32)  (M : Mm) (r : Int32) (M' : Mm) (h : fX9_send x1 x2 x3 M = some (r, M')) : Met l yX9_send (tgW yX9_send cX9_send 5 none) rmX9_send (APre G L ad cs z zk zv [.ref (ad 338), .int x1, .int x2, .int x3] M) (AQv G L ad cs M') 0 0 (inA L ad) := by
  refine met_of (Eq.refl true) (Nat.le_of_ble_eq_true rfl) hinj [some (.ref (ad 338)), some (.int x1), some (.int x2), some (.int x3), none] rfl ?_
  intro p e s m below meth c F
  replace F : Fx G L ad cs z zk zv p m meth c cX9_send 5 none s _ RX9 := F
  unfold fX9_send at h
  refine ax_bipush (v := (6 : Int32)) F dX9_send_0 (by decide) ?_
  refine ax_iload_n F dX9_send_2 rfl ?_
  refine ax_imul F dX9_send_3 ?_
  refine ax_aload_n F dX9_send_4 rfl ?_
  refine ax_get (v := .ref (ad 348)) F (ob_338 hm) rfl inGX9 20 (by decide) rfl kf_X9_38 rfl dX9_send_5 ?_
  refine ax_iload_n F dX9_send_8 rfl ?_
  obtain ⟨hg, h⟩ := gd_some0 h
  refine ax_iald F (ar_348 hm) hg dX9_send_9 ?_
  refine ax_iadd F dX9_send_10 ?_
  refine ax_istore F dX9_send_11 (by decide) rfl ?_
  refine ax_aload_n F dX9_send_13 rfl ?_
  refine ax_get (v := .ref (ad 346)) F (ob_338 hm) rfl inGX9 18 (by decide) rfl kf_X9_32 rfl dX9_send_14 ?_
  refine ax_iload F dX9_send_17 rfl ?_
  refine ax_iload_n F dX9_send_19 rfl ?_
  obtain ⟨hg, h⟩ := gd_some0 h
  refine ax_iast F (ar_346 hm) hg dX9_send_20 ?_
  refine ax_aload_n F dX9_send_21 rfl ?_
  refine ax_get (v := .ref (ad 347)) F (ob_338 hm) rfl inGX9 19 (by decide) rfl kf_X9_35 rfl dX9_send_22 ?_
  refine ax_iload F dX9_send_25 rfl ?_
  refine ax_iload_n F dX9_send_27 rfl ?_
  obtain ⟨hg, h⟩ := gd_some0 h
  refine ax_iast F (ar_347 hm) hg dX9_send_28 ?_
  refine ax_aload_n F dX9_send_29 rfl ?_
  refine ax_get (v := .ref (ad 349)) F (ob_338 hm) rfl inGX9 21 (by decide) rfl kf_X9_41 rfl dX9_send_30 ?_
  refine ax_iload F dX9_send_33 rfl ?_
  refine ax_iconst (v := (0 : Int32)) F dX9_send_35 (by decide) ?_
  obtain ⟨hg, h⟩ := gd_some0 h
  refine ax_zast F (ar_349 hm) hg (by decide) dX9_send_36 ?_
  refine ax_aload_n F dX9_send_37 rfl ?_
  refine ax_get (v := .ref (ad 348)) F (ob_338 hm) rfl inGX9 20 (by decide) rfl kf_X9_38 rfl dX9_send_38 ?_
  refine ax_iload_n F dX9_send_41 rfl ?_
  refine ax_dup2 F dX9_send_42 rfl rfl ?_
  obtain ⟨hg, h⟩ := gd_some0 h
  refine ax_iald F (ar_348 hm) hg dX9_send_43 ?_
  refine ax_iconst (v := (1 : Int32)) F dX9_send_44 (by decide) ?_
  refine ax_iadd F dX9_send_45 ?_
  obtain ⟨hg, h⟩ := gd_some0 h
  refine ax_iast F (ar_348 hm) hg dX9_send_46 ?_
  obtain ⟨h1, h2⟩ := rt_some0 h
  subst h2
  exact ax_vret F dX9_send_47
def rmX9_isSent : Room := { frames := 0, cells := 0, slots := 0, locals := 0 }
theorem kn_X9_isSent : yX9_isSent.cls ≠ "java/lang/invoke/MethodHandle" ∧ yX9_isSent.cls ≠ "java/lang/invoke/VarHandle" ∧ (parseMethodDescriptor yX9_isSent.desc).map (fun d => d.parameters.length) = some 2 := by decide +kernel
noncomputable def bX9_isSent_0 (x1 : Int32) (x2 : Int32) (M : Mm) : Option (Sst ⊕ Rst) := some (.inl (1, [], [x1, x2, (0 : Int32), (0 : Int32)], M))
noncomputable def bX9_isSent_1 (x1 : Int32) (x2 : Int32) (x3 : Int32) (x4 : Int32) (M : Mm) : Option (Sst ⊕ Rst) := gd (okI x1 2) (if (M 348 (ix x1)) ≤ x4 then (gd (okZ x3) (some (.inr (x3, M)))) else (if x3 = 0 then (gd (okI (((6 : Int32) * x1) + x4) 12) (if (M 346 (ix (((6 : Int32) * x1) + x4))) = x2 then (some (.inl (1, [], [x1, x2, (1 : Int32), (x4 + (1 : Int32))], M))) else (some (.inl (1, [], [x1, x2, (0 : Int32), (x4 + (1 : Int32))], M))))) else (some (.inl (1, [], [x1, x2, (1 : Int32), (x4 + (1 : Int32))], M)))))
noncomputable def stX9_isSent : Sst → Option (Sst ⊕ Rst) := fun q => match q.1 with
  | 0 => bX9_isSent_0 (q.2.2.1.getD 0 0) (q.2.2.1.getD 1 0) q.2.2.2
  | 1 => bX9_isSent_1 (q.2.2.1.getD 0 0) (q.2.2.1.getD 1 0) (q.2.2.1.getD 2 0) (q.2.2.1.getD 3 0) q.2.2.2
  | _ => none
noncomputable def fX9_isSent (x1 : Int32) (x2 : Int32) (M : Mm) : Option Rst := run stX9_isSent (0, [], [x1, x2], M)
def PX9_isSent (p : Program) (l : Launch) (e : Env) (s : State) (m : MethodId) (args : Array Value) (below : List Frame) (meth : Method) (c : Code) (G : va_G) (L : List Nat) (ad : Nat → Nat) (cs : Nat → ClassId) (zk : Nat → Nat) (r : Int32) (M' : Mm) (n : Nat) : Prop := (∀ (x1 : Int32) (x2 : Int32) (M : Mm), itr stX9_isSent n (0, [], [x1, x2], M) = some (r, M') → AW p l e rmX9_isSent s m args below meth c (MQ below (AQi G L ad cs r M') args s 0 0 (inA L ad)) G L ad cs 5 0 [some (.ref (ad 338)), some (.int x1), some (.int x2), none, none] [] M) ∧ (∀ (x1 : Int32) (x2 : Int32) (x3 : Int32) (x4 : Int32) (M : Mm), itr stX9_isSent n (1, [], [x1, x2, x3, x4], M) = some (r, M') → AW p l e rmX9_isSent s m args below meth c (MQ below (AQi G L ad cs r M') args s 0 0 (inA L ad)) G L ad cs 5 5 [some (.ref (ad 338)), some (.int x1), some (.int x2), some (.int x3), some (.int x4)] [] M)
set_option maxRecDepth 100000 in
set_option maxHeartbeats 4000000 in
theorem wX9_isSent_0 {p : Program} {l : Launch} {e : Env} {s : State} {m : MethodId} {args : Array Value} {below : List Frame} {meth : Method} {c : Code} {G : va_G} {L : List Nat} {ad : Nat → Nat} {cs : Nat → ClassId} {z : Bool} {zk zv : Nat → Nat} {r : Int32} {M' : Mm} {n : Nat} (F : Fx G L ad cs z zk zv p m meth c cX9_isSent 5 (some .boolean) s args RX9) (hm : isM L) (IH : PX9_isSent p l e s m args below meth c G L ad cs zk r M' n) (x1 : Int32) (x2 : Int32) (M : Mm) (h : (bX9_isSent_0 x1 x2 M).bind (fun q => match q with | .inl s' => itr stX9_isSent n s' | .inr r => some r) = some (r, M'))  : AW p l e rmX9_isSent s m args below meth c (MQ below (AQi G L ad cs r M') args s 0 0 (inA L ad)) G L ad cs 5 0 [some (.ref (ad 338)), some (.int x1), some (.int x2), none, none] [] M := by
  unfold bX9_isSent_0 at h
  refine ax_iconst (v := (0 : Int32)) F dX9_isSent_0 (by decide) ?_
  refine ax_istore_n F dX9_isSent_1 (by decide) rfl ?_
  refine ax_iconst (v := (0 : Int32)) F dX9_isSent_2 (by decide) ?_
  refine ax_istore F dX9_isSent_3 (by decide) rfl ?_
  exact IH.2 _ _ _ _ _ h 
set_option maxRecDepth 100000 in
set_option maxHeartbeats 4000000 in
theorem wX9_isSent_1 {p : Program} {l : Launch} {e : Env} {s : State} {m : MethodId} {args : Array Value} {below : List Frame} {meth : Method} {c : Code} {G : va_G} {L : List Nat} {ad : Nat → Nat} {cs : Nat → ClassId} {z : Bool} {zk zv : Nat → Nat} {r : Int32} {M' : Mm} {n : Nat} (F : Fx G L ad cs z zk zv p m meth c cX9_isSent 5 (some .boolean) s args RX9) (hm : isM L) (IH : PX9_isSent p l e s m args below meth c G L ad cs zk r M' n) (x1 : Int32) (x2 : Int32) (x3 : Int32) (x4 : Int32) (M : Mm) (h : (bX9_isSent_1 x1 x2 x3 x4 M).bind (fun q => match q with | .inl s' => itr stX9_isSent n s' | .inr r => some r) = some (r, M'))  : AW p l e rmX9_isSent s m args below meth c (MQ below (AQi G L ad cs r M') args s 0 0 (inA L ad)) G L ad cs 5 5 [some (.ref (ad 338)), some (.int x1), some (.int x2), some (.int x3), some (.int x4)] [] M := by
  unfold bX9_isSent_1 at h
  refine ax_iload F dX9_isSent_5 rfl ?_
  refine ax_aload_n F dX9_isSent_7 rfl ?_
  refine ax_get (v := .ref (ad 348)) F (ob_338 hm) rfl inGX9 20 (by decide) rfl kf_X9_38 rfl dX9_isSent_8 ?_
  refine ax_iload_n F dX9_isSent_11 rfl ?_
  obtain ⟨hg, h⟩ := gd_some h
  refine ax_iald F (ar_348 hm) hg dX9_isSent_12 ?_
  refine ax_icmp_ge (t := 48) F dX9_isSent_13 (by decide) (fun hc => ?_) (fun hc => ?_)
  · have h := it_pos h hc
    refine ax_iload_n F dX9_isSent_48 rfl ?_
    obtain ⟨hz, h⟩ := gd_some h
    obtain ⟨h1, h2⟩ := rt_some h
    subst h1; subst h2
    exact ax_zret F hz dX9_isSent_49
  · have h := it_neg h hc
    refine ax_iload_n F dX9_isSent_16 rfl ?_
    refine ax_if_ne (t := 36) F dX9_isSent_17 (by decide) (fun hc => ?_) (fun hc => ?_)
    · have h := it_neg h hc
      refine ax_iconst (v := (1 : Int32)) F dX9_isSent_36 (by decide) ?_
      refine ax_goto (t := 41) F dX9_isSent_37 (by decide) ?_
      refine ax_istore_n F dX9_isSent_41 (by decide) rfl ?_
      refine ax_iinc (v := (1 : Int32)) F dX9_isSent_42 rfl (by decide) (by decide) rfl ?_
      refine ax_goto (t := 5) F dX9_isSent_45 (by decide) ?_
      exact IH.2 _ _ _ _ _ h 
    · have h := it_pos h hc
      refine ax_aload_n F dX9_isSent_20 rfl ?_
      refine ax_get (v := .ref (ad 346)) F (ob_338 hm) rfl inGX9 18 (by decide) rfl kf_X9_32 rfl dX9_isSent_21 ?_
      refine ax_bipush (v := (6 : Int32)) F dX9_isSent_24 (by decide) ?_
      refine ax_iload_n F dX9_isSent_26 rfl ?_
      refine ax_imul F dX9_isSent_27 ?_
      refine ax_iload F dX9_isSent_28 rfl ?_
      refine ax_iadd F dX9_isSent_30 ?_
      obtain ⟨hg, h⟩ := gd_some h
      refine ax_iald F (ar_346 hm) hg dX9_isSent_31 ?_
      refine ax_iload_n F dX9_isSent_32 rfl ?_
      refine ax_icmp_ne (t := 40) F dX9_isSent_33 (by decide) (fun hc => ?_) (fun hc => ?_)
      · have h := it_neg h hc
        refine ax_iconst (v := (0 : Int32)) F dX9_isSent_40 (by decide) ?_
        refine ax_istore_n F dX9_isSent_41 (by decide) rfl ?_
        refine ax_iinc (v := (1 : Int32)) F dX9_isSent_42 rfl (by decide) (by decide) rfl ?_
        refine ax_goto (t := 5) F dX9_isSent_45 (by decide) ?_
        exact IH.2 _ _ _ _ _ h 
      · have h := it_pos h hc
        refine ax_iconst (v := (1 : Int32)) F dX9_isSent_36 (by decide) ?_
        refine ax_goto (t := 41) F dX9_isSent_37 (by decide) ?_
        refine ax_istore_n F dX9_isSent_41 (by decide) rfl ?_
        refine ax_iinc (v := (1 : Int32)) F dX9_isSent_42 rfl (by decide) (by decide) rfl ?_
        refine ax_goto (t := 5) F dX9_isSent_45 (by decide) ?_
        exact IH.2 _ _ _ _ _ h 
set_option maxRecDepth 100000 in
set_option maxHeartbeats 4000000 in
theorem wX9_isSent {p : Program} {l : Launch} {e : Env} {s : State} {m : MethodId} {args : Array Value} {below : List Frame} {meth : Method} {c : Code} {G : va_G} {L : List Nat} {ad : Nat → Nat} {cs : Nat → ClassId} {z : Bool} {zk zv : Nat → Nat} {r : Int32} {M' : Mm} (F : Fx G L ad cs z zk zv p m meth c cX9_isSent 5 (some .boolean) s args RX9) (hm : isM L) (n : Nat) : PX9_isSent p l e s m args below meth c G L ad cs zk r M' n := by
  induction n with
  | zero => exact ⟨(fun x1 x2 M h => by cases h), (fun x1 x2 x3 x4 M h => by cases h)⟩
  | succ n ih =>
    exact ⟨fun x1 x2 M h  => wX9_isSent_0 F hm ih x1 x2 M h ,
      fun x1 x2 x3 x4 M h  => wX9_isSent_1 F hm ih x1 x2 x3 x4 M h ⟩
set_option maxRecDepth 100000 in
set_option maxHeartbeats 4000000 in
theorem tX9_isSent {l : Launch} {G : va_G} {L : List Nat} {ad : Nat → Nat} {cs : Nat → ClassId} {z : Bool} {zk zv : Nat → Nat} (hinj : inj L ad) (hm : isM L) (x1 : Int32) (x2 : Int32)  (M : Mm) (r : Int32) (M' : Mm) (h : fX9_isSent x1 x2 M = some (r, M')) : Met l yX9_isSent (tgW yX9_isSent cX9_isSent 5 (some .boolean)) rmX9_isSent (APre G L ad cs z zk zv [.ref (ad 338), .int x1, .int x2] M) (AQi G L ad cs r M') 0 0 (inA L ad) := by
  refine met_of (Eq.refl true) (Nat.le_of_ble_eq_true rfl) hinj [some (.ref (ad 338)), some (.int x1), some (.int x2), none, none] rfl ?_
  intro p e s m below meth c F
  replace F : Fx G L ad cs z zk zv p m meth c cX9_isSent 5 (some .boolean) s _ RX9 := F
  obtain ⟨n, hn⟩ := run_ex h
  exact (wX9_isSent F hm n).1 x1 x2 M hn 
def rmX9_sends : Room := { frames := 1, cells := 0, slots := 0, locals := 24 }
theorem kn_X9_sends : yX9_sends.cls ≠ "java/lang/invoke/MethodHandle" ∧ yX9_sends.cls ≠ "java/lang/invoke/VarHandle" ∧ (parseMethodDescriptor yX9_sends.desc).map (fun d => d.parameters.length) = some 3 := by decide +kernel
noncomputable def bX9_sends_0 (x1 : Int32) (x2 : Int32) (x3 : Int32) (M : Mm) : Option (Sst ⊕ Rst) := gd (okI ((x1 + (2 : Int32)) + x3) 1080) (some (.inl (1, [], [x1, x2, x3, (M 339 (ix ((x1 + (2 : Int32)) + x3)))], M)))
noncomputable def bX9_sends_1 (x1 : Int32) (x2 : Int32) (x3 : Int32) (x4 : Int32) (M : Mm) : Option (Sst ⊕ Rst) := if x4 ≤ 0 then (some (.inr ((0 : Int32), M))) else (gd (okI x2 2) (if (M 338 3) ≤ (M 348 (ix x2)) then (some (.inr ((0 : Int32), M))) else (cl (fX9_draw x1 x4 M) (fun r1 M1 => some (.inl (2, [], [x1, x2, x3, x4, r1, (0 : Int32)], M1))))))
noncomputable def bX9_sends_2 (x1 : Int32) (x2 : Int32) (x3 : Int32) (x4 : Int32) (x5 : Int32) (x6 : Int32) (M : Mm) : Option (Sst ⊕ Rst) := if 0 < x5 then (some (.inl (3, [], [x1, x2, x3, x4, x5, x6], M))) else (gd (okI (((x1 + (10 : Int32)) + ((5 : Int32) * x3)) + x6) 1080) (cl (fX9_isSent x2 (M 339 (ix (((x1 + (10 : Int32)) + ((5 : Int32) * x3)) + x6))) M) (fun r1 M1 => if r1 = 0 then (gd (okI (((x1 + (10 : Int32)) + ((5 : Int32) * x3)) + x6) 1080) (gd (okI (((x1 + (50 : Int32)) + ((5 : Int32) * x3)) + x6) 1080) (cl (fX9_send x2 (M1 339 (ix (((x1 + (10 : Int32)) + ((5 : Int32) * x3)) + x6))) (M1 339 (ix (((x1 + (50 : Int32)) + ((5 : Int32) * x3)) + x6))) M1) (fun r2 M2 => some (.inl (1, [], [x1, x2, x3, (x4 + (-1 : Int32))], M2)))))) else (some (.inl (3, [], [x1, x2, x3, x4, x5, x6], M1))))))
noncomputable def bX9_sends_3 (x1 : Int32) (x2 : Int32) (x3 : Int32) (x4 : Int32) (x5 : Int32) (x6 : Int32) (M : Mm) : Option (Sst ⊕ Rst) := gd (okI (((x1 + (10 : Int32)) + ((5 : Int32) * x3)) + x6) 1080) (cl (fX9_isSent x2 (M 339 (ix (((x1 + (10 : Int32)) + ((5 : Int32) * x3)) + x6))) M) (fun r1 M1 => if r1 = 0 then (some (.inl (2, [], [x1, x2, x3, x4, (x5 - (1 : Int32)), (x6 + (1 : Int32))], M1))) else (some (.inl (2, [], [x1, x2, x3, x4, (x5 - (0 : Int32)), (x6 + (1 : Int32))], M1)))))
noncomputable def stX9_sends : Sst → Option (Sst ⊕ Rst) := fun q => match q.1 with
  | 0 => bX9_sends_0 (q.2.2.1.getD 0 0) (q.2.2.1.getD 1 0) (q.2.2.1.getD 2 0) q.2.2.2
  | 1 => bX9_sends_1 (q.2.2.1.getD 0 0) (q.2.2.1.getD 1 0) (q.2.2.1.getD 2 0) (q.2.2.1.getD 3 0) q.2.2.2
  | 2 => bX9_sends_2 (q.2.2.1.getD 0 0) (q.2.2.1.getD 1 0) (q.2.2.1.getD 2 0) (q.2.2.1.getD 3 0) (q.2.2.1.getD 4 0) (q.2.2.1.getD 5 0) q.2.2.2
  | 3 => bX9_sends_3 (q.2.2.1.getD 0 0) (q.2.2.1.getD 1 0) (q.2.2.1.getD 2 0) (q.2.2.1.getD 3 0) (q.2.2.1.getD 4 0) (q.2.2.1.getD 5 0) q.2.2.2
  | _ => none
noncomputable def fX9_sends (x1 : Int32) (x2 : Int32) (x3 : Int32) (M : Mm) : Option Rst := run stX9_sends (0, [], [x1, x2, x3], M)
def PX9_sends (p : Program) (l : Launch) (e : Env) (s : State) (m : MethodId) (args : Array Value) (below : List Frame) (meth : Method) (c : Code) (G : va_G) (L : List Nat) (ad : Nat → Nat) (cs : Nat → ClassId) (zk : Nat → Nat) (r : Int32) (M' : Mm) (n : Nat) : Prop := (∀ (x1 : Int32) (x2 : Int32) (x3 : Int32) (M : Mm), itr stX9_sends n (0, [], [x1, x2, x3], M) = some (r, M') → AW p l e rmX9_sends s m args below meth c (MQ below (AQv G L ad cs M') args s 0 0 (inA L ad)) G L ad cs 7 0 [some (.ref (ad 338)), some (.int x1), some (.int x2), some (.int x3), none, none, none] [] M) ∧ (∀ (x1 : Int32) (x2 : Int32) (x3 : Int32) (x4 : Int32) (M : Mm), itr stX9_sends n (1, [], [x1, x2, x3, x4], M) = some (r, M') → AW p l e rmX9_sends s m args below meth c (MQ below (AQv G L ad cs M') args s 0 0 (inA L ad)) G L ad cs 7 12 [some (.ref (ad 338)), some (.int x1), some (.int x2), some (.int x3), some (.int x4), none, none] [] M) ∧ (∀ (x1 : Int32) (x2 : Int32) (x3 : Int32) (x4 : Int32) (x5 : Int32) (x6 : Int32) (M : Mm), itr stX9_sends n (2, [], [x1, x2, x3, x4, x5, x6], M) = some (r, M') → AW p l e rmX9_sends s m args below meth c (MQ below (AQv G L ad cs M') args s 0 0 (inA L ad)) G L ad cs 7 42 [some (.ref (ad 338)), some (.int x1), some (.int x2), some (.int x3), some (.int x4), some (.int x5), some (.int x6)] [] M) ∧ (∀ (x1 : Int32) (x2 : Int32) (x3 : Int32) (x4 : Int32) (x5 : Int32) (x6 : Int32) (M : Mm), itr stX9_sends n (3, [], [x1, x2, x3, x4, x5, x6], M) = some (r, M') → AW p l e rmX9_sends s m args below meth c (MQ below (AQv G L ad cs M') args s 0 0 (inA L ad)) G L ad cs 7 71 [some (.ref (ad 338)), some (.int x1), some (.int x2), some (.int x3), some (.int x4), some (.int x5), some (.int x6)] [] M)
set_option maxRecDepth 100000 in
set_option maxHeartbeats 4000000 in
theorem wX9_sends_0 {p : Program} {l : Launch} {e : Env} {s : State} {m : MethodId} {args : Array Value} {below : List Frame} {meth : Method} {c : Code} {G : va_G} {L : List Nat} {ad : Nat → Nat} {cs : Nat → ClassId} {z : Bool} {zk zv : Nat → Nat} {r : Int32} {M' : Mm} {n : Nat} (F : Fx G L ad cs z zk zv p m meth c cX9_sends 7 none s args RX9) (hm : isM L) (IH : PX9_sends p l e s m args below meth c G L ad cs zk r M' n) (x1 : Int32) (x2 : Int32) (x3 : Int32) (M : Mm) (h : (bX9_sends_0 x1 x2 x3 M).bind (fun q => match q with | .inl s' => itr stX9_sends n s' | .inr r => some r) = some (r, M'))  : AW p l e rmX9_sends s m args below meth c (MQ below (AQv G L ad cs M') args s 0 0 (inA L ad)) G L ad cs 7 0 [some (.ref (ad 338)), some (.int x1), some (.int x2), some (.int x3), none, none, none] [] M := by
  unfold bX9_sends_0 at h
  refine ax_aload_n F dX9_sends_0 rfl ?_
  refine ax_get (v := .ref (ad 339)) F (ob_338 hm) rfl inGX9 0 (by decide) rfl kf_X9_7 rfl dX9_sends_1 ?_
  refine ax_iload_n F dX9_sends_4 rfl ?_
  refine ax_iconst (v := (2 : Int32)) F dX9_sends_5 (by decide) ?_
  refine ax_iadd F dX9_sends_6 ?_
  refine ax_iload_n F dX9_sends_7 rfl ?_
  refine ax_iadd F dX9_sends_8 ?_
  obtain ⟨hg, h⟩ := gd_some h
  refine ax_iald F (ar_339 hm) hg dX9_sends_9 ?_
  refine ax_istore F dX9_sends_10 (by decide) rfl ?_
  exact IH.2.1 _ _ _ _ _ h 
set_option maxRecDepth 100000 in
set_option maxHeartbeats 4000000 in
theorem wX9_sends_1 {p : Program} {l : Launch} {e : Env} {s : State} {m : MethodId} {args : Array Value} {below : List Frame} {meth : Method} {c : Code} {G : va_G} {L : List Nat} {ad : Nat → Nat} {cs : Nat → ClassId} {z : Bool} {zk zv : Nat → Nat} {r : Int32} {M' : Mm} {n : Nat} (F : Fx G L ad cs z zk zv p m meth c cX9_sends 7 none s args RX9) (hm : isM L) (IH : PX9_sends p l e s m args below meth c G L ad cs zk r M' n) (x1 : Int32) (x2 : Int32) (x3 : Int32) (x4 : Int32) (M : Mm) (h : (bX9_sends_1 x1 x2 x3 x4 M).bind (fun q => match q with | .inl s' => itr stX9_sends n s' | .inr r => some r) = some (r, M'))  : AW p l e rmX9_sends s m args below meth c (MQ below (AQv G L ad cs M') args s 0 0 (inA L ad)) G L ad cs 7 12 [some (.ref (ad 338)), some (.int x1), some (.int x2), some (.int x3), some (.int x4), none, none] [] M := by
  unfold bX9_sends_1 at h
  refine ax_iload F dX9_sends_12 rfl ?_
  refine ax_if_le (t := 154) F dX9_sends_14 (by decide) (fun hc => ?_) (fun hc => ?_)
  · have h := it_pos h hc
    obtain ⟨h1, h2⟩ := rt_some h
    subst h2
    exact ax_vret F dX9_sends_154
  · have h := it_neg h hc
    refine ax_aload_n F dX9_sends_17 rfl ?_
    refine ax_get (v := .ref (ad 348)) F (ob_338 hm) rfl inGX9 20 (by decide) rfl kf_X9_38 rfl dX9_sends_18 ?_
    refine ax_iload_n F dX9_sends_21 rfl ?_
    obtain ⟨hg, h⟩ := gd_some h
    refine ax_iald F (ar_348 hm) hg dX9_sends_22 ?_
    refine ax_aload_n F dX9_sends_23 rfl ?_
    refine ax_get (v := .int (M 338 3)) F (ob_338 hm) rfl inGX9 3 (by decide) rfl kf_X9_55 rfl dX9_sends_24 ?_
    refine ax_icmp_ge (t := 154) F dX9_sends_27 (by decide) (fun hc => ?_) (fun hc => ?_)
    · have h := it_pos h hc
      obtain ⟨h1, h2⟩ := rt_some h
      subst h2
      exact ax_vret F dX9_sends_154
    · have h := it_neg h hc
      refine ax_aload_n F dX9_sends_30 rfl ?_
      refine ax_iload_n F dX9_sends_31 rfl ?_
      refine ax_iload F dX9_sends_32 rfl ?_
      obtain ⟨r1, M1, hq1, h⟩ := cq_some h
      refine ax_callVi (As := [.int x1, .int x4]) (st := []) F (tX9_draw F.2.2.2.2.2.2.1 hm _ _  _ _ _ hq1) (ob_338 hm) rfl kc_X9_draw kz_X9 ki_X9_draw ks_X9_draw km_X9_156 ⟨kn_X9_draw, rfl, rfl, Nat.le_of_ble_eq_true rfl, Nat.le_of_ble_eq_true rfl⟩ rfl (Nat.le_of_ble_eq_true rfl) dX9_sends_34 ?_
      refine ax_istore F dX9_sends_37 (by decide) rfl ?_
      refine ax_iconst (v := (0 : Int32)) F dX9_sends_39 (by decide) ?_
      refine ax_istore F dX9_sends_40 (by decide) rfl ?_
      exact IH.2.2.1 _ _ _ _ _ _ _ h 
set_option maxRecDepth 100000 in
set_option maxHeartbeats 4000000 in
theorem wX9_sends_2 {p : Program} {l : Launch} {e : Env} {s : State} {m : MethodId} {args : Array Value} {below : List Frame} {meth : Method} {c : Code} {G : va_G} {L : List Nat} {ad : Nat → Nat} {cs : Nat → ClassId} {z : Bool} {zk zv : Nat → Nat} {r : Int32} {M' : Mm} {n : Nat} (F : Fx G L ad cs z zk zv p m meth c cX9_sends 7 none s args RX9) (hm : isM L) (IH : PX9_sends p l e s m args below meth c G L ad cs zk r M' n) (x1 : Int32) (x2 : Int32) (x3 : Int32) (x4 : Int32) (x5 : Int32) (x6 : Int32) (M : Mm) (h : (bX9_sends_2 x1 x2 x3 x4 x5 x6 M).bind (fun q => match q with | .inl s' => itr stX9_sends n s' | .inr r => some r) = some (r, M'))  : AW p l e rmX9_sends s m args below meth c (MQ below (AQv G L ad cs M') args s 0 0 (inA L ad)) G L ad cs 7 42 [some (.ref (ad 338)), some (.int x1), some (.int x2), some (.int x3), some (.int x4), some (.int x5), some (.int x6)] [] M := by
  unfold bX9_sends_2 at h
  refine ax_iload F dX9_sends_42 rfl ?_
  refine ax_if_gt (t := 71) F dX9_sends_44 (by decide) (fun hc => ?_) (fun hc => ?_)
  · have h := it_pos h hc
    exact IH.2.2.2 _ _ _ _ _ _ _ h 
  · have h := it_neg h hc
    refine ax_aload_n F dX9_sends_47 rfl ?_
    refine ax_iload_n F dX9_sends_48 rfl ?_
    refine ax_aload_n F dX9_sends_49 rfl ?_
    refine ax_get (v := .ref (ad 339)) F (ob_338 hm) rfl inGX9 0 (by decide) rfl kf_X9_7 rfl dX9_sends_50 ?_
    refine ax_iload_n F dX9_sends_53 rfl ?_
    refine ax_bipush (v := (10 : Int32)) F dX9_sends_54 (by decide) ?_
    refine ax_iadd F dX9_sends_56 ?_
    refine ax_iconst (v := (5 : Int32)) F dX9_sends_57 (by decide) ?_
    refine ax_iload_n F dX9_sends_58 rfl ?_
    refine ax_imul F dX9_sends_59 ?_
    refine ax_iadd F dX9_sends_60 ?_
    refine ax_iload F dX9_sends_61 rfl ?_
    refine ax_iadd F dX9_sends_63 ?_
    obtain ⟨hg, h⟩ := gd_some h
    refine ax_iald F (ar_339 hm) hg dX9_sends_64 ?_
    obtain ⟨r1, M1, hq1, h⟩ := cq_some h
    refine ax_callVi (As := [.int x2, .int (M 339 (ix (((x1 + (10 : Int32)) + ((5 : Int32) * x3)) + x6)))]) (st := []) F (tX9_isSent F.2.2.2.2.2.2.1 hm _ _  _ _ _ hq1) (ob_338 hm) rfl kc_X9_isSent kz_X9 ki_X9_isSent ks_X9_isSent km_X9_160 ⟨kn_X9_isSent, rfl, rfl, Nat.le_of_ble_eq_true rfl, Nat.le_of_ble_eq_true rfl⟩ rfl (Nat.le_of_ble_eq_true rfl) dX9_sends_65 ?_
    refine ax_if_eq (t := 111) F dX9_sends_68 (by decide) (fun hc => ?_) (fun hc => ?_)
    · have h := it_pos h hc
      refine ax_aload_n F dX9_sends_111 rfl ?_
      refine ax_iload_n F dX9_sends_112 rfl ?_
      refine ax_aload_n F dX9_sends_113 rfl ?_
      refine ax_get (v := .ref (ad 339)) F (ob_338 hm) rfl inGX9 0 (by decide) rfl kf_X9_7 rfl dX9_sends_114 ?_
      refine ax_iload_n F dX9_sends_117 rfl ?_
      refine ax_bipush (v := (10 : Int32)) F dX9_sends_118 (by decide) ?_
      refine ax_iadd F dX9_sends_120 ?_
      refine ax_iconst (v := (5 : Int32)) F dX9_sends_121 (by decide) ?_
      refine ax_iload_n F dX9_sends_122 rfl ?_
      refine ax_imul F dX9_sends_123 ?_
      refine ax_iadd F dX9_sends_124 ?_
      refine ax_iload F dX9_sends_125 rfl ?_
      refine ax_iadd F dX9_sends_127 ?_
      obtain ⟨hg, h⟩ := gd_some h
      refine ax_iald F (ar_339 hm) hg dX9_sends_128 ?_
      refine ax_aload_n F dX9_sends_129 rfl ?_
      refine ax_get (v := .ref (ad 339)) F (ob_338 hm) rfl inGX9 0 (by decide) rfl kf_X9_7 rfl dX9_sends_130 ?_
      refine ax_iload_n F dX9_sends_133 rfl ?_
      refine ax_bipush (v := (50 : Int32)) F dX9_sends_134 (by decide) ?_
      refine ax_iadd F dX9_sends_136 ?_
      refine ax_iconst (v := (5 : Int32)) F dX9_sends_137 (by decide) ?_
      refine ax_iload_n F dX9_sends_138 rfl ?_
      refine ax_imul F dX9_sends_139 ?_
      refine ax_iadd F dX9_sends_140 ?_
      refine ax_iload F dX9_sends_141 rfl ?_
      refine ax_iadd F dX9_sends_143 ?_
      obtain ⟨hg, h⟩ := gd_some h
      refine ax_iald F (ar_339 hm) hg dX9_sends_144 ?_
      obtain ⟨r2, M2, hq2, h⟩ := cq_some h
      refine ax_callVv (As := [.int x2, .int (M1 339 (ix (((x1 + (10 : Int32)) + ((5 : Int32) * x3)) + x6))), .int (M1 339 (ix (((x1 + (50 : Int32)) + ((5 : Int32) * x3)) + x6)))]) (st := []) F (tX9_send F.2.2.2.2.2.2.1 hm _ _ _  _ _ _ hq2) (ob_338 hm) rfl kc_X9_send kz_X9 ki_X9_send ks_X9_send km_X9_163 ⟨kn_X9_send, rfl, rfl, Nat.le_of_ble_eq_true rfl, Nat.le_of_ble_eq_true rfl⟩ rfl (Nat.le_of_ble_eq_true rfl) dX9_sends_145 ?_
      refine ax_iinc (v := (-1 : Int32)) F dX9_sends_148 rfl (by decide) (by decide) rfl ?_
      refine ax_goto (t := 12) F dX9_sends_151 (by decide) ?_
      refine ax_mask [true, true, true, true, true, false, false] ?_
      exact IH.2.1 _ _ _ _ _ h 
    · have h := it_neg h hc
      exact IH.2.2.2 _ _ _ _ _ _ _ h 
set_option maxRecDepth 100000 in
set_option maxHeartbeats 4000000 in
theorem wX9_sends_3 {p : Program} {l : Launch} {e : Env} {s : State} {m : MethodId} {args : Array Value} {below : List Frame} {meth : Method} {c : Code} {G : va_G} {L : List Nat} {ad : Nat → Nat} {cs : Nat → ClassId} {z : Bool} {zk zv : Nat → Nat} {r : Int32} {M' : Mm} {n : Nat} (F : Fx G L ad cs z zk zv p m meth c cX9_sends 7 none s args RX9) (hm : isM L) (IH : PX9_sends p l e s m args below meth c G L ad cs zk r M' n) (x1 : Int32) (x2 : Int32) (x3 : Int32) (x4 : Int32) (x5 : Int32) (x6 : Int32) (M : Mm) (h : (bX9_sends_3 x1 x2 x3 x4 x5 x6 M).bind (fun q => match q with | .inl s' => itr stX9_sends n s' | .inr r => some r) = some (r, M'))  : AW p l e rmX9_sends s m args below meth c (MQ below (AQv G L ad cs M') args s 0 0 (inA L ad)) G L ad cs 7 71 [some (.ref (ad 338)), some (.int x1), some (.int x2), some (.int x3), some (.int x4), some (.int x5), some (.int x6)] [] M := by
  unfold bX9_sends_3 at h
  refine ax_iload F dX9_sends_71 rfl ?_
  refine ax_aload_n F dX9_sends_73 rfl ?_
  refine ax_iload_n F dX9_sends_74 rfl ?_
  refine ax_aload_n F dX9_sends_75 rfl ?_
  refine ax_get (v := .ref (ad 339)) F (ob_338 hm) rfl inGX9 0 (by decide) rfl kf_X9_7 rfl dX9_sends_76 ?_
  refine ax_iload_n F dX9_sends_79 rfl ?_
  refine ax_bipush (v := (10 : Int32)) F dX9_sends_80 (by decide) ?_
  refine ax_iadd F dX9_sends_82 ?_
  refine ax_iconst (v := (5 : Int32)) F dX9_sends_83 (by decide) ?_
  refine ax_iload_n F dX9_sends_84 rfl ?_
  refine ax_imul F dX9_sends_85 ?_
  refine ax_iadd F dX9_sends_86 ?_
  refine ax_iload F dX9_sends_87 rfl ?_
  refine ax_iadd F dX9_sends_89 ?_
  obtain ⟨hg, h⟩ := gd_some h
  refine ax_iald F (ar_339 hm) hg dX9_sends_90 ?_
  obtain ⟨r1, M1, hq1, h⟩ := cq_some h
  refine ax_callVi (As := [.int x2, .int (M 339 (ix (((x1 + (10 : Int32)) + ((5 : Int32) * x3)) + x6)))]) (st := [.int x5]) F (tX9_isSent F.2.2.2.2.2.2.1 hm _ _  _ _ _ hq1) (ob_338 hm) rfl kc_X9_isSent kz_X9 ki_X9_isSent ks_X9_isSent km_X9_160 ⟨kn_X9_isSent, rfl, rfl, Nat.le_of_ble_eq_true rfl, Nat.le_of_ble_eq_true rfl⟩ rfl (Nat.le_of_ble_eq_true rfl) dX9_sends_91 ?_
  refine ax_if_eq (t := 101) F dX9_sends_94 (by decide) (fun hc => ?_) (fun hc => ?_)
  · have h := it_pos h hc
    refine ax_iconst (v := (1 : Int32)) F dX9_sends_101 (by decide) ?_
    refine ax_isub F dX9_sends_102 ?_
    refine ax_istore F dX9_sends_103 (by decide) rfl ?_
    refine ax_iinc (v := (1 : Int32)) F dX9_sends_105 rfl (by decide) (by decide) rfl ?_
    refine ax_goto (t := 42) F dX9_sends_108 (by decide) ?_
    exact IH.2.2.1 _ _ _ _ _ _ _ h 
  · have h := it_neg h hc
    refine ax_iconst (v := (0 : Int32)) F dX9_sends_97 (by decide) ?_
    refine ax_goto (t := 102) F dX9_sends_98 (by decide) ?_
    refine ax_isub F dX9_sends_102 ?_
    refine ax_istore F dX9_sends_103 (by decide) rfl ?_
    refine ax_iinc (v := (1 : Int32)) F dX9_sends_105 rfl (by decide) (by decide) rfl ?_
    refine ax_goto (t := 42) F dX9_sends_108 (by decide) ?_
    exact IH.2.2.1 _ _ _ _ _ _ _ h 
set_option maxRecDepth 100000 in
set_option maxHeartbeats 4000000 in
theorem wX9_sends {p : Program} {l : Launch} {e : Env} {s : State} {m : MethodId} {args : Array Value} {below : List Frame} {meth : Method} {c : Code} {G : va_G} {L : List Nat} {ad : Nat → Nat} {cs : Nat → ClassId} {z : Bool} {zk zv : Nat → Nat} {r : Int32} {M' : Mm} (F : Fx G L ad cs z zk zv p m meth c cX9_sends 7 none s args RX9) (hm : isM L) (n : Nat) : PX9_sends p l e s m args below meth c G L ad cs zk r M' n := by
  induction n with
  | zero => exact ⟨(fun x1 x2 x3 M h => by cases h), (fun x1 x2 x3 x4 M h => by cases h), (fun x1 x2 x3 x4 x5 x6 M h => by cases h), (fun x1 x2 x3 x4 x5 x6 M h => by cases h)⟩
  | succ n ih =>
    exact ⟨fun x1 x2 x3 M h  => wX9_sends_0 F hm ih x1 x2 x3 M h ,
      fun x1 x2 x3 x4 M h  => wX9_sends_1 F hm ih x1 x2 x3 x4 M h ,
      fun x1 x2 x3 x4 x5 x6 M h  => wX9_sends_2 F hm ih x1 x2 x3 x4 x5 x6 M h ,
      fun x1 x2 x3 x4 x5 x6 M h  => wX9_sends_3 F hm ih x1 x2 x3 x4 x5 x6 M h ⟩
set_option maxRecDepth 100000 in
set_option maxHeartbeats 4000000 in
theorem tX9_sends {l : Launch} {G : va_G} {L : List Nat} {ad : Nat → Nat} {cs : Nat → ClassId} {z : Bool} {zk zv : Nat → Nat} (hinj : inj L ad) (hm : isM L) (x1 : Int32) (x2 : Int32) (x3 : Int32)  (M : Mm) (r : Int32) (M' : Mm) (h : fX9_sends x1 x2 x3 M = some (r, M')) : Met l yX9_sends (tgW yX9_sends cX9_sends 7 none) rmX9_sends (APre G L ad cs z zk zv [.ref (ad 338), .int x1, .int x2, .int x3] M) (AQv G L ad cs M') 0 0 (inA L ad) := by
  refine met_of (Eq.refl true) (Nat.le_of_ble_eq_true rfl) hinj [some (.ref (ad 338)), some (.int x1), some (.int x2), some (.int x3), none, none, none] rfl ?_
  intro p e s m below meth c F
  replace F : Fx G L ad cs z zk zv p m meth c cX9_sends 7 none s _ RX9 := F
  obtain ⟨n, hn⟩ := run_ex h
  exact (wX9_sends F hm n).1 x1 x2 x3 M hn 
