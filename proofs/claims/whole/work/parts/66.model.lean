/-! the reference: its constructor -/
def rmX9_init : Room := { frames := 2, cells := 11, slots := 1371, locals := 51 }
abbrev LX9 : List Nat := [338, 339, 340, 341, 342, 343, 344, 345, 346, 347, 348, 349]
theorem isM_LX9 : ∀ j, 338 ≤ j → j < 350 → j ∈ LX9 := by
  intro j h1 h2
  simp only [LX9, List.mem_cons, List.not_mem_nil, or_false]
  omega
def z342 : Nat → Int32 := (upd (upd (upd (fun _ => 0) (ix 0) (-1)) (ix 1) (-1)) (ix 2) (-1))
def z345 : Nat → Int32 := (upd (upd (upd (upd (upd (upd (upd (upd (upd (upd (upd (upd (upd (upd (upd (upd (upd (upd (upd (upd (fun _ => 0) (ix 0) 110) (ix 1) 101) (ix 2) 116) (ix 3) 0) (ix 4) 100) (ix 5) 101) (ix 6) 97) (ix 7) 100) (ix 8) 115) (ix 9) 108) (ix 10) 121) (ix 11) 0) (ix 12) 108) (ix 13) 105) (ix 14) 110) (ix 15) 107) (ix 16) 99) (ix 17) 117) (ix 18) 116) (ix 19) 0)
theorem z342_ok : ∀ t, t < 3 → z342 t = -1 := by decide +kernel
theorem z345_ok : ∀ w, w < 5 → ∀ j, j < 4 → z345 (4 * w + j) = nI (zc w j) := by decide +kernel
def zD : Mm := fun i => if i = 342 then z342 else if i = 345 then z345 else fun _ => 0
def PhY (D : Mm) : Prop := hasB D 0 P0 N0 ∧ hasP D P0 ∧ D 338 5 = 0 ∧ D 338 8 = 0 ∧ D 340 = (fun _ => 0) ∧ D 342 = z342 ∧ D 345 = z345
set_option maxRecDepth 100000 in
set_option maxHeartbeats 40000000 in
theorem iX9 {l : Launch} {G : va_G} {cs : Nat → ClassId} : Ctor l yX9_init cX9_init 1 rmX9_init G cs 9 [.null, .int 0, .int 0, .int 0, .int 0, .int 0, .null, .null, .int 0, .null, .null, .int 0, .int 0, .int 0, .int 0, .int 0, .null, .null, .null, .null, .null, .null] LX9 338 PhY 11 1371 := by
  refine ctor_of (Eq.refl true) rfl (by decide) (fun h0 => [some (.ref h0)]) (fun h0 => rfl) ?_
  intro h0 p e s m below meth c A B
  replace B : Bx G cs p m meth c cX9_init 1 s [Value.ref h0].toArray RX9 A := B
  refine gx_aload_n B dX9_init_0 rfl ?_
  refine gx_obj B km_X9_1 (by decide) (by decide) dX9_init_1 ?_
  refine gx_aload_n B dX9_init_4 rfl ?_
  refine gx_sipush (v := 1080) B dX9_init_5 (by decide) ?_
  refine gx_newI B 1080 (by decide) (by decide) (by decide) (Nat.le_of_ble_eq_true rfl) (Nat.le_of_ble_eq_true rfl) dX9_init_8 (fun q339 => ?_)
  refine gx_putF (C := RX9) (T := TX9) (N := 22) (ty := .array .int) (fs' := [.ref q339, .int 0, .int 0, .int 0, .int 0, .int 0, .null, .null, .int 0, .null, .null, .int 0, .int 0, .int 0, .int 0, .int 0, .null, .null, .null, .null, .null, .null]) B rfl inGX9 tyX9 tyX9_ok nmX9 0 (by decide) rfl rfl kf_X9_7 (by decide +kernel) rfl rfl (Nat.le_of_ble_eq_true rfl) rfl dX9_init_10 ?_
  refine gx_aload_n B dX9_init_13 rfl ?_
  refine gx_iconst (v := 2) B dX9_init_14 (by decide) ?_
  refine gx_newZ B 2 (by decide) (by decide) (by decide) (Nat.le_of_ble_eq_true rfl) (Nat.le_of_ble_eq_true rfl) dX9_init_15 (fun q340 => ?_)
  refine gx_putF (C := RX9) (T := TX9) (N := 22) (ty := .array .boolean) (fs' := [.ref q339, .int 0, .int 0, .int 0, .int 0, .int 0, .ref q340, .null, .int 0, .null, .null, .int 0, .int 0, .int 0, .int 0, .int 0, .null, .null, .null, .null, .null, .null]) B rfl inGX9 tyX9 tyX9_ok nmX9 6 (by decide) rfl rfl kf_X9_13 (by decide +kernel) rfl rfl (Nat.le_of_ble_eq_true rfl) rfl dX9_init_17 ?_
  refine gx_aload_n B dX9_init_20 rfl ?_
  refine gx_sipush (v := 200) B dX9_init_21 (by decide) ?_
  refine gx_newI B 200 (by decide) (by decide) (by decide) (Nat.le_of_ble_eq_true rfl) (Nat.le_of_ble_eq_true rfl) dX9_init_24 (fun q341 => ?_)
  refine gx_putF (C := RX9) (T := TX9) (N := 22) (ty := .array .int) (fs' := [.ref q339, .int 0, .int 0, .int 0, .int 0, .int 0, .ref q340, .ref q341, .int 0, .null, .null, .int 0, .int 0, .int 0, .int 0, .int 0, .null, .null, .null, .null, .null, .null]) B rfl inGX9 tyX9 tyX9_ok nmX9 7 (by decide) rfl rfl kf_X9_17 (by decide +kernel) rfl rfl (Nat.le_of_ble_eq_true rfl) rfl dX9_init_26 ?_
  refine gx_aload_n B dX9_init_29 rfl ?_
  refine gx_iconst (v := 3) B dX9_init_30 (by decide) ?_
  refine gx_newI B 3 (by decide) (by decide) (by decide) (Nat.le_of_ble_eq_true rfl) (Nat.le_of_ble_eq_true rfl) dX9_init_31 (fun q342 => ?_)
  refine gx_dup B dX9_init_33 rfl ?_
  refine gx_iconst (v := 0) B dX9_init_34 (by decide) ?_
  refine gx_iconst (v := (-1)) B dX9_init_35 (by decide) ?_
  refine gx_iast B (by decide) dX9_init_36 ?_
  refine gx_dup B dX9_init_37 rfl ?_
  refine gx_iconst (v := 1) B dX9_init_38 (by decide) ?_
  refine gx_iconst (v := (-1)) B dX9_init_39 (by decide) ?_
  refine gx_iast B (by decide) dX9_init_40 ?_
  refine gx_dup B dX9_init_41 rfl ?_
  refine gx_iconst (v := 2) B dX9_init_42 (by decide) ?_
  refine gx_iconst (v := (-1)) B dX9_init_43 (by decide) ?_
  refine gx_iast B (by decide) dX9_init_44 ?_
  refine gx_putF (C := RX9) (T := TX9) (N := 22) (ty := .array .int) (fs' := [.ref q339, .int 0, .int 0, .int 0, .int 0, .int 0, .ref q340, .ref q341, .int 0, .ref q342, .null, .int 0, .int 0, .int 0, .int 0, .int 0, .null, .null, .null, .null, .null, .null]) B rfl inGX9 tyX9 tyX9_ok nmX9 9 (by decide) rfl rfl kf_X9_20 (by decide +kernel) rfl rfl (Nat.le_of_ble_eq_true rfl) rfl dX9_init_45 ?_
  refine gx_aload_n B dX9_init_48 rfl ?_
  refine gx_bipush (v := 24) B dX9_init_49 (by decide) ?_
  refine gx_newI B 24 (by decide) (by decide) (by decide) (Nat.le_of_ble_eq_true rfl) (Nat.le_of_ble_eq_true rfl) dX9_init_51 (fun q343 => ?_)
  refine gx_putF (C := RX9) (T := TX9) (N := 22) (ty := .array .int) (fs' := [.ref q339, .int 0, .int 0, .int 0, .int 0, .int 0, .ref q340, .ref q341, .int 0, .ref q342, .ref q343, .int 0, .int 0, .int 0, .int 0, .int 0, .null, .null, .null, .null, .null, .null]) B rfl inGX9 tyX9 tyX9_ok nmX9 10 (by decide) rfl rfl kf_X9_23 (by decide +kernel) rfl rfl (Nat.le_of_ble_eq_true rfl) rfl dX9_init_53 ?_
  refine gx_aload_n B dX9_init_56 rfl ?_
  refine gx_iconst (v := 4) B dX9_init_57 (by decide) ?_
  refine gx_newI B 4 (by decide) (by decide) (by decide) (Nat.le_of_ble_eq_true rfl) (Nat.le_of_ble_eq_true rfl) dX9_init_58 (fun q344 => ?_)
  refine gx_putF (C := RX9) (T := TX9) (N := 22) (ty := .array .int) (fs' := [.ref q339, .int 0, .int 0, .int 0, .int 0, .int 0, .ref q340, .ref q341, .int 0, .ref q342, .ref q343, .int 0, .int 0, .int 0, .int 0, .int 0, .ref q344, .null, .null, .null, .null, .null]) B rfl inGX9 tyX9 tyX9_ok nmX9 16 (by decide) rfl rfl kf_X9_26 (by decide +kernel) rfl rfl (Nat.le_of_ble_eq_true rfl) rfl dX9_init_60 ?_
  refine gx_aload_n B dX9_init_63 rfl ?_
  refine gx_bipush (v := 20) B dX9_init_64 (by decide) ?_
  refine gx_newI B 20 (by decide) (by decide) (by decide) (Nat.le_of_ble_eq_true rfl) (Nat.le_of_ble_eq_true rfl) dX9_init_66 (fun q345 => ?_)
  refine gx_dup B dX9_init_68 rfl ?_
  refine gx_iconst (v := 0) B dX9_init_69 (by decide) ?_
  refine gx_bipush (v := 110) B dX9_init_70 (by decide) ?_
  refine gx_iast B (by decide) dX9_init_72 ?_
  refine gx_dup B dX9_init_73 rfl ?_
  refine gx_iconst (v := 1) B dX9_init_74 (by decide) ?_
  refine gx_bipush (v := 101) B dX9_init_75 (by decide) ?_
  refine gx_iast B (by decide) dX9_init_77 ?_
  refine gx_dup B dX9_init_78 rfl ?_
  refine gx_iconst (v := 2) B dX9_init_79 (by decide) ?_
  refine gx_bipush (v := 116) B dX9_init_80 (by decide) ?_
  refine gx_iast B (by decide) dX9_init_82 ?_
  refine gx_dup B dX9_init_83 rfl ?_
  refine gx_iconst (v := 3) B dX9_init_84 (by decide) ?_
  refine gx_iconst (v := 0) B dX9_init_85 (by decide) ?_
  refine gx_iast B (by decide) dX9_init_86 ?_
  refine gx_dup B dX9_init_87 rfl ?_
  refine gx_iconst (v := 4) B dX9_init_88 (by decide) ?_
  refine gx_bipush (v := 100) B dX9_init_89 (by decide) ?_
  refine gx_iast B (by decide) dX9_init_91 ?_
  refine gx_dup B dX9_init_92 rfl ?_
  refine gx_iconst (v := 5) B dX9_init_93 (by decide) ?_
  refine gx_bipush (v := 101) B dX9_init_94 (by decide) ?_
  refine gx_iast B (by decide) dX9_init_96 ?_
  refine gx_dup B dX9_init_97 rfl ?_
  refine gx_bipush (v := 6) B dX9_init_98 (by decide) ?_
  refine gx_bipush (v := 97) B dX9_init_100 (by decide) ?_
  refine gx_iast B (by decide) dX9_init_102 ?_
  refine gx_dup B dX9_init_103 rfl ?_
  refine gx_bipush (v := 7) B dX9_init_104 (by decide) ?_
  refine gx_bipush (v := 100) B dX9_init_106 (by decide) ?_
  refine gx_iast B (by decide) dX9_init_108 ?_
  refine gx_dup B dX9_init_109 rfl ?_
  refine gx_bipush (v := 8) B dX9_init_110 (by decide) ?_
  refine gx_bipush (v := 115) B dX9_init_112 (by decide) ?_
  refine gx_iast B (by decide) dX9_init_114 ?_
  refine gx_dup B dX9_init_115 rfl ?_
  refine gx_bipush (v := 9) B dX9_init_116 (by decide) ?_
  refine gx_bipush (v := 108) B dX9_init_118 (by decide) ?_
  refine gx_iast B (by decide) dX9_init_120 ?_
  refine gx_dup B dX9_init_121 rfl ?_
  refine gx_bipush (v := 10) B dX9_init_122 (by decide) ?_
  refine gx_bipush (v := 121) B dX9_init_124 (by decide) ?_
  refine gx_iast B (by decide) dX9_init_126 ?_
  refine gx_dup B dX9_init_127 rfl ?_
  refine gx_bipush (v := 11) B dX9_init_128 (by decide) ?_
  refine gx_iconst (v := 0) B dX9_init_130 (by decide) ?_
  refine gx_iast B (by decide) dX9_init_131 ?_
  refine gx_dup B dX9_init_132 rfl ?_
  refine gx_bipush (v := 12) B dX9_init_133 (by decide) ?_
  refine gx_bipush (v := 108) B dX9_init_135 (by decide) ?_
  refine gx_iast B (by decide) dX9_init_137 ?_
  refine gx_dup B dX9_init_138 rfl ?_
  refine gx_bipush (v := 13) B dX9_init_139 (by decide) ?_
  refine gx_bipush (v := 105) B dX9_init_141 (by decide) ?_
  refine gx_iast B (by decide) dX9_init_143 ?_
  refine gx_dup B dX9_init_144 rfl ?_
  refine gx_bipush (v := 14) B dX9_init_145 (by decide) ?_
  refine gx_bipush (v := 110) B dX9_init_147 (by decide) ?_
  refine gx_iast B (by decide) dX9_init_149 ?_
  refine gx_dup B dX9_init_150 rfl ?_
  refine gx_bipush (v := 15) B dX9_init_151 (by decide) ?_
  refine gx_bipush (v := 107) B dX9_init_153 (by decide) ?_
  refine gx_iast B (by decide) dX9_init_155 ?_
  refine gx_dup B dX9_init_156 rfl ?_
  refine gx_bipush (v := 16) B dX9_init_157 (by decide) ?_
  refine gx_bipush (v := 99) B dX9_init_159 (by decide) ?_
  refine gx_iast B (by decide) dX9_init_161 ?_
  refine gx_dup B dX9_init_162 rfl ?_
  refine gx_bipush (v := 17) B dX9_init_163 (by decide) ?_
  refine gx_bipush (v := 117) B dX9_init_165 (by decide) ?_
  refine gx_iast B (by decide) dX9_init_167 ?_
  refine gx_dup B dX9_init_168 rfl ?_
  refine gx_bipush (v := 18) B dX9_init_169 (by decide) ?_
  refine gx_bipush (v := 116) B dX9_init_171 (by decide) ?_
  refine gx_iast B (by decide) dX9_init_173 ?_
  refine gx_dup B dX9_init_174 rfl ?_
  refine gx_bipush (v := 19) B dX9_init_175 (by decide) ?_
  refine gx_iconst (v := 0) B dX9_init_177 (by decide) ?_
  refine gx_iast B (by decide) dX9_init_178 ?_
  refine gx_putF (C := RX9) (T := TX9) (N := 22) (ty := .array .int) (fs' := [.ref q339, .int 0, .int 0, .int 0, .int 0, .int 0, .ref q340, .ref q341, .int 0, .ref q342, .ref q343, .int 0, .int 0, .int 0, .int 0, .int 0, .ref q344, .ref q345, .null, .null, .null, .null]) B rfl inGX9 tyX9 tyX9_ok nmX9 17 (by decide) rfl rfl kf_X9_29 (by decide +kernel) rfl rfl (Nat.le_of_ble_eq_true rfl) rfl dX9_init_179 ?_
  refine gx_aload_n B dX9_init_182 rfl ?_
  refine gx_bipush (v := 12) B dX9_init_183 (by decide) ?_
  refine gx_newI B 12 (by decide) (by decide) (by decide) (Nat.le_of_ble_eq_true rfl) (Nat.le_of_ble_eq_true rfl) dX9_init_185 (fun q346 => ?_)
  refine gx_putF (C := RX9) (T := TX9) (N := 22) (ty := .array .int) (fs' := [.ref q339, .int 0, .int 0, .int 0, .int 0, .int 0, .ref q340, .ref q341, .int 0, .ref q342, .ref q343, .int 0, .int 0, .int 0, .int 0, .int 0, .ref q344, .ref q345, .ref q346, .null, .null, .null]) B rfl inGX9 tyX9 tyX9_ok nmX9 18 (by decide) rfl rfl kf_X9_32 (by decide +kernel) rfl rfl (Nat.le_of_ble_eq_true rfl) rfl dX9_init_187 ?_
  refine gx_aload_n B dX9_init_190 rfl ?_
  refine gx_bipush (v := 12) B dX9_init_191 (by decide) ?_
  refine gx_newI B 12 (by decide) (by decide) (by decide) (Nat.le_of_ble_eq_true rfl) (Nat.le_of_ble_eq_true rfl) dX9_init_193 (fun q347 => ?_)
  refine gx_putF (C := RX9) (T := TX9) (N := 22) (ty := .array .int) (fs' := [.ref q339, .int 0, .int 0, .int 0, .int 0, .int 0, .ref q340, .ref q341, .int 0, .ref q342, .ref q343, .int 0, .int 0, .int 0, .int 0, .int 0, .ref q344, .ref q345, .ref q346, .ref q347, .null, .null]) B rfl inGX9 tyX9 tyX9_ok nmX9 19 (by decide) rfl rfl kf_X9_35 (by decide +kernel) rfl rfl (Nat.le_of_ble_eq_true rfl) rfl dX9_init_195 ?_
  refine gx_aload_n B dX9_init_198 rfl ?_
  refine gx_iconst (v := 2) B dX9_init_199 (by decide) ?_
  refine gx_newI B 2 (by decide) (by decide) (by decide) (Nat.le_of_ble_eq_true rfl) (Nat.le_of_ble_eq_true rfl) dX9_init_200 (fun q348 => ?_)
  refine gx_putF (C := RX9) (T := TX9) (N := 22) (ty := .array .int) (fs' := [.ref q339, .int 0, .int 0, .int 0, .int 0, .int 0, .ref q340, .ref q341, .int 0, .ref q342, .ref q343, .int 0, .int 0, .int 0, .int 0, .int 0, .ref q344, .ref q345, .ref q346, .ref q347, .ref q348, .null]) B rfl inGX9 tyX9 tyX9_ok nmX9 20 (by decide) rfl rfl kf_X9_38 (by decide +kernel) rfl rfl (Nat.le_of_ble_eq_true rfl) rfl dX9_init_202 ?_
  refine gx_aload_n B dX9_init_205 rfl ?_
  refine gx_bipush (v := 12) B dX9_init_206 (by decide) ?_
  refine gx_newZ B 12 (by decide) (by decide) (by decide) (Nat.le_of_ble_eq_true rfl) (Nat.le_of_ble_eq_true rfl) dX9_init_208 (fun q349 => ?_)
  refine gx_putF (C := RX9) (T := TX9) (N := 22) (ty := .array .boolean) (fs' := [.ref q339, .int 0, .int 0, .int 0, .int 0, .int 0, .ref q340, .ref q341, .int 0, .ref q342, .ref q343, .int 0, .int 0, .int 0, .int 0, .int 0, .ref q344, .ref q345, .ref q346, .ref q347, .ref q348, .ref q349]) B rfl inGX9 tyX9 tyX9_ok nmX9 21 (by decide) rfl rfl kf_X9_41 (by decide +kernel) rfl rfl (Nat.le_of_ble_eq_true rfl) rfl dX9_init_210 ?_
  obtain ⟨ad, e0, z0⟩ : ∃ ad : Nat → Nat, ad 338 = h0 ∧ wsO LX9 ad cs zD = [(h0, .inr (9, [.ref q339, .int 0, .int 0, .int 0, .int 0, .int 0, .ref q340, .ref q341, .int 0, .ref q342, .ref q343, .int 0, .int 0, .int 0, .int 0, .int 0, .ref q344, .ref q345, .ref q346, .ref q347, .ref q348, .ref q349])), (q339, .inl (cs 0, 1080, .inl (fun _ => 0))), (q340, .inl (cs 1, 2, .inl (fun _ => 0))), (q341, .inl (cs 0, 200, .inl (fun _ => 0))), (q342, .inl (cs 0, 3, .inl z342)), (q343, .inl (cs 0, 24, .inl (fun _ => 0))), (q344, .inl (cs 0, 4, .inl (fun _ => 0))), (q345, .inl (cs 0, 20, .inl z345)), (q346, .inl (cs 0, 12, .inl (fun _ => 0))), (q347, .inl (cs 0, 12, .inl (fun _ => 0))), (q348, .inl (cs 0, 2, .inl (fun _ => 0))), (q349, .inl (cs 1, 12, .inl (fun _ => 0)))] := ⟨fun i => if i = 338 then h0 else if i = 339 then q339 else if i = 340 then q340 else if i = 341 then q341 else if i = 342 then q342 else if i = 343 then q343 else if i = 344 then q344 else if i = 345 then q345 else if i = 346 then q346 else if i = 347 then q347 else if i = 348 then q348 else q349, rfl, rfl⟩
  refine gx_tr (ws' := wsO LX9 ad cs zD) (fun H hP hD => by rw [z0]; exact ⟨hP, hD⟩) ?_
  obtain ⟨D', hr, hB, hp, hF⟩ := anew_r (D := zD) (n := 4) (c := 2) (l := 1) (sd := 1) (by omega) (by omega) (by omega)
  refine gx_aload_n B dX9_init_213 rfl ?_
  refine gx_iconst (v := nI 4) B dX9_init_214 (by decide) ?_
  refine gx_iconst (v := nI 2) B dX9_init_215 (by decide) ?_
  refine gx_iconst (v := nI 1) B dX9_init_216 (by decide) ?_
  refine gx_iconst (v := nI 1) B dX9_init_217 (by decide) ?_
  refine gx_callV (zk := id) (zv := id) (a := 338) (As := [.int (nI 4), .int (nI 2), .int (nI 1), .int (nI 1)]) (st := []) B (by decide) (fun hj => tX9_anew hj isM_LX9 _ _ _ _ _ _ _ hr) (ob_338 isM_LX9) rfl kc_X9_anew kz_X9 ki_X9_anew ks_X9_anew km_X9_44 ⟨kn_X9_anew, rfl, rfl, Nat.le_of_ble_eq_true rfl, Nat.le_of_ble_eq_true rfl⟩ (by rw [e0]; rfl) (Nat.le_of_ble_eq_true rfl) (Nat.le_of_ble_eq_true rfl) (Nat.le_of_ble_eq_true rfl) dX9_init_218 ?_
  have h8 : PhY D' := ⟨hB, hp, hF.2.1 5 (by omega), hF.2.1 8 (by omega), hF.1 340 (by decide) (by decide), hF.1 342 (by decide) (by decide), hF.1 345 (by decide) (by decide)⟩
  exact gx_ret B e0 h8 dX9_init_221
