/-! the calls of the law -/
section Lws
variable {p : Program} {l : Launch} {e : Env} {s : State} {m : MethodId} {below : List Frame} {meth : Method} {c : Code} {Q : State → Prop}
variable {G : va_G} {cs : Nat → ClassId} {b L : Nat} {xs : Nat → Int32} {ad zk zv : Nat → Nat} {ce sl : Nat}
set_option maxRecDepth 100000 in
theorem lw_c0 (B : Lx G cs p m meth c s b L xs) (hZ : Zl s zk zv) (hce : ce ≤ room_1.cells) (hsl : sl ≤ room_1.slots) {M : Mm} {i : Nat} (hi : i + 4 ≤ L) (hL : L < 2 ^ 31) (hR : RE M M) (K : ∀ M2 : Mm, RE M2 M2 → BW p l e room_1 s m #[Value.ref b] below meth c Q G (AL s) 4 773 [some (.ref b), some (.ref (ad 0)), some (.ref (ad 338)), some (.int (nI i))] [] (wsO LA ad cs M2) ce sl) : BW p l e room_1 s m #[Value.ref b] below meth c Q G (AL s) 4 148 [some (.ref b), some (.ref (ad 0)), some (.ref (ad 338)), some (.int (nI i))] [] (wsO LA ad cs M) ce sl := by
  obtain ⟨r, M1, M2, h8, h9, hR2⟩ := two (f8 := (fX8_write (xs (i + 1)))) (f9 := (fX9_write (xs (i + 1)))) hR (write_ok (xs (i + 1)))
  refine lx_aload_n B dL_law_148 rfl ?_
  refine lx_arg (i := i) (j := 1) B (by decide) rfl rfl (by omega) hL dL_law_149 dL_law_150 dL_law_151 dL_law_152 dL_law_153 ?_
  refine lx_call (a := 0) (As := [.int (xs (i + 1))]) (st := []) B hZ (fun hj => tX8_write hj isX_LA _ _ _ _ h8) (ob_0 isX_LA) rfl kc_X8_write kz_X8 ki_X8_write ks_X8_write km_L_13 ⟨kn_X8_write, rfl, rfl, Nat.le_of_ble_eq_true rfl, Nat.le_of_ble_eq_true rfl⟩ rfl (Nat.le_of_ble_eq_true rfl) hce hsl dL_law_154 ?_
  refine lx_aload_n B dL_law_157 rfl ?_
  refine lx_arg (i := i) (j := 1) B (by decide) rfl rfl (by omega) hL dL_law_158 dL_law_159 dL_law_160 dL_law_161 dL_law_162 ?_
  refine lx_call (a := 338) (As := [.int (xs (i + 1))]) (st := [.int r]) B hZ (fun hj => tX9_write hj isM_LA _ _ _ _ h9) (ob_338 isM_LA) rfl kc_X9_write kz_X9 ki_X9_write ks_X9_write km_L_17 ⟨kn_X9_write, rfl, rfl, Nat.le_of_ble_eq_true rfl, Nat.le_of_ble_eq_true rfl⟩ rfl (Nat.le_of_ble_eq_true rfl) hce hsl dL_law_163 ?_
  refine lx_icmp_eq (t := 773) B dL_law_166 rfl (fun _ => K M2 hR2) (fun h => absurd rfl h)
set_option maxRecDepth 100000 in
theorem lw_c1 (B : Lx G cs p m meth c s b L xs) (hZ : Zl s zk zv) (hce : ce ≤ room_1.cells) (hsl : sl ≤ room_1.slots) {M : Mm} {i : Nat} (hi : i + 4 ≤ L) (hL : L < 2 ^ 31) (hR : RE M M) (K : ∀ M2 : Mm, RE M2 M2 → BW p l e room_1 s m #[Value.ref b] below meth c Q G (AL s) 4 773 [some (.ref b), some (.ref (ad 0)), some (.ref (ad 338)), some (.int (nI i))] [] (wsO LA ad cs M2) ce sl) : BW p l e room_1 s m #[Value.ref b] below meth c Q G (AL s) 4 171 [some (.ref b), some (.ref (ad 0)), some (.ref (ad 338)), some (.int (nI i))] [] (wsO LA ad cs M) ce sl := by
  obtain ⟨r, M1, M2, h8, h9, hR2⟩ := two (f8 := fX8_erase) (f9 := fX9_erase) hR erase_ok
  refine lx_aload_n B dL_law_171 rfl ?_
  refine lx_call (a := 0) (As := []) (st := []) B hZ (fun hj => tX8_erase hj isX_LA  _ _ _ h8) (ob_0 isX_LA) rfl kc_X8_erase kz_X8 ki_X8_erase ks_X8_erase km_L_18 ⟨kn_X8_erase, rfl, rfl, Nat.le_of_ble_eq_true rfl, Nat.le_of_ble_eq_true rfl⟩ rfl (Nat.le_of_ble_eq_true rfl) hce hsl dL_law_172 ?_
  refine lx_aload_n B dL_law_175 rfl ?_
  refine lx_call (a := 338) (As := []) (st := [.int r]) B hZ (fun hj => tX9_erase hj isM_LA  _ _ _ h9) (ob_338 isM_LA) rfl kc_X9_erase kz_X9 ki_X9_erase ks_X9_erase km_L_22 ⟨kn_X9_erase, rfl, rfl, Nat.le_of_ble_eq_true rfl, Nat.le_of_ble_eq_true rfl⟩ rfl (Nat.le_of_ble_eq_true rfl) hce hsl dL_law_176 ?_
  refine lx_icmp_eq (t := 773) B dL_law_179 rfl (fun _ => K M2 hR2) (fun h => absurd rfl h)
set_option maxRecDepth 100000 in
theorem lw_c2 (B : Lx G cs p m meth c s b L xs) (hZ : Zl s zk zv) (hce : ce ≤ room_1.cells) (hsl : sl ≤ room_1.slots) {M : Mm} {i : Nat} (hi : i + 4 ≤ L) (hL : L < 2 ^ 31) (hR : RE M M) (K : ∀ M2 : Mm, RE M2 M2 → BW p l e room_1 s m #[Value.ref b] below meth c Q G (AL s) 4 773 [some (.ref b), some (.ref (ad 0)), some (.ref (ad 338)), some (.int (nI i))] [] (wsO LA ad cs M2) ce sl) : BW p l e room_1 s m #[Value.ref b] below meth c Q G (AL s) 4 184 [some (.ref b), some (.ref (ad 0)), some (.ref (ad 338)), some (.int (nI i))] [] (wsO LA ad cs M) ce sl := by
  obtain ⟨r, M1, M2, h8, h9, hR2⟩ := two (f8 := fX8_fault) (f9 := fX9_fault) hR fault_ok
  refine lx_aload_n B dL_law_184 rfl ?_
  refine lx_call (a := 0) (As := []) (st := []) B hZ (fun hj => tX8_fault hj isX_LA rfl  _ _ _ h8) (ob_0 isX_LA) rfl kc_X8_fault kz_X8 ki_X8_fault ks_X8_fault km_L_23 ⟨kn_X8_fault, rfl, rfl, Nat.le_of_ble_eq_true rfl, Nat.le_of_ble_eq_true rfl⟩ rfl (Nat.le_of_ble_eq_true rfl) hce hsl dL_law_185 ?_
  refine lx_aload_n B dL_law_188 rfl ?_
  refine lx_call (a := 338) (As := []) (st := [.int r]) B hZ (fun hj => tX9_fault hj isM_LA  _ _ _ h9) (ob_338 isM_LA) rfl kc_X9_fault kz_X9 ki_X9_fault ks_X9_fault km_L_26 ⟨kn_X9_fault, rfl, rfl, Nat.le_of_ble_eq_true rfl, Nat.le_of_ble_eq_true rfl⟩ rfl (Nat.le_of_ble_eq_true rfl) hce hsl dL_law_189 ?_
  refine lx_icmp_eq (t := 773) B dL_law_192 rfl (fun _ => K M2 hR2) (fun h => absurd rfl h)
set_option maxRecDepth 100000 in
theorem lw_c3 (B : Lx G cs p m meth c s b L xs) (hZ : Zl s zk zv) (hce : ce ≤ room_1.cells) (hsl : sl ≤ room_1.slots) {M : Mm} {i : Nat} (hi : i + 4 ≤ L) (hL : L < 2 ^ 31) (hR : RE M M) (K : ∀ M2 : Mm, RE M2 M2 → BW p l e room_1 s m #[Value.ref b] below meth c Q G (AL s) 4 773 [some (.ref b), some (.ref (ad 0)), some (.ref (ad 338)), some (.int (nI i))] [] (wsO LA ad cs M2) ce sl) : BW p l e room_1 s m #[Value.ref b] below meth c Q G (AL s) 4 197 [some (.ref b), some (.ref (ad 0)), some (.ref (ad 338)), some (.int (nI i))] [] (wsO LA ad cs M) ce sl := by
  obtain ⟨r, M1, M2, h8, h9, hR2⟩ := two (f8 := fX8_net) (f9 := fX9_net) hR net_ok
  refine lx_aload_n B dL_law_197 rfl ?_
  refine lx_call (a := 0) (As := []) (st := []) B hZ (fun hj => tX8_net hj isX_LA rfl  _ _ _ h8) (ob_0 isX_LA) rfl kc_X8_net kz_X8 ki_X8_net ks_X8_net km_L_27 ⟨kn_X8_net, rfl, rfl, Nat.le_of_ble_eq_true rfl, Nat.le_of_ble_eq_true rfl⟩ rfl (Nat.le_of_ble_eq_true rfl) hce hsl dL_law_198 ?_
  refine lx_aload_n B dL_law_201 rfl ?_
  refine lx_call (a := 338) (As := []) (st := [.int r]) B hZ (fun hj => tX9_net hj isM_LA  _ _ _ h9) (ob_338 isM_LA) rfl kc_X9_net kz_X9 ki_X9_net ks_X9_net km_L_30 ⟨kn_X9_net, rfl, rfl, Nat.le_of_ble_eq_true rfl, Nat.le_of_ble_eq_true rfl⟩ rfl (Nat.le_of_ble_eq_true rfl) hce hsl dL_law_202 ?_
  refine lx_icmp_eq (t := 773) B dL_law_205 rfl (fun _ => K M2 hR2) (fun h => absurd rfl h)
set_option maxRecDepth 100000 in
theorem lw_c4 (B : Lx G cs p m meth c s b L xs) (hZ : Zl s zk zv) (hce : ce ≤ room_1.cells) (hsl : sl ≤ room_1.slots) {M : Mm} {i : Nat} (hi : i + 4 ≤ L) (hL : L < 2 ^ 31) (hR : RE M M) (K : ∀ M2 : Mm, RE M2 M2 → BW p l e room_1 s m #[Value.ref b] below meth c Q G (AL s) 4 773 [some (.ref b), some (.ref (ad 0)), some (.ref (ad 338)), some (.int (nI i))] [] (wsO LA ad cs M2) ce sl) : BW p l e room_1 s m #[Value.ref b] below meth c Q G (AL s) 4 210 [some (.ref b), some (.ref (ad 0)), some (.ref (ad 338)), some (.int (nI i))] [] (wsO LA ad cs M) ce sl := by
  obtain ⟨r, M1, M2, h8, h9, hR2⟩ := two (f8 := (fX8_node (xs (i + 1)) (xs (i + 2)))) (f9 := (fX9_node (xs (i + 1)) (xs (i + 2)))) hR (node_ok (xs (i + 1)) (xs (i + 2)))
  refine lx_aload_n B dL_law_210 rfl ?_
  refine lx_arg (i := i) (j := 1) B (by decide) rfl rfl (by omega) hL dL_law_211 dL_law_212 dL_law_213 dL_law_214 dL_law_215 ?_
  refine lx_arg (i := i) (j := 2) B (by decide) rfl rfl (by omega) hL dL_law_216 dL_law_217 dL_law_218 dL_law_219 dL_law_220 ?_
  refine lx_call (a := 0) (As := [.int (xs (i + 1)), .int (xs (i + 2))]) (st := []) B hZ (fun hj => tX8_node hj isX_LA _ _ _ _ _ h8) (ob_0 isX_LA) rfl kc_X8_node kz_X8 ki_X8_node ks_X8_node km_L_31 ⟨kn_X8_node, rfl, rfl, Nat.le_of_ble_eq_true rfl, Nat.le_of_ble_eq_true rfl⟩ rfl (Nat.le_of_ble_eq_true rfl) hce hsl dL_law_221 ?_
  refine lx_aload_n B dL_law_224 rfl ?_
  refine lx_arg (i := i) (j := 1) B (by decide) rfl rfl (by omega) hL dL_law_225 dL_law_226 dL_law_227 dL_law_228 dL_law_229 ?_
  refine lx_arg (i := i) (j := 2) B (by decide) rfl rfl (by omega) hL dL_law_230 dL_law_231 dL_law_232 dL_law_233 dL_law_234 ?_
  refine lx_call (a := 338) (As := [.int (xs (i + 1)), .int (xs (i + 2))]) (st := [.int r]) B hZ (fun hj => tX9_node hj isM_LA _ _ _ _ _ h9) (ob_338 isM_LA) rfl kc_X9_node kz_X9 ki_X9_node ks_X9_node km_L_35 ⟨kn_X9_node, rfl, rfl, Nat.le_of_ble_eq_true rfl, Nat.le_of_ble_eq_true rfl⟩ rfl (Nat.le_of_ble_eq_true rfl) hce hsl dL_law_235 ?_
  refine lx_icmp_eq (t := 773) B dL_law_238 rfl (fun _ => K M2 hR2) (fun h => absurd rfl h)
set_option maxRecDepth 100000 in
theorem lw_c5 (B : Lx G cs p m meth c s b L xs) (hZ : Zl s zk zv) (hce : ce ≤ room_1.cells) (hsl : sl ≤ room_1.slots) {M : Mm} {i : Nat} (hi : i + 4 ≤ L) (hL : L < 2 ^ 31) (hR : RE M M) (K : ∀ M2 : Mm, RE M2 M2 → BW p l e room_1 s m #[Value.ref b] below meth c Q G (AL s) 4 773 [some (.ref b), some (.ref (ad 0)), some (.ref (ad 338)), some (.int (nI i))] [] (wsO LA ad cs M2) ce sl) : BW p l e room_1 s m #[Value.ref b] below meth c Q G (AL s) 4 243 [some (.ref b), some (.ref (ad 0)), some (.ref (ad 338)), some (.int (nI i))] [] (wsO LA ad cs M) ce sl := by
  obtain ⟨r, M1, M2, h8, h9, hR2⟩ := two (f8 := (fX8_entry (xs (i + 1)) (xs (i + 2)) (xs (i + 3)))) (f9 := (fX9_entry (xs (i + 1)) (xs (i + 2)) (xs (i + 3)))) hR (entry_ok (xs (i + 1)) (xs (i + 2)) (xs (i + 3)))
  refine lx_aload_n B dL_law_243 rfl ?_
  refine lx_arg (i := i) (j := 1) B (by decide) rfl rfl (by omega) hL dL_law_244 dL_law_245 dL_law_246 dL_law_247 dL_law_248 ?_
  refine lx_arg (i := i) (j := 2) B (by decide) rfl rfl (by omega) hL dL_law_249 dL_law_250 dL_law_251 dL_law_252 dL_law_253 ?_
  refine lx_arg (i := i) (j := 3) B (by decide) rfl rfl (by omega) hL dL_law_254 dL_law_255 dL_law_256 dL_law_257 dL_law_258 ?_
  refine lx_call (a := 0) (As := [.int (xs (i + 1)), .int (xs (i + 2)), .int (xs (i + 3))]) (st := []) B hZ (fun hj => tX8_entry hj isX_LA _ _ _ _ _ _ h8) (ob_0 isX_LA) rfl kc_X8_entry kz_X8 ki_X8_entry ks_X8_entry km_L_36 ⟨kn_X8_entry, rfl, rfl, Nat.le_of_ble_eq_true rfl, Nat.le_of_ble_eq_true rfl⟩ rfl (Nat.le_of_ble_eq_true rfl) hce hsl dL_law_259 ?_
  refine lx_aload_n B dL_law_262 rfl ?_
  refine lx_arg (i := i) (j := 1) B (by decide) rfl rfl (by omega) hL dL_law_263 dL_law_264 dL_law_265 dL_law_266 dL_law_267 ?_
  refine lx_arg (i := i) (j := 2) B (by decide) rfl rfl (by omega) hL dL_law_268 dL_law_269 dL_law_270 dL_law_271 dL_law_272 ?_
  refine lx_arg (i := i) (j := 3) B (by decide) rfl rfl (by omega) hL dL_law_273 dL_law_274 dL_law_275 dL_law_276 dL_law_277 ?_
  refine lx_call (a := 338) (As := [.int (xs (i + 1)), .int (xs (i + 2)), .int (xs (i + 3))]) (st := [.int r]) B hZ (fun hj => tX9_entry hj isM_LA _ _ _ _ _ _ h9) (ob_338 isM_LA) rfl kc_X9_entry kz_X9 ki_X9_entry ks_X9_entry km_L_40 ⟨kn_X9_entry, rfl, rfl, Nat.le_of_ble_eq_true rfl, Nat.le_of_ble_eq_true rfl⟩ rfl (Nat.le_of_ble_eq_true rfl) hce hsl dL_law_278 ?_
  refine lx_icmp_eq (t := 773) B dL_law_281 rfl (fun _ => K M2 hR2) (fun h => absurd rfl h)
set_option maxRecDepth 100000 in
theorem lw_c6 (B : Lx G cs p m meth c s b L xs) (hZ : Zl s zk zv) (hce : ce ≤ room_1.cells) (hsl : sl ≤ room_1.slots) {M : Mm} {i : Nat} (hi : i + 4 ≤ L) (hL : L < 2 ^ 31) (hR : RE M M) (K : ∀ M2 : Mm, RE M2 M2 → BW p l e room_1 s m #[Value.ref b] below meth c Q G (AL s) 4 773 [some (.ref b), some (.ref (ad 0)), some (.ref (ad 338)), some (.int (nI i))] [] (wsO LA ad cs M2) ce sl) : BW p l e room_1 s m #[Value.ref b] below meth c Q G (AL s) 4 286 [some (.ref b), some (.ref (ad 0)), some (.ref (ad 338)), some (.int (nI i))] [] (wsO LA ad cs M) ce sl := by
  obtain ⟨r, M1, M2, h8, h9, hR2⟩ := two (f8 := (fX8_round (xs (i + 1)))) (f9 := (fX9_round (xs (i + 1)))) hR (round_ok (xs (i + 1)))
  refine lx_aload_n B dL_law_286 rfl ?_
  refine lx_arg (i := i) (j := 1) B (by decide) rfl rfl (by omega) hL dL_law_287 dL_law_288 dL_law_289 dL_law_290 dL_law_291 ?_
  refine lx_call (a := 0) (As := [.int (xs (i + 1))]) (st := []) B hZ (fun hj => tX8_round hj isX_LA _ _ _ _ h8) (ob_0 isX_LA) rfl kc_X8_round kz_X8 ki_X8_round ks_X8_round km_L_41 ⟨kn_X8_round, rfl, rfl, Nat.le_of_ble_eq_true rfl, Nat.le_of_ble_eq_true rfl⟩ rfl (Nat.le_of_ble_eq_true rfl) hce hsl dL_law_292 ?_
  refine lx_aload_n B dL_law_295 rfl ?_
  refine lx_arg (i := i) (j := 1) B (by decide) rfl rfl (by omega) hL dL_law_296 dL_law_297 dL_law_298 dL_law_299 dL_law_300 ?_
  refine lx_call (a := 338) (As := [.int (xs (i + 1))]) (st := [.int r]) B hZ (fun hj => tX9_round hj isM_LA _ _ _ _ h9) (ob_338 isM_LA) rfl kc_X9_round kz_X9 ki_X9_round ks_X9_round km_L_44 ⟨kn_X9_round, rfl, rfl, Nat.le_of_ble_eq_true rfl, Nat.le_of_ble_eq_true rfl⟩ rfl (Nat.le_of_ble_eq_true rfl) hce hsl dL_law_301 ?_
  refine lx_icmp_eq (t := 773) B dL_law_304 rfl (fun _ => K M2 hR2) (fun h => absurd rfl h)
set_option maxRecDepth 100000 in
theorem lw_c7 (B : Lx G cs p m meth c s b L xs) (hZ : Zl s zk zv) (hce : ce ≤ room_1.cells) (hsl : sl ≤ room_1.slots) {M : Mm} {i : Nat} (hi : i + 4 ≤ L) (hL : L < 2 ^ 31) (hR : RE M M) (K : ∀ M2 : Mm, RE M2 M2 → BW p l e room_1 s m #[Value.ref b] below meth c Q G (AL s) 4 773 [some (.ref b), some (.ref (ad 0)), some (.ref (ad 338)), some (.int (nI i))] [] (wsO LA ad cs M2) ce sl) : BW p l e room_1 s m #[Value.ref b] below meth c Q G (AL s) 4 309 [some (.ref b), some (.ref (ad 0)), some (.ref (ad 338)), some (.int (nI i))] [] (wsO LA ad cs M) ce sl := by
  obtain ⟨r, M1, M2, h8, h9, hR2⟩ := two (f8 := (fX8_cycle (xs (i + 1)))) (f9 := (fX9_cycle (xs (i + 1)))) hR (cycle_ok (xs (i + 1)))
  refine lx_aload_n B dL_law_309 rfl ?_
  refine lx_arg (i := i) (j := 1) B (by decide) rfl rfl (by omega) hL dL_law_310 dL_law_311 dL_law_312 dL_law_313 dL_law_314 ?_
  refine lx_call (a := 0) (As := [.int (xs (i + 1))]) (st := []) B hZ (fun hj => tX8_cycle hj isX_LA _ _ _ _ h8) (ob_0 isX_LA) rfl kc_X8_cycle kz_X8 ki_X8_cycle ks_X8_cycle km_L_45 ⟨kn_X8_cycle, rfl, rfl, Nat.le_of_ble_eq_true rfl, Nat.le_of_ble_eq_true rfl⟩ rfl (Nat.le_of_ble_eq_true rfl) hce hsl dL_law_315 ?_
  refine lx_aload_n B dL_law_318 rfl ?_
  refine lx_arg (i := i) (j := 1) B (by decide) rfl rfl (by omega) hL dL_law_319 dL_law_320 dL_law_321 dL_law_322 dL_law_323 ?_
  refine lx_call (a := 338) (As := [.int (xs (i + 1))]) (st := [.int r]) B hZ (fun hj => tX9_cycle hj isM_LA _ _ _ _ h9) (ob_338 isM_LA) rfl kc_X9_cycle kz_X9 ki_X9_cycle ks_X9_cycle km_L_48 ⟨kn_X9_cycle, rfl, rfl, Nat.le_of_ble_eq_true rfl, Nat.le_of_ble_eq_true rfl⟩ rfl (Nat.le_of_ble_eq_true rfl) hce hsl dL_law_324 ?_
  refine lx_icmp_eq (t := 773) B dL_law_327 rfl (fun _ => K M2 hR2) (fun h => absurd rfl h)
set_option maxRecDepth 100000 in
theorem lw_c8 (B : Lx G cs p m meth c s b L xs) (hZ : Zl s zk zv) (hce : ce ≤ room_1.cells) (hsl : sl ≤ room_1.slots) {M : Mm} {i : Nat} (hi : i + 4 ≤ L) (hL : L < 2 ^ 31) (hR : RE M M) (K : ∀ M2 : Mm, RE M2 M2 → BW p l e room_1 s m #[Value.ref b] below meth c Q G (AL s) 4 773 [some (.ref b), some (.ref (ad 0)), some (.ref (ad 338)), some (.int (nI i))] [] (wsO LA ad cs M2) ce sl) : BW p l e room_1 s m #[Value.ref b] below meth c Q G (AL s) 4 332 [some (.ref b), some (.ref (ad 0)), some (.ref (ad 338)), some (.int (nI i))] [] (wsO LA ad cs M) ce sl := by
  obtain ⟨r, M1, M2, h8, h9, hR2⟩ := two (f8 := (fX8_die (xs (i + 1)) (xs (i + 2)))) (f9 := (fX9_die (xs (i + 1)) (xs (i + 2)))) hR (die_ok (xs (i + 1)) (xs (i + 2)))
  refine lx_aload_n B dL_law_332 rfl ?_
  refine lx_arg (i := i) (j := 1) B (by decide) rfl rfl (by omega) hL dL_law_333 dL_law_334 dL_law_335 dL_law_336 dL_law_337 ?_
  refine lx_arg (i := i) (j := 2) B (by decide) rfl rfl (by omega) hL dL_law_338 dL_law_339 dL_law_340 dL_law_341 dL_law_342 ?_
  refine lx_call (a := 0) (As := [.int (xs (i + 1)), .int (xs (i + 2))]) (st := []) B hZ (fun hj => tX8_die hj isX_LA _ _ _ _ _ h8) (ob_0 isX_LA) rfl kc_X8_die kz_X8 ki_X8_die ks_X8_die km_L_49 ⟨kn_X8_die, rfl, rfl, Nat.le_of_ble_eq_true rfl, Nat.le_of_ble_eq_true rfl⟩ rfl (Nat.le_of_ble_eq_true rfl) hce hsl dL_law_343 ?_
  refine lx_aload_n B dL_law_346 rfl ?_
  refine lx_arg (i := i) (j := 1) B (by decide) rfl rfl (by omega) hL dL_law_347 dL_law_348 dL_law_349 dL_law_350 dL_law_351 ?_
  refine lx_arg (i := i) (j := 2) B (by decide) rfl rfl (by omega) hL dL_law_352 dL_law_353 dL_law_354 dL_law_355 dL_law_356 ?_
  refine lx_call (a := 338) (As := [.int (xs (i + 1)), .int (xs (i + 2))]) (st := [.int r]) B hZ (fun hj => tX9_die hj isM_LA _ _ _ _ _ h9) (ob_338 isM_LA) rfl kc_X9_die kz_X9 ki_X9_die ks_X9_die km_L_52 ⟨kn_X9_die, rfl, rfl, Nat.le_of_ble_eq_true rfl, Nat.le_of_ble_eq_true rfl⟩ rfl (Nat.le_of_ble_eq_true rfl) hce hsl dL_law_357 ?_
  refine lx_icmp_eq (t := 773) B dL_law_360 rfl (fun _ => K M2 hR2) (fun h => absurd rfl h)
set_option maxRecDepth 100000 in
theorem lw_c9 (B : Lx G cs p m meth c s b L xs) (hZ : Zl s zk zv) (hce : ce ≤ room_1.cells) (hsl : sl ≤ room_1.slots) {M : Mm} {i : Nat} (hi : i + 4 ≤ L) (hL : L < 2 ^ 31) (hR : RE M M) (K : ∀ M2 : Mm, RE M2 M2 → BW p l e room_1 s m #[Value.ref b] below meth c Q G (AL s) 4 773 [some (.ref b), some (.ref (ad 0)), some (.ref (ad 338)), some (.int (nI i))] [] (wsO LA ad cs M2) ce sl) : BW p l e room_1 s m #[Value.ref b] below meth c Q G (AL s) 4 365 [some (.ref b), some (.ref (ad 0)), some (.ref (ad 338)), some (.int (nI i))] [] (wsO LA ad cs M) ce sl := by
  obtain ⟨r, M1, M2, h8, h9, hR2⟩ := two (f8 := (fX8_link (xs (i + 1)) (xs (i + 2)))) (f9 := (fX9_link (xs (i + 1)) (xs (i + 2)))) hR (link_ok (xs (i + 1)) (xs (i + 2)))
  refine lx_aload_n B dL_law_365 rfl ?_
  refine lx_arg (i := i) (j := 1) B (by decide) rfl rfl (by omega) hL dL_law_366 dL_law_367 dL_law_368 dL_law_369 dL_law_370 ?_
  refine lx_arg (i := i) (j := 2) B (by decide) rfl rfl (by omega) hL dL_law_371 dL_law_372 dL_law_373 dL_law_374 dL_law_375 ?_
  refine lx_call (a := 0) (As := [.int (xs (i + 1)), .int (xs (i + 2))]) (st := []) B hZ (fun hj => tX8_link hj isX_LA _ _ _ _ _ h8) (ob_0 isX_LA) rfl kc_X8_link kz_X8 ki_X8_link ks_X8_link km_L_53 ⟨kn_X8_link, rfl, rfl, Nat.le_of_ble_eq_true rfl, Nat.le_of_ble_eq_true rfl⟩ rfl (Nat.le_of_ble_eq_true rfl) hce hsl dL_law_376 ?_
  refine lx_aload_n B dL_law_379 rfl ?_
  refine lx_arg (i := i) (j := 1) B (by decide) rfl rfl (by omega) hL dL_law_380 dL_law_381 dL_law_382 dL_law_383 dL_law_384 ?_
  refine lx_arg (i := i) (j := 2) B (by decide) rfl rfl (by omega) hL dL_law_385 dL_law_386 dL_law_387 dL_law_388 dL_law_389 ?_
  refine lx_call (a := 338) (As := [.int (xs (i + 1)), .int (xs (i + 2))]) (st := [.int r]) B hZ (fun hj => tX9_link hj isM_LA _ _ _ _ _ h9) (ob_338 isM_LA) rfl kc_X9_link kz_X9 ki_X9_link ks_X9_link km_L_56 ⟨kn_X9_link, rfl, rfl, Nat.le_of_ble_eq_true rfl, Nat.le_of_ble_eq_true rfl⟩ rfl (Nat.le_of_ble_eq_true rfl) hce hsl dL_law_390 ?_
  refine lx_icmp_eq (t := 773) B dL_law_393 rfl (fun _ => K M2 hR2) (fun h => absurd rfl h)
set_option maxRecDepth 100000 in
theorem lw_c10 (B : Lx G cs p m meth c s b L xs) (hZ : Zl s zk zv) (hce : ce ≤ room_1.cells) (hsl : sl ≤ room_1.slots) {M : Mm} {i : Nat} (hi : i + 4 ≤ L) (hL : L < 2 ^ 31) (hR : RE M M) (K : ∀ M2 : Mm, RE M2 M2 → BW p l e room_1 s m #[Value.ref b] below meth c Q G (AL s) 4 773 [some (.ref b), some (.ref (ad 0)), some (.ref (ad 338)), some (.int (nI i))] [] (wsO LA ad cs M2) ce sl) : BW p l e room_1 s m #[Value.ref b] below meth c Q G (AL s) 4 398 [some (.ref b), some (.ref (ad 0)), some (.ref (ad 338)), some (.int (nI i))] [] (wsO LA ad cs M) ce sl := by
  obtain ⟨r, M1, M2, h8, h9, hR2⟩ := two (f8 := fX8_undo) (f9 := fX9_undo) hR undo_ok
  refine lx_aload_n B dL_law_398 rfl ?_
  refine lx_call (a := 0) (As := []) (st := []) B hZ (fun hj => tX8_undo hj isX_LA  _ _ _ h8) (ob_0 isX_LA) rfl kc_X8_undo kz_X8 ki_X8_undo ks_X8_undo km_L_57 ⟨kn_X8_undo, rfl, rfl, Nat.le_of_ble_eq_true rfl, Nat.le_of_ble_eq_true rfl⟩ rfl (Nat.le_of_ble_eq_true rfl) hce hsl dL_law_399 ?_
  refine lx_aload_n B dL_law_402 rfl ?_
  refine lx_call (a := 338) (As := []) (st := [.int r]) B hZ (fun hj => tX9_undo hj isM_LA  _ _ _ h9) (ob_338 isM_LA) rfl kc_X9_undo kz_X9 ki_X9_undo ks_X9_undo km_L_60 ⟨kn_X9_undo, rfl, rfl, Nat.le_of_ble_eq_true rfl, Nat.le_of_ble_eq_true rfl⟩ rfl (Nat.le_of_ble_eq_true rfl) hce hsl dL_law_403 ?_
  refine lx_icmp_eq (t := 773) B dL_law_406 rfl (fun _ => K M2 hR2) (fun h => absurd rfl h)
set_option maxRecDepth 100000 in
theorem lw_c11 (B : Lx G cs p m meth c s b L xs) (hZ : Zl s zk zv) (hce : ce ≤ room_1.cells) (hsl : sl ≤ room_1.slots) {M : Mm} {i : Nat} (hi : i + 4 ≤ L) (hL : L < 2 ^ 31) (hR : RE M M) (K : ∀ M2 : Mm, RE M2 M2 → BW p l e room_1 s m #[Value.ref b] below meth c Q G (AL s) 4 773 [some (.ref b), some (.ref (ad 0)), some (.ref (ad 338)), some (.int (nI i))] [] (wsO LA ad cs M2) ce sl) : BW p l e room_1 s m #[Value.ref b] below meth c Q G (AL s) 4 411 [some (.ref b), some (.ref (ad 0)), some (.ref (ad 338)), some (.int (nI i))] [] (wsO LA ad cs M) ce sl := by
  obtain ⟨r, M1, M2, h8, h9, hR2⟩ := two (f8 := (fX8_keep (xs (i + 1)))) (f9 := (fX9_keep (xs (i + 1)))) hR (keep_ok (xs (i + 1)))
  refine lx_aload_n B dL_law_411 rfl ?_
  refine lx_arg (i := i) (j := 1) B (by decide) rfl rfl (by omega) hL dL_law_412 dL_law_413 dL_law_414 dL_law_415 dL_law_416 ?_
  refine lx_call (a := 0) (As := [.int (xs (i + 1))]) (st := []) B hZ (fun hj => tX8_keep hj isX_LA _ _ _ _ h8) (ob_0 isX_LA) rfl kc_X8_keep kz_X8 ki_X8_keep ks_X8_keep km_L_61 ⟨kn_X8_keep, rfl, rfl, Nat.le_of_ble_eq_true rfl, Nat.le_of_ble_eq_true rfl⟩ rfl (Nat.le_of_ble_eq_true rfl) hce hsl dL_law_417 ?_
  refine lx_aload_n B dL_law_420 rfl ?_
  refine lx_arg (i := i) (j := 1) B (by decide) rfl rfl (by omega) hL dL_law_421 dL_law_422 dL_law_423 dL_law_424 dL_law_425 ?_
  refine lx_call (a := 338) (As := [.int (xs (i + 1))]) (st := [.int r]) B hZ (fun hj => tX9_keep hj isM_LA _ _ _ _ h9) (ob_338 isM_LA) rfl kc_X9_keep kz_X9 ki_X9_keep ks_X9_keep km_L_64 ⟨kn_X9_keep, rfl, rfl, Nat.le_of_ble_eq_true rfl, Nat.le_of_ble_eq_true rfl⟩ rfl (Nat.le_of_ble_eq_true rfl) hce hsl dL_law_426 ?_
  refine lx_icmp_eq (t := 773) B dL_law_429 rfl (fun _ => K M2 hR2) (fun h => absurd rfl h)
set_option maxRecDepth 100000 in
theorem lw_c12 (B : Lx G cs p m meth c s b L xs) (hZ : Zl s zk zv) (hce : ce ≤ room_1.cells) (hsl : sl ≤ room_1.slots) {M : Mm} {i : Nat} (hi : i + 4 ≤ L) (hL : L < 2 ^ 31) (hR : RE M M) (K : ∀ M2 : Mm, RE M2 M2 → BW p l e room_1 s m #[Value.ref b] below meth c Q G (AL s) 4 773 [some (.ref b), some (.ref (ad 0)), some (.ref (ad 338)), some (.int (nI i))] [] (wsO LA ad cs M2) ce sl) : BW p l e room_1 s m #[Value.ref b] below meth c Q G (AL s) 4 434 [some (.ref b), some (.ref (ad 0)), some (.ref (ad 338)), some (.int (nI i))] [] (wsO LA ad cs M) ce sl := by
  obtain ⟨r, M1, M2, h8, h9, hR2⟩ := two (f8 := (fX8_back (xs (i + 1)))) (f9 := (fX9_back (xs (i + 1)))) hR (back_ok (xs (i + 1)))
  refine lx_aload_n B dL_law_434 rfl ?_
  refine lx_arg (i := i) (j := 1) B (by decide) rfl rfl (by omega) hL dL_law_435 dL_law_436 dL_law_437 dL_law_438 dL_law_439 ?_
  refine lx_call (a := 0) (As := [.int (xs (i + 1))]) (st := []) B hZ (fun hj => tX8_back hj isX_LA _ _ _ _ h8) (ob_0 isX_LA) rfl kc_X8_back kz_X8 ki_X8_back ks_X8_back km_L_65 ⟨kn_X8_back, rfl, rfl, Nat.le_of_ble_eq_true rfl, Nat.le_of_ble_eq_true rfl⟩ rfl (Nat.le_of_ble_eq_true rfl) hce hsl dL_law_440 ?_
  refine lx_aload_n B dL_law_443 rfl ?_
  refine lx_arg (i := i) (j := 1) B (by decide) rfl rfl (by omega) hL dL_law_444 dL_law_445 dL_law_446 dL_law_447 dL_law_448 ?_
  refine lx_call (a := 338) (As := [.int (xs (i + 1))]) (st := [.int r]) B hZ (fun hj => tX9_back hj isM_LA _ _ _ _ h9) (ob_338 isM_LA) rfl kc_X9_back kz_X9 ki_X9_back ks_X9_back km_L_68 ⟨kn_X9_back, rfl, rfl, Nat.le_of_ble_eq_true rfl, Nat.le_of_ble_eq_true rfl⟩ rfl (Nat.le_of_ble_eq_true rfl) hce hsl dL_law_449 ?_
  refine lx_icmp_eq (t := 773) B dL_law_452 rfl (fun _ => K M2 hR2) (fun h => absurd rfl h)
set_option maxRecDepth 100000 in
theorem lw_c13 (B : Lx G cs p m meth c s b L xs) (hZ : Zl s zk zv) (hce : ce ≤ room_1.cells) (hsl : sl ≤ room_1.slots) {M : Mm} {i : Nat} (hi : i + 4 ≤ L) (hL : L < 2 ^ 31) (hR : RE M M) (K : ∀ M2 : Mm, RE M2 M2 → BW p l e room_1 s m #[Value.ref b] below meth c Q G (AL s) 4 773 [some (.ref b), some (.ref (ad 0)), some (.ref (ad 338)), some (.int (nI i))] [] (wsO LA ad cs M2) ce sl) : BW p l e room_1 s m #[Value.ref b] below meth c Q G (AL s) 4 457 [some (.ref b), some (.ref (ad 0)), some (.ref (ad 338)), some (.int (nI i))] [] (wsO LA ad cs M) ce sl := by
  obtain ⟨r, M1, M2, h8, h9, hR2⟩ := two (f8 := (fX8_forgotten (xs (i + 1)))) (f9 := (fX9_forgotten (xs (i + 1)))) hR (forgotten_ok (xs (i + 1)))
  refine lx_aload_n B dL_law_457 rfl ?_
  refine lx_arg (i := i) (j := 1) B (by decide) rfl rfl (by omega) hL dL_law_458 dL_law_459 dL_law_460 dL_law_461 dL_law_462 ?_
  refine lx_call (a := 0) (As := [.int (xs (i + 1))]) (st := []) B hZ (fun hj => tX8_forgotten hj isX_LA _ _ _ _ h8) (ob_0 isX_LA) rfl kc_X8_forgotten kz_X8 ki_X8_forgotten ks_X8_forgotten km_L_69 ⟨kn_X8_forgotten, rfl, rfl, Nat.le_of_ble_eq_true rfl, Nat.le_of_ble_eq_true rfl⟩ rfl (Nat.le_of_ble_eq_true rfl) hce hsl dL_law_463 ?_
  refine lx_aload_n B dL_law_466 rfl ?_
  refine lx_arg (i := i) (j := 1) B (by decide) rfl rfl (by omega) hL dL_law_467 dL_law_468 dL_law_469 dL_law_470 dL_law_471 ?_
  refine lx_call (a := 338) (As := [.int (xs (i + 1))]) (st := [.int r]) B hZ (fun hj => tX9_forgotten hj isM_LA _ _ _ _ h9) (ob_338 isM_LA) rfl kc_X9_forgotten kz_X9 ki_X9_forgotten ks_X9_forgotten km_L_72 ⟨kn_X9_forgotten, rfl, rfl, Nat.le_of_ble_eq_true rfl, Nat.le_of_ble_eq_true rfl⟩ rfl (Nat.le_of_ble_eq_true rfl) hce hsl dL_law_472 ?_
  refine lx_icmp_eq (t := 773) B dL_law_475 rfl (fun _ => K M2 hR2) (fun h => absurd rfl h)
set_option maxRecDepth 100000 in
theorem lw_c14 (B : Lx G cs p m meth c s b L xs) (hZ : Zl s zk zv) (hce : ce ≤ room_1.cells) (hsl : sl ≤ room_1.slots) {M : Mm} {i : Nat} (hi : i + 4 ≤ L) (hL : L < 2 ^ 31) (hR : RE M M) (K : ∀ M2 : Mm, RE M2 M2 → BW p l e room_1 s m #[Value.ref b] below meth c Q G (AL s) 4 773 [some (.ref b), some (.ref (ad 0)), some (.ref (ad 338)), some (.int (nI i))] [] (wsO LA ad cs M2) ce sl) : BW p l e room_1 s m #[Value.ref b] below meth c Q G (AL s) 4 480 [some (.ref b), some (.ref (ad 0)), some (.ref (ad 338)), some (.int (nI i))] [] (wsO LA ad cs M) ce sl := by
  obtain ⟨r, M1, M2, h8, h9, hR2⟩ := two (f8 := (fX8_next (xs (i + 1)))) (f9 := (fX9_next (xs (i + 1)))) hR (next_ok (xs (i + 1)))
  refine lx_aload_n B dL_law_480 rfl ?_
  refine lx_arg (i := i) (j := 1) B (by decide) rfl rfl (by omega) hL dL_law_481 dL_law_482 dL_law_483 dL_law_484 dL_law_485 ?_
  refine lx_call (a := 0) (As := [.int (xs (i + 1))]) (st := []) B hZ (fun hj => tX8_next hj isX_LA _ _ _ _ h8) (ob_0 isX_LA) rfl kc_X8_next kz_X8 ki_X8_next ks_X8_next km_L_73 ⟨kn_X8_next, rfl, rfl, Nat.le_of_ble_eq_true rfl, Nat.le_of_ble_eq_true rfl⟩ rfl (Nat.le_of_ble_eq_true rfl) hce hsl dL_law_486 ?_
  refine lx_aload_n B dL_law_489 rfl ?_
  refine lx_arg (i := i) (j := 1) B (by decide) rfl rfl (by omega) hL dL_law_490 dL_law_491 dL_law_492 dL_law_493 dL_law_494 ?_
  refine lx_call (a := 338) (As := [.int (xs (i + 1))]) (st := [.int r]) B hZ (fun hj => tX9_next hj isM_LA _ _ _ _ h9) (ob_338 isM_LA) rfl kc_X9_next kz_X9 ki_X9_next ks_X9_next km_L_76 ⟨kn_X9_next, rfl, rfl, Nat.le_of_ble_eq_true rfl, Nat.le_of_ble_eq_true rfl⟩ rfl (Nat.le_of_ble_eq_true rfl) hce hsl dL_law_495 ?_
  refine lx_icmp_eq (t := 773) B dL_law_498 rfl (fun _ => K M2 hR2) (fun h => absurd rfl h)
set_option maxRecDepth 100000 in
theorem lw_c15 (B : Lx G cs p m meth c s b L xs) (hZ : Zl s zk zv) (hce : ce ≤ room_1.cells) (hsl : sl ≤ room_1.slots) {M : Mm} {i : Nat} (hi : i + 4 ≤ L) (hL : L < 2 ^ 31) (hR : RE M M) (K : ∀ M2 : Mm, RE M2 M2 → BW p l e room_1 s m #[Value.ref b] below meth c Q G (AL s) 4 773 [some (.ref b), some (.ref (ad 0)), some (.ref (ad 338)), some (.int (nI i))] [] (wsO LA ad cs M2) ce sl) : BW p l e room_1 s m #[Value.ref b] below meth c Q G (AL s) 4 503 [some (.ref b), some (.ref (ad 0)), some (.ref (ad 338)), some (.int (nI i))] [] (wsO LA ad cs M) ce sl := by
  obtain ⟨r, M1, M2, h8, h9, hR2⟩ := two (f8 := (fX8_spread (xs (i + 1)))) (f9 := (fX9_spread (xs (i + 1)))) hR (spread_ok (xs (i + 1)))
  refine lx_aload_n B dL_law_503 rfl ?_
  refine lx_arg (i := i) (j := 1) B (by decide) rfl rfl (by omega) hL dL_law_504 dL_law_505 dL_law_506 dL_law_507 dL_law_508 ?_
  refine lx_call (a := 0) (As := [.int (xs (i + 1))]) (st := []) B hZ (fun hj => tX8_spread hj isX_LA _ _ _ _ h8) (ob_0 isX_LA) rfl kc_X8_spread kz_X8 ki_X8_spread ks_X8_spread km_L_77 ⟨kn_X8_spread, rfl, rfl, Nat.le_of_ble_eq_true rfl, Nat.le_of_ble_eq_true rfl⟩ rfl (Nat.le_of_ble_eq_true rfl) hce hsl dL_law_509 ?_
  refine lx_aload_n B dL_law_512 rfl ?_
  refine lx_arg (i := i) (j := 1) B (by decide) rfl rfl (by omega) hL dL_law_513 dL_law_514 dL_law_515 dL_law_516 dL_law_517 ?_
  refine lx_call (a := 338) (As := [.int (xs (i + 1))]) (st := [.int r]) B hZ (fun hj => tX9_spread hj isM_LA _ _ _ _ h9) (ob_338 isM_LA) rfl kc_X9_spread kz_X9 ki_X9_spread ks_X9_spread km_L_80 ⟨kn_X9_spread, rfl, rfl, Nat.le_of_ble_eq_true rfl, Nat.le_of_ble_eq_true rfl⟩ rfl (Nat.le_of_ble_eq_true rfl) hce hsl dL_law_518 ?_
  refine lx_icmp_eq (t := 773) B dL_law_521 rfl (fun _ => K M2 hR2) (fun h => absurd rfl h)
set_option maxRecDepth 100000 in
theorem lw_c16 (B : Lx G cs p m meth c s b L xs) (hZ : Zl s zk zv) (hce : ce ≤ room_1.cells) (hsl : sl ≤ room_1.slots) {M : Mm} {i : Nat} (hi : i + 4 ≤ L) (hL : L < 2 ^ 31) (hR : RE M M) (K : ∀ M2 : Mm, RE M2 M2 → BW p l e room_1 s m #[Value.ref b] below meth c Q G (AL s) 4 773 [some (.ref b), some (.ref (ad 0)), some (.ref (ad 338)), some (.int (nI i))] [] (wsO LA ad cs M2) ce sl) : BW p l e room_1 s m #[Value.ref b] below meth c Q G (AL s) 4 526 [some (.ref b), some (.ref (ad 0)), some (.ref (ad 338)), some (.int (nI i))] [] (wsO LA ad cs M) ce sl := by
  obtain ⟨r, M1, M2, h8, h9, hR2⟩ := two (f8 := (fX8_far (xs (i + 1)) (xs (i + 2)))) (f9 := (fX9_far (xs (i + 1)) (xs (i + 2)))) hR (far_ok (xs (i + 1)) (xs (i + 2)))
  refine lx_aload_n B dL_law_526 rfl ?_
  refine lx_arg (i := i) (j := 1) B (by decide) rfl rfl (by omega) hL dL_law_527 dL_law_528 dL_law_529 dL_law_530 dL_law_531 ?_
  refine lx_arg (i := i) (j := 2) B (by decide) rfl rfl (by omega) hL dL_law_532 dL_law_533 dL_law_534 dL_law_535 dL_law_536 ?_
  refine lx_call (a := 0) (As := [.int (xs (i + 1)), .int (xs (i + 2))]) (st := []) B hZ (fun hj => tX8_far hj isX_LA _ _ _ _ _ h8) (ob_0 isX_LA) rfl kc_X8_far kz_X8 ki_X8_far ks_X8_far km_L_81 ⟨kn_X8_far, rfl, rfl, Nat.le_of_ble_eq_true rfl, Nat.le_of_ble_eq_true rfl⟩ rfl (Nat.le_of_ble_eq_true rfl) hce hsl dL_law_537 ?_
  refine lx_aload_n B dL_law_540 rfl ?_
  refine lx_arg (i := i) (j := 1) B (by decide) rfl rfl (by omega) hL dL_law_541 dL_law_542 dL_law_543 dL_law_544 dL_law_545 ?_
  refine lx_arg (i := i) (j := 2) B (by decide) rfl rfl (by omega) hL dL_law_546 dL_law_547 dL_law_548 dL_law_549 dL_law_550 ?_
  refine lx_call (a := 338) (As := [.int (xs (i + 1)), .int (xs (i + 2))]) (st := [.int r]) B hZ (fun hj => tX9_far hj isM_LA _ _ _ _ _ h9) (ob_338 isM_LA) rfl kc_X9_far kz_X9 ki_X9_far ks_X9_far km_L_84 ⟨kn_X9_far, rfl, rfl, Nat.le_of_ble_eq_true rfl, Nat.le_of_ble_eq_true rfl⟩ rfl (Nat.le_of_ble_eq_true rfl) hce hsl dL_law_551 ?_
  refine lx_icmp_eq (t := 773) B dL_law_554 rfl (fun _ => K M2 hR2) (fun h => absurd rfl h)
set_option maxRecDepth 100000 in
theorem lw_c17 (B : Lx G cs p m meth c s b L xs) (hZ : Zl s zk zv) (hce : ce ≤ room_1.cells) (hsl : sl ≤ room_1.slots) {M : Mm} {i : Nat} (hi : i + 4 ≤ L) (hL : L < 2 ^ 31) (hR : RE M M) (K : ∀ M2 : Mm, RE M2 M2 → BW p l e room_1 s m #[Value.ref b] below meth c Q G (AL s) 4 773 [some (.ref b), some (.ref (ad 0)), some (.ref (ad 338)), some (.int (nI i))] [] (wsO LA ad cs M2) ce sl) : BW p l e room_1 s m #[Value.ref b] below meth c Q G (AL s) 4 559 [some (.ref b), some (.ref (ad 0)), some (.ref (ad 338)), some (.int (nI i))] [] (wsO LA ad cs M) ce sl := by
  obtain ⟨r, M1, M2, h8, h9, hR2⟩ := two (f8 := (fX8_ring (xs (i + 1)))) (f9 := (fX9_ring (xs (i + 1)))) hR (ringC (fun _ _ _ h => ring_ok (xs (i + 1)) h))
  refine lx_aload_n B dL_law_559 rfl ?_
  refine lx_arg (i := i) (j := 1) B (by decide) rfl rfl (by omega) hL dL_law_560 dL_law_561 dL_law_562 dL_law_563 dL_law_564 ?_
  refine lx_call (a := 0) (As := [.int (xs (i + 1))]) (st := []) B hZ (fun hj => tX8_ring hj isX_LA _ _ _ _ h8) (ob_0 isX_LA) rfl kc_X8_ring kz_X8 ki_X8_ring ks_X8_ring km_L_85 ⟨kn_X8_ring, rfl, rfl, Nat.le_of_ble_eq_true rfl, Nat.le_of_ble_eq_true rfl⟩ rfl (Nat.le_of_ble_eq_true rfl) hce hsl dL_law_565 ?_
  refine lx_aload_n B dL_law_568 rfl ?_
  refine lx_arg (i := i) (j := 1) B (by decide) rfl rfl (by omega) hL dL_law_569 dL_law_570 dL_law_571 dL_law_572 dL_law_573 ?_
  refine lx_call (a := 338) (As := [.int (xs (i + 1))]) (st := [.int r]) B hZ (fun hj => tX9_ring hj isM_LA _ _ _ _ h9) (ob_338 isM_LA) rfl kc_X9_ring kz_X9 ki_X9_ring ks_X9_ring km_L_88 ⟨kn_X9_ring, rfl, rfl, Nat.le_of_ble_eq_true rfl, Nat.le_of_ble_eq_true rfl⟩ rfl (Nat.le_of_ble_eq_true rfl) hce hsl dL_law_574 ?_
  refine lx_icmp_eq (t := 773) B dL_law_577 rfl (fun _ => K M2 hR2) (fun h => absurd rfl h)
set_option maxRecDepth 100000 in
theorem lw_c18 (B : Lx G cs p m meth c s b L xs) (hZ : Zl s zk zv) (hce : ce ≤ room_1.cells) (hsl : sl ≤ room_1.slots) {M : Mm} {i : Nat} (hi : i + 4 ≤ L) (hL : L < 2 ^ 31) (hR : RE M M) (K : ∀ M2 : Mm, RE M2 M2 → BW p l e room_1 s m #[Value.ref b] below meth c Q G (AL s) 4 773 [some (.ref b), some (.ref (ad 0)), some (.ref (ad 338)), some (.int (nI i))] [] (wsO LA ad cs M2) ce sl) : BW p l e room_1 s m #[Value.ref b] below meth c Q G (AL s) 4 582 [some (.ref b), some (.ref (ad 0)), some (.ref (ad 338)), some (.int (nI i))] [] (wsO LA ad cs M) ce sl := by
  obtain ⟨r, M1, M2, h8, h9, hR2⟩ := two (f8 := (fX8_add (xs (i + 1)) (xs (i + 2)))) (f9 := (fX9_add (xs (i + 1)) (xs (i + 2)))) hR (ringC (fun _ _ _ h => add_ok (xs (i + 1)) (xs (i + 2)) h))
  refine lx_aload_n B dL_law_582 rfl ?_
  refine lx_arg (i := i) (j := 1) B (by decide) rfl rfl (by omega) hL dL_law_583 dL_law_584 dL_law_585 dL_law_586 dL_law_587 ?_
  refine lx_arg (i := i) (j := 2) B (by decide) rfl rfl (by omega) hL dL_law_588 dL_law_589 dL_law_590 dL_law_591 dL_law_592 ?_
  refine lx_call (a := 0) (As := [.int (xs (i + 1)), .int (xs (i + 2))]) (st := []) B hZ (fun hj => tX8_add hj isX_LA _ _ _ _ _ h8) (ob_0 isX_LA) rfl kc_X8_add kz_X8 ki_X8_add ks_X8_add km_L_89 ⟨kn_X8_add, rfl, rfl, Nat.le_of_ble_eq_true rfl, Nat.le_of_ble_eq_true rfl⟩ rfl (Nat.le_of_ble_eq_true rfl) hce hsl dL_law_593 ?_
  refine lx_aload_n B dL_law_596 rfl ?_
  refine lx_arg (i := i) (j := 1) B (by decide) rfl rfl (by omega) hL dL_law_597 dL_law_598 dL_law_599 dL_law_600 dL_law_601 ?_
  refine lx_arg (i := i) (j := 2) B (by decide) rfl rfl (by omega) hL dL_law_602 dL_law_603 dL_law_604 dL_law_605 dL_law_606 ?_
  refine lx_call (a := 338) (As := [.int (xs (i + 1)), .int (xs (i + 2))]) (st := [.int r]) B hZ (fun hj => tX9_add hj isM_LA _ _ _ _ _ h9) (ob_338 isM_LA) rfl kc_X9_add kz_X9 ki_X9_add ks_X9_add km_L_92 ⟨kn_X9_add, rfl, rfl, Nat.le_of_ble_eq_true rfl, Nat.le_of_ble_eq_true rfl⟩ rfl (Nat.le_of_ble_eq_true rfl) hce hsl dL_law_607 ?_
  refine lx_icmp_eq (t := 773) B dL_law_610 rfl (fun _ => K M2 hR2) (fun h => absurd rfl h)
set_option maxRecDepth 100000 in
theorem lw_c19 (B : Lx G cs p m meth c s b L xs) (hZ : Zl s zk zv) (hce : ce ≤ room_1.cells) (hsl : sl ≤ room_1.slots) {M : Mm} {i : Nat} (hi : i + 4 ≤ L) (hL : L < 2 ^ 31) (hR : RE M M) (K : ∀ M2 : Mm, RE M2 M2 → BW p l e room_1 s m #[Value.ref b] below meth c Q G (AL s) 4 773 [some (.ref b), some (.ref (ad 0)), some (.ref (ad 338)), some (.int (nI i))] [] (wsO LA ad cs M2) ce sl) : BW p l e room_1 s m #[Value.ref b] below meth c Q G (AL s) 4 615 [some (.ref b), some (.ref (ad 0)), some (.ref (ad 338)), some (.int (nI i))] [] (wsO LA ad cs M) ce sl := by
  obtain ⟨r, M1, M2, h8, h9, hR2⟩ := two (f8 := (fX8_step (xs (i + 1)) (xs (i + 2)))) (f9 := (fX9_step (xs (i + 1)) (xs (i + 2)))) hR (ringC (fun _ _ _ h => step_ok (xs (i + 1)) (xs (i + 2)) h))
  refine lx_aload_n B dL_law_615 rfl ?_
  refine lx_arg (i := i) (j := 1) B (by decide) rfl rfl (by omega) hL dL_law_616 dL_law_617 dL_law_618 dL_law_619 dL_law_620 ?_
  refine lx_arg (i := i) (j := 2) B (by decide) rfl rfl (by omega) hL dL_law_621 dL_law_622 dL_law_623 dL_law_624 dL_law_625 ?_
  refine lx_call (a := 0) (As := [.int (xs (i + 1)), .int (xs (i + 2))]) (st := []) B hZ (fun hj => tX8_step hj isX_LA _ _ _ _ _ h8) (ob_0 isX_LA) rfl kc_X8_step kz_X8 ki_X8_step ks_X8_step km_L_93 ⟨kn_X8_step, rfl, rfl, Nat.le_of_ble_eq_true rfl, Nat.le_of_ble_eq_true rfl⟩ rfl (Nat.le_of_ble_eq_true rfl) hce hsl dL_law_626 ?_
  refine lx_aload_n B dL_law_629 rfl ?_
  refine lx_arg (i := i) (j := 1) B (by decide) rfl rfl (by omega) hL dL_law_630 dL_law_631 dL_law_632 dL_law_633 dL_law_634 ?_
  refine lx_arg (i := i) (j := 2) B (by decide) rfl rfl (by omega) hL dL_law_635 dL_law_636 dL_law_637 dL_law_638 dL_law_639 ?_
  refine lx_call (a := 338) (As := [.int (xs (i + 1)), .int (xs (i + 2))]) (st := [.int r]) B hZ (fun hj => tX9_step hj isM_LA _ _ _ _ _ h9) (ob_338 isM_LA) rfl kc_X9_step kz_X9 ki_X9_step ks_X9_step km_L_96 ⟨kn_X9_step, rfl, rfl, Nat.le_of_ble_eq_true rfl, Nat.le_of_ble_eq_true rfl⟩ rfl (Nat.le_of_ble_eq_true rfl) hce hsl dL_law_640 ?_
  refine lx_icmp_eq (t := 773) B dL_law_643 rfl (fun _ => K M2 hR2) (fun h => absurd rfl h)
set_option maxRecDepth 100000 in
theorem lw_c20 (B : Lx G cs p m meth c s b L xs) (hZ : Zl s zk zv) (hce : ce ≤ room_1.cells) (hsl : sl ≤ room_1.slots) {M : Mm} {i : Nat} (hi : i + 4 ≤ L) (hL : L < 2 ^ 31) (hR : RE M M) (K : ∀ M2 : Mm, RE M2 M2 → BW p l e room_1 s m #[Value.ref b] below meth c Q G (AL s) 4 773 [some (.ref b), some (.ref (ad 0)), some (.ref (ad 338)), some (.int (nI i))] [] (wsO LA ad cs M2) ce sl) : BW p l e room_1 s m #[Value.ref b] below meth c Q G (AL s) 4 648 [some (.ref b), some (.ref (ad 0)), some (.ref (ad 338)), some (.int (nI i))] [] (wsO LA ad cs M) ce sl := by
  obtain ⟨r, M1, M2, h8, h9, hR2⟩ := two (f8 := (fX8_take (xs (i + 1)))) (f9 := (fX9_take (xs (i + 1)))) hR (ringC (fun _ _ _ h => take_ok (xs (i + 1)) h))
  refine lx_aload_n B dL_law_648 rfl ?_
  refine lx_arg (i := i) (j := 1) B (by decide) rfl rfl (by omega) hL dL_law_649 dL_law_650 dL_law_651 dL_law_652 dL_law_653 ?_
  refine lx_call (a := 0) (As := [.int (xs (i + 1))]) (st := []) B hZ (fun hj => tX8_take hj isX_LA _ _ _ _ h8) (ob_0 isX_LA) rfl kc_X8_take kz_X8 ki_X8_take ks_X8_take km_L_97 ⟨kn_X8_take, rfl, rfl, Nat.le_of_ble_eq_true rfl, Nat.le_of_ble_eq_true rfl⟩ rfl (Nat.le_of_ble_eq_true rfl) hce hsl dL_law_654 ?_
  refine lx_aload_n B dL_law_657 rfl ?_
  refine lx_arg (i := i) (j := 1) B (by decide) rfl rfl (by omega) hL dL_law_658 dL_law_659 dL_law_660 dL_law_661 dL_law_662 ?_
  refine lx_call (a := 338) (As := [.int (xs (i + 1))]) (st := [.int r]) B hZ (fun hj => tX9_take hj isM_LA _ _ _ _ h9) (ob_338 isM_LA) rfl kc_X9_take kz_X9 ki_X9_take ks_X9_take km_L_100 ⟨kn_X9_take, rfl, rfl, Nat.le_of_ble_eq_true rfl, Nat.le_of_ble_eq_true rfl⟩ rfl (Nat.le_of_ble_eq_true rfl) hce hsl dL_law_663 ?_
  refine lx_icmp_eq (t := 773) B dL_law_666 rfl (fun _ => K M2 hR2) (fun h => absurd rfl h)
set_option maxRecDepth 100000 in
theorem lw_c21 (B : Lx G cs p m meth c s b L xs) (hZ : Zl s zk zv) (hce : ce ≤ room_1.cells) (hsl : sl ≤ room_1.slots) {M : Mm} {i : Nat} (hi : i + 4 ≤ L) (hL : L < 2 ^ 31) (hR : RE M M) (K : ∀ M2 : Mm, RE M2 M2 → BW p l e room_1 s m #[Value.ref b] below meth c Q G (AL s) 4 773 [some (.ref b), some (.ref (ad 0)), some (.ref (ad 338)), some (.int (nI i))] [] (wsO LA ad cs M2) ce sl) : BW p l e room_1 s m #[Value.ref b] below meth c Q G (AL s) 4 671 [some (.ref b), some (.ref (ad 0)), some (.ref (ad 338)), some (.int (nI i))] [] (wsO LA ad cs M) ce sl := by
  obtain ⟨r, M1, M2, h8, h9, hR2⟩ := two (f8 := (fX8_count (xs (i + 1)) (xs (i + 2)))) (f9 := (fX9_count (xs (i + 1)) (xs (i + 2)))) hR (ringC (fun _ _ _ h => count_ok (xs (i + 1)) (xs (i + 2)) h))
  refine lx_aload_n B dL_law_671 rfl ?_
  refine lx_arg (i := i) (j := 1) B (by decide) rfl rfl (by omega) hL dL_law_672 dL_law_673 dL_law_674 dL_law_675 dL_law_676 ?_
  refine lx_arg (i := i) (j := 2) B (by decide) rfl rfl (by omega) hL dL_law_677 dL_law_678 dL_law_679 dL_law_680 dL_law_681 ?_
  refine lx_call (a := 0) (As := [.int (xs (i + 1)), .int (xs (i + 2))]) (st := []) B hZ (fun hj => tX8_count hj isX_LA _ _ _ _ _ h8) (ob_0 isX_LA) rfl kc_X8_count kz_X8 ki_X8_count ks_X8_count km_L_101 ⟨kn_X8_count, rfl, rfl, Nat.le_of_ble_eq_true rfl, Nat.le_of_ble_eq_true rfl⟩ rfl (Nat.le_of_ble_eq_true rfl) hce hsl dL_law_682 ?_
  refine lx_aload_n B dL_law_685 rfl ?_
  refine lx_arg (i := i) (j := 1) B (by decide) rfl rfl (by omega) hL dL_law_686 dL_law_687 dL_law_688 dL_law_689 dL_law_690 ?_
  refine lx_arg (i := i) (j := 2) B (by decide) rfl rfl (by omega) hL dL_law_691 dL_law_692 dL_law_693 dL_law_694 dL_law_695 ?_
  refine lx_call (a := 338) (As := [.int (xs (i + 1)), .int (xs (i + 2))]) (st := [.int r]) B hZ (fun hj => tX9_count hj isM_LA _ _ _ _ _ h9) (ob_338 isM_LA) rfl kc_X9_count kz_X9 ki_X9_count ks_X9_count km_L_104 ⟨kn_X9_count, rfl, rfl, Nat.le_of_ble_eq_true rfl, Nat.le_of_ble_eq_true rfl⟩ rfl (Nat.le_of_ble_eq_true rfl) hce hsl dL_law_696 ?_
  refine lx_icmp_eq (t := 773) B dL_law_699 rfl (fun _ => K M2 hR2) (fun h => absurd rfl h)
set_option maxRecDepth 100000 in
theorem lw_c22 (B : Lx G cs p m meth c s b L xs) (hZ : Zl s zk zv) (hce : ce ≤ room_1.cells) (hsl : sl ≤ room_1.slots) {M : Mm} {i : Nat} (hi : i + 4 ≤ L) (hL : L < 2 ^ 31) (hR : RE M M) (K : ∀ M2 : Mm, RE M2 M2 → BW p l e room_1 s m #[Value.ref b] below meth c Q G (AL s) 4 773 [some (.ref b), some (.ref (ad 0)), some (.ref (ad 338)), some (.int (nI i))] [] (wsO LA ad cs M2) ce sl) : BW p l e room_1 s m #[Value.ref b] below meth c Q G (AL s) 4 704 [some (.ref b), some (.ref (ad 0)), some (.ref (ad 338)), some (.int (nI i))] [] (wsO LA ad cs M) ce sl := by
  obtain ⟨r, M1, M2, h8, h9, hR2⟩ := two (f8 := (fX8_sum (xs (i + 1)))) (f9 := (fX9_sum (xs (i + 1)))) hR (ringC (fun _ _ _ h => sum_ok (xs (i + 1)) h))
  refine lx_aload_n B dL_law_704 rfl ?_
  refine lx_arg (i := i) (j := 1) B (by decide) rfl rfl (by omega) hL dL_law_705 dL_law_706 dL_law_707 dL_law_708 dL_law_709 ?_
  refine lx_call (a := 0) (As := [.int (xs (i + 1))]) (st := []) B hZ (fun hj => tX8_sum hj isX_LA _ _ _ _ h8) (ob_0 isX_LA) rfl kc_X8_sum kz_X8 ki_X8_sum ks_X8_sum km_L_105 ⟨kn_X8_sum, rfl, rfl, Nat.le_of_ble_eq_true rfl, Nat.le_of_ble_eq_true rfl⟩ rfl (Nat.le_of_ble_eq_true rfl) hce hsl dL_law_710 ?_
  refine lx_aload_n B dL_law_713 rfl ?_
  refine lx_arg (i := i) (j := 1) B (by decide) rfl rfl (by omega) hL dL_law_714 dL_law_715 dL_law_716 dL_law_717 dL_law_718 ?_
  refine lx_call (a := 338) (As := [.int (xs (i + 1))]) (st := [.int r]) B hZ (fun hj => tX9_sum hj isM_LA _ _ _ _ h9) (ob_338 isM_LA) rfl kc_X9_sum kz_X9 ki_X9_sum ks_X9_sum km_L_108 ⟨kn_X9_sum, rfl, rfl, Nat.le_of_ble_eq_true rfl, Nat.le_of_ble_eq_true rfl⟩ rfl (Nat.le_of_ble_eq_true rfl) hce hsl dL_law_719 ?_
  refine lx_icmp_eq (t := 773) B dL_law_722 rfl (fun _ => K M2 hR2) (fun h => absurd rfl h)
set_option maxRecDepth 100000 in
theorem lw_c23 (B : Lx G cs p m meth c s b L xs) (hZ : Zl s zk zv) (hce : ce ≤ room_1.cells) (hsl : sl ≤ room_1.slots) {M : Mm} {i : Nat} (hi : i + 4 ≤ L) (hL : L < 2 ^ 31) (hR : RE M M) (K : ∀ M2 : Mm, RE M2 M2 → BW p l e room_1 s m #[Value.ref b] below meth c Q G (AL s) 4 773 [some (.ref b), some (.ref (ad 0)), some (.ref (ad 338)), some (.int (nI i))] [] (wsO LA ad cs M2) ce sl) : BW p l e room_1 s m #[Value.ref b] below meth c Q G (AL s) 4 727 [some (.ref b), some (.ref (ad 0)), some (.ref (ad 338)), some (.int (nI i))] [] (wsO LA ad cs M) ce sl := by
  obtain ⟨r, M1, M2, h8, h9, hR2⟩ := two (f8 := (fX8_drop (xs (i + 1)))) (f9 := (fX9_drop (xs (i + 1)))) hR (ringC (fun _ _ _ h => drop_ok (xs (i + 1)) h))
  refine lx_aload_n B dL_law_727 rfl ?_
  refine lx_arg (i := i) (j := 1) B (by decide) rfl rfl (by omega) hL dL_law_728 dL_law_729 dL_law_730 dL_law_731 dL_law_732 ?_
  refine lx_call (a := 0) (As := [.int (xs (i + 1))]) (st := []) B hZ (fun hj => tX8_drop hj isX_LA _ _ _ _ h8) (ob_0 isX_LA) rfl kc_X8_drop kz_X8 ki_X8_drop ks_X8_drop km_L_109 ⟨kn_X8_drop, rfl, rfl, Nat.le_of_ble_eq_true rfl, Nat.le_of_ble_eq_true rfl⟩ rfl (Nat.le_of_ble_eq_true rfl) hce hsl dL_law_733 ?_
  refine lx_aload_n B dL_law_736 rfl ?_
  refine lx_arg (i := i) (j := 1) B (by decide) rfl rfl (by omega) hL dL_law_737 dL_law_738 dL_law_739 dL_law_740 dL_law_741 ?_
  refine lx_call (a := 338) (As := [.int (xs (i + 1))]) (st := [.int r]) B hZ (fun hj => tX9_drop hj isM_LA _ _ _ _ h9) (ob_338 isM_LA) rfl kc_X9_drop kz_X9 ki_X9_drop ks_X9_drop km_L_112 ⟨kn_X9_drop, rfl, rfl, Nat.le_of_ble_eq_true rfl, Nat.le_of_ble_eq_true rfl⟩ rfl (Nat.le_of_ble_eq_true rfl) hce hsl dL_law_742 ?_
  refine lx_icmp_eq (t := 773) B dL_law_745 rfl (fun _ => K M2 hR2) (fun h => absurd rfl h)
set_option maxRecDepth 100000 in
theorem lw_c24 (B : Lx G cs p m meth c s b L xs) (hZ : Zl s zk zv) (hce : ce ≤ room_1.cells) (hsl : sl ≤ room_1.slots) {M : Mm} {i : Nat} (hi : i + 4 ≤ L) (hL : L < 2 ^ 31) (hR : RE M M) (K : ∀ M2 : Mm, RE M2 M2 → BW p l e room_1 s m #[Value.ref b] below meth c Q G (AL s) 4 773 [some (.ref b), some (.ref (ad 0)), some (.ref (ad 338)), some (.int (nI i))] [] (wsO LA ad cs M2) ce sl) : BW p l e room_1 s m #[Value.ref b] below meth c Q G (AL s) 4 750 [some (.ref b), some (.ref (ad 0)), some (.ref (ad 338)), some (.int (nI i))] [] (wsO LA ad cs M) ce sl := by
  obtain ⟨r, M1, M2, h8, h9, hR2⟩ := two (f8 := (fX8_told (xs (i + 1)))) (f9 := (fX9_told (xs (i + 1)))) hR (told_ok (xs (i + 1)))
  refine lx_aload_n B dL_law_750 rfl ?_
  refine lx_arg (i := i) (j := 1) B (by decide) rfl rfl (by omega) hL dL_law_751 dL_law_752 dL_law_753 dL_law_754 dL_law_755 ?_
  refine lx_call (a := 0) (As := [.int (xs (i + 1))]) (st := []) B hZ (fun hj => tX8_told hj isX_LA _ _ _ _ h8) (ob_0 isX_LA) rfl kc_X8_told kz_X8 ki_X8_told ks_X8_told km_L_113 ⟨kn_X8_told, rfl, rfl, Nat.le_of_ble_eq_true rfl, Nat.le_of_ble_eq_true rfl⟩ rfl (Nat.le_of_ble_eq_true rfl) hce hsl dL_law_756 ?_
  refine lx_aload_n B dL_law_759 rfl ?_
  refine lx_arg (i := i) (j := 1) B (by decide) rfl rfl (by omega) hL dL_law_760 dL_law_761 dL_law_762 dL_law_763 dL_law_764 ?_
  refine lx_call (a := 338) (As := [.int (xs (i + 1))]) (st := [.int r]) B hZ (fun hj => tX9_told hj isM_LA _ _ _ _ h9) (ob_338 isM_LA) rfl kc_X9_told kz_X9 ki_X9_told ks_X9_told km_L_116 ⟨kn_X9_told, rfl, rfl, Nat.le_of_ble_eq_true rfl, Nat.le_of_ble_eq_true rfl⟩ rfl (Nat.le_of_ble_eq_true rfl) hce hsl dL_law_765 ?_
  refine lx_icmp_eq (t := 773) B dL_law_768 rfl (fun _ => K M2 hR2) (fun h => absurd rfl h)
end Lws
