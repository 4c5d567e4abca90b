/-! words of the constructors -/
theorem kl_L_7 : Cond.classLink RL 7 RX8 ∈ tg := tg_i 68 (by decide +kernel)
theorem kq_X8 : Cond.instantiable RX8 9 ∈ tg := tg_i 69 (by decide +kernel)
theorem kl_X8_7 : Cond.classLink RX8 7 RX6 ∈ tg := tg_i 76 (by decide +kernel)
theorem kq_X6 : Cond.instantiable RX6 5 ∈ tg := tg_i 77 (by decide +kernel)
theorem ka_int : Cond.arrayClass .int ∈ tg := tg_i 101 (by decide +kernel)
theorem ka_bool : Cond.arrayClass .boolean ∈ tg := tg_i 280 (by decide +kernel)
theorem kl_X8_16 : Cond.classLink RX8 16 RX0 ∈ tg := tg_i 102 (by decide +kernel)
theorem kq_X0 : Cond.instantiable RX0 4 ∈ tg := tg_i 103 (by decide +kernel)
theorem kl_X8_23 : Cond.classLink RX8 23 RX1 ∈ tg := tg_i 122 (by decide +kernel)
theorem kq_X1 : Cond.instantiable RX1 7 ∈ tg := tg_i 123 (by decide +kernel)
theorem kl_X1_9 : Cond.classLink RX1 9 RX7 ∈ tg := tg_i 128 (by decide +kernel)
theorem kq_X7 : Cond.instantiable RX7 3 ∈ tg := tg_i 130 (by decide +kernel)
theorem kl_X8_33 : Cond.classLink RX8 33 RX5 ∈ tg := tg_i 203 (by decide +kernel)
theorem kq_X5 : Cond.instantiable RX5 2 ∈ tg := tg_i 204 (by decide +kernel)
theorem kl_X5_9 : Cond.classLink RX5 9 RX4 ∈ tg := tg_i 209 (by decide +kernel)
theorem kq_X4 : Cond.instantiable RX4 4 ∈ tg := tg_i 210 (by decide +kernel)
theorem kl_X8_40 : Cond.classLink RX8 40 RX2 ∈ tg := tg_i 238 (by decide +kernel)
theorem kq_X2 : Cond.instantiable RX2 3 ∈ tg := tg_i 239 (by decide +kernel)
theorem kl_X2_9 : Cond.classLink RX2 9 RX1 ∈ tg := tg_i 244 (by decide +kernel)
theorem kl_X8_55 : Cond.classLink RX8 55 RX3 ∈ tg := tg_i 258 (by decide +kernel)
theorem kq_X3 : Cond.instantiable RX3 4 ∈ tg := tg_i 260 (by decide +kernel)
theorem kl_L_10 : Cond.classLink RL 10 RX9 ∈ tg := tg_i 777 (by decide +kernel)
theorem kq_X9 : Cond.instantiable RX9 22 ∈ tg := tg_i 778 (by decide +kernel)
def Xt (U : State) : Prop := va_Nw (.methodLinkNest RX8 9 yX6_init RX8) U ∧ va_Nw (.methodLinkNest RX8 18 yX0_init RX8) U ∧ va_Nw (.methodLinkNest RX1 17 yX7_init RX8) U ∧ va_Nw (.methodLinkNest RX8 35 yX5_init RX8) U ∧ va_Nw (.methodLinkNest RX5 11 yX4_init RX8) U ∧ va_Nw (.methodLinkNest RX8 61 yX3_init RX8) U ∧ va_AO RX7 U ∧ va_AO RX1 U ∧ va_AO RX3 U
theorem Xt.of {args : Array Value} {s : State} (hts : ∀ w ∈ lw_tbl, w.before args s = true) : Xt s :=
  ⟨va_Nw.of rfl (hts _ (List.mem_of_getElem? (i := 78) (by decide +kernel))), va_Nw.of rfl (hts _ (List.mem_of_getElem? (i := 104) (by decide +kernel))), va_Nw.of rfl (hts _ (List.mem_of_getElem? (i := 131) (by decide +kernel))), va_Nw.of rfl (hts _ (List.mem_of_getElem? (i := 205) (by decide +kernel))), va_Nw.of rfl (hts _ (List.mem_of_getElem? (i := 211) (by decide +kernel))), va_Nw.of rfl (hts _ (List.mem_of_getElem? (i := 261) (by decide +kernel))), va_AO.of (hts (.arrayOver (.object RX7)) (List.mem_of_getElem? (i := 129) (by decide +kernel))), va_AO.of (hts (.arrayOver (.object RX1)) (List.mem_of_getElem? (i := 245) (by decide +kernel))), va_AO.of (hts (.arrayOver (.object RX3)) (List.mem_of_getElem? (i := 259) (by decide +kernel)))⟩
theorem Xt.warm {s U : State} (hW : s.WarmedH U.vm) (h : Xt s) : Xt U := by
  obtain ⟨h1, h2, h3, h4, h5, h6, h7, h8, h9⟩ := h
  exact ⟨va_Nw.warmM hW h1, va_Nw.warmM hW h2, va_Nw.warmM hW h3, va_Nw.warmM hW h4, va_Nw.warmM hW h5, va_Nw.warmM hW h6, h7.moved hW.alike, h8.moved hW.alike, h9.moved hW.alike⟩
theorem Xt.blind {U : State} (g : JFrame) (mk : MethodId) (a : Array Value) (h : Xt U) : Xt (U.calling g mk a) := by
  obtain ⟨h1, h2, h3, h4, h5, h6, h7, h8, h9⟩ := h
  exact ⟨va_Nw.same rfl (U := U.calling g mk a) rfl h1, va_Nw.same rfl (U := U.calling g mk a) rfl h2, va_Nw.same rfl (U := U.calling g mk a) rfl h3, va_Nw.same rfl (U := U.calling g mk a) rfl h4, va_Nw.same rfl (U := U.calling g mk a) rfl h5, va_Nw.same rfl (U := U.calling g mk a) rfl h6, h7.moved (u := U) (U := U.calling g mk a) (Vm.Alike.refl U.vm), h8.moved (u := U) (U := U.calling g mk a) (Vm.Alike.refl U.vm), h9.moved (u := U) (U := U.calling g mk a) (Vm.Alike.refl U.vm)⟩
/-! a constructor's contract -/
def CPre (G : va_G) (cs : Nat → ClassId) (ci : Nat) (fs0 : List Value) (h0 sz : Nat) : Array Value → State → Prop :=
  va_Pc [.ref h0] (fun U => U.heap.size = sz ∧ va_P G vwCl [(h0, .inr (ci, fs0))] U.heap ∧ va_K G vwCl (tys cs) U ∧ va_D (fun _ => True) [(h0, .inr (ci, fs0))] ∧ Xt U)
theorem CPre.blind {G : va_G} {cs : Nat → ClassId} {ci : Nat} {fs0 : List Value} {h0 sz : Nat} : FrameBlind (CPre G cs ci fs0 h0 sz) := by
  intro a U g mk ⟨q0, q1, qP, qK, qD, qX⟩
  exact ⟨q0, q1, qP, va_K.moved (u := U) (U := U.calling g mk a) (Vm.Alike.refl U.vm) qK, qD, qX.blind g mk a⟩
def CQ (G : va_G) (cs : Nat → ClassId) (A : Nat → Prop) (L : List Nat) (a h0 : Nat) (Ph : Mm → Prop) : Array Value → State → Outcome → State → Prop :=
  va_Qv (fun u : (Nat → Nat) × Mm => u.1 a = h0 ∧ Ph u.2) (fun u t => va_P G vwCl (wsO L u.1 cs u.2) t.heap ∧ va_D A (wsO L u.1 cs u.2)) A
def Ctor (l : Launch) (y : MethodName) (cc : ByteArray) (nL : Nat) (rm : Room) (G : va_G) (cs : Nat → ClassId) (ci : Nat) (fs0 : List Value) (L : List Nat) (a : Nat) (Ph : Mm → Prop) (mc ms : Nat) : Prop :=
  ∀ h0 sz : Nat, Met l y (tgW y cc nL none) rm (CPre G cs ci fs0 h0 sz) (CQ G cs (va_A [(h0, .inr (ci, fs0))] sz) L a h0 Ph) mc ms (va_A [(h0, .inr (ci, fs0))] sz)
def Bx (G : va_G) (cs : Nat → ClassId) (p : Program) (m : MethodId) (meth : Method) (c : Code) (cc : ByteArray) (nL : Nat) (s : State) (args : Array Value) (own : String) (A : Nat → Prop) : Prop :=
  p.tables.exec = Jvm.exec ∧ c.code = cc ∧ c.maxLocals = nL ∧ s.vm.findClass own = some m.cls ∧ (∀ w ∈ tg, w.before args s = true) ∧ va_K G vwCl (tys cs) s ∧ Xt s ∧ meth.sig.returnType = none ∧ meth.locks = false ∧ meth.name = "<init>" ∧ ∀ q, s.heap.size ≤ q → A q
section Bxs
variable {p : Program} {l : Launch} {e : Env} {R : Room} {s : State} {m : MethodId} {args : Array Value} {below : List Frame} {meth : Method} {c : Code} {Q : State → Prop}
variable {G : va_G} {cs : Nat → ClassId} {cc : ByteArray} {nL : Nat} {own : String} {A : Nat → Prop}
variable {pc : Nat} {lv : List (Option Value)} {st : List Value} {ws : va_W} {ce sl : Nat}
/-- the machine at pc, with these locals, this stack, the world ws, comes to Q -/
def BW (p : Program) (l : Launch) (e : Env) (R : Room) (s : State) (m : MethodId) (args : Array Value) (below : List Frame) (meth : Method) (c : Code) (Q : State → Prop) (G : va_G) (A : Nat → Prop) (nL : Nat) (pc : Nat) (lv : List (Option Value)) (st : List Value) (ws : va_W) (ce sl : Nat) : Prop :=
  ∀ (H : Heap) (locs : List Loc) (ls : Array Slot), va_P G vwCl ws H → va_D A ws → va_S A s.heap H locs → lvh ls nL lv → W p l e R s m args below meth c H locs ce sl Q (F0 m pc ls st)
theorem Bx.fix (B : Bx G cs p m meth c cc nL s args own A) : CallFix p m c cc nL s args tg own := ⟨B.1, B.2.1, B.2.2.1, B.2.2.2.1, B.2.2.2.2.1⟩
theorem Bx.w (B : Bx G cs p m meth c cc nL s args own A) : ∀ w ∈ tg, w.before args s = true := B.2.2.2.2.1
theorem Bx.K (B : Bx G cs p m meth c cc nL s args own A) : va_K G vwCl (tys cs) s := B.2.2.2.2.2.1
theorem Bx.X (B : Bx G cs p m meth c cc nL s args own A) : Xt s := B.2.2.2.2.2.2.1
theorem Bx.hA (B : Bx G cs p m meth c cc nL s args own A) : ∀ q, s.heap.size ≤ q → A q := B.2.2.2.2.2.2.2.2.2.2
theorem gx_tr {ws' : va_W} (h : ∀ H : Heap, va_P G vwCl ws H → va_D A ws → va_P G vwCl ws' H ∧ va_D A ws') (k : BW p l e R s m args below meth c Q G A nL pc lv st ws' ce sl) : BW p l e R s m args below meth c Q G A nL pc lv st ws ce sl :=
  fun H locs ls hP hD hS hl => k H locs ls (h H hP hD).1 (h H hP hD).2 hS hl
theorem gx_iconst (B : Bx G cs p m meth c cc nL s args own A) {n : Int} {v : Int32} (hd : decode cc pc = .ok (.iconst n, 1)) (hv : Int32.ofInt n = v)
    (k : BW p l e R s m args below meth c Q G A nL (pc + 1) lv (.int v :: st) ws ce sl) : BW p l e R s m args below meth c Q G A nL pc lv st ws ce sl :=
  fun H locs ls hP hD hS hl => lv_iconst B.1 B.2.1 hd hv (k H locs ls hP hD hS hl)
theorem gx_bipush (B : Bx G cs p m meth c cc nL s args own A) {n : Int} {v : Int32} (hd : decode cc pc = .ok (.bipush n, 2)) (hv : (Int8.ofInt n).toInt32 = v)
    (k : BW p l e R s m args below meth c Q G A nL (pc + 2) lv (.int v :: st) ws ce sl) : BW p l e R s m args below meth c Q G A nL pc lv st ws ce sl :=
  fun H locs ls hP hD hS hl => lv_bipush B.1 B.2.1 hd hv (k H locs ls hP hD hS hl)
theorem gx_sipush (B : Bx G cs p m meth c cc nL s args own A) {n : Int} {v : Int32} (hd : decode cc pc = .ok (.sipush n, 3)) (hv : (Int16.ofInt n).toInt32 = v)
    (k : BW p l e R s m args below meth c Q G A nL (pc + 3) lv (.int v :: st) ws ce sl) : BW p l e R s m args below meth c Q G A nL pc lv st ws ce sl :=
  fun H locs ls hP hD hS hl => lv_sipush B.1 B.2.1 hd hv (k H locs ls hP hD hS hl)
theorem gx_aload_n (B : Bx G cs p m meth c cc nL s args own A) {k : Fin 4} {x : Nat} (hd : decode cc pc = .ok (.aload_n k, 1)) (hl0 : lv[(k : Nat)]? = some (some (.ref x)))
    (kk : BW p l e R s m args below meth c Q G A nL (pc + 1) lv (.ref x :: st) ws ce sl) : BW p l e R s m args below meth c Q G A nL pc lv st ws ce sl :=
  fun H locs ls hP hD hS hl => lv_aload_n B.1 B.2.1 hd rfl (hl.2.2 _ _ hl0) (kk H locs ls hP hD hS hl)
theorem gx_iload_n (B : Bx G cs p m meth c cc nL s args own A) {k : Fin 4} {x : Int32} (hd : decode cc pc = .ok (.iload_n k, 1)) (hl0 : lv[(k : Nat)]? = some (some (.int x)))
    (kk : BW p l e R s m args below meth c Q G A nL (pc + 1) lv (.int x :: st) ws ce sl) : BW p l e R s m args below meth c Q G A nL pc lv st ws ce sl :=
  fun H locs ls hP hD hS hl => lv_iload_n B.1 B.2.1 hd rfl (hl.2.2 _ _ hl0) (kk H locs ls hP hD hS hl)
theorem gx_istore_n (B : Bx G cs p m meth c cc nL s args own A) {k : Fin 4} {x : Int32} (hd : decode cc pc = .ok (.istore_n k, 1)) (hk : (k : Nat) < nL) (hc : cat1 lv (k : Nat) = true)
    (kk : BW p l e R s m args below meth c Q G A nL (pc + 1) (lv.set (k : Nat) (some (.int x))) st ws ce sl) : BW p l e R s m args below meth c Q G A nL pc lv (.int x :: st) ws ce sl :=
  fun H locs _ hP hD hS hl => lv_istore_n B.1 B.2.1 hd rfl (lvh_has hl) hk rfl (fun ls' hl' => kk H locs ls' hP hD hS (lvh_store (ls := ls') hc hl'))
theorem gx_iinc (B : Bx G cs p m meth c cc nL s args own A) {i : Nat} {n : Int} {x v : Int32} (hd : decode cc pc = .ok (.iinc i n, 3)) (hl0 : lv[i]? = some (some (.int x))) (hv : Int32.ofInt n = v) (hk : i < nL) (hc : cat1 lv i = true)
    (kk : BW p l e R s m args below meth c Q G A nL (pc + 3) (lv.set i (some (.int (x + v)))) st ws ce sl) : BW p l e R s m args below meth c Q G A nL pc lv st ws ce sl := by
  intro H locs ls hP hD hS hl
  obtain ⟨k, hk0⟩ := lvP_idx hl0
  exact lv_iinc B.1 B.2.1 hd (lvh_has hl) hk0 (by rw [hv]) hk rfl (fun ls' hl' => kk H locs ls' hP hD hS (lvh_store (ls := ls') hc hl'))
theorem gx_dup (B : Bx G cs p m meth c cc nL s args own A) {v : Value} (hd : decode cc pc = .ok (.dup, 1)) (hv : v.category = 1)
    (k : BW p l e R s m args below meth c Q G A nL (pc + 1) lv (v :: v :: st) ws ce sl) : BW p l e R s m args below meth c Q G A nL pc lv (v :: st) ws ce sl :=
  fun H locs ls hP hD hS hl => lv_dup B.1 B.2.1 hd hv (k H locs ls hP hD hS hl)
theorem gx_goto (B : Bx G cs p m meth c cc nL s args own A) {o : Int} {t : Nat} (hd : decode cc pc = .ok (.goto o, 3)) (ht : (pc : Int) + o = (t : Int))
    (k : BW p l e R s m args below meth c Q G A nL t lv st ws ce sl) : BW p l e R s m args below meth c Q G A nL pc lv st ws ce sl :=
  fun H locs ls hP hD hS hl => lv_goto B.1 B.2.1 hd ht (k H locs ls hP hD hS hl)
theorem gx_icmp_ge (B : Bx G cs p m meth c cc nL s args own A) {x y : Int32} {o : Int} {t : Nat} (hd : decode cc pc = .ok (.if_icmp .ge o, 3)) (ht : (pc : Int) + o = (t : Int))
    (kt : y ≤ x → BW p l e R s m args below meth c Q G A nL t lv st ws ce sl) (kf : ¬ y ≤ x → BW p l e R s m args below meth c Q G A nL (pc + 3) lv st ws ce sl) : BW p l e R s m args below meth c Q G A nL pc lv (.int y :: .int x :: st) ws ce sl :=
  fun H locs ls hP hD hS hl => lv_icmp_ge B.1 B.2.1 hd ht (fun h => kt h H locs ls hP hD hS hl) (fun h => kf h H locs ls hP hD hS hl)
theorem gx_obj (B : Bx G cs p m meth c cc nL s args own A) {i a : Nat} (hl : Cond.methodLink own i objectInit ∈ tg) (hfr : 1 ≤ R.frames) (hlo : 12 ≤ R.locals) (hd : decode cc pc = .ok (.invokespecial i, 3))
    (k : BW p l e R s m args below meth c Q G A nL (pc + 3) lv [] ws ce sl) : BW p l e R s m args below meth c Q G A nL pc lv [.ref a] ws ce sl :=
  fun H locs ls hP hD hS hl0 => W.objInit B.1 B.2.1 B.2.2.2.1 (B.w _ hl) (B.w _ ki_obj) (B.w _ kc_obj) rfl (by rw [B.2.2.1]; exact hl0.1) rfl hd hfr (by show 2 * 0 + 0 + 12 ≤ R.locals; omega) (k H locs ls hP hD hS hl0)
theorem gx_new (B : Bx G cs p m meth c cc nL s args own A) {C : String} {T : u_T} {N ci i : Nat} (fs : List Value) (hin : ∀ w ∈ u_ws C T N, w ∈ tg) (ty : Nat → FieldType) (hty : ∀ k, k < N → parseFieldDescriptor (T k).2.2.1 = some (ty k)) (hcl : Cond.classLink own i C ∈ tg) (hinst : Cond.instantiable C N ∈ tg) (hini : Cond.initialized C ∈ tg) (hc : vwCl[ci]? = some (C, T, N)) (hfs : ∀ j, j < N → defaultValue (ty j) = vp_V fs j) (hce : ce + 1 ≤ R.cells) (hsl : sl + N ≤ R.slots) (hd : decode cc pc = .ok (.new i, 3))
    (k : ∀ q : Nat, BW p l e R s m args below meth c Q G A nL (pc + 3) lv (.ref q :: st) (ws ++ [(q, .inr (ci, fs))]) (ce + 1) (sl + N)) : BW p l e R s m args below meth c Q G A nL pc lv st ws ce sl :=
  fun H locs ls hP hD hS hl0 => va_new B.1 B.2.1 B.w hin ty hty B.2.2.2.1 (B.w _ hcl) (B.w _ hinst) (B.w _ hini) B.K hP hD hS B.hA hc hfs hce hsl hd (fun q H1 hP1 hD1 hS1 => k q H1 locs ls hP1 hD1 hS1 hl0)
theorem gx_newI (B : Bx G cs p m meth c cc nL s args own A) {n : Int32} (N : Nat) (hn : ¬ n < 0) (hN : n.toNatClampNeg = N) (hby : N * 4 ≤ 536870912) (hce : ce + 1 ≤ R.cells) (hsl : sl + N ≤ R.slots) (hd : decode cc pc = .ok (.newarray .int, 2))
    (k : ∀ q : Nat, BW p l e R s m args below meth c Q G A nL (pc + 2) lv (.ref q :: st) (ws ++ [(q, .inl (cs 0, N, .inl (fun _ => 0)))]) (ce + 1) (sl + N)) : BW p l e R s m args below meth c Q G A nL pc lv (.int n :: st) ws ce sl := by
  intro H locs ls hP hD hS hl0
  refine va_newa (atype := .int) (ty := .int) (a0 := (N, .inl (fun _ => 0))) B.1 B.2.1 (B.w _ ka_int) rfl B.K hP hD hS B.hA (fun cA => rfl) hn hN hby hce hsl hd (fun q cA H1 hK1 hP1 hD1 hS1 => ?_)
  have e1 : s.vm.findClass ("[" ++ FieldType.int.toString) = some (cs 0) := (B.K.2 0 _ rfl).2
  have e2 : s.vm.findClass ("[" ++ FieldType.int.toString) = some cA := (hK1.2 5 _ rfl).2
  have e3 : cA = cs 0 := Option.some.inj (e2.symm.trans e1)
  subst e3
  exact k q H1 locs ls hP1 hD1 hS1 hl0
theorem gx_newZ (B : Bx G cs p m meth c cc nL s args own A) {n : Int32} (N : Nat) (hn : ¬ n < 0) (hN : n.toNatClampNeg = N) (hby : N * 1 ≤ 536870912) (hce : ce + 1 ≤ R.cells) (hsl : sl + N ≤ R.slots) (hd : decode cc pc = .ok (.newarray .boolean, 2))
    (k : ∀ q : Nat, BW p l e R s m args below meth c Q G A nL (pc + 2) lv (.ref q :: st) (ws ++ [(q, .inl (cs 1, N, .inl (fun _ => 0)))]) (ce + 1) (sl + N)) : BW p l e R s m args below meth c Q G A nL pc lv (.int n :: st) ws ce sl := by
  intro H locs ls hP hD hS hl0
  refine va_newa (atype := .boolean) (ty := .boolean) (a0 := (N, .inl (fun _ => 0))) B.1 B.2.1 (B.w _ ka_bool) rfl B.K hP hD hS B.hA (fun cA => rfl) hn hN hby hce hsl hd (fun q cA H1 hK1 hP1 hD1 hS1 => ?_)
  have e1 : s.vm.findClass ("[" ++ FieldType.boolean.toString) = some (cs 1) := (B.K.2 1 _ rfl).2
  have e2 : s.vm.findClass ("[" ++ FieldType.boolean.toString) = some cA := (hK1.2 5 _ rfl).2
  have e3 : cA = cs 1 := Option.some.inj (e2.symm.trans e1)
  subst e3
  exact k q H1 locs ls hP1 hD1 hS1 hl0
theorem gx_newQ (B : Bx G cs p m meth c cc nL s args own A) {n : Int32} {C : String} {i : Nat} (t N : Nat) (hcl : Cond.classLink own i C ∈ tg) (hov : va_AO C s) (ht : (tys cs)[t]? = some (cs t, .object C)) (hn : ¬ n < 0) (hN : n.toNatClampNeg = N) (hby : N * 4 ≤ 536870912) (hce : ce + 1 ≤ R.cells) (hsl : sl + N ≤ R.slots) (hd : decode cc pc = .ok (.anewarray i, 3))
    (k : ∀ q : Nat, BW p l e R s m args below meth c Q G A nL (pc + 3) lv (.ref q :: st) (ws ++ [(q, .inl (cs t, N, .inr (.inr (.inr (.inr (fun _ => none))))))]) (ce + 1) (sl + N)) : BW p l e R s m args below meth c Q G A nL pc lv (.int n :: st) ws ce sl := by
  intro H locs ls hP hD hS hl0
  refine va_newq (C := C) B.1 B.2.1 B.2.2.2.1 (B.w _ hcl) hov B.K hP hD hS B.hA hn hN hby hce hsl hd (fun q cA H1 hK1 hP1 hD1 hS1 => ?_)
  obtain ⟨_, _, _, _, _, e1⟩ := (B.K.2 t _ ht).2
  obtain ⟨_, _, _, _, _, e2⟩ := (hK1.2 5 _ rfl).2
  have e3 : cA = cs t := Option.some.inj (e2.symm.trans e1)
  subst e3
  exact k q H1 locs ls hP1 hD1 hS1 hl0
/-- a final field of the object at the head -/
theorem gx_putF (B : Bx G cs p m meth c cc nL s args own A) {h0 ci i : Nat} {fs fs' : List Value} {C ref nm ds : String} {T : u_T} {N : Nat} {X : va_W} (hc : vwCl[ci]? = some (C, T, N)) (hin : ∀ w ∈ u_ws C T N, w ∈ tg) (ty0 : Nat → FieldType) (hty : ∀ k, k < N → parseFieldDescriptor (T k).2.2.1 = some (ty0 k)) (hnm : ∀ a, a < N → ∀ b, b < N → a ≠ b → (T a).2.1 ≠ (T b).2.1) (k : Nat) (hk : k < N) (hT : T k = (ref, nm, ds, true)) (ho : ref = own) (hl : Cond.fieldLink own i ref nm ds ∈ tg) {x : Nat} {ty : FieldType} (hds : parseFieldDescriptor ds = some ty) (hn : narrow ty (.ref x) = .ref x) (hfit : fits ty (.ref x) = true) (hlen : k < fs.length) (hs : fs.set k (.ref x) = fs') (hd : decode cc pc = .ok (.putfield i, 3))
    (kk : BW p l e R s m args below meth c Q G A nL (pc + 3) lv st ((h0, .inr (ci, fs')) :: X) ce sl) : BW p l e R s m args below meth c Q G A nL pc lv (.ref x :: .ref h0 :: st) ((h0, .inr (ci, fs)) :: X) ce sl := by
  intro H locs ls hP hD hS hl0
  have h1 : (T k).1 = ref := congrArg (fun q => q.1) hT
  have h2 : (T k).2.1 = nm := congrArg (fun q => q.2.1) hT
  have h3 : (T k).2.2.1 = ds := congrArg (fun q => q.2.2.1) hT
  have h4 : (T k).2.2.2 = true := congrArg (fun q => q.2.2.2) hT
  refine va_putF (ref := ref) (ty := ty) B.1 B.2.1 B.w hin ty0 hty hnm B.2.2.2.1 B.K hP hD hS 0 rfl hc k hk (by rw [h2, h3]; exact B.w _ hl) (fun x hx => by rw [h1] at hx; exact hx) h4 B.2.2.2.2.2.2.2.2.2.1 (by rw [h1]; exact ho) (by rw [h3]; exact hds) hn hfit hlen hd (fun H1 locs1 hP1 hD1 hS1 => ?_)
  rw [hs] at hP1 hD1
  exact kk H1 locs1 ls hP1 hD1 hS1 hl0
/-- an int or boolean field of the object at the head -/
theorem gx_putI (B : Bx G cs p m meth c cc nL s args own A) {h0 ci i : Nat} {fs fs' : List Value} {C ref nm ds : String} {T : u_T} {N : Nat} {X : va_W} (hc : vwCl[ci]? = some (C, T, N)) (hin : ∀ w ∈ u_ws C T N, w ∈ tg) (ty0 : Nat → FieldType) (hty : ∀ k, k < N → parseFieldDescriptor (T k).2.2.1 = some (ty0 k)) (hnm : ∀ a, a < N → ∀ b, b < N → a ≠ b → (T a).2.1 ≠ (T b).2.1) (k : Nat) (hk : k < N) (hT : T k = (ref, nm, ds, false)) (hl : Cond.fieldLink own i ref nm ds ∈ tg) {x : Int32} {ty : FieldType} (hds : parseFieldDescriptor ds = some ty) (hn : narrow ty (.int x) = .int x) (hfit : fits ty (.int x) = true) (hlen : k < fs.length) (hs : fs.set k (.int x) = fs') (hd : decode cc pc = .ok (.putfield i, 3))
    (kk : BW p l e R s m args below meth c Q G A nL (pc + 3) lv st ((h0, .inr (ci, fs')) :: X) ce sl) : BW p l e R s m args below meth c Q G A nL pc lv (.int x :: .ref h0 :: st) ((h0, .inr (ci, fs)) :: X) ce sl := by
  intro H locs ls hP hD hS hl0
  have h1 : (T k).1 = ref := congrArg (fun q => q.1) hT
  have h2 : (T k).2.1 = nm := congrArg (fun q => q.2.1) hT
  have h3 : (T k).2.2.1 = ds := congrArg (fun q => q.2.2.1) hT
  have h4 : (T k).2.2.2 = false := congrArg (fun q => q.2.2.2) hT
  refine va_put (ref := ref) (ty := ty) B.1 B.2.1 B.w hin ty0 hty hnm B.2.2.2.1 B.K hP hD hS 0 rfl hc k hk (by rw [h2, h3]; exact B.w _ hl) (fun x hx => by rw [h1] at hx; exact hx) h4 (by rw [h3]; exact hds) hn hfit hlen hd (fun H1 locs1 hP1 hD1 hS1 => ?_)
  rw [hs] at hP1 hD1
  exact kk H1 locs1 ls hP1 hD1 hS1 hl0
theorem gx_get (B : Bx G cs p m meth c cc nL s args own A) {h0 ci i : Nat} {fs : List Value} {C ref nm ds : String} {T : u_T} {N : Nat} {X : va_W} (hc : vwCl[ci]? = some (C, T, N)) (hin : ∀ w ∈ u_ws C T N, w ∈ tg) (k : Nat) (hk : k < N) (hT : T k = (ref, nm, ds, (T k).2.2.2)) (hl : Cond.fieldLink own i ref nm ds ∈ tg) {v : Value} (hv : fs[k]? = some v) (hd : decode cc pc = .ok (.getfield i, 3))
    (kk : BW p l e R s m args below meth c Q G A nL (pc + 3) lv (v :: st) ((h0, .inr (ci, fs)) :: X) ce sl) : BW p l e R s m args below meth c Q G A nL pc lv (.ref h0 :: st) ((h0, .inr (ci, fs)) :: X) ce sl := by
  intro H locs ls hP hD hS hl0
  have h1 : (T k).1 = ref := congrArg (fun q => q.1) hT
  have h2 : (T k).2.1 = nm := congrArg (fun q => q.2.1) hT
  have h3 : (T k).2.2.1 = ds := congrArg (fun q => q.2.2.1) hT
  exact va_get (ref := ref) B.1 B.2.1 B.w hin B.2.2.2.1 B.K hP 0 rfl hc k hk (by rw [h2, h3]; exact B.w _ hl) (fun x hx => by rw [h1] at hx; exact hx) hv hd (kk H locs ls hP hD hS hl0)
/-- a store into the array that was made last -/
theorem gx_iast (B : Bx G cs p m meth c cc nL s args own A) {q n : Nat} {f : Nat → Int32} {i x : Int32} (hi : okI i n = true) (hd : decode cc pc = .ok (.iastore, 1))
    (k : BW p l e R s m args below meth c Q G A nL (pc + 1) lv st (ws ++ [(q, .inl (cs 0, n, .inl (upd f (ix i) x)))]) ce sl) : BW p l e R s m args below meth c Q G A nL pc lv (.int x :: .int i :: .ref q :: st) (ws ++ [(q, .inl (cs 0, n, .inl f))]) ce sl := by
  intro H locs ls hP hD hS hl0
  refine va_iast (f := f) (n := n) (cA := cs 0) B.1 B.2.1 B.K hP hD hS ws.length 0 (by simp) rfl (okI_in hi) hd (fun H1 locs1 hP1 hD1 hS1 => ?_)
  have e1 : ∀ y : Nat × va_E, (ws ++ [(q, (.inl (cs 0, n, .inl f) : va_E))]).set ws.length y = ws ++ [y] := fun y => by simp
  rw [e1] at hP1 hD1
  exact k H1 locs1 ls hP1 hD1 hS1 hl0
/-- a store of an object into a row of references -/
theorem gx_aast (B : Bx G cs p m meth c cc nL s args own A) {q n v ci : Nat} {vs : List Value} {C : String} {T : u_T} {N : Nat} {f : Nat → Option Nat} {i : Int32} {ws' : va_W} (q0 t : Nat) (ha : ws[q0]? = some (q, .inl (cs t, n, .inr (.inr (.inr (.inr f)))))) (ht : (tys cs)[t]? = some (cs t, .object C)) (hv : (v, (.inr (ci, vs) : va_E)) ∈ ws) (hc : vwCl[ci]? = some (C, T, N)) (hi : okI i n = true) (hs : ws.set q0 (q, .inl (cs t, n, .inr (.inr (.inr (.inr (va_up f (ix i) (some v))))))) = ws') (hd : decode cc pc = .ok (.aastore, 1))
    (k : BW p l e R s m args below meth c Q G A nL (pc + 1) lv st ws' ce sl) : BW p l e R s m args below meth c Q G A nL pc lv (.ref v :: .int i :: .ref q :: st) ws ce sl := by
  intro H locs ls hP hD hS hl0
  obtain ⟨qk, hqk⟩ := List.getElem?_of_mem hv
  refine va_astq (r := (C, T, N)) B.1 B.2.1 B.K hP hD hS q0 t qk ci ha ht hqk hc (okI_in hi) hd (fun H1 locs1 hP1 hD1 hS1 => ?_)
  rw [hs] at hP1 hD1
  exact k H1 locs1 ls hP1 hD1 hS1 hl0
def okM (R : Room) (y : MethodName) (maxL mc ms ce sl : Nat) (rm : Room) : Prop := (y.cls ≠ "java/lang/invoke/MethodHandle" ∧ y.cls ≠ "java/lang/invoke/VarHandle" ∧ (parseMethodDescriptor y.desc).map (fun d => d.parameters.length) = some 0) ∧ y.name = "<init>" ∧ rm.cells = mc ∧ rm.slots = ms ∧ (rm.frames + 1 ≤ R.frames ∧ 8 + (maxL + 11) + rm.locals ≤ R.locals) ∧ ce + mc ≤ R.cells ∧ sl + ms ≤ R.slots
theorem gx_initN (B : Bx G cs p m meth c cc nL s args own A) {y : MethodName} {by' : ByteArray} {maxL i a ci q mc ms : Nat} {host : String} {rm : Room} {fs0 : List Value} {Lc : List Nat} {Ph : Mm → Prop} (hM : Ctor l y by' maxL rm G cs ci fs0 Lc a Ph mc ms) (hk : Cond.code y by' maxL none ∈ tg) (hz : Cond.initialized y.cls ∈ tg) (hi : Cond.instanceMethod y ∈ tg) (hl : va_Nw (.methodLinkNest own i y host) s) (ho : okM R y maxL mc ms ce sl rm) (hsum : (st.map fun v => v.category).sum ≤ 8) (hd : decode cc pc = .ok (.invokespecial i, 3))
    (k : ∀ (adc : Nat → Nat) (Mc : Mm), adc a = q → Ph Mc → BW p l e R s m args below meth c Q G A nL (pc + 3) lv st (ws ++ wsO Lc adc cs Mc) (ce + mc) (sl + ms)) : BW p l e R s m args below meth c Q G A nL pc lv (.ref q :: st) (ws ++ [(q, .inr (ci, fs0))]) ce sl := by
  intro H locs ls hP hD hS hl0
  have hF := free1 hD hS B.hA
  obtain ⟨hPc, hDc⟩ := sub1 hP hD
  refine va_callv (va_runIN (As := []) (rest := st) B.fix (hM q H.size) ⟨va_cnB 0 B.w (tg_good hk) rfl ho.2.2.1 ho.2.2.2.1 hl (B.w _ hz) ho.1 ho.2.2.2.2.1, ho.2.1, B.w _ hi⟩ ⟨CPre.blind, fun U hU hW => ⟨rfl, by rw [hU], by rw [hU]; exact hPc, va_K.moved hW.alike B.K, hDc.weaken (fun _ _ _ _ => trivial), B.X.warm hW⟩⟩ rfl rfl hl0.1 rfl (lv_room hsum) hd ho.2.2.2.2.2) hS (fun q _ h => hF q h) hF (fun u t H1 locs1 ht hvm hw hB hz1 hk1 hS1 => ?_)
  obtain ⟨hP1, hD1⟩ := hB
  rw [ht] at hP1
  obtain ⟨hP2, hD2⟩ := join1 hP hD hk1 hF hP1 hD1
  exact k u.1 u.2 hw.1 hw.2 H1 locs1 ls hP2 hD2 hS1 hl0
theorem gx_init (B : Bx G cs p m meth c cc nL s args own A) {y : MethodName} {by' : ByteArray} {maxL i a ci q mc ms : Nat} {rm : Room} {fs0 : List Value} {Lc : List Nat} {Ph : Mm → Prop} (hM : Ctor l y by' maxL rm G cs ci fs0 Lc a Ph mc ms) (hk : Cond.code y by' maxL none ∈ tg) (hz : Cond.initialized y.cls ∈ tg) (hi : Cond.instanceMethod y ∈ tg) (hl : Cond.methodLink own i y ∈ tg) (ho : okM R y maxL mc ms ce sl rm) (hsum : (st.map fun v => v.category).sum ≤ 8) (hd : decode cc pc = .ok (.invokespecial i, 3))
    (k : ∀ (adc : Nat → Nat) (Mc : Mm), adc a = q → Ph Mc → BW p l e R s m args below meth c Q G A nL (pc + 3) lv st (ws ++ wsO Lc adc cs Mc) (ce + mc) (sl + ms)) : BW p l e R s m args below meth c Q G A nL pc lv (.ref q :: st) (ws ++ [(q, .inr (ci, fs0))]) ce sl := by
  intro H locs ls hP hD hS hl0
  have hF := free1 hD hS B.hA
  obtain ⟨hPc, hDc⟩ := sub1 hP hD
  refine va_callv (va_runI (As := []) (rest := st) B.fix (hM q H.size) ⟨callB_of 0 B.w (tg_good hk) rfl ho.2.2.1 ho.2.2.2.1 (B.w _ hz) (B.w _ hl) ho.1 ho.2.2.2.2.1, ho.2.1, B.w _ hi⟩ ⟨CPre.blind, fun U hU hW => ⟨rfl, by rw [hU], by rw [hU]; exact hPc, va_K.moved hW.alike B.K, hDc.weaken (fun _ _ _ _ => trivial), B.X.warm hW⟩⟩ rfl rfl hl0.1 rfl (lv_room hsum) hd ho.2.2.2.2.2) hS (fun q _ h => hF q h) hF (fun u t H1 locs1 ht hvm hw hB hz1 hk1 hS1 => ?_)
  obtain ⟨hP1, hD1⟩ := hB
  rw [ht] at hP1
  obtain ⟨hP2, hD2⟩ := join1 hP hD hk1 hF hP1 hD1
  exact k u.1 u.2 hw.1 hw.2 H1 locs1 ls hP2 hD2 hS1 hl0
theorem inj_of {L : List Nat} {ad : Nat → Nat} {M : Mm} (hn : L.Nodup) (hD : va_D A (wsO L ad cs M)) : inj L ad := by
  refine ⟨hn, fun i j hi hj e => ?_⟩
  obtain ⟨k1, h1⟩ := List.getElem?_of_mem hi
  obtain ⟨k2, h2⟩ := List.getElem?_of_mem hj
  have := hD.1 k1 k2 _ _ (wsO_get ad cs M h1) (wsO_get ad cs M h2) e
  subst this
  rw [h1] at h2
  exact Option.some.inj h2
theorem inA_of {L : List Nat} {ad : Nat → Nat} {M : Mm} (hD : va_D A (wsO L ad cs M)) : ∀ q, inA L ad q → A q := by
  rintro q ⟨i, hi, rfl⟩
  obtain ⟨k1, h1⟩ := List.getElem?_of_mem hi
  exact hD.2 k1 _ (wsO_get ad cs M h1)
/-- a method of the object, once it stands -/
theorem gx_callV (B : Bx G cs p m meth c cc nL s args own A) {y : MethodName} {by' : ByteArray} {maxL i a ci : Nat} {rm : Room} {As : List Value} {st0 : List Value} {fs : (Nat → Int32) → List Value} {T : u_T} {N : Nat} {M M' : Mm} {L : List Nat} {ad zk zv : Nat → Nat} (hn : L.Nodup) (hM : inj L ad → Met l y (tgW y by' maxL none) rm (APre G L ad cs false zk zv (.ref (ad a) :: As) M) (AQv G L ad cs M') 0 0 (inA L ad)) (hob : isOb L ad cs a ci fs) (hc : vwCl[ci]? = some (y.cls, T, N)) (hk : Cond.code y by' maxL none ∈ tg) (hz : Cond.initialized y.cls ∈ tg) (hi : Cond.instanceMethod y ∈ tg) (hse : Cond.selects y.cls y y ∈ tg) (hl : Cond.methodLink own i y ∈ tg) (ho : okC R y maxL As.length rm) (hst : st0 = As.reverse ++ .ref (ad a) :: st) (hsum : (st.map fun v => v.category).sum ≤ 8) (hce : ce ≤ R.cells) (hsl : sl ≤ R.slots) (hd : decode cc pc = .ok (.invokevirtual i, 3))
    (kk : BW p l e R s m args below meth c Q G A nL (pc + 3) lv st (wsO L ad cs M') ce sl) : BW p l e R s m args below meth c Q G A nL pc lv st0 (wsO L ad cs M) ce sl := by
  intro H locs ls hP hD hS hl0
  obtain ⟨k0, hk0⟩ := List.getElem?_of_mem hob.1
  have he : (wsO L ad cs M)[k0]? = some (ad a, .inr (ci, fs (M a))) := by rw [wsO_get ad cs M hk0, hob.2]
  refine va_callv (va_runV B.fix (hM (inj_of hn hD)) ⟨callB_of As.length B.w (tg_good hk) rfl ho.2.1 ho.2.2.1 (B.w _ hz) (B.w _ hl) ho.1 ho.2.2.2, B.w _ hi, B.w _ hse⟩ ⟨APre.blind, va_recv B.K hP hc he, fun U hU hW => ⟨rfl, by rw [hU]; exact hP, va_K.moved hW.alike B.K, fun h => by cases h⟩⟩ rfl rfl hl0.1 hst (lv_room hsum) hd ⟨hce, hsl⟩) hS (fun q _ h => inA_of hD q h) (inA_of hD) (fun u t H1 locs1 ht hvm hw hB hz1 hk1 hS1 => ?_)
  have hB : va_P G vwCl (wsO L ad cs M') t.heap := hB
  rw [ht] at hB
  exact kk H1 locs1 ls hB (va_D_fst (by rw [wsO_fst, wsO_fst]) hD) hS1 hl0
theorem gx_ret (B : Bx G cs p m meth c cc nL s args own A) {L : List Nat} {a h0 : Nat} {Ph : Mm → Prop} {ad : Nat → Nat} {M : Mm} (h1 : ad a = h0) (h2 : Ph M) (hd : decode cc pc = .ok (.return_, 1)) : BW p l e R s m args below meth c (MQ below (CQ G cs A L a h0 Ph) args s ce sl A) G A nL pc lv [] (wsO L ad cs M) ce sl := by
  intro H locs ls hP hD hS hl0
  have hlocks : meth.locks = false := B.2.2.2.2.2.2.2.2.1
  exact W.vret B.1 B.2.1 B.2.2.2.2.2.2.2.1 (fun t ht hW => ⟨⟨(ad, M), rfl, ⟨h1, h2⟩, by show va_P _ _ _ t.heap; rw [ht]; exact hP, hD⟩, hS.F ht⟩) hS.2.2 hd
/-- what has come is put to the rest -/
theorem gx_mrg {X : va_W} {L Lc : List Nat} {ad adc : Nat → Nat} {M Mc : Mm} (hc : clo L) (hcc : clo Lc) (hd : ∀ i ∈ L, i ∉ Lc) (k : ∀ ad' M', (∀ i ∈ L, ad' i = ad i ∧ M' i = M i) → (∀ i ∈ Lc, ad' i = adc i ∧ M' i = Mc i) → BW p l e R s m args below meth c Q G A nL pc lv st (X ++ wsO (L ++ Lc) ad' cs M') ce sl) : BW p l e R s m args below meth c Q G A nL pc lv st ((X ++ wsO L ad cs M) ++ wsO Lc adc cs Mc) ce sl := by
  obtain ⟨ad', M', h1, h2, h3⟩ := mrg_P (G := G) (A := A) (X := X) (adc := adc) (ad := ad) (cs := cs) (M := M) (Mc := Mc) hc hcc hd
  exact gx_tr h3 (k ad' M' h1 h2)
end Bxs
/-- a constructor's contract out of a walk of its body -/
theorem ctor_of {l : Launch} {y : MethodName} {cc : ByteArray} {nL : Nat} {rm : Room} {G : va_G} {cs : Nat → ClassId} {ci : Nat} {fs0 : List Value} {L : List Nat} {a : Nat} {Ph : Mm → Prop} {mc ms : Nat} (hy : plainName y.cls = true) (hnm : y.name = "<init>") (hlen : 1 ≤ nL) (lv : Nat → List (Option Value)) (hlv : ∀ h0, lv h0 = enl [.ref h0] ++ List.replicate (nL - (enl [.ref h0]).length) none)
    (body : ∀ (h0 : Nat) (p : Program) (e : Env) (s : State) (m : MethodId) (below : List Frame) (meth : Method) (c : Code) (A : Nat → Prop), Bx G cs p m meth c cc nL s [Value.ref h0].toArray y.cls A → BW p l e rm s m [Value.ref h0].toArray below meth c (MQ below (CQ G cs A L a h0 Ph) [Value.ref h0].toArray s mc ms A) G A nL 0 (lv h0) [] [(h0, .inr (ci, fs0))] 0 0) :
    Ctor l y cc nL rm G cs ci fs0 L a Ph mc ms := by
  intro h0 sz
  refine Met.ofW (cc := cc) (maxL := nL) (ret := none) hy rfl ?_
  intro p e s m args below meth c s₁ B hml hv
  obtain ⟨rfl, hsz, hP, hK, hD, hX⟩ := hv
  subst hsz
  have hts := atoms_spec (ws := tgW y cc nL none) B.pre
  have hown : s.vm.findClass y.cls = some m.cls := findClass_of_methodNamed B.named
  have hin : meth.name = "<init>" := (name_of_methodNamed B.named B.method).1.trans hnm
  have F : Bx G cs p m meth c cc nL s [Value.ref h0].toArray y.cls (va_A [(h0, .inr (ci, fs0))] s.heap.size) := ⟨B.exec, B.bytes, hml, hown, fun w hw => hts w (List.mem_cons_of_mem _ hw), hK, hX, B.returns, B.notSynchronized, hin, fun q h => Or.inr h⟩
  have hl := lv_entry [.ref h0] (n := nL) hlen
  rw [lg_entry_eq]
  refine body h0 p e s m below meth c _ F s.heap [] _ hP hD.self va_S.rf ⟨hl.1, hl.2.1, fun i v hi => ?_⟩
  rw [hlv] at hi
  have h1 : (enl [.ref h0])[i]? = some (some v) := by
    rw [List.getElem?_append] at hi
    split at hi
    · exact hi
    · rw [List.getElem?_replicate] at hi
      split at hi <;> simp at hi
  have h2 := enl_args [.ref h0] 0 i v h1
  rw [Nat.zero_add] at h2
  exact hl.2.2 (i, v) h2
