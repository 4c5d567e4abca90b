/-! THE CLAIM OUT OF ONE WALK OF THE LAW'S BODY. Your part is whole_start (and what it stands on); all else here is the same for every law, but numbers. -/
def R_law : String := "ShuffledViewsLaw"
def lw_P (b : Addr) (xs : List Int32) (args : Array Value) (s : State) : Prop := args = #[.ref b] ∧ s.IntsAt b xs ∧ xs.length ≤ 2048 ∧ (Jvm.Cond.and given_1 narrow_1).before args s = true
def lw_Q (_ : Array Value) (s : State) (o : Outcome) (t : State) : Prop := o = .returned (some (.int 1)) ∧ Framed s o t [] 600000 7302250
def lw_Z (below : List Frame) (a : Array Value) (s : State) : State → Prop := fun t => ∃ o, t.status = .running ∧ Ended t below o ∧ lw_Q a s o t
/-- the law's own end, with 1 on the stack, nothing written that was there before, its room as the claim has it -/
theorem lw_ret {p : Program} {l : Launch} {e : Env} {s : State} {m : MethodId} {below : List Frame} {meth : Method} {c : Code} {b : Nat} (hx : p.tables.exec = Jvm.exec) (hb : c.code = code) (hr : meth.sig.returnType = ret) (hlocks : meth.locks = false) {pc : Nat} {H : Heap} {ls : Array Slot} (hdg : decode code pc = .ok (.ireturn, 1)) : W p l e room_1 s m #[Value.ref b] below meth c H [] 600000 7302250 (lw_Z below #[Value.ref b] s) (F0 m pc ls [.int 1]) := by
  intro T hT X
  obtain ⟨fs, hret, hrun, hended, hW, hframe⟩ := X.leave (v := some (.int 1)) (hlocks := hlocks) (fun h => by rw [hr] at h; cases h)
  have hmeth' : T.vm.method? m = some meth := X.method'
  refine ⟨T.setFrames fs, ?_, .returned (some (.int 1)), hrun, hended, rfl, ⟨_, rfl⟩, hW, hframe⟩
  jvm_step X.here [X.here.top, hx, hb, hdg, hmeth', hr, ret, narrow_b1]
  (try refine ⟨rfl, ?_⟩); (try refine ⟨rfl, ?_⟩)
  first | (intro acts; rw [hret _ acts rfl rfl rfl]) | rw [hret _ _ rfl rfl rfl]
  exact Steps.refl _
/-- what holds at the law's entry: the machine, the code, the tables' words (any of lw_tbl by 'hts w (by decide +kernel)'), the script of L ints xs at the cell b, what the Statement gives of the start (any of its parts by flat_of_before) -/
def lw_At (p : Program) (s : State) (m : MethodId) (meth : Method) (c : Code) (b L : Nat) (xs : Nat → Int32) : Prop :=
  p.tables.exec = Jvm.exec ∧ c.code = code ∧ meth.sig.returnType = ret ∧ c.maxLocals = 4 ∧ s.vm.findClass R_law = some m.cls ∧ (∀ w ∈ lw_tbl, w.before #[Value.ref b] s = true) ∧ va_X b L xs s s.heap ∧ b < s.heap.size ∧ meth.locks = false ∧ (Jvm.Cond.and given_1 narrow_1).before #[Value.ref b] s = true
/-! rows of the law -/
abbrev AL (s : State) : Nat → Prop := fun q => s.heap.size ≤ q
abbrev LA : List Nat := LX8 ++ LX9
theorem nd_LA : LA.Nodup := by decide +kernel
theorem clo_LX8 : clo LX8 := by unfold clo; decide +kernel
theorem clo_LX9 : clo LX9 := by unfold clo; decide +kernel
theorem dj_LA : ∀ i ∈ LX8, i ∉ LX9 := by decide +kernel
theorem isX_LA : isX LA := fun j hj => List.mem_append_left _ (isX_LX8 j hj)
theorem isM_LA : isM LA := fun j h1 h2 => List.mem_append_right _ (isM_LX9 j h1 h2)
def Lx (G : va_G) (cs : Nat → ClassId) (p : Program) (m : MethodId) (meth : Method) (c : Code) (s : State) (b L : Nat) (xs : Nat → Int32) : Prop :=
  p.tables.exec = Jvm.exec ∧ c.code = cL_law ∧ c.maxLocals = 4 ∧ s.vm.findClass RL = some m.cls ∧ (∀ w ∈ tg, w.before #[Value.ref b] s = true) ∧ va_K G vwCl (tys cs) s ∧ Xt s ∧ va_X b L xs s s.heap ∧ b < s.heap.size
def Zl (s : State) (zk zv : Nat → Nat) : Prop := vk_S 5 zlen zbyt zk zv (AL s) s s.heap ∧ va_Z "java/lang/String" "COMPACT_STRINGS" "Z" (.int 1) (AL s) s s.heap ∧ va_Zq "jdk/internal/util/Preconditions" "SIOOBE_FORMATTER" "Ljava/util/function/BiFunction;" (AL s) s s.heap ∧ ∀ i, i < 5 → vk_R RX0 (zpool.getD i 0) (ztx.getD i "") (zk i) s
theorem Zl.use {s U : State} {zk zv ad : Nat → Nat} {H : Heap} {locs : List Loc} (h : Zl s zk zv) (hA : ∀ q, inA LA ad q → AL s q) (hS : va_S (AL s) s.heap H locs) (hU : U.heap = H) (hW : s.WarmedH U.vm) : Zs LA ad zk zv U := by
  obtain ⟨h1, h2, h3, h4⟩ := h
  refine ⟨?_, ?_, ?_, fun i hi => (h4 i hi).warm hW⟩
  · rw [hU]; exact ((h1.kept hS.2.1).narrow hA).moved hW.alike
  · rw [hU]; exact ((h2.kept hS.2.1).narrow hA).moved hW.alike
  · rw [hU]; exact ((h3.kept hS.2.1).narrow hA).moved hW.alike
section Lxs
variable {p : Program} {l : Launch} {e : Env} {s : State} {m : MethodId} {below : List Frame} {meth : Method} {c : Code} {Q : State → Prop}
variable {G : va_G} {cs : Nat → ClassId} {b L : Nat} {xs : Nat → Int32}
variable {pc : Nat} {lv : List (Option Value)} {st : List Value} {ws : va_W} {ce sl : Nat}
theorem Lx.fix (B : Lx G cs p m meth c s b L xs) : CallFix p m c cL_law 4 s #[Value.ref b] tg RL := ⟨B.1, B.2.1, B.2.2.1, B.2.2.2.1, B.2.2.2.2.1⟩
theorem Lx.w (B : Lx G cs p m meth c s b L xs) : ∀ w ∈ tg, w.before #[Value.ref b] s = true := B.2.2.2.2.1
theorem Lx.K (B : Lx G cs p m meth c s b L xs) : va_K G vwCl (tys cs) s := B.2.2.2.2.2.1
theorem Lx.X (B : Lx G cs p m meth c s b L xs) : Xt s := B.2.2.2.2.2.2.1
theorem lx_iconst (B : Lx G cs p m meth c s b L xs) {n : Int} {v : Int32} (hd : decode cL_law pc = .ok (.iconst n, 1)) (hv : Int32.ofInt n = v) (k : BW p l e room_1 s m #[Value.ref b] below meth c Q G (AL s) 4 (pc + 1) lv (.int v :: st) ws ce sl) : BW p l e room_1 s m #[Value.ref b] below meth c Q G (AL s) 4 pc lv st ws ce sl :=
  fun H locs ls hP hD hS hl => lv_iconst B.1 B.2.1 hd hv (k H locs ls hP hD hS hl)
theorem lx_bipush (B : Lx G cs p m meth c s b L xs) {n : Int} {v : Int32} (hd : decode cL_law pc = .ok (.bipush n, 2)) (hv : (Int8.ofInt n).toInt32 = v) (k : BW p l e room_1 s m #[Value.ref b] below meth c Q G (AL s) 4 (pc + 2) lv (.int v :: st) ws ce sl) : BW p l e room_1 s m #[Value.ref b] below meth c Q G (AL s) 4 pc lv st ws ce sl :=
  fun H locs ls hP hD hS hl => lv_bipush B.1 B.2.1 hd hv (k H locs ls hP hD hS hl)
theorem lx_aload_n (B : Lx G cs p m meth c s b L xs) {k : Fin 4} {x : Nat} (hd : decode cL_law pc = .ok (.aload_n k, 1)) (hl0 : lv[(k : Nat)]? = some (some (.ref x))) (kk : BW p l e room_1 s m #[Value.ref b] below meth c Q G (AL s) 4 (pc + 1) lv (.ref x :: st) ws ce sl) : BW p l e room_1 s m #[Value.ref b] below meth c Q G (AL s) 4 pc lv st ws ce sl :=
  fun H locs ls hP hD hS hl => lv_aload_n B.1 B.2.1 hd rfl (hl.2.2 _ _ hl0) (kk H locs ls hP hD hS hl)
theorem lx_iload_n (B : Lx G cs p m meth c s b L xs) {k : Fin 4} {x : Int32} (hd : decode cL_law pc = .ok (.iload_n k, 1)) (hl0 : lv[(k : Nat)]? = some (some (.int x))) (kk : BW p l e room_1 s m #[Value.ref b] below meth c Q G (AL s) 4 (pc + 1) lv (.int x :: st) ws ce sl) : BW p l e room_1 s m #[Value.ref b] below meth c Q G (AL s) 4 pc lv st ws ce sl :=
  fun H locs ls hP hD hS hl => lv_iload_n B.1 B.2.1 hd rfl (hl.2.2 _ _ hl0) (kk H locs ls hP hD hS hl)
theorem lx_istore_n (B : Lx G cs p m meth c s b L xs) {k : Fin 4} {x : Int32} (hd : decode cL_law pc = .ok (.istore_n k, 1)) (hc : cat1 lv (k : Nat) = true) (kk : BW p l e room_1 s m #[Value.ref b] below meth c Q G (AL s) 4 (pc + 1) (lv.set (k : Nat) (some (.int x))) st ws ce sl) : BW p l e room_1 s m #[Value.ref b] below meth c Q G (AL s) 4 pc lv (.int x :: st) ws ce sl :=
  fun H locs _ hP hD hS hl => lv_istore_n B.1 B.2.1 hd rfl (lvh_has hl) k.isLt rfl (fun ls' hl' => kk H locs ls' hP hD hS (lvh_store (ls := ls') hc hl'))
theorem lx_astore_n (B : Lx G cs p m meth c s b L xs) {k : Fin 4} {x : Nat} (hd : decode cL_law pc = .ok (.astore_n k, 1)) (hc : cat1 lv (k : Nat) = true) (kk : BW p l e room_1 s m #[Value.ref b] below meth c Q G (AL s) 4 (pc + 1) (lv.set (k : Nat) (some (.ref x))) st ws ce sl) : BW p l e room_1 s m #[Value.ref b] below meth c Q G (AL s) 4 pc lv (.ref x :: st) ws ce sl :=
  fun H locs _ hP hD hS hl => lv_astore_n B.1 B.2.1 hd rfl (lvh_has hl) k.isLt rfl (fun ls' hl' => kk H locs ls' hP hD hS (lvh_store (ls := ls') hc hl'))
theorem lx_iinc (B : Lx G cs p m meth c s b L xs) {i : Nat} {n : Int} {x v : Int32} (hd : decode cL_law pc = .ok (.iinc i n, 3)) (hl0 : lv[i]? = some (some (.int x))) (hv : Int32.ofInt n = v) (hk : i < 4) (hc : cat1 lv i = true) (kk : BW p l e room_1 s m #[Value.ref b] below meth c Q G (AL s) 4 (pc + 3) (lv.set i (some (.int (x + v)))) st ws ce sl) : BW p l e room_1 s m #[Value.ref b] below meth c Q G (AL s) 4 pc lv st ws ce sl := by
  intro H locs ls hP hD hS hl
  obtain ⟨k, hk0⟩ := lvP_idx hl0
  exact lv_iinc B.1 B.2.1 hd (lvh_has hl) hk0 (by rw [hv]) hk rfl (fun ls' hl' => kk H locs ls' hP hD hS (lvh_store (ls := ls') hc hl'))
theorem lx_dup (B : Lx G cs p m meth c s b L xs) {v : Value} (hd : decode cL_law pc = .ok (.dup, 1)) (hv : v.category = 1) (k : BW p l e room_1 s m #[Value.ref b] below meth c Q G (AL s) 4 (pc + 1) lv (v :: v :: st) ws ce sl) : BW p l e room_1 s m #[Value.ref b] below meth c Q G (AL s) 4 pc lv (v :: st) ws ce sl :=
  fun H locs ls hP hD hS hl => lv_dup B.1 B.2.1 hd hv (k H locs ls hP hD hS hl)
theorem lx_goto (B : Lx G cs p m meth c s b L xs) {o : Int} {t : Nat} (hd : decode cL_law pc = .ok (.goto o, 3)) (ht : (pc : Int) + o = (t : Int)) (k : BW p l e room_1 s m #[Value.ref b] below meth c Q G (AL s) 4 t lv st ws ce sl) : BW p l e room_1 s m #[Value.ref b] below meth c Q G (AL s) 4 pc lv st ws ce sl :=
  fun H locs ls hP hD hS hl => lv_goto B.1 B.2.1 hd ht (k H locs ls hP hD hS hl)
theorem lx_icmp_gt (B : Lx G cs p m meth c s b L xs) {x y : Int32} {o : Int} {t : Nat} (hd : decode cL_law pc = .ok (.if_icmp .gt o, 3)) (ht : (pc : Int) + o = (t : Int)) (kt : y < x → BW p l e room_1 s m #[Value.ref b] below meth c Q G (AL s) 4 t lv st ws ce sl) (kf : ¬ y < x → BW p l e room_1 s m #[Value.ref b] below meth c Q G (AL s) 4 (pc + 3) lv st ws ce sl) : BW p l e room_1 s m #[Value.ref b] below meth c Q G (AL s) 4 pc lv (.int y :: .int x :: st) ws ce sl :=
  fun H locs ls hP hD hS hl => lv_icmp_gt B.1 B.2.1 hd ht (fun h => kt h H locs ls hP hD hS hl) (fun h => kf h H locs ls hP hD hS hl)
theorem lx_icmp_eq (B : Lx G cs p m meth c s b L xs) {x y : Int32} {o : Int} {t : Nat} (hd : decode cL_law pc = .ok (.if_icmp .eq o, 3)) (ht : (pc : Int) + o = (t : Int)) (kt : x = y → BW p l e room_1 s m #[Value.ref b] below meth c Q G (AL s) 4 t lv st ws ce sl) (kf : ¬ x = y → BW p l e room_1 s m #[Value.ref b] below meth c Q G (AL s) 4 (pc + 3) lv st ws ce sl) : BW p l e room_1 s m #[Value.ref b] below meth c Q G (AL s) 4 pc lv (.int y :: .int x :: st) ws ce sl :=
  fun H locs ls hP hD hS hl => lv_icmp_eq B.1 B.2.1 hd ht (fun h => kt h H locs ls hP hD hS hl) (fun h => kf h H locs ls hP hD hS hl)
theorem lx_iadd (B : Lx G cs p m meth c s b L xs) {x y : Int32} (hd : decode cL_law pc = .ok (.iadd, 1)) (k : BW p l e room_1 s m #[Value.ref b] below meth c Q G (AL s) 4 (pc + 1) lv (.int (x + y) :: st) ws ce sl) : BW p l e room_1 s m #[Value.ref b] below meth c Q G (AL s) 4 pc lv (.int y :: .int x :: st) ws ce sl :=
  fun H locs ls hP hD hS hl => lv_iadd B.1 B.2.1 hd (k H locs ls hP hD hS hl)
theorem lx_isub (B : Lx G cs p m meth c s b L xs) {x y : Int32} (hd : decode cL_law pc = .ok (.isub, 1)) (k : BW p l e room_1 s m #[Value.ref b] below meth c Q G (AL s) 4 (pc + 1) lv (.int (x - y) :: st) ws ce sl) : BW p l e room_1 s m #[Value.ref b] below meth c Q G (AL s) 4 pc lv (.int y :: .int x :: st) ws ce sl :=
  fun H locs ls hP hD hS hl => lv_isub B.1 B.2.1 hd (k H locs ls hP hD hS hl)
theorem lx_iand (B : Lx G cs p m meth c s b L xs) {x y : Int32} (hd : decode cL_law pc = .ok (.iand, 1)) (k : BW p l e room_1 s m #[Value.ref b] below meth c Q G (AL s) 4 (pc + 1) lv (.int (x &&& y) :: st) ws ce sl) : BW p l e room_1 s m #[Value.ref b] below meth c Q G (AL s) 4 pc lv (.int y :: .int x :: st) ws ce sl :=
  fun H locs ls hP hD hS hl => lv_iand B.1 B.2.1 hd (k H locs ls hP hD hS hl)
theorem lx_slen (B : Lx G cs p m meth c s b L xs) (hd : decode cL_law pc = .ok (.arraylength, 1)) (k : BW p l e room_1 s m #[Value.ref b] below meth c Q G (AL s) 4 (pc + 1) lv (.int (nI L) :: st) ws ce sl) : BW p l e room_1 s m #[Value.ref b] below meth c Q G (AL s) 4 pc lv (.ref b :: st) ws ce sl :=
  fun H locs ls hP hD hS hl => va_slen (A := AL s) B.1 B.2.1 B.2.2.2.2.2.2.2.1 B.2.2.2.2.2.2.2.2 (Nat.not_le.mpr B.2.2.2.2.2.2.2.2) hS hd (k H locs ls hP hD hS hl)
theorem lx_sld (B : Lx G cs p m meth c s b L xs) {i : Nat} (hi : i < L) (hL : L < 2 ^ 31) (hd : decode cL_law pc = .ok (.iaload, 1)) (k : BW p l e room_1 s m #[Value.ref b] below meth c Q G (AL s) 4 (pc + 1) lv (.int (xs i) :: st) ws ce sl) : BW p l e room_1 s m #[Value.ref b] below meth c Q G (AL s) 4 pc lv (.int (nI i) :: .ref b :: st) ws ce sl := by
  intro H locs ls hP hD hS hl
  refine va_sld (A := AL s) B.1 B.2.1 B.2.2.2.2.2.2.2.1 B.2.2.2.2.2.2.2.2 (Nat.not_le.mpr B.2.2.2.2.2.2.2.2) hS (okI_in (okI_nI hi hL)) hd ?_
  rw [nI_clamp (by omega)]
  exact k H locs ls hP hD hS hl
theorem lx_arg (B : Lx G cs p m meth c s b L xs) {i j : Nat} {n : Int} (hv : Int32.ofInt n = nI j) (h0 : lv[0]? = some (some (.ref b))) (h3 : lv[3]? = some (some (.int (nI i)))) (hi : i + j < L) (hL : L < 2 ^ 31) (d0 : decode cL_law pc = .ok (.aload_n 0, 1)) (d1 : decode cL_law (pc + 1) = .ok (.iload_n 3, 1)) (d2 : decode cL_law (pc + 2) = .ok (.iconst n, 1)) (d3 : decode cL_law (pc + 3) = .ok (.iadd, 1)) (d4 : decode cL_law (pc + 4) = .ok (.iaload, 1)) (k : BW p l e room_1 s m #[Value.ref b] below meth c Q G (AL s) 4 (pc + 5) lv (.int (xs (i + j)) :: st) ws ce sl) : BW p l e room_1 s m #[Value.ref b] below meth c Q G (AL s) 4 pc lv st ws ce sl := by
  refine lx_aload_n B d0 h0 ?_
  refine lx_iload_n B d1 h3 ?_
  refine lx_iconst B d2 hv ?_
  refine lx_iadd B d3 ?_
  rw [nI_add]
  exact lx_sld B hi hL d4 k
theorem lx_tabOut (B : Lx G cs p m meth c s b L xs) {dflt lo hi : Int} {offs : Array Int} {len : Nat} {x : Int32} {tgt : Nat} (hd : decode cL_law pc = .ok (.tableswitch dflt lo hi offs, len)) (h : x.toInt < lo ∨ hi < x.toInt) (ht : (pc : Int) + dflt = (tgt : Int)) (k : BW p l e room_1 s m #[Value.ref b] below meth c Q G (AL s) 4 tgt lv st ws ce sl) : BW p l e room_1 s m #[Value.ref b] below meth c Q G (AL s) 4 pc lv (.int x :: st) ws ce sl :=
  fun H locs ls hP hD hS hl => lv_tableOut B.1 B.2.1 hd h ht (k H locs ls hP hD hS hl)
theorem lx_tabIn (B : Lx G cs p m meth c s b L xs) {dflt lo hi : Int} {offs : Array Int} {len : Nat} {x : Int32} {off : Int} {tgt : Nat} (hd : decode cL_law pc = .ok (.tableswitch dflt lo hi offs, len)) (h1 : ¬ x.toInt < lo) (h2 : ¬ hi < x.toInt) (ho : offs[(x.toInt - lo).toNat]? = some off) (ht : (pc : Int) + off = (tgt : Int)) (k : BW p l e room_1 s m #[Value.ref b] below meth c Q G (AL s) 4 tgt lv st ws ce sl) : BW p l e room_1 s m #[Value.ref b] below meth c Q G (AL s) 4 pc lv (.int x :: st) ws ce sl :=
  fun H locs ls hP hD hS hl => lv_tableIn B.1 B.2.1 hd h1 h2 ho ht (k H locs ls hP hD hS hl)
theorem lx_new (B : Lx G cs p m meth c s b L xs) {C : String} {T : u_T} {N ci i : Nat} (fs : List Value) (hin : ∀ w ∈ u_ws C T N, w ∈ tg) (ty : Nat → FieldType) (hty : ∀ k, k < N → parseFieldDescriptor (T k).2.2.1 = some (ty k)) (hcl : Cond.classLink RL i C ∈ tg) (hinst : Cond.instantiable C N ∈ tg) (hini : Cond.initialized C ∈ tg) (hc : vwCl[ci]? = some (C, T, N)) (hfs : ∀ j, j < N → defaultValue (ty j) = vp_V fs j) (hce : ce + 1 ≤ room_1.cells) (hsl : sl + N ≤ room_1.slots) (hd : decode cL_law pc = .ok (.new i, 3))
    (k : ∀ q : Nat, BW p l e room_1 s m #[Value.ref b] below meth c Q G (AL s) 4 (pc + 3) lv (.ref q :: st) (ws ++ [(q, .inr (ci, fs))]) (ce + 1) (sl + N)) : BW p l e room_1 s m #[Value.ref b] below meth c Q G (AL s) 4 pc lv st ws ce sl :=
  fun H locs ls hP hD hS hl0 => va_new B.1 B.2.1 B.w hin ty hty B.2.2.2.1 (B.w _ hcl) (B.w _ hinst) (B.w _ hini) B.K hP hD hS (fun _ h => h) hc hfs hce hsl hd (fun q H1 hP1 hD1 hS1 => k q H1 locs ls hP1 hD1 hS1 hl0)
theorem lx_init (B : Lx G cs p m meth c s b L xs) {y : MethodName} {by' : ByteArray} {maxL i a ci q mc ms : Nat} {rm : Room} {fs0 : List Value} {Lc : List Nat} {Ph : Mm → Prop} (hM : Ctor l y by' maxL rm G cs ci fs0 Lc a Ph mc ms) (hk : Cond.code y by' maxL none ∈ tg) (hz : Cond.initialized y.cls ∈ tg) (hi : Cond.instanceMethod y ∈ tg) (hl : Cond.methodLink RL i y ∈ tg) (ho : okM room_1 y maxL mc ms ce sl rm) (hsum : (st.map fun v => v.category).sum ≤ 8) (hd : decode cL_law pc = .ok (.invokespecial i, 3))
    (k : ∀ (adc : Nat → Nat) (Mc : Mm), adc a = q → Ph Mc → BW p l e room_1 s m #[Value.ref b] below meth c Q G (AL s) 4 (pc + 3) lv st (ws ++ wsO Lc adc cs Mc) (ce + mc) (sl + ms)) : BW p l e room_1 s m #[Value.ref b] below meth c Q G (AL s) 4 pc lv (.ref q :: st) (ws ++ [(q, .inr (ci, fs0))]) ce sl := by
  intro H locs ls hP hD hS hl0
  have hF := free1 hD hS (fun _ h => h)
  obtain ⟨hPc, hDc⟩ := sub1 hP hD
  refine va_callv (va_runI (As := []) (rest := st) B.fix (hM q H.size) ⟨callB_of 0 B.w (tg_good hk) rfl ho.2.2.1 ho.2.2.2.1 (B.w _ hz) (B.w _ hl) ho.1 ho.2.2.2.2.1, ho.2.1, B.w _ hi⟩ ⟨CPre.blind, fun U hU hW => ⟨rfl, by rw [hU], by rw [hU]; exact hPc, va_K.moved hW.alike B.K, hDc.weaken (fun _ _ _ _ => trivial), B.X.warm hW⟩⟩ rfl rfl hl0.1 rfl (lv_room hsum) hd ho.2.2.2.2.2) hS (fun q _ h => hF q h) hF (fun u t H1 locs1 ht hvm hw hB hz1 hk1 hS1 => ?_)
  obtain ⟨hP1, hD1⟩ := hB
  rw [ht] at hP1
  obtain ⟨hP2, hD2⟩ := join1 hP hD hk1 hF hP1 hD1
  exact k u.1 u.2 hw.1 hw.2 H1 locs1 ls hP2 hD2 hS1 hl0
theorem lx_call (B : Lx G cs p m meth c s b L xs) {zk zv : Nat → Nat} (hZ : Zl s zk zv) {y : MethodName} {by' : ByteArray} {maxL i a ci : Nat} {rm : Room} {As : List Value} {st0 : List Value} {fs : (Nat → Int32) → List Value} {T : u_T} {N : Nat} {M M' : Mm} {r : Int32} {ad : Nat → Nat} (hM : inj LA ad → Met l y (tgW y by' maxL (some .int)) rm (APre G LA ad cs true zk zv (.ref (ad a) :: As) M) (AQi G LA ad cs r M') 0 0 (inA LA ad)) (hob : isOb LA ad cs a ci fs) (hc : vwCl[ci]? = some (y.cls, T, N)) (hk : Cond.code y by' maxL (some .int) ∈ tg) (hz : Cond.initialized y.cls ∈ tg) (hi : Cond.instanceMethod y ∈ tg) (hse : Cond.selects y.cls y y ∈ tg) (hl : Cond.methodLink RL i y ∈ tg) (ho : okC room_1 y maxL As.length rm) (hst : st0 = As.reverse ++ .ref (ad a) :: st) (hsum : (st.map fun v => v.category).sum ≤ 8) (hce : ce ≤ room_1.cells) (hsl : sl ≤ room_1.slots) (hd : decode cL_law pc = .ok (.invokevirtual i, 3))
    (kk : BW p l e room_1 s m #[Value.ref b] below meth c Q G (AL s) 4 (pc + 3) lv (.int r :: st) (wsO LA ad cs M') ce sl) : BW p l e room_1 s m #[Value.ref b] below meth c Q G (AL s) 4 pc lv st0 (wsO LA ad cs M) ce sl := by
  intro H locs ls hP hD hS hl0
  obtain ⟨k0, hk0⟩ := List.getElem?_of_mem hob.1
  have he : (wsO LA ad cs M)[k0]? = some (ad a, .inr (ci, fs (M a))) := by rw [wsO_get ad cs M hk0, hob.2]
  refine va_calli (va_runV B.fix (hM (inj_of nd_LA hD)) ⟨callB_of As.length B.w (tg_good hk) rfl ho.2.1 ho.2.2.1 (B.w _ hz) (B.w _ hl) ho.1 ho.2.2.2, B.w _ hi, B.w _ hse⟩ ⟨APre.blind, va_recv B.K hP hc he, fun U hU hW => ⟨rfl, by rw [hU]; exact hP, va_K.moved hW.alike B.K, fun _ => hZ.use (inA_of hD) hS hU hW⟩⟩ rfl rfl hl0.1 hst (lv_room hsum) hd ⟨hce, hsl⟩) hS (fun q _ h => inA_of hD q h) (inA_of hD) (fun r' u t H1 locs1 ht hvm hw hB hz1 hk1 hS1 => ?_)
  subst hw
  have hB : va_P G vwCl (wsO LA ad cs M') t.heap := hB
  rw [ht] at hB
  exact kk H1 locs1 ls hB (va_D_fst (by rw [wsO_fst, wsO_fst]) hD) hS1 hl0
end Lxs
