/-! the five words as Strings: length and charAt -/
def slen (w : Nat) : Int32 := Int32.ofNat (zlen.getD w 0)
def schar (w : Nat) (j : Int32) : Int32 := (zbyt.getD w []).getD (ix j) 0
section Str
variable {p : Program} {l : Launch} {e : Env} {R : Room} {s : State} {m : MethodId} {args : Array Value} {below : List Frame} {meth : Method} {c : Code} {Q : State → Prop}
variable {G : va_G} {L : List Nat} {ad : Nat → Nat} {cs : Nat → ClassId} {z : Bool} {zk zv : Nat → Nat} {cc : ByteArray} {nL : Nat} {ret : Option FieldType} {own : String}
variable {pc : Nat} {lv : List (Option Value)} {st : List Value} {M : Mm}
theorem ax_ldcS (hz0 : z = true) (F : Fx G L ad cs z zk zv p m meth c cc nL ret s args RX0) (w : Nat) (hw : w < 5) {i : Nat} (hp : zpool.getD w 0 = i) (hd : decode cc pc = .ok (.ldc i, 2))
    (k : AW p l e R s m args below meth c Q G L ad cs nL (pc + 2) lv (.ref (zk w) :: st) M) : AW p l e R s m args below meth c Q G L ad cs nL pc lv st M := by
  intro H locs ls hP hS hl
  have hZ := (F.2.2.2.2.2.2.2.1 hz0).2.2.2 w hw
  rw [hp] at hZ
  exact va_ldcS F.1 F.2.1 F.2.2.2.1 hZ hd (k H locs ls hP hS hl)
theorem ax_gets (F : Fx G L ad cs z zk zv p m meth c cc nL ret s args own) {C n d : String} {v : Value} {i : Nat} (hZ : va_Z C n d v (inA L ad) s s.heap) (hl : Cond.fieldLink own i C n d ∈ tg) (hd : decode cc pc = .ok (.getstatic i, 3))
    (k : AW p l e R s m args below meth c Q G L ad cs nL (pc + 3) lv (v :: st) M) : AW p l e R s m args below meth c Q G L ad cs nL pc lv st M :=
  fun H locs ls hP hS hl0 => va_gets F.1 F.2.1 hZ hS F.2.2.2.1 (F.2.2.2.2.1 _ hl) (fun _ h => h) hd (k H locs ls hP hS hl0)
theorem ax_sget (F : Fx G L ad cs z zk zv p m meth c cc nL ret s args own) {o n d : String} {v : Value} {i q : Nat} (hE : va_OF o n d v q (inA L ad) s s.heap) (hl : Cond.fieldLink own i o n d ∈ tg) (hd : decode cc pc = .ok (.getfield i, 3))
    (k : AW p l e R s m args below meth c Q G L ad cs nL (pc + 3) lv (v :: st) M) : AW p l e R s m args below meth c Q G L ad cs nL pc lv (.ref q :: st) M :=
  fun H locs ls hP hS hl0 => vk_getf F.1 F.2.1 hE hS F.2.2.2.1 (F.2.2.2.2.1 _ hl) (fun _ h => h) hd (k H locs ls hP hS hl0)
theorem ax_tlen (F : Fx G L ad cs z zk zv p m meth c cc nL ret s args own) {ty : FieldType} {t N : Nat} {f : Nat → Value} (hT : va_T ty t N f (inA L ad) s s.heap) (hd : decode cc pc = .ok (.arraylength, 1))
    (k : AW p l e R s m args below meth c Q G L ad cs nL (pc + 1) lv (.int (Int32.ofNat N) :: st) M) : AW p l e R s m args below meth c Q G L ad cs nL pc lv (.ref t :: st) M :=
  fun H locs ls hP hS hl0 => va_tlen F.1 F.2.1 hT hS rfl hd (k H locs ls hP hS hl0)
theorem ax_tb (F : Fx G L ad cs z zk zv p m meth c cc nL ret s args own) {t N : Nat} {f : Nat → Value} (hT : va_T .byte t N f (inA L ad) s s.heap) {i : Int32} (hi : okI i N = true) {v : Value} (hv : f i.toNatClampNeg = v) (hd : decode cc pc = .ok (.baload, 1))
    (k : AW p l e R s m args below meth c Q G L ad cs nL (pc + 1) lv (v :: st) M) : AW p l e R s m args below meth c Q G L ad cs nL pc lv (.int i :: .ref t :: st) M :=
  fun H locs ls hP hS hl0 => va_tb F.1 F.2.1 hT hS (okI_in hi) hv hd (k H locs ls hP hS hl0)
theorem ax_i2c (F : Fx G L ad cs z zk zv p m meth c cc nL ret s args own) {x : Int32} {v : Int32} (hv : (x.toUInt32 % 65536).toInt32 = v) (hd : decode cc pc = .ok (.i2c, 1))
    (k : AW p l e R s m args below meth c Q G L ad cs nL (pc + 1) lv (.int v :: st) M) : AW p l e R s m args below meth c Q G L ad cs nL pc lv (.int x :: st) M :=
  fun H locs ls hP hS hl0 => lv_i2c F.1 F.2.1 hd hv (k H locs ls hP hS hl0)
theorem ax_tret {ty : FieldType} (F : Fx G L ad cs z zk zv p m meth c cc nL (some ty) s args own) {v : Int32} (hn : narrow ty (.int v) = .int v) (hd : decode cc pc = .ok (.ireturn, 1)) :
    AW p l e R s m args below meth c (MQ below (AQi G L ad cs v M) args s 0 0 (inA L ad)) G L ad cs nL pc lv [.int v] M := by
  intro H locs ls hP hS hl0
  have hlocks : meth.locks = false := F.2.2.2.2.2.2.2.2.2
  exact W.zret F.1 F.2.1 F.2.2.2.2.2.2.2.2.1 hn (fun t ht hW => ⟨⟨v, (), rfl, rfl, by show va_P _ _ _ t.heap; rw [ht]; exact hP⟩, hS.F ht⟩) hS.2.2 hd
/-- a call on a word -/
theorem ax_callW {y : MethodName} {by' : ByteArray} {maxL i w : Nat} {ry : Option FieldType} {rm : Room} {As : List Value} {st0 : List Value} {r : Int32} {M' : Mm} (hz0 : z = true) (F : Fx G L ad cs z zk zv p m meth c cc nL ret s args own) (hM : Met l y (tgW y by' maxL ry) rm (APre G L ad cs z zk zv (.ref (zk w) :: As) M) (AQi G L ad cs r M') 0 0 (inA L ad)) (hw : w < 5) (hc : y.cls = "java/lang/String") (hk : Cond.code y by' maxL ry ∈ tg) (hz : Cond.initialized y.cls ∈ tg) (hi : Cond.instanceMethod y ∈ tg) (hse : Cond.selects y.cls y y ∈ tg) (hl : Cond.methodLink own i y ∈ tg) (ho : okC R y maxL As.length rm) (hst : st0 = As.reverse ++ .ref (zk w) :: st) (hsum : (st.map fun v => v.category).sum ≤ 8) (hd : decode cc pc = .ok (.invokevirtual i, 3))
    (kk : AW p l e R s m args below meth c Q G L ad cs nL (pc + 3) lv (.int r :: st) M') : AW p l e R s m args below meth c Q G L ad cs nL pc lv st0 M := by
  intro H locs ls hP hS hl0
  have hr := vk_recv (F.2.2.2.2.2.2.2.1 hz0).1 hw hS
  rw [← hc] at hr
  refine va_calli (va_runV F.fix hM ⟨ax_cB F hk hz hl ho, F.2.2.2.2.1 _ hi, F.2.2.2.2.1 _ hse⟩ ⟨APre.blind, hr, ax_pre F hP hS⟩ rfl rfl hl0.1 hst (lv_room hsum) hd ⟨Nat.zero_le _, Nat.zero_le _⟩) hS (fun _ _ h => h) (fun _ h => h) (fun r' u t H1 locs1 ht hvm hw hB hz1 hk1 hS1 => ?_)
  subst hw
  have hB : va_P G vwCl (wsO L ad cs M') t.heap := hB
  rw [ht] at hB
  exact kk H1 locs1 ls hB hS1 hl0
end Str
section StrM
variable {l : Launch} {G : va_G} {L : List Nat} {ad : Nat → Nat} {cs : Nat → ClassId} {z : Bool} {zk zv : Nat → Nat}
def rmJa : Room := { frames := 0, cells := 0, slots := 0, locals := 0 }
def rmJb : Room := { frames := 1, cells := 0, slots := 0, locals := 22 }
def rmJc : Room := { frames := 2, cells := 0, slots := 0, locals := 43 }
def rmJd : Room := { frames := 3, cells := 0, slots := 0, locals := 64 }
theorem tJ_coder (hz0 : z = true) (hinj : inj L ad) (w : Nat) (hw : w < 5) (M : Mm) : Met l yJ0_coder_7d493 (tgW yJ0_coder_7d493 cJ0_coder_7d493 1 (some .byte)) rmJa (APre G L ad cs z zk zv [.ref (zk w)] M) (AQi G L ad cs 0 M) 0 0 (inA L ad) := by
  refine met_of (Eq.refl true) (Nat.le_of_ble_eq_true rfl) hinj [some (.ref (zk w))] rfl ?_
  intro p e s m below meth c F
  replace F : Fx G L ad cs z zk zv p m meth c cJ0_coder_7d493 1 (some .byte) s _ RJ0 := F
  refine ax_gets F (F.2.2.2.2.2.2.2.1 hz0).2.1 kf_J0_38 dJ0_coder_7d493_0 ?_
  refine ax_if_eq (t := 13) F dJ0_coder_7d493_3 (by decide) (fun hc => absurd hc (by decide)) (fun _ => ?_)
  refine ax_aload_n F dJ0_coder_7d493_6 rfl ?_
  refine ax_sget F ((F.2.2.2.2.2.2.2.1 hz0).1.1 w hw).2.1 kf_J0_15 dJ0_coder_7d493_7 ?_
  refine ax_goto (t := 14) F dJ0_coder_7d493_10 (by decide) ?_
  exact ax_tret F (by decide) dJ0_coder_7d493_14
theorem tJ_latin (hz0 : z = true) (hinj : inj L ad) (w : Nat) (hw : w < 5) (M : Mm) : Met l yJ0_isLatin1_aae02 (tgW yJ0_isLatin1_aae02 cJ0_isLatin1_aae02 1 (some .boolean)) rmJa (APre G L ad cs z zk zv [.ref (zk w)] M) (AQi G L ad cs 1 M) 0 0 (inA L ad) := by
  refine met_of (Eq.refl true) (Nat.le_of_ble_eq_true rfl) hinj [some (.ref (zk w))] rfl ?_
  intro p e s m below meth c F
  replace F : Fx G L ad cs z zk zv p m meth c cJ0_isLatin1_aae02 1 (some .boolean) s _ RJ0 := F
  refine ax_gets F (F.2.2.2.2.2.2.2.1 hz0).2.1 kf_J0_38 dJ0_isLatin1_aae02_0 ?_
  refine ax_if_eq (t := 17) F dJ0_isLatin1_aae02_3 (by decide) (fun hc => absurd hc (by decide)) (fun _ => ?_)
  refine ax_aload_n F dJ0_isLatin1_aae02_6 rfl ?_
  refine ax_sget F ((F.2.2.2.2.2.2.2.1 hz0).1.1 w hw).2.1 kf_J0_15 dJ0_isLatin1_aae02_7 ?_
  refine ax_if_ne (t := 17) F dJ0_isLatin1_aae02_10 (by decide) (fun hc => absurd rfl hc) (fun _ => ?_)
  refine ax_iconst (v := (1 : Int32)) F dJ0_isLatin1_aae02_13 (by decide) ?_
  refine ax_goto (t := 18) F dJ0_isLatin1_aae02_14 (by decide) ?_
  exact ax_tret F (by decide) dJ0_isLatin1_aae02_18
theorem kn_J0c : yJ0_coder_7d493.cls ≠ "java/lang/invoke/MethodHandle" ∧ yJ0_coder_7d493.cls ≠ "java/lang/invoke/VarHandle" ∧ (parseMethodDescriptor yJ0_coder_7d493.desc).map (fun d => d.parameters.length) = some 0 := by decide +kernel
theorem kn_J0l : yJ0_isLatin1_aae02.cls ≠ "java/lang/invoke/MethodHandle" ∧ yJ0_isLatin1_aae02.cls ≠ "java/lang/invoke/VarHandle" ∧ (parseMethodDescriptor yJ0_isLatin1_aae02.desc).map (fun d => d.parameters.length) = some 0 := by decide +kernel
theorem kn_J0n : yJ0_length_8abf5.cls ≠ "java/lang/invoke/MethodHandle" ∧ yJ0_length_8abf5.cls ≠ "java/lang/invoke/VarHandle" ∧ (parseMethodDescriptor yJ0_length_8abf5.desc).map (fun d => d.parameters.length) = some 0 := by decide +kernel
theorem kn_J0a : yJ0_charAt_5068e.cls ≠ "java/lang/invoke/MethodHandle" ∧ yJ0_charAt_5068e.cls ≠ "java/lang/invoke/VarHandle" ∧ (parseMethodDescriptor yJ0_charAt_5068e.desc).map (fun d => d.parameters.length) = some 1 := by decide +kernel
theorem kn_J0k : yJ0_checkIndex_df160.cls ≠ "java/lang/invoke/MethodHandle" ∧ yJ0_checkIndex_df160.cls ≠ "java/lang/invoke/VarHandle" ∧ (parseMethodDescriptor yJ0_checkIndex_df160.desc).map (fun d => d.parameters.length) = some 2 := by decide +kernel
theorem kn_J1a : yJ1_charAt_3b067.cls ≠ "java/lang/invoke/MethodHandle" ∧ yJ1_charAt_3b067.cls ≠ "java/lang/invoke/VarHandle" ∧ (parseMethodDescriptor yJ1_charAt_3b067.desc).map (fun d => d.parameters.length) = some 2 := by decide +kernel
theorem kn_J3k : yJ3_checkIndex_8e157.cls ≠ "java/lang/invoke/MethodHandle" ∧ yJ3_checkIndex_8e157.cls ≠ "java/lang/invoke/VarHandle" ∧ (parseMethodDescriptor yJ3_checkIndex_8e157.desc).map (fun d => d.parameters.length) = some 3 := by decide +kernel
theorem slen_sh : ∀ w, w < 5 → isr (Int32.ofNat (zlen.getD w 0)) 0 = slen w := by decide +kernel
theorem tJ_length (hz0 : z = true) (hinj : inj L ad) (w : Nat) (hw : w < 5) (M : Mm) : Met l yJ0_length_8abf5 (tgW yJ0_length_8abf5 cJ0_length_8abf5 1 (some .int)) rmJb (APre G L ad cs z zk zv [.ref (zk w)] M) (AQi G L ad cs (slen w) M) 0 0 (inA L ad) := by
  refine met_of (Eq.refl true) (Nat.le_of_ble_eq_true rfl) hinj [some (.ref (zk w))] rfl ?_
  intro p e s m below meth c F
  replace F : Fx G L ad cs z zk zv p m meth c cJ0_length_8abf5 1 (some .int) s _ RJ0 := F
  refine ax_aload_n F dJ0_length_8abf5_0 rfl ?_
  refine ax_sget F ((F.2.2.2.2.2.2.2.1 hz0).1.1 w hw).2.2.1 kf_J0_9 dJ0_length_8abf5_1 ?_
  refine ax_tlen F ((F.2.2.2.2.2.2.2.1 hz0).1.1 w hw).2.2.2 dJ0_length_8abf5_4 ?_
  refine ax_aload_n F dJ0_length_8abf5_5 rfl ?_
  refine ax_callW (As := []) (st := [.int (Int32.ofNat (zlen.getD w 0))]) hz0 F (tJ_coder hz0 hinj w hw M) hw rfl kc_J0_coder_7d493 kz_J0 ki_J0_coder_7d493 ks_J0_coder_7d493 km_J0_335 ⟨kn_J0c, rfl, rfl, Nat.le_of_ble_eq_true rfl, Nat.le_of_ble_eq_true rfl⟩ rfl (Nat.le_of_ble_eq_true rfl) dJ0_length_8abf5_6 ?_
  refine ax_ishr F dJ0_length_8abf5_9 ?_
  rw [slen_sh w hw]
  exact ax_iret F dJ0_length_8abf5_10
theorem tJ_pchk (hz0 : z = true) (hinj : inj L ad) {x n : Int32} (v : Value) (hv : v = .null ∨ ∃ t, v = .ref t) (h0 : ¬ x < 0) (hn : x < n) (M : Mm) : Met l yJ3_checkIndex_8e157 (tgW yJ3_checkIndex_8e157 cJ3_checkIndex_8e157 3 (some .int)) rmJa (APre G L ad cs z zk zv [.int x, .int n, v] M) (AQi G L ad cs x M) 0 0 (inA L ad) := by
  have e1 : (lg_sl [.int x, .int n, v]).length ≤ 3 := by rcases hv with rfl | ⟨t, rfl⟩ <;> exact Nat.le_of_ble_eq_true rfl
  have e2 : [some (.int x), some (.int n), some v] = enl [.int x, .int n, v] ++ List.replicate (3 - (enl [.int x, .int n, v]).length) none := by rcases hv with rfl | ⟨t, rfl⟩ <;> rfl
  refine met_of (Eq.refl true) e1 hinj [some (.int x), some (.int n), some v] e2 ?_
  intro p e s m below meth c F
  replace F : Fx G L ad cs z zk zv p m meth c cJ3_checkIndex_8e157 3 (some .int) s _ RJ3 := F
  refine ax_iload_n F dJ3_checkIndex_8e157_0 rfl ?_
  refine ax_if_lt (t := 9) F dJ3_checkIndex_8e157_1 (by decide) (fun hc => absurd hc h0) (fun _ => ?_)
  refine ax_iload_n F dJ3_checkIndex_8e157_4 rfl ?_
  refine ax_iload_n F dJ3_checkIndex_8e157_5 rfl ?_
  refine ax_icmp_lt (t := 16) F dJ3_checkIndex_8e157_6 (by decide) (fun _ => ?_) (fun hc => absurd hn hc)
  refine ax_iload_n F dJ3_checkIndex_8e157_16 rfl ?_
  exact ax_iret F dJ3_checkIndex_8e157_17
theorem tJ_chk (hz0 : z = true) (hinj : inj L ad) {x n : Int32} (h0 : ¬ x < 0) (hn : x < n) (M : Mm) : Met l yJ0_checkIndex_df160 (tgW yJ0_checkIndex_df160 cJ0_checkIndex_df160 2 none) rmJb (APre G L ad cs z zk zv [.int x, .int n] M) (AQv G L ad cs M) 0 0 (inA L ad) := by
  refine met_of (Eq.refl true) (Nat.le_of_ble_eq_true rfl) hinj [some (.int x), some (.int n)] rfl ?_
  intro p e s m below meth c F
  replace F : Fx G L ad cs z zk zv p m meth c cJ0_checkIndex_df160 2 none s _ RJ0 := F
  refine ax_iload_n F dJ0_checkIndex_df160_0 rfl ?_
  refine ax_iload_n F dJ0_checkIndex_df160_1 rfl ?_
  rcases (F.2.2.2.2.2.2.2.1 hz0).2.2.1 with hz | ⟨t, hz⟩
  · refine ax_gets F hz kf_J0_1053 dJ0_checkIndex_df160_2 ?_
    refine ax_callSi (As := [.int x, .int n, .null]) (st := []) F (tJ_pchk hz0 hinj .null (Or.inl rfl) h0 hn M) kc_J3_checkIndex_8e157 kz_J3 kt_J3_checkIndex_8e157 km_J0_1059 ⟨kn_J3k, rfl, rfl, Nat.le_of_ble_eq_true rfl, Nat.le_of_ble_eq_true rfl⟩ rfl (Nat.le_of_ble_eq_true rfl) dJ0_checkIndex_df160_5 ?_
    refine ax_pop F dJ0_checkIndex_df160_8 rfl ?_
    exact ax_vret F dJ0_checkIndex_df160_9
  · refine ax_gets F hz kf_J0_1053 dJ0_checkIndex_df160_2 ?_
    refine ax_callSi (As := [.int x, .int n, .ref t]) (st := []) F (tJ_pchk hz0 hinj (.ref t) (Or.inr ⟨t, rfl⟩) h0 hn M) kc_J3_checkIndex_8e157 kz_J3 kt_J3_checkIndex_8e157 km_J0_1059 ⟨kn_J3k, rfl, rfl, Nat.le_of_ble_eq_true rfl, Nat.le_of_ble_eq_true rfl⟩ rfl (Nat.le_of_ble_eq_true rfl) dJ0_checkIndex_df160_5 ?_
    refine ax_pop F dJ0_checkIndex_df160_8 rfl ?_
    exact ax_vret F dJ0_checkIndex_df160_9
theorem schar_ok : ∀ w, w < 5 → ∀ j, j < zlen.getD w 0 → ((((zbyt.getD w []).getD j 0 &&& 255).toUInt32 % 65536).toInt32 = (zbyt.getD w []).getD j 0) ∧ narrow .char (.int ((zbyt.getD w []).getD j 0)) = .int ((zbyt.getD w []).getD j 0) := by decide +kernel
theorem zlen_small : ∀ w, w < 5 → zlen.getD w 0 < 5 := by decide
theorem okI_bd {x : Int32} {n : Nat} (hn : n < 2 ^ 31) (h : okI x n = true) : (¬ x < 0) ∧ x < Int32.ofNat n := by
  simp only [okI, Bool.and_eq_true, decide_eq_true_eq] at h
  obtain ⟨j, hj, rfl⟩ := vp_in_of (vp_in_iff.mpr h) hn
  exact ⟨nI_pos (by omega), nI_lt hj hn⟩
theorem tJ_lchar (hz0 : z = true) (hinj : inj L ad) (w : Nat) (hw : w < 5) {x : Int32} (hx : okI x (zlen.getD w 0) = true) (M : Mm) : Met l yJ1_charAt_3b067 (tgW yJ1_charAt_3b067 cJ1_charAt_3b067 2 (some .char)) rmJc (APre G L ad cs z zk zv [.ref (zv w), .int x] M) (AQi G L ad cs (schar w x) M) 0 0 (inA L ad) := by
  have hb := okI_bd (by have := zlen_small w hw; omega) hx
  have hc := schar_ok w hw (ix x) (okI_lt hx)
  refine met_of (Eq.refl true) (Nat.le_of_ble_eq_true rfl) hinj [some (.ref (zv w)), some (.int x)] rfl ?_
  intro p e s m below meth c F
  replace F : Fx G L ad cs z zk zv p m meth c cJ1_charAt_3b067 2 (some .char) s _ RJ1 := F
  refine ax_iload_n F dJ1_charAt_3b067_0 rfl ?_
  refine ax_aload_n F dJ1_charAt_3b067_1 rfl ?_
  refine ax_tlen F ((F.2.2.2.2.2.2.2.1 hz0).1.1 w hw).2.2.2 dJ1_charAt_3b067_2 ?_
  refine ax_callSv (As := [.int x, .int (Int32.ofNat (zlen.getD w 0))]) (st := []) F (tJ_chk hz0 hinj hb.1 hb.2 M) kc_J0_checkIndex_df160 kz_J0 kt_J0_checkIndex_df160 km_J1_9 ⟨kn_J0k, rfl, rfl, Nat.le_of_ble_eq_true rfl, Nat.le_of_ble_eq_true rfl⟩ rfl (Nat.le_of_ble_eq_true rfl) dJ1_charAt_3b067_3 ?_
  refine ax_aload_n F dJ1_charAt_3b067_6 rfl ?_
  refine ax_iload_n F dJ1_charAt_3b067_7 rfl ?_
  refine ax_tb (v := .int ((zbyt.getD w []).getD (ix x) 0)) F ((F.2.2.2.2.2.2.2.1 hz0).1.1 w hw).2.2.2 hx rfl dJ1_charAt_3b067_8 ?_
  refine ax_sipush (v := (255 : Int32)) F dJ1_charAt_3b067_9 (by decide) ?_
  refine ax_iand F dJ1_charAt_3b067_12 ?_
  refine ax_i2c F hc.1 dJ1_charAt_3b067_13 ?_
  exact ax_tret F hc.2 dJ1_charAt_3b067_14
theorem tJ_charAt (hz0 : z = true) (hinj : inj L ad) (w : Nat) (hw : w < 5) {x : Int32} (hx : okI x (zlen.getD w 0) = true) (M : Mm) : Met l yJ0_charAt_5068e (tgW yJ0_charAt_5068e cJ0_charAt_5068e 2 (some .char)) rmJd (APre G L ad cs z zk zv [.ref (zk w), .int x] M) (AQi G L ad cs (schar w x) M) 0 0 (inA L ad) := by
  have hc := schar_ok w hw (ix x) (okI_lt hx)
  refine met_of (Eq.refl true) (Nat.le_of_ble_eq_true rfl) hinj [some (.ref (zk w)), some (.int x)] rfl ?_
  intro p e s m below meth c F
  replace F : Fx G L ad cs z zk zv p m meth c cJ0_charAt_5068e 2 (some .char) s _ RJ0 := F
  refine ax_aload_n F dJ0_charAt_5068e_0 rfl ?_
  refine ax_callW (As := []) (st := []) hz0 F (tJ_latin hz0 hinj w hw M) hw rfl kc_J0_isLatin1_aae02 kz_J0 ki_J0_isLatin1_aae02 ks_J0_isLatin1_aae02 km_J0_492 ⟨kn_J0l, rfl, rfl, Nat.le_of_ble_eq_true rfl, Nat.le_of_ble_eq_true rfl⟩ rfl (Nat.le_of_ble_eq_true rfl) dJ0_charAt_5068e_1 ?_
  refine ax_if_eq (t := 16) F dJ0_charAt_5068e_4 (by decide) (fun hc => absurd hc (by decide)) (fun _ => ?_)
  refine ax_aload_n F dJ0_charAt_5068e_7 rfl ?_
  refine ax_sget F ((F.2.2.2.2.2.2.2.1 hz0).1.1 w hw).2.2.1 kf_J0_9 dJ0_charAt_5068e_8 ?_
  refine ax_iload_n F dJ0_charAt_5068e_11 rfl ?_
  refine ax_callSi (As := [.ref (zv w), .int x]) (st := []) F (tJ_lchar hz0 hinj w hw hx M) kc_J1_charAt_3b067 kz_J1 kt_J1_charAt_3b067 km_J0_495 ⟨kn_J1a, rfl, rfl, Nat.le_of_ble_eq_true rfl, Nat.le_of_ble_eq_true rfl⟩ rfl (Nat.le_of_ble_eq_true rfl) dJ0_charAt_5068e_12 ?_
  exact ax_tret F hc.2 dJ0_charAt_5068e_15
end StrM
section StrC
variable {p : Program} {l : Launch} {e : Env} {R : Room} {s : State} {m : MethodId} {args : Array Value} {below : List Frame} {meth : Method} {c : Code} {Q : State → Prop}
variable {G : va_G} {L : List Nat} {ad : Nat → Nat} {cs : Nat → ClassId} {z : Bool} {zk zv : Nat → Nat} {cc : ByteArray} {nL : Nat} {ret : Option FieldType} {own : String}
variable {pc : Nat} {lv : List (Option Value)} {st st0 : List Value} {M : Mm}
theorem ax_slen (hz0 : z = true) (F : Fx G L ad cs z zk zv p m meth c cc nL ret s args own) {w i : Nat} (hw : w < 5) (hl : Cond.methodLink own i yJ0_length_8abf5 ∈ tg) (hst : st0 = .ref (zk w) :: st) (hsum : (st.map fun v => v.category).sum ≤ 8) (hf : 2 ≤ R.frames) (hlo : 42 ≤ R.locals) (hd : decode cc pc = .ok (.invokevirtual i, 3))
    (kk : AW p l e R s m args below meth c Q G L ad cs nL (pc + 3) lv (.int (slen w) :: st) M) : AW p l e R s m args below meth c Q G L ad cs nL pc lv st0 M :=
  ax_callW (As := []) (st := st) hz0 F (tJ_length hz0 F.2.2.2.2.2.2.1 w hw M) hw rfl kc_J0_length_8abf5 kz_J0 ki_J0_length_8abf5 ks_J0_length_8abf5 hl ⟨kn_J0n, rfl, rfl, hf, hlo⟩ hst hsum hd kk
theorem ax_schar (hz0 : z = true) (F : Fx G L ad cs z zk zv p m meth c cc nL ret s args own) {w i : Nat} (hw : w < 5) {x : Int32} (hx : okI x (zlen.getD w 0) = true) (hl : Cond.methodLink own i yJ0_charAt_5068e ∈ tg) (hst : st0 = .int x :: .ref (zk w) :: st) (hsum : (st.map fun v => v.category).sum ≤ 8) (hf : 4 ≤ R.frames) (hlo : 85 ≤ R.locals) (hd : decode cc pc = .ok (.invokevirtual i, 3))
    (kk : AW p l e R s m args below meth c Q G L ad cs nL (pc + 3) lv (.int (schar w x) :: st) M) : AW p l e R s m args below meth c Q G L ad cs nL pc lv st0 M :=
  ax_callW (As := [.int x]) (st := st) hz0 F (tJ_charAt hz0 F.2.2.2.2.2.2.1 w hw hx M) hw rfl kc_J0_charAt_5068e kz_J0 ki_J0_charAt_5068e ks_J0_charAt_5068e hl ⟨kn_J0a, rfl, rfl, hf, hlo⟩ hst hsum hd kk
end StrC
