/-! what lies outside the cells and stays: the five words as String constants, two statics -/
def zlen : List Nat := [3, 4, 3, 4, 3]
def zbyt : List (List Int32) := [[110, 101, 116], [100, 101, 97, 100], [115, 108, 121], [108, 105, 110, 107], [99, 117, 116]]
def zpool : List Nat := [72, 78, 80, 82, 84]
def ztx : List String := ["net", "dead", "sly", "link", "cut"]
def Zs (L : List Nat) (ad zk zv : Nat → Nat) (U : State) : Prop := vk_S 5 zlen zbyt zk zv (inA L ad) U U.heap ∧ va_Z "java/lang/String" "COMPACT_STRINGS" "Z" (.int 1) (inA L ad) U U.heap ∧ va_Zq "jdk/internal/util/Preconditions" "SIOOBE_FORMATTER" "Ljava/util/function/BiFunction;" (inA L ad) U U.heap ∧ ∀ i, i < 5 → vk_R RX0 (zpool.getD i 0) (ztx.getD i "") (zk i) U
theorem Zs.move {L : List Nat} {ad zk zv : Nat → Nat} {s U : State} {H : Heap} {locs : List Loc} (h : Zs L ad zk zv s) (hS : va_S (inA L ad) s.heap H locs) (hU : U.heap = H) (hW : s.WarmedH U.vm) : Zs L ad zk zv U := by
  obtain ⟨h1, h2, h3, h4⟩ := h
  refine ⟨?_, ?_, ?_, fun i hi => (h4 i hi).warm hW⟩
  · rw [hU]; exact (h1.kept hS.2.1).moved hW.alike
  · rw [hU]; exact (h2.kept hS.2.1).moved hW.alike
  · rw [hU]; exact (h3.kept hS.2.1).moved hW.alike
theorem Zs.blind {L : List Nat} {ad zk zv : Nat → Nat} {U : State} (g : JFrame) (mk : MethodId) (a : Array Value) (h : Zs L ad zk zv U) : Zs L ad zk zv (U.calling g mk a) := by
  obtain ⟨h1, h2, h3, h4⟩ := h
  exact ⟨h1.moved (u := U) (U := U.calling g mk a) (Vm.Alike.refl U.vm), h2.moved (u := U) (U := U.calling g mk a) (Vm.Alike.refl U.vm), h3.moved (u := U) (U := U.calling g mk a) (Vm.Alike.refl U.vm), fun i hi => (h4 i hi).same rfl⟩
/-! a method's start and end -/
def APre (G : va_G) (L : List Nat) (ad : Nat → Nat) (cs : Nat → ClassId) (z : Bool) (zk zv : Nat → Nat) (avs : List Value) (M : Mm) : Array Value → State → Prop :=
  va_Pc avs (fun U => va_P G vwCl (wsO L ad cs M) U.heap ∧ va_K G vwCl (tys cs) U ∧ (z = true → Zs L ad zk zv U))
def AQi (G : va_G) (L : List Nat) (ad : Nat → Nat) (cs : Nat → ClassId) (r : Int32) (M : Mm) : Array Value → State → Outcome → State → Prop :=
  va_Qi (fun (r' : Int32) (_ : Unit) => r' = r) (fun _ t => va_P G vwCl (wsO L ad cs M) t.heap) (inA L ad)
def AQv (G : va_G) (L : List Nat) (ad : Nat → Nat) (cs : Nat → ClassId) (M : Mm) : Array Value → State → Outcome → State → Prop :=
  va_Qv (fun (_ : Unit) => True) (fun _ t => va_P G vwCl (wsO L ad cs M) t.heap) (inA L ad)
theorem APre.blind {G : va_G} {L : List Nat} {ad : Nat → Nat} {cs : Nat → ClassId} {z : Bool} {zk zv : Nat → Nat} {avs : List Value} {M : Mm} : FrameBlind (APre G L ad cs z zk zv avs M) := by
  intro a U g mk ⟨q0, qP, qK, qZ⟩
  exact ⟨q0, qP, va_K.moved (u := U) (U := U.calling g mk a) (Vm.Alike.refl U.vm) qK, fun h => (qZ h).blind g mk a⟩
/-! what stands through a walk -/
def Fx (G : va_G) (L : List Nat) (ad : Nat → Nat) (cs : Nat → ClassId) (z : Bool) (zk zv : Nat → Nat) (p : Program) (m : MethodId) (meth : Method) (c : Code) (cc : ByteArray) (nL : Nat) (ret : Option FieldType) (s : State) (args : Array Value) (own : String) : Prop :=
  p.tables.exec = Jvm.exec ∧ c.code = cc ∧ c.maxLocals = nL ∧ s.vm.findClass own = some m.cls ∧ (∀ w ∈ tg, w.before args s = true) ∧ va_K G vwCl (tys cs) s ∧ inj L ad ∧ (z = true → Zs L ad zk zv s) ∧ meth.sig.returnType = ret ∧ meth.locks = false
/-! the locals: by their places -/
def lvh (ls : Array Slot) (nL : Nat) (lv : List (Option Value)) : Prop := ls.size = nL ∧ lv_wf ls ∧ ∀ (i : Nat) (v : Value), lv[i]? = some (some v) → ls[i]? = some (.val v)
def lvP (lv : List (Option Value)) : Nat → List (Nat × Value)
  | 0 => []
  | n + 1 => match lv[n]? with
    | some (some v) => (n, v) :: lvP lv n
    | _ => lvP lv n
theorem lvP_mem {lv : List (Option Value)} {q : Nat × Value} : ∀ n, q ∈ lvP lv n ↔ q.1 < n ∧ lv[q.1]? = some (some q.2) := by
  intro n
  induction n with
  | zero => simp [lvP]
  | succ n ih =>
    rw [lvP]
    split
    next v hv =>
      rw [List.mem_cons, ih]
      constructor
      · rintro (rfl | ⟨h1, h2⟩)
        · exact ⟨Nat.lt_succ_self _, hv⟩
        · exact ⟨Nat.lt_succ_of_lt h1, h2⟩
      · rintro ⟨h1, h2⟩
        rcases Nat.lt_succ_iff_lt_or_eq.mp h1 with h | h
        · exact Or.inr ⟨h, h2⟩
        · refine Or.inl ?_
          obtain ⟨q1, q2⟩ := q
          simp only at h h2
          subst h
          rw [hv] at h2
          cases h2
          rfl
    next hno =>
      rw [ih]
      constructor
      · rintro ⟨h1, h2⟩; exact ⟨Nat.lt_succ_of_lt h1, h2⟩
      · rintro ⟨h1, h2⟩
        rcases Nat.lt_succ_iff_lt_or_eq.mp h1 with h | h
        · exact ⟨h, h2⟩
        · rw [h] at h2; exact absurd h2 (hno _)
theorem lvh_has {ls : Array Slot} {nL : Nat} {lv : List (Option Value)} (h : lvh ls nL lv) : lv_has ls nL (lvP lv lv.length) :=
  ⟨h.1, h.2.1, fun q hq => h.2.2 q.1 q.2 ((lvP_mem _).mp hq).2⟩
def cat1 (lv : List (Option Value)) (i : Nat) : Bool := match i with
  | 0 => true
  | j + 1 => match lv[j]? with
    | some (some v) => v.category == 1
    | _ => true
theorem lvh_store {ls ls' : Array Slot} {nL i : Nat} {lv : List (Option Value)} {v : Value} (hc : cat1 lv i = true)
    (h : lv_has ls' nL ((i, v) :: (lvP lv lv.length).filter (fun q => !(q.1 == i) && !(q.1 + 1 == i && q.2.category == 2)))) : lvh ls' nL (lv.set i (some v)) := by
  refine ⟨h.1, h.2.1, fun j w hj => ?_⟩
  rw [List.getElem?_set] at hj
  by_cases hij : i = j
  · subst hij
    rw [if_pos rfl] at hj
    split at hj
    · cases hj; exact h.2.2 (i, v) List.mem_cons_self
    · cases hj
  · rw [if_neg hij] at hj
    have hlt : j < lv.length := by
      rcases Nat.lt_or_ge j lv.length with h2 | h2
      · exact h2
      · rw [List.getElem?_eq_none h2] at hj; cases hj
    refine h.2.2 (j, w) (List.mem_cons_of_mem _ (List.mem_filter.mpr ⟨(lvP_mem _).mpr ⟨hlt, hj⟩, ?_⟩))
    have h1 : (j == i) = false := by simp; exact fun e => hij e.symm
    have h2 : (j + 1 == i && w.category == 2) = false := by
      by_cases e : j + 1 = i
      · subst e
        simp only [cat1, hj] at hc
        have : w.category = 1 := by simpa using hc
        simp [this]
      · have : (j + 1 == i) = false := by simpa using e
        simp [this]
    simp [h1, h2]
/-- the locals with which a method begins -/
def enl : List Value → List (Option Value)
  | [] => []
  | v :: vs => if v.category = 2 then some v :: none :: enl vs else some v :: enl vs
theorem enl_args : ∀ (vs : List Value) (k : Nat) (i : Nat) (v : Value), (enl vs)[i]? = some (some v) → (k + i, v) ∈ lv_args k vs := by
  intro vs
  induction vs with
  | nil => intro k i v h; simp [enl] at h
  | cons w ws ih =>
    intro k i v h
    rw [lv_args]
    by_cases hc : w.category = 2
    · rw [enl, if_pos hc] at h
      match i, h with
      | 0, h => simp only [List.getElem?_cons_zero] at h; cases h; exact List.mem_cons_self
      | 1, h => simp at h
      | j + 2, h =>
        simp only [List.getElem?_cons_succ] at h
        have := ih (k + 2) j v h
        rw [if_pos hc]
        refine List.mem_cons_of_mem _ ?_
        rw [show k + (j + 2) = k + 2 + j by omega]
        exact this
    · rw [enl, if_neg hc] at h
      match i, h with
      | 0, h => simp only [List.getElem?_cons_zero] at h; cases h; exact List.mem_cons_self
      | j + 1, h =>
        simp only [List.getElem?_cons_succ] at h
        have := ih (k + 1) j v h
        rw [if_neg hc]
        refine List.mem_cons_of_mem _ ?_
        rw [show k + (j + 1) = k + 1 + j by omega]
        exact this
section Ax
variable {p : Program} {l : Launch} {e : Env} {R : Room} {s : State} {m : MethodId} {args : Array Value} {below : List Frame} {meth : Method} {c : Code} {Q : State → Prop}
variable {G : va_G} {L : List Nat} {ad : Nat → Nat} {cs : Nat → ClassId} {z : Bool} {zk zv : Nat → Nat} {cc : ByteArray} {nL : Nat} {ret : Option FieldType} {own : String}
variable {pc : Nat} {lv : List (Option Value)} {st : List Value} {M : Mm}
/-- the machine at pc, with these locals, this stack, the cells as M says, comes to Q -/
def AW (p : Program) (l : Launch) (e : Env) (R : Room) (s : State) (m : MethodId) (args : Array Value) (below : List Frame) (meth : Method) (c : Code) (Q : State → Prop) (G : va_G) (L : List Nat) (ad : Nat → Nat) (cs : Nat → ClassId) (nL : Nat) (pc : Nat) (lv : List (Option Value)) (st : List Value) (M : Mm) : Prop :=
  ∀ (H : Heap) (locs : List Loc) (ls : Array Slot), va_P G vwCl (wsO L ad cs M) H → va_S (inA L ad) s.heap H locs → lvh ls nL lv → W p l e R s m args below meth c H locs 0 0 Q (F0 m pc ls st)
theorem ax_iconst (F : Fx G L ad cs z zk zv p m meth c cc nL ret s args own) {n : Int} {v : Int32} (hd : decode cc pc = .ok (.iconst n, 1)) (hv : Int32.ofInt n = v)
    (k : AW p l e R s m args below meth c Q G L ad cs nL (pc + 1) lv (.int v :: st) M) : AW p l e R s m args below meth c Q G L ad cs nL pc lv st M :=
  fun H locs ls hP hS hl => lv_iconst F.1 F.2.1 hd hv (k H locs ls hP hS hl)
theorem ax_bipush (F : Fx G L ad cs z zk zv p m meth c cc nL ret s args own) {n : Int} {v : Int32} (hd : decode cc pc = .ok (.bipush n, 2)) (hv : (Int8.ofInt n).toInt32 = v)
    (k : AW p l e R s m args below meth c Q G L ad cs nL (pc + 2) lv (.int v :: st) M) : AW p l e R s m args below meth c Q G L ad cs nL pc lv st M :=
  fun H locs ls hP hS hl => lv_bipush F.1 F.2.1 hd hv (k H locs ls hP hS hl)
theorem ax_sipush (F : Fx G L ad cs z zk zv p m meth c cc nL ret s args own) {n : Int} {v : Int32} (hd : decode cc pc = .ok (.sipush n, 3)) (hv : (Int16.ofInt n).toInt32 = v)
    (k : AW p l e R s m args below meth c Q G L ad cs nL (pc + 3) lv (.int v :: st) M) : AW p l e R s m args below meth c Q G L ad cs nL pc lv st M :=
  fun H locs ls hP hS hl => lv_sipush F.1 F.2.1 hd hv (k H locs ls hP hS hl)
theorem ax_ldc (F : Fx G L ad cs z zk zv p m meth c cc nL ret s args own) {i : Nat} {v : Int32} (hk : Cond.constant own i v ∈ tg) (hd : decode cc pc = .ok (.ldc i, 2))
    (k : AW p l e R s m args below meth c Q G L ad cs nL (pc + 2) lv (.int v :: st) M) : AW p l e R s m args below meth c Q G L ad cs nL pc lv st M :=
  fun H locs ls hP hS hl => lv_ldc F.1 F.2.1 F.2.2.2.1 (F.2.2.2.2.1 _ hk) hd (k H locs ls hP hS hl)
theorem ax_lconst (F : Fx G L ad cs z zk zv p m meth c cc nL ret s args own) {n : Fin 2} {v : Int64} (hd : decode cc pc = .ok (.lconst n, 1)) (hv : Int64.ofNat (n : Nat) = v)
    (k : AW p l e R s m args below meth c Q G L ad cs nL (pc + 1) lv (.long v :: st) M) : AW p l e R s m args below meth c Q G L ad cs nL pc lv st M :=
  fun H locs ls hP hS hl => lv_lconst F.1 F.2.1 hd hv (k H locs ls hP hS hl)
theorem ax_ldc2 (F : Fx G L ad cs z zk zv p m meth c cc nL ret s args own) {i : Nat} {v : Int64} (hk : Cond.constantLong own i v ∈ tg) (hd : decode cc pc = .ok (.ldc2_w i, 3))
    (k : AW p l e R s m args below meth c Q G L ad cs nL (pc + 3) lv (.long v :: st) M) : AW p l e R s m args below meth c Q G L ad cs nL pc lv st M :=
  fun H locs ls hP hS hl => lv_ldc2 F.1 F.2.1 F.2.2.2.1 (F.2.2.2.2.1 _ hk) hd (k H locs ls hP hS hl)
theorem ax_i2l (F : Fx G L ad cs z zk zv p m meth c cc nL ret s args own) {x : Int32} (hd : decode cc pc = .ok (.i2l, 1))
    (k : AW p l e R s m args below meth c Q G L ad cs nL (pc + 1) lv (.long x.toInt64 :: st) M) : AW p l e R s m args below meth c Q G L ad cs nL pc lv (.int x :: st) M :=
  fun H locs ls hP hS hl => lv_i2l F.1 F.2.1 hd rfl (k H locs ls hP hS hl)
theorem ax_lcmp (F : Fx G L ad cs z zk zv p m meth c cc nL ret s args own) {x y : Int64} (hd : decode cc pc = .ok (.lcmp, 1))
    (k : AW p l e R s m args below meth c Q G L ad cs nL (pc + 1) lv (.int (lg_cmp x y) :: st) M) : AW p l e R s m args below meth c Q G L ad cs nL pc lv (.long y :: .long x :: st) M :=
  fun H locs ls hP hS hl => W.lcmp F.1 F.2.1 hd (k H locs ls hP hS hl)
theorem ax_lload_n (F : Fx G L ad cs z zk zv p m meth c cc nL ret s args own) {k : Fin 4} {x : Int64} (hd : decode cc pc = .ok (.lload_n k, 1)) (hl0 : lv[(k : Nat)]? = some (some (.long x)))
    (kk : AW p l e R s m args below meth c Q G L ad cs nL (pc + 1) lv (.long x :: st) M) : AW p l e R s m args below meth c Q G L ad cs nL pc lv st M :=
  fun H locs ls hP hS hl => lv_lload_n F.1 F.2.1 hd rfl (hl.2.2 _ _ hl0) (kk H locs ls hP hS hl)
theorem ax_lload (F : Fx G L ad cs z zk zv p m meth c cc nL ret s args own) {k : Nat} {x : Int64} (hd : decode cc pc = .ok (.lload k, 2)) (hl0 : lv[k]? = some (some (.long x)))
    (kk : AW p l e R s m args below meth c Q G L ad cs nL (pc + 2) lv (.long x :: st) M) : AW p l e R s m args below meth c Q G L ad cs nL pc lv st M :=
  fun H locs ls hP hS hl => lv_lload F.1 F.2.1 hd (hl.2.2 _ _ hl0) (kk H locs ls hP hS hl)
theorem ax_iload_n (F : Fx G L ad cs z zk zv p m meth c cc nL ret s args own) {k : Fin 4} {x : Int32} (hd : decode cc pc = .ok (.iload_n k, 1)) (hl0 : lv[(k : Nat)]? = some (some (.int x)))
    (kk : AW p l e R s m args below meth c Q G L ad cs nL (pc + 1) lv (.int x :: st) M) : AW p l e R s m args below meth c Q G L ad cs nL pc lv st M :=
  fun H locs ls hP hS hl => lv_iload_n F.1 F.2.1 hd rfl (hl.2.2 _ _ hl0) (kk H locs ls hP hS hl)
theorem ax_iload (F : Fx G L ad cs z zk zv p m meth c cc nL ret s args own) {k : Nat} {x : Int32} (hd : decode cc pc = .ok (.iload k, 2)) (hl0 : lv[k]? = some (some (.int x)))
    (kk : AW p l e R s m args below meth c Q G L ad cs nL (pc + 2) lv (.int x :: st) M) : AW p l e R s m args below meth c Q G L ad cs nL pc lv st M :=
  fun H locs ls hP hS hl => lv_iload F.1 F.2.1 hd (hl.2.2 _ _ hl0) (kk H locs ls hP hS hl)
theorem ax_aload_n (F : Fx G L ad cs z zk zv p m meth c cc nL ret s args own) {k : Fin 4} {x : Nat} (hd : decode cc pc = .ok (.aload_n k, 1)) (hl0 : lv[(k : Nat)]? = some (some (.ref x)))
    (kk : AW p l e R s m args below meth c Q G L ad cs nL (pc + 1) lv (.ref x :: st) M) : AW p l e R s m args below meth c Q G L ad cs nL pc lv st M :=
  fun H locs ls hP hS hl => lv_aload_n F.1 F.2.1 hd rfl (hl.2.2 _ _ hl0) (kk H locs ls hP hS hl)
theorem ax_aload (F : Fx G L ad cs z zk zv p m meth c cc nL ret s args own) {k : Nat} {x : Nat} (hd : decode cc pc = .ok (.aload k, 2)) (hl0 : lv[k]? = some (some (.ref x)))
    (kk : AW p l e R s m args below meth c Q G L ad cs nL (pc + 2) lv (.ref x :: st) M) : AW p l e R s m args below meth c Q G L ad cs nL pc lv st M :=
  fun H locs ls hP hS hl => lv_aload F.1 F.2.1 hd (hl.2.2 _ _ hl0) (kk H locs ls hP hS hl)
theorem ax_istore_n (F : Fx G L ad cs z zk zv p m meth c cc nL ret s args own) {k : Fin 4} {x : Int32} (hd : decode cc pc = .ok (.istore_n k, 1)) (hk : (k : Nat) < nL) (hc : cat1 lv (k : Nat) = true)
    (kk : AW p l e R s m args below meth c Q G L ad cs nL (pc + 1) (lv.set (k : Nat) (some (.int x))) st M) : AW p l e R s m args below meth c Q G L ad cs nL pc lv (.int x :: st) M :=
  fun H locs _ hP hS hl => lv_istore_n F.1 F.2.1 hd rfl (lvh_has hl) hk rfl (fun ls' hl' => kk H locs ls' hP hS (lvh_store (ls := ls') hc hl'))
theorem ax_istore (F : Fx G L ad cs z zk zv p m meth c cc nL ret s args own) {k : Nat} {x : Int32} (hd : decode cc pc = .ok (.istore k, 2)) (hk : k < nL) (hc : cat1 lv k = true)
    (kk : AW p l e R s m args below meth c Q G L ad cs nL (pc + 2) (lv.set k (some (.int x))) st M) : AW p l e R s m args below meth c Q G L ad cs nL pc lv (.int x :: st) M :=
  fun H locs _ hP hS hl => lv_istore F.1 F.2.1 hd (lvh_has hl) hk rfl (fun ls' hl' => kk H locs ls' hP hS (lvh_store (ls := ls') hc hl'))
theorem ax_astore_n (F : Fx G L ad cs z zk zv p m meth c cc nL ret s args own) {k : Fin 4} {x : Nat} (hd : decode cc pc = .ok (.astore_n k, 1)) (hk : (k : Nat) < nL) (hc : cat1 lv (k : Nat) = true)
    (kk : AW p l e R s m args below meth c Q G L ad cs nL (pc + 1) (lv.set (k : Nat) (some (.ref x))) st M) : AW p l e R s m args below meth c Q G L ad cs nL pc lv (.ref x :: st) M :=
  fun H locs _ hP hS hl => lv_astore_n F.1 F.2.1 hd rfl (lvh_has hl) hk rfl (fun ls' hl' => kk H locs ls' hP hS (lvh_store (ls := ls') hc hl'))
theorem ax_astore (F : Fx G L ad cs z zk zv p m meth c cc nL ret s args own) {k : Nat} {x : Nat} (hd : decode cc pc = .ok (.astore k, 2)) (hk : k < nL) (hc : cat1 lv k = true)
    (kk : AW p l e R s m args below meth c Q G L ad cs nL (pc + 2) (lv.set k (some (.ref x))) st M) : AW p l e R s m args below meth c Q G L ad cs nL pc lv (.ref x :: st) M :=
  fun H locs _ hP hS hl => lv_astore F.1 F.2.1 hd (lvh_has hl) hk rfl (fun ls' hl' => kk H locs ls' hP hS (lvh_store (ls := ls') hc hl'))
theorem lvP_idx {lv : List (Option Value)} {i : Nat} {v : Value} (h : lv[i]? = some (some v)) : ∃ k : Nat, (lvP lv lv.length)[k]? = some (i, v) := by
  have hlt : i < lv.length := by
    rcases Nat.lt_or_ge i lv.length with h2 | h2
    · exact h2
    · rw [List.getElem?_eq_none h2] at h; cases h
  exact List.getElem?_of_mem ((lvP_mem (q := (i, v)) _).mpr ⟨hlt, h⟩)
theorem ax_iinc (F : Fx G L ad cs z zk zv p m meth c cc nL ret s args own) {i : Nat} {n : Int} {x v : Int32} (hd : decode cc pc = .ok (.iinc i n, 3)) (hl0 : lv[i]? = some (some (.int x))) (hv : Int32.ofInt n = v) (hk : i < nL) (hc : cat1 lv i = true)
    (kk : AW p l e R s m args below meth c Q G L ad cs nL (pc + 3) (lv.set i (some (.int (x + v)))) st M) : AW p l e R s m args below meth c Q G L ad cs nL pc lv st M := by
  intro H locs ls hP hS hl
  obtain ⟨k, hk0⟩ := lvP_idx hl0
  exact lv_iinc F.1 F.2.1 hd (lvh_has hl) hk0 (by rw [hv]) hk rfl (fun ls' hl' => kk H locs ls' hP hS (lvh_store (ls := ls') hc hl'))
theorem ax_iadd (F : Fx G L ad cs z zk zv p m meth c cc nL ret s args own) {x y : Int32} (hd : decode cc pc = .ok (.iadd, 1))
    (k : AW p l e R s m args below meth c Q G L ad cs nL (pc + 1) lv (.int (x + y) :: st) M) : AW p l e R s m args below meth c Q G L ad cs nL pc lv (.int y :: .int x :: st) M :=
  fun H locs ls hP hS hl => lv_iadd F.1 F.2.1 hd (k H locs ls hP hS hl)
theorem ax_isub (F : Fx G L ad cs z zk zv p m meth c cc nL ret s args own) {x y : Int32} (hd : decode cc pc = .ok (.isub, 1))
    (k : AW p l e R s m args below meth c Q G L ad cs nL (pc + 1) lv (.int (x - y) :: st) M) : AW p l e R s m args below meth c Q G L ad cs nL pc lv (.int y :: .int x :: st) M :=
  fun H locs ls hP hS hl => lv_isub F.1 F.2.1 hd (k H locs ls hP hS hl)
theorem ax_imul (F : Fx G L ad cs z zk zv p m meth c cc nL ret s args own) {x y : Int32} (hd : decode cc pc = .ok (.imul, 1))
    (k : AW p l e R s m args below meth c Q G L ad cs nL (pc + 1) lv (.int (x * y) :: st) M) : AW p l e R s m args below meth c Q G L ad cs nL pc lv (.int y :: .int x :: st) M :=
  fun H locs ls hP hS hl => lv_imul F.1 F.2.1 hd (k H locs ls hP hS hl)
theorem ax_iand (F : Fx G L ad cs z zk zv p m meth c cc nL ret s args own) {x y : Int32} (hd : decode cc pc = .ok (.iand, 1))
    (k : AW p l e R s m args below meth c Q G L ad cs nL (pc + 1) lv (.int (x &&& y) :: st) M) : AW p l e R s m args below meth c Q G L ad cs nL pc lv (.int y :: .int x :: st) M :=
  fun H locs ls hP hS hl => lv_iand F.1 F.2.1 hd (k H locs ls hP hS hl)
theorem ax_ior (F : Fx G L ad cs z zk zv p m meth c cc nL ret s args own) {x y : Int32} (hd : decode cc pc = .ok (.ior, 1))
    (k : AW p l e R s m args below meth c Q G L ad cs nL (pc + 1) lv (.int (x ||| y) :: st) M) : AW p l e R s m args below meth c Q G L ad cs nL pc lv (.int y :: .int x :: st) M :=
  fun H locs ls hP hS hl => lv_ior F.1 F.2.1 hd (k H locs ls hP hS hl)
theorem ax_ixor (F : Fx G L ad cs z zk zv p m meth c cc nL ret s args own) {x y : Int32} (hd : decode cc pc = .ok (.ixor, 1))
    (k : AW p l e R s m args below meth c Q G L ad cs nL (pc + 1) lv (.int (x ^^^ y) :: st) M) : AW p l e R s m args below meth c Q G L ad cs nL pc lv (.int y :: .int x :: st) M :=
  fun H locs ls hP hS hl => lv_ixor F.1 F.2.1 hd (k H locs ls hP hS hl)
theorem ax_ishl (F : Fx G L ad cs z zk zv p m meth c cc nL ret s args own) {x y : Int32} (hd : decode cc pc = .ok (.ishl, 1))
    (k : AW p l e R s m args below meth c Q G L ad cs nL (pc + 1) lv (.int (ish x y) :: st) M) : AW p l e R s m args below meth c Q G L ad cs nL pc lv (.int y :: .int x :: st) M :=
  fun H locs ls hP hS hl => lv_ishl F.1 F.2.1 hd (k H locs ls hP hS hl)
theorem ax_ishr (F : Fx G L ad cs z zk zv p m meth c cc nL ret s args own) {x y : Int32} (hd : decode cc pc = .ok (.ishr, 1))
    (k : AW p l e R s m args below meth c Q G L ad cs nL (pc + 1) lv (.int (isr x y) :: st) M) : AW p l e R s m args below meth c Q G L ad cs nL pc lv (.int y :: .int x :: st) M :=
  fun H locs ls hP hS hl => lv_ishr F.1 F.2.1 hd (k H locs ls hP hS hl)
theorem ax_idiv (F : Fx G L ad cs z zk zv p m meth c cc nL ret s args own) {x y : Int32} (hd : decode cc pc = .ok (.idiv, 1)) (hy : ¬ y = 0)
    (k : AW p l e R s m args below meth c Q G L ad cs nL (pc + 1) lv (.int (x / y) :: st) M) : AW p l e R s m args below meth c Q G L ad cs nL pc lv (.int y :: .int x :: st) M :=
  fun H locs ls hP hS hl => lv_idiv F.1 F.2.1 hd hy (k H locs ls hP hS hl)
theorem ax_irem (F : Fx G L ad cs z zk zv p m meth c cc nL ret s args own) {x y : Int32} (hd : decode cc pc = .ok (.irem, 1)) (hy : ¬ y = 0)
    (k : AW p l e R s m args below meth c Q G L ad cs nL (pc + 1) lv (.int (irem x y) :: st) M) : AW p l e R s m args below meth c Q G L ad cs nL pc lv (.int y :: .int x :: st) M :=
  fun H locs ls hP hS hl => lv_irem F.1 F.2.1 hd hy (k H locs ls hP hS hl)
theorem ax_ineg (F : Fx G L ad cs z zk zv p m meth c cc nL ret s args own) {x : Int32} (hd : decode cc pc = .ok (.ineg, 1))
    (k : AW p l e R s m args below meth c Q G L ad cs nL (pc + 1) lv (.int (-x) :: st) M) : AW p l e R s m args below meth c Q G L ad cs nL pc lv (.int x :: st) M :=
  fun H locs ls hP hS hl => lv_ineg F.1 F.2.1 hd (k H locs ls hP hS hl)
theorem ax_dup (F : Fx G L ad cs z zk zv p m meth c cc nL ret s args own) {v : Value} (hd : decode cc pc = .ok (.dup, 1)) (hv : v.category = 1)
    (k : AW p l e R s m args below meth c Q G L ad cs nL (pc + 1) lv (v :: v :: st) M) : AW p l e R s m args below meth c Q G L ad cs nL pc lv (v :: st) M :=
  fun H locs ls hP hS hl => lv_dup F.1 F.2.1 hd hv (k H locs ls hP hS hl)
theorem ax_dup2 (F : Fx G L ad cs z zk zv p m meth c cc nL ret s args own) {v w : Value} (hd : decode cc pc = .ok (.dup2, 1)) (hv : v.category = 1) (hw : w.category = 1)
    (k : AW p l e R s m args below meth c Q G L ad cs nL (pc + 1) lv (v :: w :: v :: w :: st) M) : AW p l e R s m args below meth c Q G L ad cs nL pc lv (v :: w :: st) M :=
  fun H locs ls hP hS hl => lv_dup2_11 F.1 F.2.1 hd hv hw (k H locs ls hP hS hl)
theorem ax_pop (F : Fx G L ad cs z zk zv p m meth c cc nL ret s args own) {v : Value} (hd : decode cc pc = .ok (.pop, 1)) (hv : v.category = 1)
    (k : AW p l e R s m args below meth c Q G L ad cs nL (pc + 1) lv st M) : AW p l e R s m args below meth c Q G L ad cs nL pc lv (v :: st) M :=
  fun H locs ls hP hS hl => lv_pop F.1 F.2.1 hd hv (k H locs ls hP hS hl)
theorem ax_goto (F : Fx G L ad cs z zk zv p m meth c cc nL ret s args own) {o : Int} {t : Nat} (hd : decode cc pc = .ok (.goto o, 3)) (ht : (pc : Int) + o = (t : Int))
    (k : AW p l e R s m args below meth c Q G L ad cs nL t lv st M) : AW p l e R s m args below meth c Q G L ad cs nL pc lv st M :=
  fun H locs ls hP hS hl => lv_goto F.1 F.2.1 hd ht (k H locs ls hP hS hl)
theorem ax_swOut (F : Fx G L ad cs z zk zv p m meth c cc nL ret s args own) {d lo hi : Int} {os : Array Int} {len : Nat} {x : Int32} {t : Nat} (hd : decode cc pc = .ok (.tableswitch d lo hi os, len)) (h : x.toInt < lo ∨ hi < x.toInt) (ht : (pc : Int) + d = (t : Int))
    (k : AW p l e R s m args below meth c Q G L ad cs nL t lv st M) : AW p l e R s m args below meth c Q G L ad cs nL pc lv (.int x :: st) M :=
  fun H locs ls hP hS hl => lv_tableOut F.1 F.2.1 hd h ht (k H locs ls hP hS hl)
theorem ax_swIn (F : Fx G L ad cs z zk zv p m meth c cc nL ret s args own) {d lo hi : Int} {os : Array Int} {len : Nat} {x : Int32} {t : Nat} {o : Int} (hd : decode cc pc = .ok (.tableswitch d lo hi os, len)) (h1 : ¬ x.toInt < lo) (h2 : ¬ hi < x.toInt) (ho : os[(x.toInt - lo).toNat]? = some o) (ht : (pc : Int) + o = (t : Int))
    (k : AW p l e R s m args below meth c Q G L ad cs nL t lv st M) : AW p l e R s m args below meth c Q G L ad cs nL pc lv (.int x :: st) M :=
  fun H locs ls hP hS hl => lv_tableIn F.1 F.2.1 hd h1 h2 ho ht (k H locs ls hP hS hl)
theorem ax_if_eq (F : Fx G L ad cs z zk zv p m meth c cc nL ret s args own) {x : Int32} {o : Int} {t : Nat} (hd : decode cc pc = .ok (.ifCond .eq o, 3)) (ht : (pc : Int) + o = (t : Int))
    (kt : x = 0 → AW p l e R s m args below meth c Q G L ad cs nL t lv st M) (kf : ¬ x = 0 → AW p l e R s m args below meth c Q G L ad cs nL (pc + 3) lv st M) : AW p l e R s m args below meth c Q G L ad cs nL pc lv (.int x :: st) M :=
  fun H locs ls hP hS hl => lv_if_eq F.1 F.2.1 hd ht (fun h => kt h H locs ls hP hS hl) (fun h => kf h H locs ls hP hS hl)
theorem ax_icmp_eq (F : Fx G L ad cs z zk zv p m meth c cc nL ret s args own) {x y : Int32} {o : Int} {t : Nat} (hd : decode cc pc = .ok (.if_icmp .eq o, 3)) (ht : (pc : Int) + o = (t : Int))
    (kt : x = y → AW p l e R s m args below meth c Q G L ad cs nL t lv st M) (kf : ¬ x = y → AW p l e R s m args below meth c Q G L ad cs nL (pc + 3) lv st M) : AW p l e R s m args below meth c Q G L ad cs nL pc lv (.int y :: .int x :: st) M :=
  fun H locs ls hP hS hl => lv_icmp_eq F.1 F.2.1 hd ht (fun h => kt h H locs ls hP hS hl) (fun h => kf h H locs ls hP hS hl)
theorem ax_if_ne (F : Fx G L ad cs z zk zv p m meth c cc nL ret s args own) {x : Int32} {o : Int} {t : Nat} (hd : decode cc pc = .ok (.ifCond .ne o, 3)) (ht : (pc : Int) + o = (t : Int))
    (kt : ¬ x = 0 → AW p l e R s m args below meth c Q G L ad cs nL t lv st M) (kf : x = 0 → AW p l e R s m args below meth c Q G L ad cs nL (pc + 3) lv st M) : AW p l e R s m args below meth c Q G L ad cs nL pc lv (.int x :: st) M :=
  fun H locs ls hP hS hl => lv_if_ne F.1 F.2.1 hd ht (fun h => kt h H locs ls hP hS hl) (fun h => kf h H locs ls hP hS hl)
theorem ax_icmp_ne (F : Fx G L ad cs z zk zv p m meth c cc nL ret s args own) {x y : Int32} {o : Int} {t : Nat} (hd : decode cc pc = .ok (.if_icmp .ne o, 3)) (ht : (pc : Int) + o = (t : Int))
    (kt : ¬ x = y → AW p l e R s m args below meth c Q G L ad cs nL t lv st M) (kf : x = y → AW p l e R s m args below meth c Q G L ad cs nL (pc + 3) lv st M) : AW p l e R s m args below meth c Q G L ad cs nL pc lv (.int y :: .int x :: st) M :=
  fun H locs ls hP hS hl => lv_icmp_ne F.1 F.2.1 hd ht (fun h => kt h H locs ls hP hS hl) (fun h => kf h H locs ls hP hS hl)
theorem ax_if_lt (F : Fx G L ad cs z zk zv p m meth c cc nL ret s args own) {x : Int32} {o : Int} {t : Nat} (hd : decode cc pc = .ok (.ifCond .lt o, 3)) (ht : (pc : Int) + o = (t : Int))
    (kt : x < 0 → AW p l e R s m args below meth c Q G L ad cs nL t lv st M) (kf : ¬ x < 0 → AW p l e R s m args below meth c Q G L ad cs nL (pc + 3) lv st M) : AW p l e R s m args below meth c Q G L ad cs nL pc lv (.int x :: st) M :=
  fun H locs ls hP hS hl => lv_if_lt F.1 F.2.1 hd ht (fun h => kt h H locs ls hP hS hl) (fun h => kf h H locs ls hP hS hl)
theorem ax_icmp_lt (F : Fx G L ad cs z zk zv p m meth c cc nL ret s args own) {x y : Int32} {o : Int} {t : Nat} (hd : decode cc pc = .ok (.if_icmp .lt o, 3)) (ht : (pc : Int) + o = (t : Int))
    (kt : x < y → AW p l e R s m args below meth c Q G L ad cs nL t lv st M) (kf : ¬ x < y → AW p l e R s m args below meth c Q G L ad cs nL (pc + 3) lv st M) : AW p l e R s m args below meth c Q G L ad cs nL pc lv (.int y :: .int x :: st) M :=
  fun H locs ls hP hS hl => lv_icmp_lt F.1 F.2.1 hd ht (fun h => kt h H locs ls hP hS hl) (fun h => kf h H locs ls hP hS hl)
theorem ax_if_ge (F : Fx G L ad cs z zk zv p m meth c cc nL ret s args own) {x : Int32} {o : Int} {t : Nat} (hd : decode cc pc = .ok (.ifCond .ge o, 3)) (ht : (pc : Int) + o = (t : Int))
    (kt : 0 ≤ x → AW p l e R s m args below meth c Q G L ad cs nL t lv st M) (kf : ¬ 0 ≤ x → AW p l e R s m args below meth c Q G L ad cs nL (pc + 3) lv st M) : AW p l e R s m args below meth c Q G L ad cs nL pc lv (.int x :: st) M :=
  fun H locs ls hP hS hl => lv_if_ge F.1 F.2.1 hd ht (fun h => kt h H locs ls hP hS hl) (fun h => kf h H locs ls hP hS hl)
theorem ax_icmp_ge (F : Fx G L ad cs z zk zv p m meth c cc nL ret s args own) {x y : Int32} {o : Int} {t : Nat} (hd : decode cc pc = .ok (.if_icmp .ge o, 3)) (ht : (pc : Int) + o = (t : Int))
    (kt : y ≤ x → AW p l e R s m args below meth c Q G L ad cs nL t lv st M) (kf : ¬ y ≤ x → AW p l e R s m args below meth c Q G L ad cs nL (pc + 3) lv st M) : AW p l e R s m args below meth c Q G L ad cs nL pc lv (.int y :: .int x :: st) M :=
  fun H locs ls hP hS hl => lv_icmp_ge F.1 F.2.1 hd ht (fun h => kt h H locs ls hP hS hl) (fun h => kf h H locs ls hP hS hl)
theorem ax_if_gt (F : Fx G L ad cs z zk zv p m meth c cc nL ret s args own) {x : Int32} {o : Int} {t : Nat} (hd : decode cc pc = .ok (.ifCond .gt o, 3)) (ht : (pc : Int) + o = (t : Int))
    (kt : 0 < x → AW p l e R s m args below meth c Q G L ad cs nL t lv st M) (kf : ¬ 0 < x → AW p l e R s m args below meth c Q G L ad cs nL (pc + 3) lv st M) : AW p l e R s m args below meth c Q G L ad cs nL pc lv (.int x :: st) M :=
  fun H locs ls hP hS hl => lv_if_gt F.1 F.2.1 hd ht (fun h => kt h H locs ls hP hS hl) (fun h => kf h H locs ls hP hS hl)
theorem ax_icmp_gt (F : Fx G L ad cs z zk zv p m meth c cc nL ret s args own) {x y : Int32} {o : Int} {t : Nat} (hd : decode cc pc = .ok (.if_icmp .gt o, 3)) (ht : (pc : Int) + o = (t : Int))
    (kt : y < x → AW p l e R s m args below meth c Q G L ad cs nL t lv st M) (kf : ¬ y < x → AW p l e R s m args below meth c Q G L ad cs nL (pc + 3) lv st M) : AW p l e R s m args below meth c Q G L ad cs nL pc lv (.int y :: .int x :: st) M :=
  fun H locs ls hP hS hl => lv_icmp_gt F.1 F.2.1 hd ht (fun h => kt h H locs ls hP hS hl) (fun h => kf h H locs ls hP hS hl)
theorem ax_if_le (F : Fx G L ad cs z zk zv p m meth c cc nL ret s args own) {x : Int32} {o : Int} {t : Nat} (hd : decode cc pc = .ok (.ifCond .le o, 3)) (ht : (pc : Int) + o = (t : Int))
    (kt : x ≤ 0 → AW p l e R s m args below meth c Q G L ad cs nL t lv st M) (kf : ¬ x ≤ 0 → AW p l e R s m args below meth c Q G L ad cs nL (pc + 3) lv st M) : AW p l e R s m args below meth c Q G L ad cs nL pc lv (.int x :: st) M :=
  fun H locs ls hP hS hl => lv_if_le F.1 F.2.1 hd ht (fun h => kt h H locs ls hP hS hl) (fun h => kf h H locs ls hP hS hl)
theorem ax_icmp_le (F : Fx G L ad cs z zk zv p m meth c cc nL ret s args own) {x y : Int32} {o : Int} {t : Nat} (hd : decode cc pc = .ok (.if_icmp .le o, 3)) (ht : (pc : Int) + o = (t : Int))
    (kt : x ≤ y → AW p l e R s m args below meth c Q G L ad cs nL t lv st M) (kf : ¬ x ≤ y → AW p l e R s m args below meth c Q G L ad cs nL (pc + 3) lv st M) : AW p l e R s m args below meth c Q G L ad cs nL pc lv (.int y :: .int x :: st) M :=
  fun H locs ls hP hS hl => lv_icmp_le F.1 F.2.1 hd ht (fun h => kt h H locs ls hP hS hl) (fun h => kf h H locs ls hP hS hl)
theorem ax_get (F : Fx G L ad cs z zk zv p m meth c cc nL ret s args own) {a ci i : Nat} {fs : (Nat → Int32) → List Value} {C ref nm ds : String} {T : u_T} {N : Nat} (ho : isOb L ad cs a ci fs) (hc : vwCl[ci]? = some (C, T, N)) (hin : ∀ w ∈ u_ws C T N, w ∈ tg) (k : Nat) (hk : k < N) (hT : T k = (ref, nm, ds, (T k).2.2.2)) (hl : Cond.fieldLink own i ref nm ds ∈ tg) {v : Value} (hv : (fs (M a))[k]? = some v) (hd : decode cc pc = .ok (.getfield i, 3))
    (kk : AW p l e R s m args below meth c Q G L ad cs nL (pc + 3) lv (v :: st) M) : AW p l e R s m args below meth c Q G L ad cs nL pc lv (.ref (ad a) :: st) M := by
  intro H locs ls hP hS hl0
  obtain ⟨k0, hk0⟩ := List.getElem?_of_mem ho.1
  have he : (wsO L ad cs M)[k0]? = some (ad a, .inr (ci, fs (M a))) := by rw [wsO_get ad cs M hk0, ho.2]
  have h1 : (T k).1 = ref := congrArg (fun q => q.1) hT
  have h2 : (T k).2.1 = nm := congrArg (fun q => q.2.1) hT
  have h3 : (T k).2.2.1 = ds := congrArg (fun q => q.2.2.1) hT
  exact va_get (ref := ref) F.1 F.2.1 F.2.2.2.2.1 hin F.2.2.2.1 F.2.2.2.2.2.1 hP k0 he hc k hk (by rw [h2, h3]; exact F.2.2.2.2.1 _ hl) (fun x hx => by rw [h1] at hx; exact hx) hv hd (kk H locs ls hP hS hl0)
theorem ax_put (F : Fx G L ad cs z zk zv p m meth c cc nL ret s args own) {a ci i : Nat} {fs : (Nat → Int32) → List Value} {C ref nm ds : String} {T : u_T} {N : Nat} (ho : isOb L ad cs a ci fs) (hc : vwCl[ci]? = some (C, T, N)) (hin : ∀ w ∈ u_ws C T N, w ∈ tg) (ty0 : Nat → FieldType) (hty : ∀ k, k < N → parseFieldDescriptor (T k).2.2.1 = some (ty0 k)) (hnm : ∀ a, a < N → ∀ b, b < N → a ≠ b → (T a).2.1 ≠ (T b).2.1) (k : Nat) (hk : k < N) (hT : T k = (ref, nm, ds, false)) (hl : Cond.fieldLink own i ref nm ds ∈ tg) {x : Int32} {ty : FieldType} (hds : parseFieldDescriptor ds = some ty) (hn : narrow ty (.int x) = .int x) (hfit : fits ty (.int x) = true) (hlen : k < (fs (M a)).length) (hs : (fs (M a)).set k (.int x) = fs (upd (M a) k x)) (hd : decode cc pc = .ok (.putfield i, 3))
    (kk : AW p l e R s m args below meth c Q G L ad cs nL (pc + 3) lv st (up2 M a k x)) : AW p l e R s m args below meth c Q G L ad cs nL pc lv (.int x :: .ref (ad a) :: st) M := by
  intro H locs ls hP hS hl0
  obtain ⟨k0, hk0⟩ := List.getElem?_of_mem ho.1
  have he : (wsO L ad cs M)[k0]? = some (ad a, .inr (ci, fs (M a))) := by rw [wsO_get ad cs M hk0, ho.2]
  have h1 : (T k).1 = ref := congrArg (fun q => q.1) hT
  have h2 : (T k).2.1 = nm := congrArg (fun q => q.2.1) hT
  have h3 : (T k).2.2.1 = ds := congrArg (fun q => q.2.2.1) hT
  have h4 : (T k).2.2.2 = false := congrArg (fun q => q.2.2.2) hT
  refine va_put (ref := ref) (ty := ty) F.1 F.2.1 F.2.2.2.2.1 hin ty0 hty hnm F.2.2.2.1 F.2.2.2.2.2.1 hP (wsO_D F.2.2.2.2.2.2.1) hS k0 he hc k hk (by rw [h2, h3]; exact F.2.2.2.2.1 _ hl) (fun x hx => by rw [h1] at hx; exact hx) h4 (by rw [h3]; exact hds) hn hfit hlen hd (fun H1 locs1 hP1 _ hS1 => ?_)
  rw [wsO_set F.2.2.2.2.2.2.1.1 ad cs M (upd (M a) k x) hk0 (by rw [ho.2, hs])] at hP1
  exact kk H1 locs1 ls hP1 hS1 hl0
theorem ax_iald (F : Fx G L ad cs z zk zv p m meth c cc nL ret s args own) {a n : Nat} (ho : isAr L ad cs a 0 n) {i : Int32} (hi : okI i n = true) (hd : decode cc pc = .ok (.iaload, 1))
    (kk : AW p l e R s m args below meth c Q G L ad cs nL (pc + 1) lv (.int (M a (ix i)) :: st) M) : AW p l e R s m args below meth c Q G L ad cs nL pc lv (.int i :: .ref (ad a) :: st) M := by
  intro H locs ls hP hS hl0
  obtain ⟨k0, hk0⟩ := List.getElem?_of_mem ho.1
  have he : (wsO L ad cs M)[k0]? = some (ad a, .inl (cs 0, n, .inl (M a))) := by rw [wsO_get ad cs M hk0, ho.2]
  exact va_iald F.1 F.2.1 F.2.2.2.2.2.1 hP k0 0 he rfl (okI_in hi) hd (kk H locs ls hP hS hl0)
theorem ax_zald (F : Fx G L ad cs z zk zv p m meth c cc nL ret s args own) {a n : Nat} (ho : isAr L ad cs a 1 n) {i : Int32} (hi : okI i n = true) (hd : decode cc pc = .ok (.baload, 1))
    (kk : AW p l e R s m args below meth c Q G L ad cs nL (pc + 1) lv (.int (M a (ix i)) :: st) M) : AW p l e R s m args below meth c Q G L ad cs nL pc lv (.int i :: .ref (ad a) :: st) M := by
  intro H locs ls hP hS hl0
  obtain ⟨k0, hk0⟩ := List.getElem?_of_mem ho.1
  have he : (wsO L ad cs M)[k0]? = some (ad a, .inl (cs 1, n, .inl (M a))) := by rw [wsO_get ad cs M hk0, ho.2]
  exact va_zald F.1 F.2.1 F.2.2.2.2.2.1 hP k0 1 he rfl (okI_in hi) hd (kk H locs ls hP hS hl0)
theorem ax_iast (F : Fx G L ad cs z zk zv p m meth c cc nL ret s args own) {a n : Nat} (ho : isAr L ad cs a 0 n) {i x : Int32} (hi : okI i n = true) (hd : decode cc pc = .ok (.iastore, 1))
    (kk : AW p l e R s m args below meth c Q G L ad cs nL (pc + 1) lv st (up2 M a (ix i) x)) : AW p l e R s m args below meth c Q G L ad cs nL pc lv (.int x :: .int i :: .ref (ad a) :: st) M := by
  intro H locs ls hP hS hl0
  obtain ⟨k0, hk0⟩ := List.getElem?_of_mem ho.1
  have he : (wsO L ad cs M)[k0]? = some (ad a, .inl (cs 0, n, .inl (M a))) := by rw [wsO_get ad cs M hk0, ho.2]
  refine va_iast F.1 F.2.1 F.2.2.2.2.2.1 hP (wsO_D F.2.2.2.2.2.2.1) hS k0 0 he rfl (okI_in hi) hd (fun H1 locs1 hP1 _ hS1 => ?_)
  rw [wsO_set F.2.2.2.2.2.2.1.1 ad cs M (upd (M a) i.toNatClampNeg x) hk0 (by rw [ho.2])] at hP1
  exact kk H1 locs1 ls hP1 hS1 hl0
theorem nar_z {x : Int32} (h : okZ x = true) : narrow .boolean (.int x) = .int x := by
  rcases okZ_or h with rfl | rfl <;> decide
theorem fit_z {x : Int32} (h : okZ x = true) : fits .boolean (.int x) = true := by
  rcases okZ_or h with rfl | rfl <;> decide
theorem ax_zast (F : Fx G L ad cs z zk zv p m meth c cc nL ret s args own) {a n : Nat} (ho : isAr L ad cs a 1 n) {i x : Int32} (hi : okI i n = true) (hz : okZ x = true) (hd : decode cc pc = .ok (.bastore, 1))
    (kk : AW p l e R s m args below meth c Q G L ad cs nL (pc + 1) lv st (up2 M a (ix i) x)) : AW p l e R s m args below meth c Q G L ad cs nL pc lv (.int x :: .int i :: .ref (ad a) :: st) M := by
  intro H locs ls hP hS hl0
  obtain ⟨k0, hk0⟩ := List.getElem?_of_mem ho.1
  have he : (wsO L ad cs M)[k0]? = some (ad a, .inl (cs 1, n, .inl (M a))) := by rw [wsO_get ad cs M hk0, ho.2]
  refine va_zast F.1 F.2.1 F.2.2.2.2.2.1 hP (wsO_D F.2.2.2.2.2.2.1) hS k0 1 he rfl (okI_in hi) hd (fun H1 locs1 hP1 _ hS1 => ?_)
  have hx : vp_nar .boolean x = x := by unfold vp_nar; rw [nar_z hz]
  rw [hx, wsO_set F.2.2.2.2.2.2.1.1 ad cs M (upd (M a) i.toNatClampNeg x) hk0 (by rw [ho.2])] at hP1
  exact kk H1 locs1 ls hP1 hS1 hl0
theorem ax_aald (F : Fx G L ad cs z zk zv p m meth c cc nL ret s args own) {a t n : Nat} {f : Nat → Nat} {C : String} (ho : isRf L ad cs a t n f) (ht : (tys cs)[t]? = some (cs t, .object C)) {i : Int32} (hi : okI i n = true) (hd : decode cc pc = .ok (.aaload, 1))
    (kk : AW p l e R s m args below meth c Q G L ad cs nL (pc + 1) lv (.ref (ad (f (ix i))) :: st) M) : AW p l e R s m args below meth c Q G L ad cs nL pc lv (.int i :: .ref (ad a) :: st) M := by
  intro H locs ls hP hS hl0
  obtain ⟨k0, hk0⟩ := List.getElem?_of_mem ho.1
  have he : (wsO L ad cs M)[k0]? = some (ad a, .inl (cs t, n, rfs (fun j => ad (f j)))) := by rw [wsO_get ad cs M hk0, ho.2]
  exact va_aldq F.1 F.2.1 F.2.2.2.2.2.1 hP k0 t he ht (okI_in hi) hd (kk H locs ls hP hS hl0)
theorem ax_iret (F : Fx G L ad cs z zk zv p m meth c cc nL (some .int) s args own) {v : Int32} (hd : decode cc pc = .ok (.ireturn, 1)) :
    AW p l e R s m args below meth c (MQ below (AQi G L ad cs v M) args s 0 0 (inA L ad)) G L ad cs nL pc lv [.int v] M := by
  intro H locs ls hP hS hl0
  have hlocks : meth.locks = false := F.2.2.2.2.2.2.2.2.2
  exact W.iret F.1 F.2.1 F.2.2.2.2.2.2.2.2.1 (fun t ht hW => ⟨⟨v, (), rfl, rfl, by show va_P _ _ _ t.heap; rw [ht]; exact hP⟩, hS.F ht⟩) hS.2.2 hd
theorem ax_zret (F : Fx G L ad cs z zk zv p m meth c cc nL (some .boolean) s args own) {v : Int32} (hz : okZ v = true) (hd : decode cc pc = .ok (.ireturn, 1)) :
    AW p l e R s m args below meth c (MQ below (AQi G L ad cs v M) args s 0 0 (inA L ad)) G L ad cs nL pc lv [.int v] M := by
  intro H locs ls hP hS hl0
  have hlocks : meth.locks = false := F.2.2.2.2.2.2.2.2.2
  exact W.zret F.1 F.2.1 F.2.2.2.2.2.2.2.2.1 (nar_z hz) (fun t ht hW => ⟨⟨v, (), rfl, rfl, by show va_P _ _ _ t.heap; rw [ht]; exact hP⟩, hS.F ht⟩) hS.2.2 hd
theorem ax_vret (F : Fx G L ad cs z zk zv p m meth c cc nL none s args own) (hd : decode cc pc = .ok (.return_, 1)) :
    AW p l e R s m args below meth c (MQ below (AQv G L ad cs M) args s 0 0 (inA L ad)) G L ad cs nL pc lv [] M := by
  intro H locs ls hP hS hl0
  have hlocks : meth.locks = false := F.2.2.2.2.2.2.2.2.2
  exact W.vret F.1 F.2.1 F.2.2.2.2.2.2.2.2.1 (fun t ht hW => ⟨⟨(), rfl, trivial, by show va_P _ _ _ t.heap; rw [ht]; exact hP⟩, hS.F ht⟩) hS.2.2 hd
theorem Fx.fix (F : Fx G L ad cs z zk zv p m meth c cc nL ret s args own) : CallFix p m c cc nL s args tg own := ⟨F.1, F.2.1, F.2.2.1, F.2.2.2.1, F.2.2.2.2.1⟩
/-- what a callee's name must be, and its room -/
def okC (R : Room) (y : MethodName) (maxL n : Nat) (rm : Room) : Prop := (y.cls ≠ "java/lang/invoke/MethodHandle" ∧ y.cls ≠ "java/lang/invoke/VarHandle" ∧ (parseMethodDescriptor y.desc).map (fun d => d.parameters.length) = some n) ∧ rm.cells = 0 ∧ rm.slots = 0 ∧ rm.frames + 1 ≤ R.frames ∧ 8 + (maxL + 11) + rm.locals ≤ R.locals
theorem ax_cB (F : Fx G L ad cs z zk zv p m meth c cc nL ret s args own) {y : MethodName} {by' : ByteArray} {maxL n i : Nat} {ry : Option FieldType} {rm : Room} (hk : Cond.code y by' maxL ry ∈ tg) (hz : Cond.initialized y.cls ∈ tg) (hl : Cond.methodLink own i y ∈ tg) (ho : okC R y maxL n rm) : CallB R s args own i y by' maxL ry (tgW y by' maxL ry) rm 0 0 n :=
  callB_of n F.2.2.2.2.1 (tg_good hk) rfl ho.2.1 ho.2.2.1 (F.2.2.2.2.1 _ hz) (F.2.2.2.2.1 _ hl) ho.1 ho.2.2.2
theorem ax_pre (F : Fx G L ad cs z zk zv p m meth c cc nL ret s args own) {H : Heap} {locs : List Loc} {avs : List Value} (hP : va_P G vwCl (wsO L ad cs M) H) (hS : va_S (inA L ad) s.heap H locs) : ∀ U : State, U.heap = H → s.WarmedH U.vm → APre G L ad cs z zk zv avs M avs.toArray U :=
  fun U hU hW => ⟨rfl, by rw [hU]; exact hP, va_K.moved hW.alike F.2.2.2.2.2.1, fun h => (F.2.2.2.2.2.2.2.1 h).move hS hU hW⟩
section Calls
variable {y : MethodName} {by' : ByteArray} {maxL n i a ci : Nat} {ry : Option FieldType} {rm : Room} {As : List Value} {st0 : List Value} {fs : (Nat → Int32) → List Value} {T : u_T} {N : Nat} {r : Int32} {M' : Mm}
theorem ax_callVi (F : Fx G L ad cs z zk zv p m meth c cc nL ret s args own) (hM : Met l y (tgW y by' maxL ry) rm (APre G L ad cs z zk zv (.ref (ad a) :: As) M) (AQi G L ad cs r M') 0 0 (inA L ad)) (hob : isOb L ad cs a ci fs) (hc : vwCl[ci]? = some (y.cls, T, N)) (hk : Cond.code y by' maxL ry ∈ tg) (hz : Cond.initialized y.cls ∈ tg) (hi : Cond.instanceMethod y ∈ tg) (hse : Cond.selects y.cls y y ∈ tg) (hl : Cond.methodLink own i y ∈ tg) (ho : okC R y maxL As.length rm) (hst : st0 = As.reverse ++ .ref (ad a) :: st) (hsum : (st.map fun v => v.category).sum ≤ 8) (hd : decode cc pc = .ok (.invokevirtual i, 3))
    (kk : AW p l e R s m args below meth c Q G L ad cs nL (pc + 3) lv (.int r :: st) M') : AW p l e R s m args below meth c Q G L ad cs nL pc lv st0 M := by
  intro H locs ls hP hS hl0
  obtain ⟨k0, hk0⟩ := List.getElem?_of_mem hob.1
  have he : (wsO L ad cs M)[k0]? = some (ad a, .inr (ci, fs (M a))) := by rw [wsO_get ad cs M hk0, hob.2]
  refine va_calli (va_runV F.fix hM ⟨ax_cB F hk hz hl ho, F.2.2.2.2.1 _ hi, F.2.2.2.2.1 _ hse⟩ ⟨APre.blind, va_recv F.2.2.2.2.2.1 hP hc he, ax_pre F hP hS⟩ rfl rfl hl0.1 hst (lv_room hsum) hd ⟨Nat.zero_le _, Nat.zero_le _⟩) hS (fun _ _ h => h) (fun _ h => h) (fun r' u t H1 locs1 ht hvm hw hB hz1 hk1 hS1 => ?_)
  subst hw
  have hB : va_P G vwCl (wsO L ad cs M') t.heap := hB
  rw [ht] at hB
  exact kk H1 locs1 ls hB hS1 hl0
theorem ax_callVv (F : Fx G L ad cs z zk zv p m meth c cc nL ret s args own) (hM : Met l y (tgW y by' maxL ry) rm (APre G L ad cs z zk zv (.ref (ad a) :: As) M) (AQv G L ad cs M') 0 0 (inA L ad)) (hob : isOb L ad cs a ci fs) (hc : vwCl[ci]? = some (y.cls, T, N)) (hk : Cond.code y by' maxL ry ∈ tg) (hz : Cond.initialized y.cls ∈ tg) (hi : Cond.instanceMethod y ∈ tg) (hse : Cond.selects y.cls y y ∈ tg) (hl : Cond.methodLink own i y ∈ tg) (ho : okC R y maxL As.length rm) (hst : st0 = As.reverse ++ .ref (ad a) :: st) (hsum : (st.map fun v => v.category).sum ≤ 8) (hd : decode cc pc = .ok (.invokevirtual i, 3))
    (kk : AW p l e R s m args below meth c Q G L ad cs nL (pc + 3) lv st M') : AW p l e R s m args below meth c Q G L ad cs nL pc lv st0 M := by
  intro H locs ls hP hS hl0
  obtain ⟨k0, hk0⟩ := List.getElem?_of_mem hob.1
  have he : (wsO L ad cs M)[k0]? = some (ad a, .inr (ci, fs (M a))) := by rw [wsO_get ad cs M hk0, hob.2]
  refine va_callv (va_runV F.fix hM ⟨ax_cB F hk hz hl ho, F.2.2.2.2.1 _ hi, F.2.2.2.2.1 _ hse⟩ ⟨APre.blind, va_recv F.2.2.2.2.2.1 hP hc he, ax_pre F hP hS⟩ rfl rfl hl0.1 hst (lv_room hsum) hd ⟨Nat.zero_le _, Nat.zero_le _⟩) hS (fun _ _ h => h) (fun _ h => h) (fun u t H1 locs1 ht hvm hw hB hz1 hk1 hS1 => ?_)
  have hB : va_P G vwCl (wsO L ad cs M') t.heap := hB
  rw [ht] at hB
  exact kk H1 locs1 ls hB hS1 hl0
theorem ax_callSi (F : Fx G L ad cs z zk zv p m meth c cc nL ret s args own) (hM : Met l y (tgW y by' maxL ry) rm (APre G L ad cs z zk zv As M) (AQi G L ad cs r M') 0 0 (inA L ad)) (hk : Cond.code y by' maxL ry ∈ tg) (hz : Cond.initialized y.cls ∈ tg) (hi : Cond.static y ∈ tg) (hl : Cond.methodLink own i y ∈ tg) (ho : okC R y maxL As.length rm) (hst : st0 = As.reverse ++ st) (hsum : (st.map fun v => v.category).sum ≤ 8) (hd : decode cc pc = .ok (.invokestatic i, 3))
    (kk : AW p l e R s m args below meth c Q G L ad cs nL (pc + 3) lv (.int r :: st) M') : AW p l e R s m args below meth c Q G L ad cs nL pc lv st0 M := by
  intro H locs ls hP hS hl0
  refine va_calli (va_runS F.fix hM ⟨ax_cB F hk hz hl ho, F.2.2.2.2.1 _ hi⟩ ⟨APre.blind, ax_pre F hP hS⟩ rfl rfl hl0.1 hst (lv_room hsum) hd ⟨Nat.zero_le _, Nat.zero_le _⟩) hS (fun _ _ h => h) (fun _ h => h) (fun r' u t H1 locs1 ht hvm hw hB hz1 hk1 hS1 => ?_)
  subst hw
  have hB : va_P G vwCl (wsO L ad cs M') t.heap := hB
  rw [ht] at hB
  exact kk H1 locs1 ls hB hS1 hl0
theorem ax_callSv (F : Fx G L ad cs z zk zv p m meth c cc nL ret s args own) (hM : Met l y (tgW y by' maxL ry) rm (APre G L ad cs z zk zv As M) (AQv G L ad cs M') 0 0 (inA L ad)) (hk : Cond.code y by' maxL ry ∈ tg) (hz : Cond.initialized y.cls ∈ tg) (hi : Cond.static y ∈ tg) (hl : Cond.methodLink own i y ∈ tg) (ho : okC R y maxL As.length rm) (hst : st0 = As.reverse ++ st) (hsum : (st.map fun v => v.category).sum ≤ 8) (hd : decode cc pc = .ok (.invokestatic i, 3))
    (kk : AW p l e R s m args below meth c Q G L ad cs nL (pc + 3) lv st M') : AW p l e R s m args below meth c Q G L ad cs nL pc lv st0 M := by
  intro H locs ls hP hS hl0
  refine va_callv (va_runS F.fix hM ⟨ax_cB F hk hz hl ho, F.2.2.2.2.1 _ hi⟩ ⟨APre.blind, ax_pre F hP hS⟩ rfl rfl hl0.1 hst (lv_room hsum) hd ⟨Nat.zero_le _, Nat.zero_le _⟩) hS (fun _ _ h => h) (fun _ h => h) (fun u t H1 locs1 ht hvm hw hB hz1 hk1 hS1 => ?_)
  have hB : va_P G vwCl (wsO L ad cs M') t.heap := hB
  rw [ht] at hB
  exact kk H1 locs1 ls hB hS1 hl0
end Calls
theorem ax_max (F : Fx G L ad cs z zk zv p m meth c cc nL ret s args own) {i : Nat} (hl : Cond.methodLink own i Lib.Math.max.name ∈ tg) (ht : Cond.static Lib.Math.max.name ∈ tg) (hz : Cond.initialized "java/lang/Math" ∈ tg) (hk : Cond.code Lib.Math.max.name Lib.Math.max.code 2 (some .int) ∈ tg) (hfr : 1 ≤ R.frames) (hsum : (st.map fun v => v.category).sum + 13 ≤ R.locals) {x y : Int32} (hd : decode cc pc = .ok (.invokestatic i, 3))
    (kk : AW p l e R s m args below meth c Q G L ad cs nL (pc + 3) lv (.int (imax x y) :: st) M) : AW p l e R s m args below meth c Q G L ad cs nL pc lv (.int y :: .int x :: st) M :=
  fun H locs ls hP hS hl0 => va_mmax F.1 F.2.1 (by rw [hl0.1]; exact F.2.2.1) F.2.2.2.1 (F.2.2.2.2.1 _ hl) (F.2.2.2.2.1 _ ht) (F.2.2.2.2.1 _ hz) (F.2.2.2.2.1 _ hk) hfr hsum (Nat.zero_le _) (Nat.zero_le _) hd (kk H locs ls hP hS hl0)
theorem ax_min (F : Fx G L ad cs z zk zv p m meth c cc nL ret s args own) {i : Nat} (hl : Cond.methodLink own i Lib.Math.min.name ∈ tg) (ht : Cond.static Lib.Math.min.name ∈ tg) (hz : Cond.initialized "java/lang/Math" ∈ tg) (hk : Cond.code Lib.Math.min.name Lib.Math.min.code 2 (some .int) ∈ tg) (hfr : 1 ≤ R.frames) (hsum : (st.map fun v => v.category).sum + 13 ≤ R.locals) {x y : Int32} (hd : decode cc pc = .ok (.invokestatic i, 3))
    (kk : AW p l e R s m args below meth c Q G L ad cs nL (pc + 3) lv (.int (imin x y) :: st) M) : AW p l e R s m args below meth c Q G L ad cs nL pc lv (.int y :: .int x :: st) M :=
  fun H locs ls hP hS hl0 => va_mmin F.1 F.2.1 (by rw [hl0.1]; exact F.2.2.1) F.2.2.2.1 (F.2.2.2.2.1 _ hl) (F.2.2.2.2.1 _ ht) (F.2.2.2.2.1 _ hz) (F.2.2.2.2.1 _ hk) hfr hsum (Nat.zero_le _) (Nat.zero_le _) hd (kk H locs ls hP hS hl0)
end Ax
/-- a method's contract out of a walk of its body -/
theorem met_of {l : Launch} {G : va_G} {L : List Nat} {ad : Nat → Nat} {cs : Nat → ClassId} {z : Bool} {zk zv : Nat → Nat} {y : MethodName} {cc : ByteArray} {nL : Nat} {ret : Option FieldType} {rm : Room} {avs : List Value} {M : Mm} {Qc : Array Value → State → Outcome → State → Prop}
    (hy : plainName y.cls = true) (hlen : (lg_sl avs).length ≤ nL) (hinj : inj L ad) (lv : List (Option Value)) (hlv : lv = enl avs ++ List.replicate (nL - (enl avs).length) none)
    (body : ∀ (p : Program) (e : Env) (s : State) (m : MethodId) (below : List Frame) (meth : Method) (c : Code), Fx G L ad cs z zk zv p m meth c cc nL ret s avs.toArray y.cls → AW p l e rm s m avs.toArray below meth c (MQ below Qc avs.toArray s 0 0 (inA L ad)) G L ad cs nL 0 lv [] M) :
    Met l y (tgW y cc nL ret) rm (APre G L ad cs z zk zv avs M) Qc 0 0 (inA L ad) := by
  refine Met.ofW (cc := cc) (maxL := nL) (ret := ret) hy rfl ?_
  intro p e s m args below meth c s₁ B hml hv
  obtain ⟨rfl, hP, hK, hZ⟩ := hv
  have hts := atoms_spec (ws := tgW y cc nL ret) B.pre
  have hown : s.vm.findClass y.cls = some m.cls := findClass_of_methodNamed B.named
  have F : Fx G L ad cs z zk zv p m meth c cc nL ret s avs.toArray y.cls := ⟨B.exec, B.bytes, hml, hown, fun w hw => hts w (List.mem_cons_of_mem _ hw), hK, hinj, hZ, B.returns, B.notSynchronized⟩
  have hl := lv_entry avs (n := nL) hlen
  rw [lg_entry_eq]
  refine body p e s m below meth c F s.heap [] _ hP va_S.rf ⟨hl.1, hl.2.1, fun i v hi => ?_⟩
  subst hlv
  have h1 : (enl avs)[i]? = some (some v) := by
    rw [List.getElem?_append] at hi
    split at hi
    · exact hi
    · rw [List.getElem?_replicate] at hi
      split at hi <;> simp at hi
  have h2 := enl_args avs 0 i v h1
  rw [Nat.zero_add] at h2
  exact hl.2.2 (i, v) h2
