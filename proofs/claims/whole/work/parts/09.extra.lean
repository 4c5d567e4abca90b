/-! a call in a model; what it says when it comes to something -/
def cl {β : Type} (f : Option Rst) (k : Int32 → Mm → Option β) : Option β := f.bind (fun q => k q.1 q.2)
theorem cl_s {β : Type} (r : Int32) (M : Mm) (k : Int32 → Mm → Option β) : cl (some (r, M)) k = k r M := rfl
theorem cq_some {β γ : Type} {f : Option Rst} {k : Int32 → Mm → Option β} {g : β → Option γ} {x : γ} (h : (cl f k).bind g = some x) : ∃ r M1, f = some (r, M1) ∧ (k r M1).bind g = some x := by
  cases f with
  | none => cases h
  | some q => exact ⟨q.1, q.2, rfl, h⟩
theorem cq_some0 {β : Type} {f : Option Rst} {k : Int32 → Mm → Option β} {x : β} (h : cl f k = some x) : ∃ r M1, f = some (r, M1) ∧ k r M1 = some x := by
  cases f with
  | none => cases h
  | some q => exact ⟨q.1, q.2, rfl, h⟩
theorem gd_some0 {α : Type} {c : Bool} {k : Option α} {x : α} (h : gd c k = some x) : c = true ∧ k = some x := by
  unfold gd at h
  by_cases hc : c = true
  · rw [if_pos hc] at h; exact ⟨hc, h⟩
  · rw [if_neg hc] at h; cases h
theorem it_pos0 {α : Type} {c : Prop} {_ : Decidable c} {A B : Option α} {x : α} (h : (if c then A else B) = some x) (hc : c) : A = some x := by rw [if_pos hc] at h; exact h
theorem it_neg0 {α : Type} {c : Prop} {_ : Decidable c} {A B : Option α} {x : α} (h : (if c then A else B) = some x) (hc : ¬ c) : B = some x := by rw [if_neg hc] at h; exact h
theorem rt_some0 {v r : Int32} {M M' : Mm} (h : some (v, M) = some (r, M')) : v = r ∧ M = M' := by cases h; exact ⟨rfl, rfl⟩
theorem rt_some {f : Sst → Option Rst} {v r : Int32} {M M' : Mm} (h : (some (.inr (v, M)) : Option (Sst ⊕ Rst)).bind (fun q => match q with | .inl s' => f s' | .inr r => some r) = some (r, M')) : v = r ∧ M = M' := by cases h; exact ⟨rfl, rfl⟩
def mask : List Bool → List (Option Value) → List (Option Value)
  | b :: bs, x :: xs => (if b then x else none) :: mask bs xs
  | _, _ => []
theorem mask_get : ∀ (bs : List Bool) (lv : List (Option Value)) (i : Nat) (v : Value), (mask bs lv)[i]? = some (some v) → lv[i]? = some (some v) := by
  intro bs
  induction bs with
  | nil => intro lv i v h; simp [mask] at h
  | cons b bs ih =>
    intro lv i v h
    cases lv with
    | nil => simp [mask] at h
    | cons x xs =>
      cases i with
      | zero =>
        simp only [mask, List.getElem?_cons_zero] at h ⊢
        cases b
        · simp at h
        · simpa using h
      | succ i =>
        simp only [mask, List.getElem?_cons_succ] at h ⊢
        exact ih xs i v h
def iur (x y : Int32) : Int32 := (x.toUInt32 >>> (y.toUInt32 &&& Int32.toUInt32 31)).toInt32
section Ax2
variable {p : Program} {l : Launch} {e : Env} {R : Room} {s : State} {m : MethodId} {args : Array Value} {below : List Frame} {meth : Method} {c : Code} {Q : State → Prop}
variable {G : va_G} {L : List Nat} {ad : Nat → Nat} {cs : Nat → ClassId} {z : Bool} {zk zv : Nat → Nat} {cc : ByteArray} {nL : Nat} {ret : Option FieldType} {own : String}
variable {pc : Nat} {lv : List (Option Value)} {st : List Value} {M : Mm}
/-- what isn't read any more is forgotten -/
theorem ax_mask (bs : List Bool) (k : AW p l e R s m args below meth c Q G L ad cs nL pc (mask bs lv) st M) : AW p l e R s m args below meth c Q G L ad cs nL pc lv st M :=
  fun H locs ls hP hS hl => k H locs ls hP hS ⟨hl.1, hl.2.1, fun i v h => hl.2.2 i v (mask_get bs lv i v h)⟩
theorem ax_swK (F : Fx G L ad cs z zk zv p m meth c cc nL ret s args own) {d lo hi : Int} {os : Array Int} {len : Nat} {x v : Int32} {t : Nat} {o : Int} (hd : decode cc pc = .ok (.tableswitch d lo hi os, len)) (hx : x = v) (h1 : ¬ v.toInt < lo) (h2 : ¬ hi < v.toInt) (ho : os[(v.toInt - lo).toNat]? = some o) (ht : (pc : Int) + o = (t : Int))
    (k : AW p l e R s m args below meth c Q G L ad cs nL t lv st M) : AW p l e R s m args below meth c Q G L ad cs nL pc lv (.int x :: st) M := by
  subst hx
  exact ax_swIn F hd h1 h2 ho ht k
theorem ax_iushr (F : Fx G L ad cs z zk zv p m meth c cc nL ret s args own) {x y : Int32} (hd : decode cc pc = .ok (.iushr, 1))
    (k : AW p l e R s m args below meth c Q G L ad cs nL (pc + 1) lv (.int (iur x y) :: st) M) : AW p l e R s m args below meth c Q G L ad cs nL pc lv (.int y :: .int x :: st) M :=
  fun H locs ls hP hS hl => lv_iushr F.1 F.2.1 hd rfl (k H locs ls hP hS hl)
theorem ax_ldcw (F : Fx G L ad cs z zk zv p m meth c cc nL ret s args own) {i : Nat} {v : Int32} (hk : Cond.constant own i v ∈ tg) (hd : decode cc pc = .ok (.ldc_w i, 3))
    (k : AW p l e R s m args below meth c Q G L ad cs nL (pc + 3) lv (.int v :: st) M) : AW p l e R s m args below meth c Q G L ad cs nL pc lv st M :=
  fun H locs ls hP hS hl => lv_ldcw F.1 F.2.1 F.2.2.2.1 (F.2.2.2.2.1 _ hk) hd (k H locs ls hP hS hl)
end Ax2
/-- a method's contract out of a walk of its body -/
theorem met_ofF {l : Launch} {G : va_G} {L : List Nat} {ad : Nat → Nat} {cs : Nat → ClassId} {z : Bool} {zk zv : Nat → Nat} {y : MethodName} {cc : ByteArray} {nL : Nat} {ret : Option FieldType} {rm : Room} {avs : List Value} {M : Mm} {Qc : Array Value → State → Outcome → State → Prop}
    (hy : plainFor y = true) (hlen : (lg_sl avs).length ≤ nL) (hinj : inj L ad) (lv : List (Option Value)) (hlv : lv = enl avs ++ List.replicate (nL - (enl avs).length) none)
    (body : ∀ (p : Program) (e : Env) (s : State) (m : MethodId) (below : List Frame) (meth : Method) (c : Code), Fx G L ad cs z zk zv p m meth c cc nL ret s avs.toArray y.cls → AW p l e rm s m avs.toArray below meth c (MQ below Qc avs.toArray s 0 0 (inA L ad)) G L ad cs nL 0 lv [] M) :
    Met l y (tgW y cc nL ret) rm (APre G L ad cs z zk zv avs M) Qc 0 0 (inA L ad) := by
  refine va_MetF (cc := cc) (maxL := nL) (ret := ret) hy rfl ?_
  intro p e s m args below meth c s₁ B hml hv
  obtain ⟨rfl, hP, hK, hZ⟩ := hv
  have hts := atoms_spec (ws := tgW y cc nL ret) B.pre
  have hown : s.vm.findClass y.cls = some m.cls := findClass_of_methodNamed B.named
  have F : Fx G L ad cs z zk zv p m meth c cc nL ret s avs.toArray y.cls := ⟨B.exec, B.bytes, hml, hown, fun w hw => hts w (List.mem_cons_of_mem _ hw), hK, hinj, hZ, B.returns, B.notSynchronized⟩
  have hl := lv_entry avs (n := nL) hlen
  rw [lg_entry_eq]
  refine body p e s m below meth c F s.heap [] _ hP va_S.rf ⟨hl.1, hl.2.1, fun i v hi => ?_⟩
  subst hlv
  have h1 : (enl avs)[i]? = some (some v) := by
    rw [List.getElem?_append] at hi
    split at hi
    · exact hi
    · rw [List.getElem?_replicate] at hi
      split at hi <;> simp at hi
  have h2 := enl_args avs 0 i v h1
  rw [Nat.zero_add] at h2
  exact hl.2.2 (i, v) h2
