def rmX9_keepPast : Room := { frames := 1, cells := 0, slots := 0, locals := 23 }
theorem kn_X9_keepPast : yX9_keepPast.cls ≠ "java/lang/invoke/MethodHandle" ∧ yX9_keepPast.cls ≠ "java/lang/invoke/VarHandle" ∧ (parseMethodDescriptor yX9_keepPast.desc).map (fun d => d.parameters.length) = some 0 := by decide +kernel
noncomputable def bX9_keepPast_0  (M : Mm) : Option (Sst ⊕ Rst) := some (.inl (1, [], [(0 : Int32)], M))
noncomputable def bX9_keepPast_1 (x1 : Int32) (M : Mm) : Option (Sst ⊕ Rst) := if (630 : Int32) ≤ x1 then (some (.inl (2, [], [], M))) else (if (M 338 5) = (8 : Int32) then (gd (okI ((180 : Int32) + x1) 1080) (gd (okI ((90 : Int32) + x1) 1080) (some (.inl (1, [], [(x1 + (1 : Int32))], (up2 M 339 (ix ((90 : Int32) + x1)) (M 339 (ix ((180 : Int32) + x1))))))))) else (some (.inl (2, [], [], M))))
noncomputable def bX9_keepPast_2  (M : Mm) : Option (Sst ⊕ Rst) := if (M 338 5) = (8 : Int32) then (some (.inl (3, [], [(1 : Int32), (M 338 5)], M))) else (some (.inl (3, [], [(0 : Int32), (M 338 5)], M)))
noncomputable def bX9_keepPast_3 (s0 : Int32) (s1 : Int32) (M : Mm) : Option (Sst ⊕ Rst) := cl (fX9_copyRow (0 : Int32) ((90 : Int32) + ((90 : Int32) * ((up2 M 338 5 (s1 - s0)) 338 5))) (up2 M 338 5 (s1 - s0))) (fun r1 M1 => some (.inr ((0 : Int32), (up2 M1 338 5 ((M1 338 5) + (1 : Int32))))))
noncomputable def stX9_keepPast : Sst → Option (Sst ⊕ Rst) := fun q => match q.1 with
  | 0 => bX9_keepPast_0  q.2.2.2
  | 1 => bX9_keepPast_1 (q.2.2.1.getD 0 0) q.2.2.2
  | 2 => bX9_keepPast_2  q.2.2.2
  | 3 => bX9_keepPast_3 (q.2.2.1.getD 0 0) (q.2.2.1.getD 1 0) q.2.2.2
  | _ => none
noncomputable def fX9_keepPast  (M : Mm) : Option Rst := run stX9_keepPast (0, [], [], M)
def PX9_keepPast (p : Program) (l : Launch) (e : Env) (s : State) (m : MethodId) (args : Array Value) (below : List Frame) (meth : Method) (c : Code) (G : va_G) (L : List Nat) (ad : Nat → Nat) (cs : Nat → ClassId) (zk : Nat → Nat) (r : Int32) (M' : Mm) (n : Nat) : Prop := (∀  (M : Mm), itr stX9_keepPast n (0, [], [], M) = some (r, M') → AW p l e rmX9_keepPast s m args below meth c (MQ below (AQv G L ad cs M') args s 0 0 (inA L ad)) G L ad cs 2 0 [some (.ref (ad 338)), none] [] M) ∧ (∀ (x1 : Int32) (M : Mm), itr stX9_keepPast n (1, [], [x1], M) = some (r, M') → AW p l e rmX9_keepPast s m args below meth c (MQ below (AQv G L ad cs M') args s 0 0 (inA L ad)) G L ad cs 2 2 [some (.ref (ad 338)), some (.int x1)] [] M) ∧ (∀  (M : Mm), itr stX9_keepPast n (2, [], [], M) = some (r, M') → AW p l e rmX9_keepPast s m args below meth c (MQ below (AQv G L ad cs M') args s 0 0 (inA L ad)) G L ad cs 2 43 [some (.ref (ad 338)), none] [] M) ∧ (∀ (s0 : Int32) (s1 : Int32) (M : Mm), itr stX9_keepPast n (3, [], [s0, s1], M) = some (r, M') → AW p l e rmX9_keepPast s m args below meth c (MQ below (AQv G L ad cs M') args s 0 0 (inA L ad)) G L ad cs 2 62 [some (.ref (ad 338)), none] [.int s0, .int s1, .ref (ad 338)] M)
set_option maxRecDepth 100000 in
set_option maxHeartbeats 4000000 in
theorem wX9_keepPast_0 {p : Program} {l : Launch} {e : Env} {s : State} {m : MethodId} {args : Array Value} {below : List Frame} {meth : Method} {c : Code} {G : va_G} {L : List Nat} {ad : Nat → Nat} {cs : Nat → ClassId} {z : Bool} {zk zv : Nat → Nat} {r : Int32} {M' : Mm} {n : Nat} (F : Fx G L ad cs z zk zv p m meth c cX9_keepPast 2 none s args RX9) (hm : isM L) (IH : PX9_keepPast p l e s m args below meth c G L ad cs zk r M' n)  (M : Mm) (h : (bX9_keepPast_0  M).bind (fun q => match q with | .inl s' => itr stX9_keepPast n s' | .inr r => some r) = some (r, M'))  : AW p l e rmX9_keepPast s m args below meth c (MQ below (AQv G L ad cs M') args s 0 0 (inA L ad)) G L ad cs 2 0 [some (.ref (ad 338)), none] [] M := by
  unfold bX9_keepPast_0 at h
  refine ax_iconst (v := (0 : Int32)) F dX9_keepPast_0 (by decide) ?_
  refine ax_istore_n F dX9_keepPast_1 (by decide) rfl ?_
  exact IH.2.1 _ _ h 
set_option maxRecDepth 100000 in
set_option maxHeartbeats 4000000 in
theorem wX9_keepPast_1 {p : Program} {l : Launch} {e : Env} {s : State} {m : MethodId} {args : Array Value} {below : List Frame} {meth : Method} {c : Code} {G : va_G} {L : List Nat} {ad : Nat → Nat} {cs : Nat → ClassId} {z : Bool} {zk zv : Nat → Nat} {r : Int32} {M' : Mm} {n : Nat} (F : Fx G L ad cs z zk zv p m meth c cX9_keepPast 2 none s args RX9) (hm : isM L) (IH : PX9_keepPast p l e s m args below meth c G L ad cs zk r M' n) (x1 : Int32) (M : Mm) (h : (bX9_keepPast_1 x1 M).bind (fun q => match q with | .inl s' => itr stX9_keepPast n s' | .inr r => some r) = some (r, M'))  : AW p l e rmX9_keepPast s m args below meth c (MQ below (AQv G L ad cs M') args s 0 0 (inA L ad)) G L ad cs 2 2 [some (.ref (ad 338)), some (.int x1)] [] M := by
  unfold bX9_keepPast_1 at h
  refine ax_iload_n F dX9_keepPast_2 rfl ?_
  refine ax_sipush (v := (630 : Int32)) F dX9_keepPast_3 (by decide) ?_
  refine ax_icmp_ge (t := 43) F dX9_keepPast_6 (by decide) (fun hc => ?_) (fun hc => ?_)
  · have h := it_pos h hc
    refine ax_mask [true, false] ?_
    exact IH.2.2.1  _ h 
  · have h := it_neg h hc
    refine ax_aload_n F dX9_keepPast_9 rfl ?_
    refine ax_get (v := .int (M 338 5)) F (ob_338 hm) rfl inGX9 5 (by decide) rfl kf_X9_149 rfl dX9_keepPast_10 ?_
    refine ax_bipush (v := (8 : Int32)) F dX9_keepPast_13 (by decide) ?_
    refine ax_icmp_ne (t := 43) F dX9_keepPast_15 (by decide) (fun hc => ?_) (fun hc => ?_)
    · have h := it_neg h hc
      refine ax_mask [true, false] ?_
      exact IH.2.2.1  _ h 
    · have h := it_pos h hc
      refine ax_aload_n F dX9_keepPast_18 rfl ?_
      refine ax_get (v := .ref (ad 339)) F (ob_338 hm) rfl inGX9 0 (by decide) rfl kf_X9_7 rfl dX9_keepPast_19 ?_
      refine ax_bipush (v := (90 : Int32)) F dX9_keepPast_22 (by decide) ?_
      refine ax_iload_n F dX9_keepPast_24 rfl ?_
      refine ax_iadd F dX9_keepPast_25 ?_
      refine ax_aload_n F dX9_keepPast_26 rfl ?_
      refine ax_get (v := .ref (ad 339)) F (ob_338 hm) rfl inGX9 0 (by decide) rfl kf_X9_7 rfl dX9_keepPast_27 ?_
      refine ax_sipush (v := (180 : Int32)) F dX9_keepPast_30 (by decide) ?_
      refine ax_iload_n F dX9_keepPast_33 rfl ?_
      refine ax_iadd F dX9_keepPast_34 ?_
      obtain ⟨hg, h⟩ := gd_some h
      refine ax_iald F (ar_339 hm) hg dX9_keepPast_35 ?_
      obtain ⟨hg, h⟩ := gd_some h
      refine ax_iast F (ar_339 hm) hg dX9_keepPast_36 ?_
      refine ax_iinc (v := (1 : Int32)) F dX9_keepPast_37 rfl (by decide) (by decide) rfl ?_
      refine ax_goto (t := 2) F dX9_keepPast_40 (by decide) ?_
      exact IH.2.1 _ _ h 
set_option maxRecDepth 100000 in
set_option maxHeartbeats 4000000 in
theorem wX9_keepPast_2 {p : Program} {l : Launch} {e : Env} {s : State} {m : MethodId} {args : Array Value} {below : List Frame} {meth : Method} {c : Code} {G : va_G} {L : List Nat} {ad : Nat → Nat} {cs : Nat → ClassId} {z : Bool} {zk zv : Nat → Nat} {r : Int32} {M' : Mm} {n : Nat} (F : Fx G L ad cs z zk zv p m meth c cX9_keepPast 2 none s args RX9) (hm : isM L) (IH : PX9_keepPast p l e s m args below meth c G L ad cs zk r M' n)  (M : Mm) (h : (bX9_keepPast_2  M).bind (fun q => match q with | .inl s' => itr stX9_keepPast n s' | .inr r => some r) = some (r, M'))  : AW p l e rmX9_keepPast s m args below meth c (MQ below (AQv G L ad cs M') args s 0 0 (inA L ad)) G L ad cs 2 43 [some (.ref (ad 338)), none] [] M := by
  unfold bX9_keepPast_2 at h
  refine ax_aload_n F dX9_keepPast_43 rfl ?_
  refine ax_dup F dX9_keepPast_44 rfl ?_
  refine ax_get (v := .int (M 338 5)) F (ob_338 hm) rfl inGX9 5 (by decide) rfl kf_X9_149 rfl dX9_keepPast_45 ?_
  refine ax_aload_n F dX9_keepPast_48 rfl ?_
  refine ax_get (v := .int (M 338 5)) F (ob_338 hm) rfl inGX9 5 (by decide) rfl kf_X9_149 rfl dX9_keepPast_49 ?_
  refine ax_bipush (v := (8 : Int32)) F dX9_keepPast_52 (by decide) ?_
  refine ax_icmp_ne (t := 61) F dX9_keepPast_54 (by decide) (fun hc => ?_) (fun hc => ?_)
  · have h := it_neg h hc
    refine ax_iconst (v := (0 : Int32)) F dX9_keepPast_61 (by decide) ?_
    exact IH.2.2.2 _ _ _ h 
  · have h := it_pos h hc
    refine ax_iconst (v := (1 : Int32)) F dX9_keepPast_57 (by decide) ?_
    refine ax_goto (t := 62) F dX9_keepPast_58 (by decide) ?_
    exact IH.2.2.2 _ _ _ h 
set_option maxRecDepth 100000 in
set_option maxHeartbeats 4000000 in
theorem wX9_keepPast_3 {p : Program} {l : Launch} {e : Env} {s : State} {m : MethodId} {args : Array Value} {below : List Frame} {meth : Method} {c : Code} {G : va_G} {L : List Nat} {ad : Nat → Nat} {cs : Nat → ClassId} {z : Bool} {zk zv : Nat → Nat} {r : Int32} {M' : Mm} {n : Nat} (F : Fx G L ad cs z zk zv p m meth c cX9_keepPast 2 none s args RX9) (hm : isM L) (IH : PX9_keepPast p l e s m args below meth c G L ad cs zk r M' n) (s0 : Int32) (s1 : Int32) (M : Mm) (h : (bX9_keepPast_3 s0 s1 M).bind (fun q => match q with | .inl s' => itr stX9_keepPast n s' | .inr r => some r) = some (r, M'))  : AW p l e rmX9_keepPast s m args below meth c (MQ below (AQv G L ad cs M') args s 0 0 (inA L ad)) G L ad cs 2 62 [some (.ref (ad 338)), none] [.int s0, .int s1, .ref (ad 338)] M := by
  unfold bX9_keepPast_3 at h
  refine ax_isub F dX9_keepPast_62 ?_
  refine ax_put (ty := .int) F (ob_338 hm) rfl inGX9 tyX9 tyX9_ok nmX9 5 (by decide) rfl kf_X9_149 (by decide) rfl rfl (Nat.le_of_ble_eq_true rfl) rfl dX9_keepPast_63 ?_
  refine ax_aload_n F dX9_keepPast_66 rfl ?_
  refine ax_iconst (v := (0 : Int32)) F dX9_keepPast_67 (by decide) ?_
  refine ax_bipush (v := (90 : Int32)) F dX9_keepPast_68 (by decide) ?_
  refine ax_bipush (v := (90 : Int32)) F dX9_keepPast_70 (by decide) ?_
  refine ax_aload_n F dX9_keepPast_72 rfl ?_
  refine ax_get (v := .int ((up2 M 338 5 (s1 - s0)) 338 5)) F (ob_338 hm) rfl inGX9 5 (by decide) rfl kf_X9_149 rfl dX9_keepPast_73 ?_
  refine ax_imul F dX9_keepPast_76 ?_
  refine ax_iadd F dX9_keepPast_77 ?_
  obtain ⟨r1, M1, hq1, h⟩ := cq_some h
  refine ax_callVv (As := [.int (0 : Int32), .int ((90 : Int32) + ((90 : Int32) * ((up2 M 338 5 (s1 - s0)) 338 5)))]) (st := []) F (tX9_copyRow F.2.2.2.2.2.2.1 hm _ _  _ _ _ hq1) (ob_338 hm) rfl kc_X9_copyRow kz_X9 ki_X9_copyRow ks_X9_copyRow km_X9_198 ⟨kn_X9_copyRow, rfl, rfl, Nat.le_of_ble_eq_true rfl, Nat.le_of_ble_eq_true rfl⟩ rfl (Nat.le_of_ble_eq_true rfl) dX9_keepPast_78 ?_
  refine ax_aload_n F dX9_keepPast_81 rfl ?_
  refine ax_dup F dX9_keepPast_82 rfl ?_
  refine ax_get (v := .int (M1 338 5)) F (ob_338 hm) rfl inGX9 5 (by decide) rfl kf_X9_149 rfl dX9_keepPast_83 ?_
  refine ax_iconst (v := (1 : Int32)) F dX9_keepPast_86 (by decide) ?_
  refine ax_iadd F dX9_keepPast_87 ?_
  refine ax_put (ty := .int) F (ob_338 hm) rfl inGX9 tyX9 tyX9_ok nmX9 5 (by decide) rfl kf_X9_149 (by decide) rfl rfl (Nat.le_of_ble_eq_true rfl) rfl dX9_keepPast_88 ?_
  obtain ⟨h1, h2⟩ := rt_some h
  subst h2
  exact ax_vret F dX9_keepPast_91
set_option maxRecDepth 100000 in
set_option maxHeartbeats 4000000 in
theorem wX9_keepPast {p : Program} {l : Launch} {e : Env} {s : State} {m : MethodId} {args : Array Value} {below : List Frame} {meth : Method} {c : Code} {G : va_G} {L : List Nat} {ad : Nat → Nat} {cs : Nat → ClassId} {z : Bool} {zk zv : Nat → Nat} {r : Int32} {M' : Mm} (F : Fx G L ad cs z zk zv p m meth c cX9_keepPast 2 none s args RX9) (hm : isM L) (n : Nat) : PX9_keepPast p l e s m args below meth c G L ad cs zk r M' n := by
  induction n with
  | zero => exact ⟨(fun  M h => by cases h), (fun x1 M h => by cases h), (fun  M h => by cases h), (fun s0 s1 M h => by cases h)⟩
  | succ n ih =>
    exact ⟨fun  M h  => wX9_keepPast_0 F hm ih  M h ,
      fun x1 M h  => wX9_keepPast_1 F hm ih x1 M h ,
      fun  M h  => wX9_keepPast_2 F hm ih  M h ,
      fun s0 s1 M h  => wX9_keepPast_3 F hm ih s0 s1 M h ⟩
set_option maxRecDepth 100000 in
set_option maxHeartbeats 4000000 in
theorem tX9_keepPast {l : Launch} {G : va_G} {L : List Nat} {ad : Nat → Nat} {cs : Nat → ClassId} {z : Bool} {zk zv : Nat → Nat} (hinj : inj L ad) (hm : isM L)   (M : Mm) (r : Int32) (M' : Mm) (h : fX9_keepPast  M = some (r, M')) : Met l yX9_keepPast (tgW yX9_keepPast cX9_keepPast 2 none) rmX9_keepPast (APre G L ad cs z zk zv [.ref (ad 338)] M) (AQv G L ad cs M') 0 0 (inA L ad) := by
  refine met_of (Eq.refl true) (Nat.le_of_ble_eq_true rfl) hinj [some (.ref (ad 338)), none] rfl ?_
  intro p e s m below meth c F
  replace F : Fx G L ad cs z zk zv p m meth c cX9_keepPast 2 none s _ RX9 := F
  obtain ⟨n, hn⟩ := run_ex h
  exact (wX9_keepPast F hm n).1  M hn 
def rmX9_entries : Room := { frames := 0, cells := 0, slots := 0, locals := 0 }
theorem kn_X9_entries : yX9_entries.cls ≠ "java/lang/invoke/MethodHandle" ∧ yX9_entries.cls ≠ "java/lang/invoke/VarHandle" ∧ (parseMethodDescriptor yX9_entries.desc).map (fun d => d.parameters.length) = some 0 := by decide +kernel
noncomputable def bX9_entries_0  (M : Mm) : Option (Sst ⊕ Rst) := some (.inl (1, [], [(0 : Int32), (0 : Int32)], M))
noncomputable def bX9_entries_1 (x1 : Int32) (x2 : Int32) (M : Mm) : Option (Sst ⊕ Rst) := if (M 338 1) ≤ x2 then (some (.inr (x1, M))) else (gd (okI ((2 : Int32) + x2) 1080) (some (.inl (1, [], [(x1 + (M 339 (ix ((2 : Int32) + x2)))), (x2 + (1 : Int32))], M))))
noncomputable def stX9_entries : Sst → Option (Sst ⊕ Rst) := fun q => match q.1 with
  | 0 => bX9_entries_0  q.2.2.2
  | 1 => bX9_entries_1 (q.2.2.1.getD 0 0) (q.2.2.1.getD 1 0) q.2.2.2
  | _ => none
noncomputable def fX9_entries  (M : Mm) : Option Rst := run stX9_entries (0, [], [], M)
def PX9_entries (p : Program) (l : Launch) (e : Env) (s : State) (m : MethodId) (args : Array Value) (below : List Frame) (meth : Method) (c : Code) (G : va_G) (L : List Nat) (ad : Nat → Nat) (cs : Nat → ClassId) (zk : Nat → Nat) (r : Int32) (M' : Mm) (n : Nat) : Prop := (∀  (M : Mm), itr stX9_entries n (0, [], [], M) = some (r, M') → AW p l e rmX9_entries s m args below meth c (MQ below (AQi G L ad cs r M') args s 0 0 (inA L ad)) G L ad cs 3 0 [some (.ref (ad 338)), none, none] [] M) ∧ (∀ (x1 : Int32) (x2 : Int32) (M : Mm), itr stX9_entries n (1, [], [x1, x2], M) = some (r, M') → AW p l e rmX9_entries s m args below meth c (MQ below (AQi G L ad cs r M') args s 0 0 (inA L ad)) G L ad cs 3 4 [some (.ref (ad 338)), some (.int x1), some (.int x2)] [] M)
set_option maxRecDepth 100000 in
set_option maxHeartbeats 4000000 in
theorem wX9_entries_0 {p : Program} {l : Launch} {e : Env} {s : State} {m : MethodId} {args : Array Value} {below : List Frame} {meth : Method} {c : Code} {G : va_G} {L : List Nat} {ad : Nat → Nat} {cs : Nat → ClassId} {z : Bool} {zk zv : Nat → Nat} {r : Int32} {M' : Mm} {n : Nat} (F : Fx G L ad cs z zk zv p m meth c cX9_entries 3 (some .int) s args RX9) (hm : isM L) (IH : PX9_entries p l e s m args below meth c G L ad cs zk r M' n)  (M : Mm) (h : (bX9_entries_0  M).bind (fun q => match q with | .inl s' => itr stX9_entries n s' | .inr r => some r) = some (r, M'))  : AW p l e rmX9_entries s m args below meth c (MQ below (AQi G L ad cs r M') args s 0 0 (inA L ad)) G L ad cs 3 0 [some (.ref (ad 338)), none, none] [] M := by
  unfold bX9_entries_0 at h
  refine ax_iconst (v := (0 : Int32)) F dX9_entries_0 (by decide) ?_
  refine ax_istore_n F dX9_entries_1 (by decide) rfl ?_
  refine ax_iconst (v := (0 : Int32)) F dX9_entries_2 (by decide) ?_
  refine ax_istore_n F dX9_entries_3 (by decide) rfl ?_
  exact IH.2 _ _ _ h 
set_option maxRecDepth 100000 in
set_option maxHeartbeats 4000000 in
theorem wX9_entries_1 {p : Program} {l : Launch} {e : Env} {s : State} {m : MethodId} {args : Array Value} {below : List Frame} {meth : Method} {c : Code} {G : va_G} {L : List Nat} {ad : Nat → Nat} {cs : Nat → ClassId} {z : Bool} {zk zv : Nat → Nat} {r : Int32} {M' : Mm} {n : Nat} (F : Fx G L ad cs z zk zv p m meth c cX9_entries 3 (some .int) s args RX9) (hm : isM L) (IH : PX9_entries p l e s m args below meth c G L ad cs zk r M' n) (x1 : Int32) (x2 : Int32) (M : Mm) (h : (bX9_entries_1 x1 x2 M).bind (fun q => match q with | .inl s' => itr stX9_entries n s' | .inr r => some r) = some (r, M'))  : AW p l e rmX9_entries s m args below meth c (MQ below (AQi G L ad cs r M') args s 0 0 (inA L ad)) G L ad cs 3 4 [some (.ref (ad 338)), some (.int x1), some (.int x2)] [] M := by
  unfold bX9_entries_1 at h
  refine ax_iload_n F dX9_entries_4 rfl ?_
  refine ax_aload_n F dX9_entries_5 rfl ?_
  refine ax_get (v := .int (M 338 1)) F (ob_338 hm) rfl inGX9 1 (by decide) rfl kf_X9_48 rfl dX9_entries_6 ?_
  refine ax_icmp_ge (t := 29) F dX9_entries_9 (by decide) (fun hc => ?_) (fun hc => ?_)
  · have h := it_pos h hc
    refine ax_iload_n F dX9_entries_29 rfl ?_
    obtain ⟨h1, h2⟩ := rt_some h
    subst h1; subst h2
    exact ax_iret F dX9_entries_30
  · have h := it_neg h hc
    refine ax_iload_n F dX9_entries_12 rfl ?_
    refine ax_aload_n F dX9_entries_13 rfl ?_
    refine ax_get (v := .ref (ad 339)) F (ob_338 hm) rfl inGX9 0 (by decide) rfl kf_X9_7 rfl dX9_entries_14 ?_
    refine ax_iconst (v := (2 : Int32)) F dX9_entries_17 (by decide) ?_
    refine ax_iload_n F dX9_entries_18 rfl ?_
    refine ax_iadd F dX9_entries_19 ?_
    obtain ⟨hg, h⟩ := gd_some h
    refine ax_iald F (ar_339 hm) hg dX9_entries_20 ?_
    refine ax_iadd F dX9_entries_21 ?_
    refine ax_istore_n F dX9_entries_22 (by decide) rfl ?_
    refine ax_iinc (v := (1 : Int32)) F dX9_entries_23 rfl (by decide) (by decide) rfl ?_
    refine ax_goto (t := 4) F dX9_entries_26 (by decide) ?_
    exact IH.2 _ _ _ h 
set_option maxRecDepth 100000 in
set_option maxHeartbeats 4000000 in
theorem wX9_entries {p : Program} {l : Launch} {e : Env} {s : State} {m : MethodId} {args : Array Value} {below : List Frame} {meth : Method} {c : Code} {G : va_G} {L : List Nat} {ad : Nat → Nat} {cs : Nat → ClassId} {z : Bool} {zk zv : Nat → Nat} {r : Int32} {M' : Mm} (F : Fx G L ad cs z zk zv p m meth c cX9_entries 3 (some .int) s args RX9) (hm : isM L) (n : Nat) : PX9_entries p l e s m args below meth c G L ad cs zk r M' n := by
  induction n with
  | zero => exact ⟨(fun  M h => by cases h), (fun x1 x2 M h => by cases h)⟩
  | succ n ih =>
    exact ⟨fun  M h  => wX9_entries_0 F hm ih  M h ,
      fun x1 x2 M h  => wX9_entries_1 F hm ih x1 x2 M h ⟩
set_option maxRecDepth 100000 in
set_option maxHeartbeats 4000000 in
theorem tX9_entries {l : Launch} {G : va_G} {L : List Nat} {ad : Nat → Nat} {cs : Nat → ClassId} {z : Bool} {zk zv : Nat → Nat} (hinj : inj L ad) (hm : isM L)   (M : Mm) (r : Int32) (M' : Mm) (h : fX9_entries  M = some (r, M')) : Met l yX9_entries (tgW yX9_entries cX9_entries 3 (some .int)) rmX9_entries (APre G L ad cs z zk zv [.ref (ad 338)] M) (AQi G L ad cs r M') 0 0 (inA L ad) := by
  refine met_of (Eq.refl true) (Nat.le_of_ble_eq_true rfl) hinj [some (.ref (ad 338)), none, none] rfl ?_
  intro p e s m below meth c F
  replace F : Fx G L ad cs z zk zv p m meth c cX9_entries 3 (some .int) s _ RX9 := F
  obtain ⟨n, hn⟩ := run_ex h
  exact (wX9_entries F hm n).1  M hn 
noncomputable def fX9_round (x1 : Int32) (M : Mm) : Option Rst := cl (fX9_isNode x1 M) (fun r1 M1 => if r1 = 0 then (some ((-2 : Int32), M1)) else (cl (fX9_isDead (0 : Int32) x1 M1) (fun r2 M2 => if r2 = 0 then (cl (fX9_keepPast M2) (fun r3 M3 => cl (fX9_rounds (0 : Int32) x1 M3) (fun r4 M4 => some (r4, M4)))) else (some ((-4 : Int32), M2)))))
def rmX9_round : Room := { frames := 4, cells := 0, slots := 0, locals := 100 }
theorem kn_X9_round : yX9_round.cls ≠ "java/lang/invoke/MethodHandle" ∧ yX9_round.cls ≠ "java/lang/invoke/VarHandle" ∧ (parseMethodDescriptor yX9_round.desc).map (fun d => d.parameters.length) = some 1 := by decide +kernel
set_option maxRecDepth 100000 in
set_option maxHeartbeats 4000000 in
theorem tX9_round {l : Launch} {G : va_G} {L : List Nat} {ad : Nat → Nat} {cs : Nat → ClassId} {z : Bool} {zk zv : Nat → Nat} (hinj : inj L ad) (hm : isM L) (x1 : Int32)  (M : Mm) (r : Int32) (M' : Mm) (h : fX9_round x1 M = some (r, M')) : Met l yX9_round (tgW yX9_round cX9_round 2 (some .int)) rmX9_round (APre G L ad cs z zk zv [.ref (ad 338), .int x1] M) (AQi G L ad cs r M') 0 0 (inA L ad) := by
  refine met_of (Eq.refl true) (Nat.le_of_ble_eq_true rfl) hinj [some (.ref (ad 338)), some (.int x1)] rfl ?_
  intro p e s m below meth c F
  replace F : Fx G L ad cs z zk zv p m meth c cX9_round 2 (some .int) s _ RX9 := F
  unfold fX9_round at h
  refine ax_aload_n F dX9_round_0 rfl ?_
  refine ax_iload_n F dX9_round_1 rfl ?_
  obtain ⟨r1, M1, hq1, h⟩ := cq_some0 h
  refine ax_callVi (As := [.int x1]) (st := []) F (tX9_isNode F.2.2.2.2.2.2.1 hm _  _ _ _ hq1) (ob_338 hm) rfl kc_X9_isNode kz_X9 ki_X9_isNode ks_X9_isNode km_X9_188 ⟨kn_X9_isNode, rfl, rfl, Nat.le_of_ble_eq_true rfl, Nat.le_of_ble_eq_true rfl⟩ rfl (Nat.le_of_ble_eq_true rfl) dX9_round_2 ?_
  refine ax_if_ne (t := 11) F dX9_round_5 (by decide) (fun hc => ?_) (fun hc => ?_)
  · have h := it_neg0 h hc
    refine ax_aload_n F dX9_round_11 rfl ?_
    refine ax_iconst (v := (0 : Int32)) F dX9_round_12 (by decide) ?_
    refine ax_iload_n F dX9_round_13 rfl ?_
    obtain ⟨r2, M2, hq2, h⟩ := cq_some0 h
    refine ax_callVi (As := [.int (0 : Int32), .int x1]) (st := []) F (tX9_isDead F.2.2.2.2.2.2.1 hm _ _  _ _ _ hq2) (ob_338 hm) rfl kc_X9_isDead kz_X9 ki_X9_isDead ks_X9_isDead km_X9_176 ⟨kn_X9_isDead, rfl, rfl, Nat.le_of_ble_eq_true rfl, Nat.le_of_ble_eq_true rfl⟩ rfl (Nat.le_of_ble_eq_true rfl) dX9_round_14 ?_
    refine ax_if_eq (t := 23) F dX9_round_17 (by decide) (fun hc => ?_) (fun hc => ?_)
    · have h := it_pos0 h hc
      refine ax_aload_n F dX9_round_23 rfl ?_
      obtain ⟨r3, M3, hq3, h⟩ := cq_some0 h
      refine ax_callVv (As := []) (st := []) F (tX9_keepPast F.2.2.2.2.2.2.1 hm   _ _ _ hq3) (ob_338 hm) rfl kc_X9_keepPast kz_X9 ki_X9_keepPast ks_X9_keepPast km_X9_201 ⟨kn_X9_keepPast, rfl, rfl, Nat.le_of_ble_eq_true rfl, Nat.le_of_ble_eq_true rfl⟩ rfl (Nat.le_of_ble_eq_true rfl) dX9_round_24 ?_
      refine ax_aload_n F dX9_round_27 rfl ?_
      refine ax_iconst (v := (0 : Int32)) F dX9_round_28 (by decide) ?_
      refine ax_iload_n F dX9_round_29 rfl ?_
      obtain ⟨r4, M4, hq4, h⟩ := cq_some0 h
      refine ax_callVi (As := [.int (0 : Int32), .int x1]) (st := []) F (tX9_rounds F.2.2.2.2.2.2.1 hm _ _  _ _ _ hq4) (ob_338 hm) rfl kc_X9_rounds kz_X9 ki_X9_rounds ks_X9_rounds km_X9_185 ⟨kn_X9_rounds, rfl, rfl, Nat.le_of_ble_eq_true rfl, Nat.le_of_ble_eq_true rfl⟩ rfl (Nat.le_of_ble_eq_true rfl) dX9_round_30 ?_
      obtain ⟨h1, h2⟩ := rt_some0 h
      subst h1; subst h2
      exact ax_iret F dX9_round_33
    · have h := it_neg0 h hc
      refine ax_bipush (v := (-4 : Int32)) F dX9_round_20 (by decide) ?_
      obtain ⟨h1, h2⟩ := rt_some0 h
      subst h1; subst h2
      exact ax_iret F dX9_round_22
  · have h := it_pos0 h hc
    refine ax_bipush (v := (-2 : Int32)) F dX9_round_8 (by decide) ?_
    obtain ⟨h1, h2⟩ := rt_some0 h
    subst h1; subst h2
    exact ax_iret F dX9_round_10
def rmX9_cycle : Room := { frames := 5, cells := 0, slots := 0, locals := 122 }
theorem kn_X9_cycle : yX9_cycle.cls ≠ "java/lang/invoke/MethodHandle" ∧ yX9_cycle.cls ≠ "java/lang/invoke/VarHandle" ∧ (parseMethodDescriptor yX9_cycle.desc).map (fun d => d.parameters.length) = some 1 := by decide +kernel
noncomputable def bX9_cycle_0 (x1 : Int32) (M : Mm) : Option (Sst ⊕ Rst) := cl (fX9_in (x1).toInt64 (1 : Int64) (20 : Int64) M) (fun r1 M1 => if r1 = 0 then (some (.inr ((-3 : Int32), M1))) else (cl (fX9_keepPast M1) (fun r2 M2 => some (.inl (1, [], [x1, (0 : Int32)], M2)))))
noncomputable def bX9_cycle_1 (x1 : Int32) (x2 : Int32) (M : Mm) : Option (Sst ⊕ Rst) := if x1 ≤ x2 then (cl (fX9_entries M) (fun r1 M1 => some (.inr (r1, M1)))) else (cl (fX9_cycles (0 : Int32) M) (fun r2 M2 => some (.inl (1, [], [x1, (x2 + (1 : Int32))], M2))))
noncomputable def stX9_cycle : Sst → Option (Sst ⊕ Rst) := fun q => match q.1 with
  | 0 => bX9_cycle_0 (q.2.2.1.getD 0 0) q.2.2.2
  | 1 => bX9_cycle_1 (q.2.2.1.getD 0 0) (q.2.2.1.getD 1 0) q.2.2.2
  | _ => none
noncomputable def fX9_cycle (x1 : Int32) (M : Mm) : Option Rst := run stX9_cycle (0, [], [x1], M)
def PX9_cycle (p : Program) (l : Launch) (e : Env) (s : State) (m : MethodId) (args : Array Value) (below : List Frame) (meth : Method) (c : Code) (G : va_G) (L : List Nat) (ad : Nat → Nat) (cs : Nat → ClassId) (zk : Nat → Nat) (r : Int32) (M' : Mm) (n : Nat) : Prop := (∀ (x1 : Int32) (M : Mm), itr stX9_cycle n (0, [], [x1], M) = some (r, M') → AW p l e rmX9_cycle s m args below meth c (MQ below (AQi G L ad cs r M') args s 0 0 (inA L ad)) G L ad cs 3 0 [some (.ref (ad 338)), some (.int x1), none] [] M) ∧ (∀ (x1 : Int32) (x2 : Int32) (M : Mm), itr stX9_cycle n (1, [], [x1, x2], M) = some (r, M') → AW p l e rmX9_cycle s m args below meth c (MQ below (AQi G L ad cs r M') args s 0 0 (inA L ad)) G L ad cs 3 21 [some (.ref (ad 338)), some (.int x1), some (.int x2)] [] M)
set_option maxRecDepth 100000 in
set_option maxHeartbeats 4000000 in
theorem wX9_cycle_0 {p : Program} {l : Launch} {e : Env} {s : State} {m : MethodId} {args : Array Value} {below : List Frame} {meth : Method} {c : Code} {G : va_G} {L : List Nat} {ad : Nat → Nat} {cs : Nat → ClassId} {z : Bool} {zk zv : Nat → Nat} {r : Int32} {M' : Mm} {n : Nat} (F : Fx G L ad cs z zk zv p m meth c cX9_cycle 3 (some .int) s args RX9) (hm : isM L) (IH : PX9_cycle p l e s m args below meth c G L ad cs zk r M' n) (x1 : Int32) (M : Mm) (h : (bX9_cycle_0 x1 M).bind (fun q => match q with | .inl s' => itr stX9_cycle n s' | .inr r => some r) = some (r, M'))  : AW p l e rmX9_cycle s m args below meth c (MQ below (AQi G L ad cs r M') args s 0 0 (inA L ad)) G L ad cs 3 0 [some (.ref (ad 338)), some (.int x1), none] [] M := by
  unfold bX9_cycle_0 at h
  refine ax_iload_n F dX9_cycle_0 rfl ?_
  refine ax_i2l F dX9_cycle_1 ?_
  refine ax_lconst (v := (1 : Int64)) F dX9_cycle_2 (by decide) ?_
  refine ax_ldc2 (v := (20 : Int64)) F kk_X9_204 dX9_cycle_3 ?_
  obtain ⟨r1, M1, hq1, h⟩ := cq_some h
  refine ax_callSi (As := [.long (x1).toInt64, .long (1 : Int64), .long (20 : Int64)]) (st := []) F (tX9_in F.2.2.2.2.2.2.1 hm _ _ _  _ _ _ hq1) kc_X9_in kz_X9 kt_X9_in km_X9_66 ⟨kn_X9_in, rfl, rfl, Nat.le_of_ble_eq_true rfl, Nat.le_of_ble_eq_true rfl⟩ rfl (Nat.le_of_ble_eq_true rfl) dX9_cycle_6 ?_
  refine ax_if_ne (t := 15) F dX9_cycle_9 (by decide) (fun hc => ?_) (fun hc => ?_)
  · have h := it_neg h hc
    refine ax_aload_n F dX9_cycle_15 rfl ?_
    obtain ⟨r2, M2, hq2, h⟩ := cq_some h
    refine ax_callVv (As := []) (st := []) F (tX9_keepPast F.2.2.2.2.2.2.1 hm   _ _ _ hq2) (ob_338 hm) rfl kc_X9_keepPast kz_X9 ki_X9_keepPast ks_X9_keepPast km_X9_201 ⟨kn_X9_keepPast, rfl, rfl, Nat.le_of_ble_eq_true rfl, Nat.le_of_ble_eq_true rfl⟩ rfl (Nat.le_of_ble_eq_true rfl) dX9_cycle_16 ?_
    refine ax_iconst (v := (0 : Int32)) F dX9_cycle_19 (by decide) ?_
    refine ax_istore_n F dX9_cycle_20 (by decide) rfl ?_
    exact IH.2 _ _ _ h 
  · have h := it_pos h hc
    refine ax_bipush (v := (-3 : Int32)) F dX9_cycle_12 (by decide) ?_
    obtain ⟨h1, h2⟩ := rt_some h
    subst h1; subst h2
    exact ax_iret F dX9_cycle_14
set_option maxRecDepth 100000 in
set_option maxHeartbeats 4000000 in
theorem wX9_cycle_1 {p : Program} {l : Launch} {e : Env} {s : State} {m : MethodId} {args : Array Value} {below : List Frame} {meth : Method} {c : Code} {G : va_G} {L : List Nat} {ad : Nat → Nat} {cs : Nat → ClassId} {z : Bool} {zk zv : Nat → Nat} {r : Int32} {M' : Mm} {n : Nat} (F : Fx G L ad cs z zk zv p m meth c cX9_cycle 3 (some .int) s args RX9) (hm : isM L) (IH : PX9_cycle p l e s m args below meth c G L ad cs zk r M' n) (x1 : Int32) (x2 : Int32) (M : Mm) (h : (bX9_cycle_1 x1 x2 M).bind (fun q => match q with | .inl s' => itr stX9_cycle n s' | .inr r => some r) = some (r, M'))  : AW p l e rmX9_cycle s m args below meth c (MQ below (AQi G L ad cs r M') args s 0 0 (inA L ad)) G L ad cs 3 21 [some (.ref (ad 338)), some (.int x1), some (.int x2)] [] M := by
  unfold bX9_cycle_1 at h
  refine ax_iload_n F dX9_cycle_21 rfl ?_
  refine ax_iload_n F dX9_cycle_22 rfl ?_
  refine ax_icmp_ge (t := 37) F dX9_cycle_23 (by decide) (fun hc => ?_) (fun hc => ?_)
  · have h := it_pos h hc
    refine ax_aload_n F dX9_cycle_37 rfl ?_
    obtain ⟨r1, M1, hq1, h⟩ := cq_some h
    refine ax_callVi (As := []) (st := []) F (tX9_entries F.2.2.2.2.2.2.1 hm   _ _ _ hq1) (ob_338 hm) rfl kc_X9_entries kz_X9 ki_X9_entries ks_X9_entries km_X9_209 ⟨kn_X9_entries, rfl, rfl, Nat.le_of_ble_eq_true rfl, Nat.le_of_ble_eq_true rfl⟩ rfl (Nat.le_of_ble_eq_true rfl) dX9_cycle_38 ?_
    obtain ⟨h1, h2⟩ := rt_some h
    subst h1; subst h2
    exact ax_iret F dX9_cycle_41
  · have h := it_neg h hc
    refine ax_aload_n F dX9_cycle_26 rfl ?_
    refine ax_iconst (v := (0 : Int32)) F dX9_cycle_27 (by decide) ?_
    obtain ⟨r2, M2, hq2, h⟩ := cq_some h
    refine ax_callVv (As := [.int (0 : Int32)]) (st := []) F (tX9_cycles F.2.2.2.2.2.2.1 hm _  _ _ _ hq2) (ob_338 hm) rfl kc_X9_cycles kz_X9 ki_X9_cycles ks_X9_cycles km_X9_206 ⟨kn_X9_cycles, rfl, rfl, Nat.le_of_ble_eq_true rfl, Nat.le_of_ble_eq_true rfl⟩ rfl (Nat.le_of_ble_eq_true rfl) dX9_cycle_28 ?_
    refine ax_iinc (v := (1 : Int32)) F dX9_cycle_31 rfl (by decide) (by decide) rfl ?_
    refine ax_goto (t := 21) F dX9_cycle_34 (by decide) ?_
    exact IH.2 _ _ _ h 
set_option maxRecDepth 100000 in
set_option maxHeartbeats 4000000 in
theorem wX9_cycle {p : Program} {l : Launch} {e : Env} {s : State} {m : MethodId} {args : Array Value} {below : List Frame} {meth : Method} {c : Code} {G : va_G} {L : List Nat} {ad : Nat → Nat} {cs : Nat → ClassId} {z : Bool} {zk zv : Nat → Nat} {r : Int32} {M' : Mm} (F : Fx G L ad cs z zk zv p m meth c cX9_cycle 3 (some .int) s args RX9) (hm : isM L) (n : Nat) : PX9_cycle p l e s m args below meth c G L ad cs zk r M' n := by
  induction n with
  | zero => exact ⟨(fun x1 M h => by cases h), (fun x1 x2 M h => by cases h)⟩
  | succ n ih =>
    exact ⟨fun x1 M h  => wX9_cycle_0 F hm ih x1 M h ,
      fun x1 x2 M h  => wX9_cycle_1 F hm ih x1 x2 M h ⟩
set_option maxRecDepth 100000 in
set_option maxHeartbeats 4000000 in
theorem tX9_cycle {l : Launch} {G : va_G} {L : List Nat} {ad : Nat → Nat} {cs : Nat → ClassId} {z : Bool} {zk zv : Nat → Nat} (hinj : inj L ad) (hm : isM L) (x1 : Int32)  (M : Mm) (r : Int32) (M' : Mm) (h : fX9_cycle x1 M = some (r, M')) : Met l yX9_cycle (tgW yX9_cycle cX9_cycle 3 (some .int)) rmX9_cycle (APre G L ad cs z zk zv [.ref (ad 338), .int x1] M) (AQi G L ad cs r M') 0 0 (inA L ad) := by
  refine met_of (Eq.refl true) (Nat.le_of_ble_eq_true rfl) hinj [some (.ref (ad 338)), some (.int x1), none] rfl ?_
  intro p e s m below meth c F
  replace F : Fx G L ad cs z zk zv p m meth c cX9_cycle 3 (some .int) s _ RX9 := F
  obtain ⟨n, hn⟩ := run_ex h
  exact (wX9_cycle F hm n).1 x1 M hn 
noncomputable def fX9_alive (x1 : Int32) (M : Mm) : Option Rst := gd (okI (x1 + (1 : Int32)) 1080) (some ((((M 339 (ix (x1 + (1 : Int32)))) ^^^ (-1 : Int32)) &&& ((ish (1 : Int32) (M 338 1)) - (1 : Int32))), M))
def rmX9_alive : Room := { frames := 0, cells := 0, slots := 0, locals := 0 }
theorem kn_X9_alive : yX9_alive.cls ≠ "java/lang/invoke/MethodHandle" ∧ yX9_alive.cls ≠ "java/lang/invoke/VarHandle" ∧ (parseMethodDescriptor yX9_alive.desc).map (fun d => d.parameters.length) = some 1 := by decide +kernel
set_option maxRecDepth 100000 in
set_option maxHeartbeats 4000000 in
theorem tX9_alive {l : Launch} {G : va_G} {L : List Nat} {ad : Nat → Nat} {cs : Nat → ClassId} {z : Bool} {zk zv : Nat → Nat} (hinj : inj L ad) (hm : isM L) (x1 : Int32)  (M : Mm) (r : Int32) (M' : Mm) (h : fX9_alive x1 M = some (r, M')) : Met l yX9_alive (tgW yX9_alive cX9_alive 2 (some .int)) rmX9_alive (APre G L ad cs z zk zv [.ref (ad 338), .int x1] M) (AQi G L ad cs r M') 0 0 (inA L ad) := by
  refine met_of (Eq.refl true) (Nat.le_of_ble_eq_true rfl) hinj [some (.ref (ad 338)), some (.int x1)] rfl ?_
  intro p e s m below meth c F
  replace F : Fx G L ad cs z zk zv p m meth c cX9_alive 2 (some .int) s _ RX9 := F
  unfold fX9_alive at h
  refine ax_aload_n F dX9_alive_0 rfl ?_
  refine ax_get (v := .ref (ad 339)) F (ob_338 hm) rfl inGX9 0 (by decide) rfl kf_X9_7 rfl dX9_alive_1 ?_
  refine ax_iload_n F dX9_alive_4 rfl ?_
  refine ax_iconst (v := (1 : Int32)) F dX9_alive_5 (by decide) ?_
  refine ax_iadd F dX9_alive_6 ?_
  obtain ⟨hg, h⟩ := gd_some0 h
  refine ax_iald F (ar_339 hm) hg dX9_alive_7 ?_
  refine ax_iconst (v := (-1 : Int32)) F dX9_alive_8 (by decide) ?_
  refine ax_ixor F dX9_alive_9 ?_
  refine ax_iconst (v := (1 : Int32)) F dX9_alive_10 (by decide) ?_
  refine ax_aload_n F dX9_alive_11 rfl ?_
  refine ax_get (v := .int (M 338 1)) F (ob_338 hm) rfl inGX9 1 (by decide) rfl kf_X9_48 rfl dX9_alive_12 ?_
  refine ax_ishl F dX9_alive_15 ?_
  refine ax_iconst (v := (1 : Int32)) F dX9_alive_16 (by decide) ?_
  refine ax_isub F dX9_alive_17 ?_
  refine ax_iand F dX9_alive_18 ?_
  obtain ⟨h1, h2⟩ := rt_some0 h
  subst h1; subst h2
  exact ax_iret F dX9_alive_19
def rmX9_ones : Room := { frames := 0, cells := 0, slots := 0, locals := 0 }
theorem kn_X9_ones : yX9_ones.cls ≠ "java/lang/invoke/MethodHandle" ∧ yX9_ones.cls ≠ "java/lang/invoke/VarHandle" ∧ (parseMethodDescriptor yX9_ones.desc).map (fun d => d.parameters.length) = some 1 := by decide +kernel
noncomputable def bX9_ones_0 (x0 : Int32) (M : Mm) : Option (Sst ⊕ Rst) := some (.inl (1, [], [x0, (0 : Int32), (0 : Int32)], M))
noncomputable def bX9_ones_1 (x0 : Int32) (x1 : Int32) (x2 : Int32) (M : Mm) : Option (Sst ⊕ Rst) := if (8 : Int32) ≤ x2 then (some (.inr (x1, M))) else (some (.inl (1, [], [x0, (x1 + ((isr x0 x2) &&& (1 : Int32))), (x2 + (1 : Int32))], M)))
noncomputable def stX9_ones : Sst → Option (Sst ⊕ Rst) := fun q => match q.1 with
  | 0 => bX9_ones_0 (q.2.2.1.getD 0 0) q.2.2.2
  | 1 => bX9_ones_1 (q.2.2.1.getD 0 0) (q.2.2.1.getD 1 0) (q.2.2.1.getD 2 0) q.2.2.2
  | _ => none
noncomputable def fX9_ones (x0 : Int32) (M : Mm) : Option Rst := run stX9_ones (0, [], [x0], M)
def PX9_ones (p : Program) (l : Launch) (e : Env) (s : State) (m : MethodId) (args : Array Value) (below : List Frame) (meth : Method) (c : Code) (G : va_G) (L : List Nat) (ad : Nat → Nat) (cs : Nat → ClassId) (zk : Nat → Nat) (r : Int32) (M' : Mm) (n : Nat) : Prop := (∀ (x0 : Int32) (M : Mm), itr stX9_ones n (0, [], [x0], M) = some (r, M') → AW p l e rmX9_ones s m args below meth c (MQ below (AQi G L ad cs r M') args s 0 0 (inA L ad)) G L ad cs 3 0 [some (.int x0), none, none] [] M) ∧ (∀ (x0 : Int32) (x1 : Int32) (x2 : Int32) (M : Mm), itr stX9_ones n (1, [], [x0, x1, x2], M) = some (r, M') → AW p l e rmX9_ones s m args below meth c (MQ below (AQi G L ad cs r M') args s 0 0 (inA L ad)) G L ad cs 3 4 [some (.int x0), some (.int x1), some (.int x2)] [] M)
set_option maxRecDepth 100000 in
set_option maxHeartbeats 4000000 in
theorem wX9_ones_0 {p : Program} {l : Launch} {e : Env} {s : State} {m : MethodId} {args : Array Value} {below : List Frame} {meth : Method} {c : Code} {G : va_G} {L : List Nat} {ad : Nat → Nat} {cs : Nat → ClassId} {z : Bool} {zk zv : Nat → Nat} {r : Int32} {M' : Mm} {n : Nat} (F : Fx G L ad cs z zk zv p m meth c cX9_ones 3 (some .int) s args RX9) (hm : isM L) (IH : PX9_ones p l e s m args below meth c G L ad cs zk r M' n) (x0 : Int32) (M : Mm) (h : (bX9_ones_0 x0 M).bind (fun q => match q with | .inl s' => itr stX9_ones n s' | .inr r => some r) = some (r, M'))  : AW p l e rmX9_ones s m args below meth c (MQ below (AQi G L ad cs r M') args s 0 0 (inA L ad)) G L ad cs 3 0 [some (.int x0), none, none] [] M := by
  unfold bX9_ones_0 at h
  refine ax_iconst (v := (0 : Int32)) F dX9_ones_0 (by decide) ?_
  refine ax_istore_n F dX9_ones_1 (by decide) rfl ?_
  refine ax_iconst (v := (0 : Int32)) F dX9_ones_2 (by decide) ?_
  refine ax_istore_n F dX9_ones_3 (by decide) rfl ?_
  exact IH.2 _ _ _ _ h 
set_option maxRecDepth 100000 in
set_option maxHeartbeats 4000000 in
theorem wX9_ones_1 {p : Program} {l : Launch} {e : Env} {s : State} {m : MethodId} {args : Array Value} {below : List Frame} {meth : Method} {c : Code} {G : va_G} {L : List Nat} {ad : Nat → Nat} {cs : Nat → ClassId} {z : Bool} {zk zv : Nat → Nat} {r : Int32} {M' : Mm} {n : Nat} (F : Fx G L ad cs z zk zv p m meth c cX9_ones 3 (some .int) s args RX9) (hm : isM L) (IH : PX9_ones p l e s m args below meth c G L ad cs zk r M' n) (x0 : Int32) (x1 : Int32) (x2 : Int32) (M : Mm) (h : (bX9_ones_1 x0 x1 x2 M).bind (fun q => match q with | .inl s' => itr stX9_ones n s' | .inr r => some r) = some (r, M'))  : AW p l e rmX9_ones s m args below meth c (MQ below (AQi G L ad cs r M') args s 0 0 (inA L ad)) G L ad cs 3 4 [some (.int x0), some (.int x1), some (.int x2)] [] M := by
  unfold bX9_ones_1 at h
  refine ax_iload_n F dX9_ones_4 rfl ?_
  refine ax_bipush (v := (8 : Int32)) F dX9_ones_5 (by decide) ?_
  refine ax_icmp_ge (t := 24) F dX9_ones_7 (by decide) (fun hc => ?_) (fun hc => ?_)
  · have h := it_pos h hc
    refine ax_iload_n F dX9_ones_24 rfl ?_
    obtain ⟨h1, h2⟩ := rt_some h
    subst h1; subst h2
    exact ax_iret F dX9_ones_25
  · have h := it_neg h hc
    refine ax_iload_n F dX9_ones_10 rfl ?_
    refine ax_iload_n F dX9_ones_11 rfl ?_
    refine ax_iload_n F dX9_ones_12 rfl ?_
    refine ax_ishr F dX9_ones_13 ?_
    refine ax_iconst (v := (1 : Int32)) F dX9_ones_14 (by decide) ?_
    refine ax_iand F dX9_ones_15 ?_
    refine ax_iadd F dX9_ones_16 ?_
    refine ax_istore_n F dX9_ones_17 (by decide) rfl ?_
    refine ax_iinc (v := (1 : Int32)) F dX9_ones_18 rfl (by decide) (by decide) rfl ?_
    refine ax_goto (t := 4) F dX9_ones_21 (by decide) ?_
    exact IH.2 _ _ _ _ h 
set_option maxRecDepth 100000 in
set_option maxHeartbeats 4000000 in
theorem wX9_ones {p : Program} {l : Launch} {e : Env} {s : State} {m : MethodId} {args : Array Value} {below : List Frame} {meth : Method} {c : Code} {G : va_G} {L : List Nat} {ad : Nat → Nat} {cs : Nat → ClassId} {z : Bool} {zk zv : Nat → Nat} {r : Int32} {M' : Mm} (F : Fx G L ad cs z zk zv p m meth c cX9_ones 3 (some .int) s args RX9) (hm : isM L) (n : Nat) : PX9_ones p l e s m args below meth c G L ad cs zk r M' n := by
  induction n with
  | zero => exact ⟨(fun x0 M h => by cases h), (fun x0 x1 x2 M h => by cases h)⟩
  | succ n ih =>
    exact ⟨fun x0 M h  => wX9_ones_0 F hm ih x0 M h ,
      fun x0 x1 x2 M h  => wX9_ones_1 F hm ih x0 x1 x2 M h ⟩
set_option maxRecDepth 100000 in
set_option maxHeartbeats 4000000 in
theorem tX9_ones {l : Launch} {G : va_G} {L : List Nat} {ad : Nat → Nat} {cs : Nat → ClassId} {z : Bool} {zk zv : Nat → Nat} (hinj : inj L ad) (hm : isM L) (x0 : Int32)  (M : Mm) (r : Int32) (M' : Mm) (h : fX9_ones x0 M = some (r, M')) : Met l yX9_ones (tgW yX9_ones cX9_ones 3 (some .int)) rmX9_ones (APre G L ad cs z zk zv [.int x0] M) (AQi G L ad cs r M') 0 0 (inA L ad) := by
  refine met_of (Eq.refl true) (Nat.le_of_ble_eq_true rfl) hinj [some (.int x0), none, none] rfl ?_
  intro p e s m below meth c F
  replace F : Fx G L ad cs z zk zv p m meth c cX9_ones 3 (some .int) s _ RX9 := F
  obtain ⟨n, hn⟩ := run_ex h
  exact (wX9_ones F hm n).1 x0 M hn 
noncomputable def fX9_die (x1 : Int32) (x2 : Int32) (M : Mm) : Option Rst := cl (fX9_isNode x1 M) (fun r1 M1 => if r1 = 0 then (some ((-2 : Int32), M1)) else (cl (fX9_in (x2).toInt64 (0 : Int64) (1 : Int64) M1) (fun r2 M2 => if r2 = 0 then (some ((-3 : Int32), M2)) else (if ((isr (M2 339 (ix (1 : Int32))) x1) &&& (1 : Int32)) = x2 then (some ((-4 : Int32), M2)) else (cl (fX9_keepPast M2) (fun r3 M3 => cl (fX9_alive (0 : Int32) (up2 M3 339 (ix (1 : Int32)) ((M3 339 (ix (1 : Int32))) ^^^ (ish (1 : Int32) x1)))) (fun r4 M4 => cl (fX9_ones r4 M4) (fun r5 M5 => some (r5, M5)))))))))
def rmX9_die : Room := { frames := 2, cells := 0, slots := 0, locals := 46 }
theorem kn_X9_die : yX9_die.cls ≠ "java/lang/invoke/MethodHandle" ∧ yX9_die.cls ≠ "java/lang/invoke/VarHandle" ∧ (parseMethodDescriptor yX9_die.desc).map (fun d => d.parameters.length) = some 2 := by decide +kernel
set_option maxRecDepth 100000 in
set_option maxHeartbeats 4000000 in
theorem tX9_die {l : Launch} {G : va_G} {L : List Nat} {ad : Nat → Nat} {cs : Nat → ClassId} {z : Bool} {zk zv : Nat → Nat} (hinj : inj L ad) (hm : isM L) (x1 : Int32) (x2 : Int32)  (M : Mm) (r : Int32) (M' : Mm) (h : fX9_die x1 x2 M = some (r, M')) : Met l yX9_die (tgW yX9_die cX9_die 3 (some .int)) rmX9_die (APre G L ad cs z zk zv [.ref (ad 338), .int x1, .int x2] M) (AQi G L ad cs r M') 0 0 (inA L ad) := by
  refine met_of (Eq.refl true) (Nat.le_of_ble_eq_true rfl) hinj [some (.ref (ad 338)), some (.int x1), some (.int x2)] rfl ?_
  intro p e s m below meth c F
  replace F : Fx G L ad cs z zk zv p m meth c cX9_die 3 (some .int) s _ RX9 := F
  unfold fX9_die at h
  refine ax_aload_n F dX9_die_0 rfl ?_
  refine ax_iload_n F dX9_die_1 rfl ?_
  obtain ⟨r1, M1, hq1, h⟩ := cq_some0 h
  refine ax_callVi (As := [.int x1]) (st := []) F (tX9_isNode F.2.2.2.2.2.2.1 hm _  _ _ _ hq1) (ob_338 hm) rfl kc_X9_isNode kz_X9 ki_X9_isNode ks_X9_isNode km_X9_188 ⟨kn_X9_isNode, rfl, rfl, Nat.le_of_ble_eq_true rfl, Nat.le_of_ble_eq_true rfl⟩ rfl (Nat.le_of_ble_eq_true rfl) dX9_die_2 ?_
  refine ax_if_ne (t := 11) F dX9_die_5 (by decide) (fun hc => ?_) (fun hc => ?_)
  · have h := it_neg0 h hc
    refine ax_iload_n F dX9_die_11 rfl ?_
    refine ax_i2l F dX9_die_12 ?_
    refine ax_lconst (v := (0 : Int64)) F dX9_die_13 (by decide) ?_
    refine ax_lconst (v := (1 : Int64)) F dX9_die_14 (by decide) ?_
    obtain ⟨r2, M2, hq2, h⟩ := cq_some0 h
    refine ax_callSi (As := [.long (x2).toInt64, .long (0 : Int64), .long (1 : Int64)]) (st := []) F (tX9_in F.2.2.2.2.2.2.1 hm _ _ _  _ _ _ hq2) kc_X9_in kz_X9 kt_X9_in km_X9_66 ⟨kn_X9_in, rfl, rfl, Nat.le_of_ble_eq_true rfl, Nat.le_of_ble_eq_true rfl⟩ rfl (Nat.le_of_ble_eq_true rfl) dX9_die_15 ?_
    refine ax_if_ne (t := 24) F dX9_die_18 (by decide) (fun hc => ?_) (fun hc => ?_)
    · have h := it_neg0 h hc
      refine ax_aload_n F dX9_die_24 rfl ?_
      refine ax_get (v := .ref (ad 339)) F (ob_338 hm) rfl inGX9 0 (by decide) rfl kf_X9_7 rfl dX9_die_25 ?_
      refine ax_iconst (v := (1 : Int32)) F dX9_die_28 (by decide) ?_
      refine ax_iald F (ar_339 hm) (by decide) dX9_die_29 ?_
      refine ax_iload_n F dX9_die_30 rfl ?_
      refine ax_ishr F dX9_die_31 ?_
      refine ax_iconst (v := (1 : Int32)) F dX9_die_32 (by decide) ?_
      refine ax_iand F dX9_die_33 ?_
      refine ax_iload_n F dX9_die_34 rfl ?_
      refine ax_icmp_ne (t := 41) F dX9_die_35 (by decide) (fun hc => ?_) (fun hc => ?_)
      · have h := it_neg0 h hc
        refine ax_aload_n F dX9_die_41 rfl ?_
        obtain ⟨r3, M3, hq3, h⟩ := cq_some0 h
        refine ax_callVv (As := []) (st := []) F (tX9_keepPast F.2.2.2.2.2.2.1 hm   _ _ _ hq3) (ob_338 hm) rfl kc_X9_keepPast kz_X9 ki_X9_keepPast ks_X9_keepPast km_X9_201 ⟨kn_X9_keepPast, rfl, rfl, Nat.le_of_ble_eq_true rfl, Nat.le_of_ble_eq_true rfl⟩ rfl (Nat.le_of_ble_eq_true rfl) dX9_die_42 ?_
        refine ax_aload_n F dX9_die_45 rfl ?_
        refine ax_get (v := .ref (ad 339)) F (ob_338 hm) rfl inGX9 0 (by decide) rfl kf_X9_7 rfl dX9_die_46 ?_
        refine ax_iconst (v := (1 : Int32)) F dX9_die_49 (by decide) ?_
        refine ax_dup2 F dX9_die_50 rfl rfl ?_
        refine ax_iald F (ar_339 hm) (by decide) dX9_die_51 ?_
        refine ax_iconst (v := (1 : Int32)) F dX9_die_52 (by decide) ?_
        refine ax_iload_n F dX9_die_53 rfl ?_
        refine ax_ishl F dX9_die_54 ?_
        refine ax_ixor F dX9_die_55 ?_
        refine ax_iast F (ar_339 hm) (by decide) dX9_die_56 ?_
        refine ax_aload_n F dX9_die_57 rfl ?_
        refine ax_iconst (v := (0 : Int32)) F dX9_die_58 (by decide) ?_
        obtain ⟨r4, M4, hq4, h⟩ := cq_some0 h
        refine ax_callVi (As := [.int (0 : Int32)]) (st := []) F (tX9_alive F.2.2.2.2.2.2.1 hm _  _ _ _ hq4) (ob_338 hm) rfl kc_X9_alive kz_X9 ki_X9_alive ks_X9_alive km_X9_212 ⟨kn_X9_alive, rfl, rfl, Nat.le_of_ble_eq_true rfl, Nat.le_of_ble_eq_true rfl⟩ rfl (Nat.le_of_ble_eq_true rfl) dX9_die_59 ?_
        obtain ⟨r5, M5, hq5, h⟩ := cq_some0 h
        refine ax_callSi (As := [.int r4]) (st := []) F (tX9_ones F.2.2.2.2.2.2.1 hm _  _ _ _ hq5) kc_X9_ones kz_X9 kt_X9_ones km_X9_215 ⟨kn_X9_ones, rfl, rfl, Nat.le_of_ble_eq_true rfl, Nat.le_of_ble_eq_true rfl⟩ rfl (Nat.le_of_ble_eq_true rfl) dX9_die_62 ?_
        obtain ⟨h1, h2⟩ := rt_some0 h
        subst h1; subst h2
        exact ax_iret F dX9_die_65
      · have h := it_pos0 h hc
        refine ax_bipush (v := (-4 : Int32)) F dX9_die_38 (by decide) ?_
        obtain ⟨h1, h2⟩ := rt_some0 h
        subst h1; subst h2
        exact ax_iret F dX9_die_40
    · have h := it_pos0 h hc
      refine ax_bipush (v := (-3 : Int32)) F dX9_die_21 (by decide) ?_
      obtain ⟨h1, h2⟩ := rt_some0 h
      subst h1; subst h2
      exact ax_iret F dX9_die_23
  · have h := it_pos0 h hc
    refine ax_bipush (v := (-2 : Int32)) F dX9_die_8 (by decide) ?_
    obtain ⟨h1, h2⟩ := rt_some0 h
    subst h1; subst h2
    exact ax_iret F dX9_die_10
noncomputable def fX9_link (x1 : Int32) (x2 : Int32) (M : Mm) : Option Rst := cl (fX9_isNode x1 M) (fun r1 M1 => if r1 = 0 then (some ((-2 : Int32), M1)) else (cl (fX9_isNode x2 M1) (fun r2 M2 => if r2 = 0 then (some ((-2 : Int32), M2)) else (if x1 = x2 then (some ((-2 : Int32), M2)) else (cl (fX9_placeOf (0 : Int32) x1 x2 M2) (fun r3 M3 => if r3 = (-1 : Int32) then (gd (okI ((2 : Int32) + x1) 1080) (if (M3 339 (ix ((2 : Int32) + x1))) = (M3 338 2) then (some ((-5 : Int32), M3)) else (cl (fX9_keepPast M3) (fun r4 M4 => cl (fX9_put (0 : Int32) x1 x2 (0 : Int32) M4) (fun r5 M5 => gd (okI ((2 : Int32) + x1) 1080) (some ((M5 339 (ix ((2 : Int32) + x1))), M5))))))) else (some ((-4 : Int32), M3))))))))
def rmX9_link : Room := { frames := 2, cells := 0, slots := 0, locals := 46 }
theorem kn_X9_link : yX9_link.cls ≠ "java/lang/invoke/MethodHandle" ∧ yX9_link.cls ≠ "java/lang/invoke/VarHandle" ∧ (parseMethodDescriptor yX9_link.desc).map (fun d => d.parameters.length) = some 2 := by decide +kernel
set_option maxRecDepth 100000 in
set_option maxHeartbeats 4000000 in
theorem tX9_link {l : Launch} {G : va_G} {L : List Nat} {ad : Nat → Nat} {cs : Nat → ClassId} {z : Bool} {zk zv : Nat → Nat} (hinj : inj L ad) (hm : isM L) (x1 : Int32) (x2 : Int32)  (M : Mm) (r : Int32) (M' : Mm) (h : fX9_link x1 x2 M = some (r, M')) : Met l yX9_link (tgW yX9_link cX9_link 3 (some .int)) rmX9_link (APre G L ad cs z zk zv [.ref (ad 338), .int x1, .int x2] M) (AQi G L ad cs r M') 0 0 (inA L ad) := by
  refine met_of (Eq.refl true) (Nat.le_of_ble_eq_true rfl) hinj [some (.ref (ad 338)), some (.int x1), some (.int x2)] rfl ?_
  intro p e s m below meth c F
  replace F : Fx G L ad cs z zk zv p m meth c cX9_link 3 (some .int) s _ RX9 := F
  unfold fX9_link at h
  refine ax_aload_n F dX9_link_0 rfl ?_
  refine ax_iload_n F dX9_link_1 rfl ?_
  obtain ⟨r1, M1, hq1, h⟩ := cq_some0 h
  refine ax_callVi (As := [.int x1]) (st := []) F (tX9_isNode F.2.2.2.2.2.2.1 hm _  _ _ _ hq1) (ob_338 hm) rfl kc_X9_isNode kz_X9 ki_X9_isNode ks_X9_isNode km_X9_188 ⟨kn_X9_isNode, rfl, rfl, Nat.le_of_ble_eq_true rfl, Nat.le_of_ble_eq_true rfl⟩ rfl (Nat.le_of_ble_eq_true rfl) dX9_link_2 ?_
  refine ax_if_eq (t := 21) F dX9_link_5 (by decide) (fun hc => ?_) (fun hc => ?_)
  · have h := it_pos0 h hc
    refine ax_bipush (v := (-2 : Int32)) F dX9_link_21 (by decide) ?_
    obtain ⟨h1, h2⟩ := rt_some0 h
    subst h1; subst h2
    exact ax_iret F dX9_link_23
  · have h := it_neg0 h hc
    refine ax_aload_n F dX9_link_8 rfl ?_
    refine ax_iload_n F dX9_link_9 rfl ?_
    obtain ⟨r2, M2, hq2, h⟩ := cq_some0 h
    refine ax_callVi (As := [.int x2]) (st := []) F (tX9_isNode F.2.2.2.2.2.2.1 hm _  _ _ _ hq2) (ob_338 hm) rfl kc_X9_isNode kz_X9 ki_X9_isNode ks_X9_isNode km_X9_188 ⟨kn_X9_isNode, rfl, rfl, Nat.le_of_ble_eq_true rfl, Nat.le_of_ble_eq_true rfl⟩ rfl (Nat.le_of_ble_eq_true rfl) dX9_link_10 ?_
    refine ax_if_eq (t := 21) F dX9_link_13 (by decide) (fun hc => ?_) (fun hc => ?_)
    · have h := it_pos0 h hc
      refine ax_bipush (v := (-2 : Int32)) F dX9_link_21 (by decide) ?_
      obtain ⟨h1, h2⟩ := rt_some0 h
      subst h1; subst h2
      exact ax_iret F dX9_link_23
    · have h := it_neg0 h hc
      refine ax_iload_n F dX9_link_16 rfl ?_
      refine ax_iload_n F dX9_link_17 rfl ?_
      refine ax_icmp_ne (t := 24) F dX9_link_18 (by decide) (fun hc => ?_) (fun hc => ?_)
      · have h := it_neg0 h hc
        refine ax_aload_n F dX9_link_24 rfl ?_
        refine ax_iconst (v := (0 : Int32)) F dX9_link_25 (by decide) ?_
        refine ax_iload_n F dX9_link_26 rfl ?_
        refine ax_iload_n F dX9_link_27 rfl ?_
        obtain ⟨r3, M3, hq3, h⟩ := cq_some0 h
        refine ax_callVi (As := [.int (0 : Int32), .int x1, .int x2]) (st := []) F (tX9_placeOf F.2.2.2.2.2.2.1 hm _ _ _  _ _ _ hq3) (ob_338 hm) rfl kc_X9_placeOf kz_X9 ki_X9_placeOf ks_X9_placeOf km_X9_108 ⟨kn_X9_placeOf, rfl, rfl, Nat.le_of_ble_eq_true rfl, Nat.le_of_ble_eq_true rfl⟩ rfl (Nat.le_of_ble_eq_true rfl) dX9_link_28 ?_
        refine ax_iconst (v := (-1 : Int32)) F dX9_link_31 (by decide) ?_
        refine ax_icmp_eq (t := 38) F dX9_link_32 (by decide) (fun hc => ?_) (fun hc => ?_)
        · have h := it_pos0 h hc
          refine ax_aload_n F dX9_link_38 rfl ?_
          refine ax_get (v := .ref (ad 339)) F (ob_338 hm) rfl inGX9 0 (by decide) rfl kf_X9_7 rfl dX9_link_39 ?_
          refine ax_iconst (v := (2 : Int32)) F dX9_link_42 (by decide) ?_
          refine ax_iload_n F dX9_link_43 rfl ?_
          refine ax_iadd F dX9_link_44 ?_
          obtain ⟨hg, h⟩ := gd_some0 h
          refine ax_iald F (ar_339 hm) hg dX9_link_45 ?_
          refine ax_aload_n F dX9_link_46 rfl ?_
          refine ax_get (v := .int (M3 338 2)) F (ob_338 hm) rfl inGX9 2 (by decide) rfl kf_X9_52 rfl dX9_link_47 ?_
          refine ax_icmp_ne (t := 56) F dX9_link_50 (by decide) (fun hc => ?_) (fun hc => ?_)
          · have h := it_neg0 h hc
            refine ax_aload_n F dX9_link_56 rfl ?_
            obtain ⟨r4, M4, hq4, h⟩ := cq_some0 h
            refine ax_callVv (As := []) (st := []) F (tX9_keepPast F.2.2.2.2.2.2.1 hm   _ _ _ hq4) (ob_338 hm) rfl kc_X9_keepPast kz_X9 ki_X9_keepPast ks_X9_keepPast km_X9_201 ⟨kn_X9_keepPast, rfl, rfl, Nat.le_of_ble_eq_true rfl, Nat.le_of_ble_eq_true rfl⟩ rfl (Nat.le_of_ble_eq_true rfl) dX9_link_57 ?_
            refine ax_aload_n F dX9_link_60 rfl ?_
            refine ax_iconst (v := (0 : Int32)) F dX9_link_61 (by decide) ?_
            refine ax_iload_n F dX9_link_62 rfl ?_
            refine ax_iload_n F dX9_link_63 rfl ?_
            refine ax_iconst (v := (0 : Int32)) F dX9_link_64 (by decide) ?_
            obtain ⟨r5, M5, hq5, h⟩ := cq_some0 h
            refine ax_callVv (As := [.int (0 : Int32), .int x1, .int x2, .int (0 : Int32)]) (st := []) F (tX9_put F.2.2.2.2.2.2.1 hm _ _ _ _  _ _ _ hq5) (ob_338 hm) rfl kc_X9_put kz_X9 ki_X9_put ks_X9_put km_X9_61 ⟨kn_X9_put, rfl, rfl, Nat.le_of_ble_eq_true rfl, Nat.le_of_ble_eq_true rfl⟩ rfl (Nat.le_of_ble_eq_true rfl) dX9_link_65 ?_
            refine ax_aload_n F dX9_link_68 rfl ?_
            refine ax_get (v := .ref (ad 339)) F (ob_338 hm) rfl inGX9 0 (by decide) rfl kf_X9_7 rfl dX9_link_69 ?_
            refine ax_iconst (v := (2 : Int32)) F dX9_link_72 (by decide) ?_
            refine ax_iload_n F dX9_link_73 rfl ?_
            refine ax_iadd F dX9_link_74 ?_
            obtain ⟨hg, h⟩ := gd_some0 h
            refine ax_iald F (ar_339 hm) hg dX9_link_75 ?_
            obtain ⟨h1, h2⟩ := rt_some0 h
            subst h1; subst h2
            exact ax_iret F dX9_link_76
          · have h := it_pos0 h hc
            refine ax_bipush (v := (-5 : Int32)) F dX9_link_53 (by decide) ?_
            obtain ⟨h1, h2⟩ := rt_some0 h
            subst h1; subst h2
            exact ax_iret F dX9_link_55
        · have h := it_neg0 h hc
          refine ax_bipush (v := (-4 : Int32)) F dX9_link_35 (by decide) ?_
          obtain ⟨h1, h2⟩ := rt_some0 h
          subst h1; subst h2
          exact ax_iret F dX9_link_37
      · have h := it_pos0 h hc
        refine ax_bipush (v := (-2 : Int32)) F dX9_link_21 (by decide) ?_
        obtain ⟨h1, h2⟩ := rt_some0 h
        subst h1; subst h2
        exact ax_iret F dX9_link_23
noncomputable def fX9_undo  (M : Mm) : Option Rst := if (M 338 5) = 0 then (some ((-4 : Int32), M)) else (cl (fX9_copyRow ((90 : Int32) + ((90 : Int32) * ((up2 M 338 5 ((M 338 5) - (1 : Int32))) 338 5))) (0 : Int32) (up2 M 338 5 ((M 338 5) - (1 : Int32)))) (fun r1 M1 => some ((M1 338 5), M1)))
def rmX9_undo : Room := { frames := 1, cells := 0, slots := 0, locals := 23 }
theorem kn_X9_undo : yX9_undo.cls ≠ "java/lang/invoke/MethodHandle" ∧ yX9_undo.cls ≠ "java/lang/invoke/VarHandle" ∧ (parseMethodDescriptor yX9_undo.desc).map (fun d => d.parameters.length) = some 0 := by decide +kernel
set_option maxRecDepth 100000 in
set_option maxHeartbeats 4000000 in
theorem tX9_undo {l : Launch} {G : va_G} {L : List Nat} {ad : Nat → Nat} {cs : Nat → ClassId} {z : Bool} {zk zv : Nat → Nat} (hinj : inj L ad) (hm : isM L)   (M : Mm) (r : Int32) (M' : Mm) (h : fX9_undo  M = some (r, M')) : Met l yX9_undo (tgW yX9_undo cX9_undo 1 (some .int)) rmX9_undo (APre G L ad cs z zk zv [.ref (ad 338)] M) (AQi G L ad cs r M') 0 0 (inA L ad) := by
  refine met_of (Eq.refl true) (Nat.le_of_ble_eq_true rfl) hinj [some (.ref (ad 338))] rfl ?_
  intro p e s m below meth c F
  replace F : Fx G L ad cs z zk zv p m meth c cX9_undo 1 (some .int) s _ RX9 := F
  unfold fX9_undo at h
  refine ax_aload_n F dX9_undo_0 rfl ?_
  refine ax_get (v := .int (M 338 5)) F (ob_338 hm) rfl inGX9 5 (by decide) rfl kf_X9_149 rfl dX9_undo_1 ?_
  refine ax_if_ne (t := 10) F dX9_undo_4 (by decide) (fun hc => ?_) (fun hc => ?_)
  · have h := it_neg0 h hc
    refine ax_aload_n F dX9_undo_10 rfl ?_
    refine ax_dup F dX9_undo_11 rfl ?_
    refine ax_get (v := .int (M 338 5)) F (ob_338 hm) rfl inGX9 5 (by decide) rfl kf_X9_149 rfl dX9_undo_12 ?_
    refine ax_iconst (v := (1 : Int32)) F dX9_undo_15 (by decide) ?_
    refine ax_isub F dX9_undo_16 ?_
    refine ax_put (ty := .int) F (ob_338 hm) rfl inGX9 tyX9 tyX9_ok nmX9 5 (by decide) rfl kf_X9_149 (by decide) rfl rfl (Nat.le_of_ble_eq_true rfl) rfl dX9_undo_17 ?_
    refine ax_aload_n F dX9_undo_20 rfl ?_
    refine ax_bipush (v := (90 : Int32)) F dX9_undo_21 (by decide) ?_
    refine ax_bipush (v := (90 : Int32)) F dX9_undo_23 (by decide) ?_
    refine ax_aload_n F dX9_undo_25 rfl ?_
    refine ax_get (v := .int ((up2 M 338 5 ((M 338 5) - (1 : Int32))) 338 5)) F (ob_338 hm) rfl inGX9 5 (by decide) rfl kf_X9_149 rfl dX9_undo_26 ?_
    refine ax_imul F dX9_undo_29 ?_
    refine ax_iadd F dX9_undo_30 ?_
    refine ax_iconst (v := (0 : Int32)) F dX9_undo_31 (by decide) ?_
    obtain ⟨r1, M1, hq1, h⟩ := cq_some0 h
    refine ax_callVv (As := [.int ((90 : Int32) + ((90 : Int32) * ((up2 M 338 5 ((M 338 5) - (1 : Int32))) 338 5))), .int (0 : Int32)]) (st := []) F (tX9_copyRow F.2.2.2.2.2.2.1 hm _ _  _ _ _ hq1) (ob_338 hm) rfl kc_X9_copyRow kz_X9 ki_X9_copyRow ks_X9_copyRow km_X9_198 ⟨kn_X9_copyRow, rfl, rfl, Nat.le_of_ble_eq_true rfl, Nat.le_of_ble_eq_true rfl⟩ rfl (Nat.le_of_ble_eq_true rfl) dX9_undo_32 ?_
    refine ax_aload_n F dX9_undo_35 rfl ?_
    refine ax_get (v := .int (M1 338 5)) F (ob_338 hm) rfl inGX9 5 (by decide) rfl kf_X9_149 rfl dX9_undo_36 ?_
    obtain ⟨h1, h2⟩ := rt_some0 h
    subst h1; subst h2
    exact ax_iret F dX9_undo_39
  · have h := it_pos0 h hc
    refine ax_bipush (v := (-4 : Int32)) F dX9_undo_7 (by decide) ?_
    obtain ⟨h1, h2⟩ := rt_some0 h
    subst h1; subst h2
    exact ax_iret F dX9_undo_9
noncomputable def fX9_keep (x1 : Int32) (M : Mm) : Option Rst := cl (fX9_in (x1).toInt64 (0 : Int64) (1 : Int64) M) (fun r1 M1 => if r1 = 0 then (some ((-2 : Int32), M1)) else (cl (fX9_copyRow (0 : Int32) ((810 : Int32) + ((90 : Int32) * x1)) M1) (fun r2 M2 => gd (okI x1 2) (cl (fX9_entries (up2 M2 340 (ix x1) (1 : Int32))) (fun r3 M3 => some (r3, M3))))))
def rmX9_keep : Room := { frames := 1, cells := 0, slots := 0, locals := 25 }
theorem kn_X9_keep : yX9_keep.cls ≠ "java/lang/invoke/MethodHandle" ∧ yX9_keep.cls ≠ "java/lang/invoke/VarHandle" ∧ (parseMethodDescriptor yX9_keep.desc).map (fun d => d.parameters.length) = some 1 := by decide +kernel
set_option maxRecDepth 100000 in
set_option maxHeartbeats 4000000 in
theorem tX9_keep {l : Launch} {G : va_G} {L : List Nat} {ad : Nat → Nat} {cs : Nat → ClassId} {z : Bool} {zk zv : Nat → Nat} (hinj : inj L ad) (hm : isM L) (x1 : Int32)  (M : Mm) (r : Int32) (M' : Mm) (h : fX9_keep x1 M = some (r, M')) : Met l yX9_keep (tgW yX9_keep cX9_keep 2 (some .int)) rmX9_keep (APre G L ad cs z zk zv [.ref (ad 338), .int x1] M) (AQi G L ad cs r M') 0 0 (inA L ad) := by
  refine met_of (Eq.refl true) (Nat.le_of_ble_eq_true rfl) hinj [some (.ref (ad 338)), some (.int x1)] rfl ?_
  intro p e s m below meth c F
  replace F : Fx G L ad cs z zk zv p m meth c cX9_keep 2 (some .int) s _ RX9 := F
  unfold fX9_keep at h
  refine ax_iload_n F dX9_keep_0 rfl ?_
  refine ax_i2l F dX9_keep_1 ?_
  refine ax_lconst (v := (0 : Int64)) F dX9_keep_2 (by decide) ?_
  refine ax_lconst (v := (1 : Int64)) F dX9_keep_3 (by decide) ?_
  obtain ⟨r1, M1, hq1, h⟩ := cq_some0 h
  refine ax_callSi (As := [.long (x1).toInt64, .long (0 : Int64), .long (1 : Int64)]) (st := []) F (tX9_in F.2.2.2.2.2.2.1 hm _ _ _  _ _ _ hq1) kc_X9_in kz_X9 kt_X9_in km_X9_66 ⟨kn_X9_in, rfl, rfl, Nat.le_of_ble_eq_true rfl, Nat.le_of_ble_eq_true rfl⟩ rfl (Nat.le_of_ble_eq_true rfl) dX9_keep_4 ?_
  refine ax_if_ne (t := 13) F dX9_keep_7 (by decide) (fun hc => ?_) (fun hc => ?_)
  · have h := it_neg0 h hc
    refine ax_aload_n F dX9_keep_13 rfl ?_
    refine ax_iconst (v := (0 : Int32)) F dX9_keep_14 (by decide) ?_
    refine ax_sipush (v := (810 : Int32)) F dX9_keep_15 (by decide) ?_
    refine ax_bipush (v := (90 : Int32)) F dX9_keep_18 (by decide) ?_
    refine ax_iload_n F dX9_keep_20 rfl ?_
    refine ax_imul F dX9_keep_21 ?_
    refine ax_iadd F dX9_keep_22 ?_
    obtain ⟨r2, M2, hq2, h⟩ := cq_some0 h
    refine ax_callVv (As := [.int (0 : Int32), .int ((810 : Int32) + ((90 : Int32) * x1))]) (st := []) F (tX9_copyRow F.2.2.2.2.2.2.1 hm _ _  _ _ _ hq2) (ob_338 hm) rfl kc_X9_copyRow kz_X9 ki_X9_copyRow ks_X9_copyRow km_X9_198 ⟨kn_X9_copyRow, rfl, rfl, Nat.le_of_ble_eq_true rfl, Nat.le_of_ble_eq_true rfl⟩ rfl (Nat.le_of_ble_eq_true rfl) dX9_keep_23 ?_
    refine ax_aload_n F dX9_keep_26 rfl ?_
    refine ax_get (v := .ref (ad 340)) F (ob_338 hm) rfl inGX9 6 (by decide) rfl kf_X9_13 rfl dX9_keep_27 ?_
    refine ax_iload_n F dX9_keep_30 rfl ?_
    refine ax_iconst (v := (1 : Int32)) F dX9_keep_31 (by decide) ?_
    obtain ⟨hg, h⟩ := gd_some0 h
    refine ax_zast F (ar_340 hm) hg (by decide) dX9_keep_32 ?_
    refine ax_aload_n F dX9_keep_33 rfl ?_
    obtain ⟨r3, M3, hq3, h⟩ := cq_some0 h
    refine ax_callVi (As := []) (st := []) F (tX9_entries F.2.2.2.2.2.2.1 hm   _ _ _ hq3) (ob_338 hm) rfl kc_X9_entries kz_X9 ki_X9_entries ks_X9_entries km_X9_209 ⟨kn_X9_entries, rfl, rfl, Nat.le_of_ble_eq_true rfl, Nat.le_of_ble_eq_true rfl⟩ rfl (Nat.le_of_ble_eq_true rfl) dX9_keep_34 ?_
    obtain ⟨h1, h2⟩ := rt_some0 h
    subst h1; subst h2
    exact ax_iret F dX9_keep_37
  · have h := it_pos0 h hc
    refine ax_bipush (v := (-2 : Int32)) F dX9_keep_10 (by decide) ?_
    obtain ⟨h1, h2⟩ := rt_some0 h
    subst h1; subst h2
    exact ax_iret F dX9_keep_12
noncomputable def fX9_back (x1 : Int32) (M : Mm) : Option Rst := cl (fX9_in (x1).toInt64 (0 : Int64) (1 : Int64) M) (fun r1 M1 => if r1 = 0 then (some ((-2 : Int32), M1)) else (gd (okI x1 2) (if (M1 340 (ix x1)) = 0 then (some ((-4 : Int32), M1)) else (cl (fX9_copyRow ((810 : Int32) + ((90 : Int32) * x1)) (0 : Int32) M1) (fun r2 M2 => cl (fX9_entries (up2 M2 338 5 (0 : Int32))) (fun r3 M3 => some (r3, M3)))))))
def rmX9_back : Room := { frames := 1, cells := 0, slots := 0, locals := 25 }
theorem kn_X9_back : yX9_back.cls ≠ "java/lang/invoke/MethodHandle" ∧ yX9_back.cls ≠ "java/lang/invoke/VarHandle" ∧ (parseMethodDescriptor yX9_back.desc).map (fun d => d.parameters.length) = some 1 := by decide +kernel
set_option maxRecDepth 100000 in
set_option maxHeartbeats 4000000 in
theorem tX9_back {l : Launch} {G : va_G} {L : List Nat} {ad : Nat → Nat} {cs : Nat → ClassId} {z : Bool} {zk zv : Nat → Nat} (hinj : inj L ad) (hm : isM L) (x1 : Int32)  (M : Mm) (r : Int32) (M' : Mm) (h : fX9_back x1 M = some (r, M')) : Met l yX9_back (tgW yX9_back cX9_back 2 (some .int)) rmX9_back (APre G L ad cs z zk zv [.ref (ad 338), .int x1] M) (AQi G L ad cs r M') 0 0 (inA L ad) := by
  refine met_of (Eq.refl true) (Nat.le_of_ble_eq_true rfl) hinj [some (.ref (ad 338)), some (.int x1)] rfl ?_
  intro p e s m below meth c F
  replace F : Fx G L ad cs z zk zv p m meth c cX9_back 2 (some .int) s _ RX9 := F
  unfold fX9_back at h
  refine ax_iload_n F dX9_back_0 rfl ?_
  refine ax_i2l F dX9_back_1 ?_
  refine ax_lconst (v := (0 : Int64)) F dX9_back_2 (by decide) ?_
  refine ax_lconst (v := (1 : Int64)) F dX9_back_3 (by decide) ?_
  obtain ⟨r1, M1, hq1, h⟩ := cq_some0 h
  refine ax_callSi (As := [.long (x1).toInt64, .long (0 : Int64), .long (1 : Int64)]) (st := []) F (tX9_in F.2.2.2.2.2.2.1 hm _ _ _  _ _ _ hq1) kc_X9_in kz_X9 kt_X9_in km_X9_66 ⟨kn_X9_in, rfl, rfl, Nat.le_of_ble_eq_true rfl, Nat.le_of_ble_eq_true rfl⟩ rfl (Nat.le_of_ble_eq_true rfl) dX9_back_4 ?_
  refine ax_if_ne (t := 13) F dX9_back_7 (by decide) (fun hc => ?_) (fun hc => ?_)
  · have h := it_neg0 h hc
    refine ax_aload_n F dX9_back_13 rfl ?_
    refine ax_get (v := .ref (ad 340)) F (ob_338 hm) rfl inGX9 6 (by decide) rfl kf_X9_13 rfl dX9_back_14 ?_
    refine ax_iload_n F dX9_back_17 rfl ?_
    obtain ⟨hg, h⟩ := gd_some0 h
    refine ax_zald F (ar_340 hm) hg dX9_back_18 ?_
    refine ax_if_ne (t := 25) F dX9_back_19 (by decide) (fun hc => ?_) (fun hc => ?_)
    · have h := it_neg0 h hc
      refine ax_aload_n F dX9_back_25 rfl ?_
      refine ax_sipush (v := (810 : Int32)) F dX9_back_26 (by decide) ?_
      refine ax_bipush (v := (90 : Int32)) F dX9_back_29 (by decide) ?_
      refine ax_iload_n F dX9_back_31 rfl ?_
      refine ax_imul F dX9_back_32 ?_
      refine ax_iadd F dX9_back_33 ?_
      refine ax_iconst (v := (0 : Int32)) F dX9_back_34 (by decide) ?_
      obtain ⟨r2, M2, hq2, h⟩ := cq_some0 h
      refine ax_callVv (As := [.int ((810 : Int32) + ((90 : Int32) * x1)), .int (0 : Int32)]) (st := []) F (tX9_copyRow F.2.2.2.2.2.2.1 hm _ _  _ _ _ hq2) (ob_338 hm) rfl kc_X9_copyRow kz_X9 ki_X9_copyRow ks_X9_copyRow km_X9_198 ⟨kn_X9_copyRow, rfl, rfl, Nat.le_of_ble_eq_true rfl, Nat.le_of_ble_eq_true rfl⟩ rfl (Nat.le_of_ble_eq_true rfl) dX9_back_35 ?_
      refine ax_aload_n F dX9_back_38 rfl ?_
      refine ax_iconst (v := (0 : Int32)) F dX9_back_39 (by decide) ?_
      refine ax_put (ty := .int) F (ob_338 hm) rfl inGX9 tyX9 tyX9_ok nmX9 5 (by decide) rfl kf_X9_149 (by decide) rfl rfl (Nat.le_of_ble_eq_true rfl) rfl dX9_back_40 ?_
      refine ax_aload_n F dX9_back_43 rfl ?_
      obtain ⟨r3, M3, hq3, h⟩ := cq_some0 h
      refine ax_callVi (As := []) (st := []) F (tX9_entries F.2.2.2.2.2.2.1 hm   _ _ _ hq3) (ob_338 hm) rfl kc_X9_entries kz_X9 ki_X9_entries ks_X9_entries km_X9_209 ⟨kn_X9_entries, rfl, rfl, Nat.le_of_ble_eq_true rfl, Nat.le_of_ble_eq_true rfl⟩ rfl (Nat.le_of_ble_eq_true rfl) dX9_back_44 ?_
      obtain ⟨h1, h2⟩ := rt_some0 h
      subst h1; subst h2
      exact ax_iret F dX9_back_47
    · have h := it_pos0 h hc
      refine ax_bipush (v := (-4 : Int32)) F dX9_back_22 (by decide) ?_
      obtain ⟨h1, h2⟩ := rt_some0 h
      subst h1; subst h2
      exact ax_iret F dX9_back_24
  · have h := it_pos0 h hc
    refine ax_bipush (v := (-2 : Int32)) F dX9_back_10 (by decide) ?_
    obtain ⟨h1, h2⟩ := rt_some0 h
    subst h1; subst h2
    exact ax_iret F dX9_back_12
def rmX9_forgotten : Room := { frames := 5, cells := 0, slots := 0, locals := 122 }
theorem kn_X9_forgotten : yX9_forgotten.cls ≠ "java/lang/invoke/MethodHandle" ∧ yX9_forgotten.cls ≠ "java/lang/invoke/VarHandle" ∧ (parseMethodDescriptor yX9_forgotten.desc).map (fun d => d.parameters.length) = some 1 := by decide +kernel
noncomputable def bX9_forgotten_0 (x1 : Int32) (M : Mm) : Option (Sst ⊕ Rst) := cl (fX9_isNode x1 M) (fun r1 M1 => if r1 = 0 then (some (.inr ((-2 : Int32), M1))) else (cl (fX9_isDead (0 : Int32) x1 M1) (fun r2 M2 => if r2 = 0 then (some (.inr ((-4 : Int32), M2))) else (cl (fX9_copyRow (0 : Int32) (990 : Int32) M2) (fun r3 M3 => some (.inl (1, [], [x1, (0 : Int32)], M3)))))))
noncomputable def bX9_forgotten_1 (x1 : Int32) (x2 : Int32) (M : Mm) : Option (Sst ⊕ Rst) := if (60 : Int32) ≤ x2 then (some (.inl (2, [], [x1, x2], M))) else (cl (fX9_known (990 : Int32) x1 M) (fun r1 M1 => if r1 ≤ 0 then (some (.inl (2, [], [x1, x2], M1))) else (cl (fX9_cycles (990 : Int32) M1) (fun r2 M2 => some (.inl (1, [], [x1, (x2 + (1 : Int32))], M2))))))
noncomputable def bX9_forgotten_2 (x1 : Int32) (x2 : Int32) (M : Mm) : Option (Sst ⊕ Rst) := cl (fX9_known (990 : Int32) x1 M) (fun r1 M1 => if r1 = 0 then (some (.inr (x2, M1))) else (some (.inr ((-1 : Int32), M1))))
noncomputable def stX9_forgotten : Sst → Option (Sst ⊕ Rst) := fun q => match q.1 with
  | 0 => bX9_forgotten_0 (q.2.2.1.getD 0 0) q.2.2.2
  | 1 => bX9_forgotten_1 (q.2.2.1.getD 0 0) (q.2.2.1.getD 1 0) q.2.2.2
  | 2 => bX9_forgotten_2 (q.2.2.1.getD 0 0) (q.2.2.1.getD 1 0) q.2.2.2
  | _ => none
noncomputable def fX9_forgotten (x1 : Int32) (M : Mm) : Option Rst := run stX9_forgotten (0, [], [x1], M)
def PX9_forgotten (p : Program) (l : Launch) (e : Env) (s : State) (m : MethodId) (args : Array Value) (below : List Frame) (meth : Method) (c : Code) (G : va_G) (L : List Nat) (ad : Nat → Nat) (cs : Nat → ClassId) (zk : Nat → Nat) (r : Int32) (M' : Mm) (n : Nat) : Prop := (∀ (x1 : Int32) (M : Mm), itr stX9_forgotten n (0, [], [x1], M) = some (r, M') → AW p l e rmX9_forgotten s m args below meth c (MQ below (AQi G L ad cs r M') args s 0 0 (inA L ad)) G L ad cs 3 0 [some (.ref (ad 338)), some (.int x1), none] [] M) ∧ (∀ (x1 : Int32) (x2 : Int32) (M : Mm), itr stX9_forgotten n (1, [], [x1, x2], M) = some (r, M') → AW p l e rmX9_forgotten s m args below meth c (MQ below (AQi G L ad cs r M') args s 0 0 (inA L ad)) G L ad cs 3 33 [some (.ref (ad 338)), some (.int x1), some (.int x2)] [] M) ∧ (∀ (x1 : Int32) (x2 : Int32) (M : Mm), itr stX9_forgotten n (2, [], [x1, x2], M) = some (r, M') → AW p l e rmX9_forgotten s m args below meth c (MQ below (AQi G L ad cs r M') args s 0 0 (inA L ad)) G L ad cs 3 63 [some (.ref (ad 338)), some (.int x1), some (.int x2)] [] M)
set_option maxRecDepth 100000 in
set_option maxHeartbeats 4000000 in
theorem wX9_forgotten_0 {p : Program} {l : Launch} {e : Env} {s : State} {m : MethodId} {args : Array Value} {below : List Frame} {meth : Method} {c : Code} {G : va_G} {L : List Nat} {ad : Nat → Nat} {cs : Nat → ClassId} {z : Bool} {zk zv : Nat → Nat} {r : Int32} {M' : Mm} {n : Nat} (F : Fx G L ad cs z zk zv p m meth c cX9_forgotten 3 (some .int) s args RX9) (hm : isM L) (IH : PX9_forgotten p l e s m args below meth c G L ad cs zk r M' n) (x1 : Int32) (M : Mm) (h : (bX9_forgotten_0 x1 M).bind (fun q => match q with | .inl s' => itr stX9_forgotten n s' | .inr r => some r) = some (r, M'))  : AW p l e rmX9_forgotten s m args below meth c (MQ below (AQi G L ad cs r M') args s 0 0 (inA L ad)) G L ad cs 3 0 [some (.ref (ad 338)), some (.int x1), none] [] M := by
  unfold bX9_forgotten_0 at h
  refine ax_aload_n F dX9_forgotten_0 rfl ?_
  refine ax_iload_n F dX9_forgotten_1 rfl ?_
  obtain ⟨r1, M1, hq1, h⟩ := cq_some h
  refine ax_callVi (As := [.int x1]) (st := []) F (tX9_isNode F.2.2.2.2.2.2.1 hm _  _ _ _ hq1) (ob_338 hm) rfl kc_X9_isNode kz_X9 ki_X9_isNode ks_X9_isNode km_X9_188 ⟨kn_X9_isNode, rfl, rfl, Nat.le_of_ble_eq_true rfl, Nat.le_of_ble_eq_true rfl⟩ rfl (Nat.le_of_ble_eq_true rfl) dX9_forgotten_2 ?_
  refine ax_if_ne (t := 11) F dX9_forgotten_5 (by decide) (fun hc => ?_) (fun hc => ?_)
  · have h := it_neg h hc
    refine ax_aload_n F dX9_forgotten_11 rfl ?_
    refine ax_iconst (v := (0 : Int32)) F dX9_forgotten_12 (by decide) ?_
    refine ax_iload_n F dX9_forgotten_13 rfl ?_
    obtain ⟨r2, M2, hq2, h⟩ := cq_some h
    refine ax_callVi (As := [.int (0 : Int32), .int x1]) (st := []) F (tX9_isDead F.2.2.2.2.2.2.1 hm _ _  _ _ _ hq2) (ob_338 hm) rfl kc_X9_isDead kz_X9 ki_X9_isDead ks_X9_isDead km_X9_176 ⟨kn_X9_isDead, rfl, rfl, Nat.le_of_ble_eq_true rfl, Nat.le_of_ble_eq_true rfl⟩ rfl (Nat.le_of_ble_eq_true rfl) dX9_forgotten_14 ?_
    refine ax_if_ne (t := 23) F dX9_forgotten_17 (by decide) (fun hc => ?_) (fun hc => ?_)
    · have h := it_neg h hc
      refine ax_aload_n F dX9_forgotten_23 rfl ?_
      refine ax_iconst (v := (0 : Int32)) F dX9_forgotten_24 (by decide) ?_
      refine ax_sipush (v := (990 : Int32)) F dX9_forgotten_25 (by decide) ?_
      obtain ⟨r3, M3, hq3, h⟩ := cq_some h
      refine ax_callVv (As := [.int (0 : Int32), .int (990 : Int32)]) (st := []) F (tX9_copyRow F.2.2.2.2.2.2.1 hm _ _  _ _ _ hq3) (ob_338 hm) rfl kc_X9_copyRow kz_X9 ki_X9_copyRow ks_X9_copyRow km_X9_198 ⟨kn_X9_copyRow, rfl, rfl, Nat.le_of_ble_eq_true rfl, Nat.le_of_ble_eq_true rfl⟩ rfl (Nat.le_of_ble_eq_true rfl) dX9_forgotten_28 ?_
      refine ax_iconst (v := (0 : Int32)) F dX9_forgotten_31 (by decide) ?_
      refine ax_istore_n F dX9_forgotten_32 (by decide) rfl ?_
      exact IH.2.1 _ _ _ h 
    · have h := it_pos h hc
      refine ax_bipush (v := (-4 : Int32)) F dX9_forgotten_20 (by decide) ?_
      obtain ⟨h1, h2⟩ := rt_some h
      subst h1; subst h2
      exact ax_iret F dX9_forgotten_22
  · have h := it_pos h hc
    refine ax_bipush (v := (-2 : Int32)) F dX9_forgotten_8 (by decide) ?_
    obtain ⟨h1, h2⟩ := rt_some h
    subst h1; subst h2
    exact ax_iret F dX9_forgotten_10
set_option maxRecDepth 100000 in
set_option maxHeartbeats 4000000 in
theorem wX9_forgotten_1 {p : Program} {l : Launch} {e : Env} {s : State} {m : MethodId} {args : Array Value} {below : List Frame} {meth : Method} {c : Code} {G : va_G} {L : List Nat} {ad : Nat → Nat} {cs : Nat → ClassId} {z : Bool} {zk zv : Nat → Nat} {r : Int32} {M' : Mm} {n : Nat} (F : Fx G L ad cs z zk zv p m meth c cX9_forgotten 3 (some .int) s args RX9) (hm : isM L) (IH : PX9_forgotten p l e s m args below meth c G L ad cs zk r M' n) (x1 : Int32) (x2 : Int32) (M : Mm) (h : (bX9_forgotten_1 x1 x2 M).bind (fun q => match q with | .inl s' => itr stX9_forgotten n s' | .inr r => some r) = some (r, M'))  : AW p l e rmX9_forgotten s m args below meth c (MQ below (AQi G L ad cs r M') args s 0 0 (inA L ad)) G L ad cs 3 33 [some (.ref (ad 338)), some (.int x1), some (.int x2)] [] M := by
  unfold bX9_forgotten_1 at h
  refine ax_iload_n F dX9_forgotten_33 rfl ?_
  refine ax_bipush (v := (60 : Int32)) F dX9_forgotten_34 (by decide) ?_
  refine ax_icmp_ge (t := 63) F dX9_forgotten_36 (by decide) (fun hc => ?_) (fun hc => ?_)
  · have h := it_pos h hc
    exact IH.2.2 _ _ _ h 
  · have h := it_neg h hc
    refine ax_aload_n F dX9_forgotten_39 rfl ?_
    refine ax_sipush (v := (990 : Int32)) F dX9_forgotten_40 (by decide) ?_
    refine ax_iload_n F dX9_forgotten_43 rfl ?_
    obtain ⟨r1, M1, hq1, h⟩ := cq_some h
    refine ax_callVi (As := [.int (990 : Int32), .int x1]) (st := []) F (tX9_known F.2.2.2.2.2.2.1 hm _ _  _ _ _ hq1) (ob_338 hm) rfl kc_X9_known kz_X9 ki_X9_known ks_X9_known km_X9_191 ⟨kn_X9_known, rfl, rfl, Nat.le_of_ble_eq_true rfl, Nat.le_of_ble_eq_true rfl⟩ rfl (Nat.le_of_ble_eq_true rfl) dX9_forgotten_44 ?_
    refine ax_if_le (t := 63) F dX9_forgotten_47 (by decide) (fun hc => ?_) (fun hc => ?_)
    · have h := it_pos h hc
      exact IH.2.2 _ _ _ h 
    · have h := it_neg h hc
      refine ax_aload_n F dX9_forgotten_50 rfl ?_
      refine ax_sipush (v := (990 : Int32)) F dX9_forgotten_51 (by decide) ?_
      obtain ⟨r2, M2, hq2, h⟩ := cq_some h
      refine ax_callVv (As := [.int (990 : Int32)]) (st := []) F (tX9_cycles F.2.2.2.2.2.2.1 hm _  _ _ _ hq2) (ob_338 hm) rfl kc_X9_cycles kz_X9 ki_X9_cycles ks_X9_cycles km_X9_206 ⟨kn_X9_cycles, rfl, rfl, Nat.le_of_ble_eq_true rfl, Nat.le_of_ble_eq_true rfl⟩ rfl (Nat.le_of_ble_eq_true rfl) dX9_forgotten_54 ?_
      refine ax_iinc (v := (1 : Int32)) F dX9_forgotten_57 rfl (by decide) (by decide) rfl ?_
      refine ax_goto (t := 33) F dX9_forgotten_60 (by decide) ?_
      exact IH.2.1 _ _ _ h 
set_option maxRecDepth 100000 in
set_option maxHeartbeats 4000000 in
theorem wX9_forgotten_2 {p : Program} {l : Launch} {e : Env} {s : State} {m : MethodId} {args : Array Value} {below : List Frame} {meth : Method} {c : Code} {G : va_G} {L : List Nat} {ad : Nat → Nat} {cs : Nat → ClassId} {z : Bool} {zk zv : Nat → Nat} {r : Int32} {M' : Mm} {n : Nat} (F : Fx G L ad cs z zk zv p m meth c cX9_forgotten 3 (some .int) s args RX9) (hm : isM L) (IH : PX9_forgotten p l e s m args below meth c G L ad cs zk r M' n) (x1 : Int32) (x2 : Int32) (M : Mm) (h : (bX9_forgotten_2 x1 x2 M).bind (fun q => match q with | .inl s' => itr stX9_forgotten n s' | .inr r => some r) = some (r, M'))  : AW p l e rmX9_forgotten s m args below meth c (MQ below (AQi G L ad cs r M') args s 0 0 (inA L ad)) G L ad cs 3 63 [some (.ref (ad 338)), some (.int x1), some (.int x2)] [] M := by
  unfold bX9_forgotten_2 at h
  refine ax_aload_n F dX9_forgotten_63 rfl ?_
  refine ax_sipush (v := (990 : Int32)) F dX9_forgotten_64 (by decide) ?_
  refine ax_iload_n F dX9_forgotten_67 rfl ?_
  obtain ⟨r1, M1, hq1, h⟩ := cq_some h
  refine ax_callVi (As := [.int (990 : Int32), .int x1]) (st := []) F (tX9_known F.2.2.2.2.2.2.1 hm _ _  _ _ _ hq1) (ob_338 hm) rfl kc_X9_known kz_X9 ki_X9_known ks_X9_known km_X9_191 ⟨kn_X9_known, rfl, rfl, Nat.le_of_ble_eq_true rfl, Nat.le_of_ble_eq_true rfl⟩ rfl (Nat.le_of_ble_eq_true rfl) dX9_forgotten_68 ?_
  refine ax_if_ne (t := 78) F dX9_forgotten_71 (by decide) (fun hc => ?_) (fun hc => ?_)
  · have h := it_neg h hc
    refine ax_iconst (v := (-1 : Int32)) F dX9_forgotten_78 (by decide) ?_
    obtain ⟨h1, h2⟩ := rt_some h
    subst h1; subst h2
    exact ax_iret F dX9_forgotten_79
  · have h := it_pos h hc
    refine ax_iload_n F dX9_forgotten_74 rfl ?_
    refine ax_goto (t := 79) F dX9_forgotten_75 (by decide) ?_
    obtain ⟨h1, h2⟩ := rt_some h
    subst h1; subst h2
    exact ax_iret F dX9_forgotten_79
set_option maxRecDepth 100000 in
set_option maxHeartbeats 4000000 in
theorem wX9_forgotten {p : Program} {l : Launch} {e : Env} {s : State} {m : MethodId} {args : Array Value} {below : List Frame} {meth : Method} {c : Code} {G : va_G} {L : List Nat} {ad : Nat → Nat} {cs : Nat → ClassId} {z : Bool} {zk zv : Nat → Nat} {r : Int32} {M' : Mm} (F : Fx G L ad cs z zk zv p m meth c cX9_forgotten 3 (some .int) s args RX9) (hm : isM L) (n : Nat) : PX9_forgotten p l e s m args below meth c G L ad cs zk r M' n := by
  induction n with
  | zero => exact ⟨(fun x1 M h => by cases h), (fun x1 x2 M h => by cases h), (fun x1 x2 M h => by cases h)⟩
  | succ n ih =>
    exact ⟨fun x1 M h  => wX9_forgotten_0 F hm ih x1 M h ,
      fun x1 x2 M h  => wX9_forgotten_1 F hm ih x1 x2 M h ,
      fun x1 x2 M h  => wX9_forgotten_2 F hm ih x1 x2 M h ⟩
set_option maxRecDepth 100000 in
set_option maxHeartbeats 4000000 in
theorem tX9_forgotten {l : Launch} {G : va_G} {L : List Nat} {ad : Nat → Nat} {cs : Nat → ClassId} {z : Bool} {zk zv : Nat → Nat} (hinj : inj L ad) (hm : isM L) (x1 : Int32)  (M : Mm) (r : Int32) (M' : Mm) (h : fX9_forgotten x1 M = some (r, M')) : Met l yX9_forgotten (tgW yX9_forgotten cX9_forgotten 3 (some .int)) rmX9_forgotten (APre G L ad cs z zk zv [.ref (ad 338), .int x1] M) (AQi G L ad cs r M') 0 0 (inA L ad) := by
  refine met_of (Eq.refl true) (Nat.le_of_ble_eq_true rfl) hinj [some (.ref (ad 338)), some (.int x1), none] rfl ?_
  intro p e s m below meth c F
  replace F : Fx G L ad cs z zk zv p m meth c cX9_forgotten 3 (some .int) s _ RX9 := F
  obtain ⟨n, hn⟩ := run_ex h
  exact (wX9_forgotten F hm n).1 x1 M hn 
noncomputable def fX9_next (x1 : Int32) (M : Mm) : Option Rst := cl (fX9_isNode x1 M) (fun r1 M1 => if r1 = 0 then (some ((-2 : Int32), M1)) else (cl (fX9_isDead (0 : Int32) x1 M1) (fun r2 M2 => if r2 = 0 then (cl (fX9_copyRow (0 : Int32) (990 : Int32) M2) (fun r3 M3 => cl (fX9_ages (990 : Int32) x1 M3) (fun r4 M4 => cl (fX9_oldest (990 : Int32) x1 M4) (fun r5 M5 => if r5 = (-1 : Int32) then (some ((-1 : Int32), M5)) else (gd (okI (((1000 : Int32) + ((5 : Int32) * x1)) + r5) 1080) (some ((M5 339 (ix (((1000 : Int32) + ((5 : Int32) * x1)) + r5))), M5))))))) else (some ((-4 : Int32), M2)))))
def rmX9_next : Room := { frames := 2, cells := 0, slots := 0, locals := 46 }
theorem kn_X9_next : yX9_next.cls ≠ "java/lang/invoke/MethodHandle" ∧ yX9_next.cls ≠ "java/lang/invoke/VarHandle" ∧ (parseMethodDescriptor yX9_next.desc).map (fun d => d.parameters.length) = some 1 := by decide +kernel
set_option maxRecDepth 100000 in
set_option maxHeartbeats 4000000 in
theorem tX9_next {l : Launch} {G : va_G} {L : List Nat} {ad : Nat → Nat} {cs : Nat → ClassId} {z : Bool} {zk zv : Nat → Nat} (hinj : inj L ad) (hm : isM L) (x1 : Int32)  (M : Mm) (r : Int32) (M' : Mm) (h : fX9_next x1 M = some (r, M')) : Met l yX9_next (tgW yX9_next cX9_next 3 (some .int)) rmX9_next (APre G L ad cs z zk zv [.ref (ad 338), .int x1] M) (AQi G L ad cs r M') 0 0 (inA L ad) := by
  refine met_of (Eq.refl true) (Nat.le_of_ble_eq_true rfl) hinj [some (.ref (ad 338)), some (.int x1), none] rfl ?_
  intro p e s m below meth c F
  replace F : Fx G L ad cs z zk zv p m meth c cX9_next 3 (some .int) s _ RX9 := F
  unfold fX9_next at h
  refine ax_aload_n F dX9_next_0 rfl ?_
  refine ax_iload_n F dX9_next_1 rfl ?_
  obtain ⟨r1, M1, hq1, h⟩ := cq_some0 h
  refine ax_callVi (As := [.int x1]) (st := []) F (tX9_isNode F.2.2.2.2.2.2.1 hm _  _ _ _ hq1) (ob_338 hm) rfl kc_X9_isNode kz_X9 ki_X9_isNode ks_X9_isNode km_X9_188 ⟨kn_X9_isNode, rfl, rfl, Nat.le_of_ble_eq_true rfl, Nat.le_of_ble_eq_true rfl⟩ rfl (Nat.le_of_ble_eq_true rfl) dX9_next_2 ?_
  refine ax_if_ne (t := 11) F dX9_next_5 (by decide) (fun hc => ?_) (fun hc => ?_)
  · have h := it_neg0 h hc
    refine ax_aload_n F dX9_next_11 rfl ?_
    refine ax_iconst (v := (0 : Int32)) F dX9_next_12 (by decide) ?_
    refine ax_iload_n F dX9_next_13 rfl ?_
    obtain ⟨r2, M2, hq2, h⟩ := cq_some0 h
    refine ax_callVi (As := [.int (0 : Int32), .int x1]) (st := []) F (tX9_isDead F.2.2.2.2.2.2.1 hm _ _  _ _ _ hq2) (ob_338 hm) rfl kc_X9_isDead kz_X9 ki_X9_isDead ks_X9_isDead km_X9_176 ⟨kn_X9_isDead, rfl, rfl, Nat.le_of_ble_eq_true rfl, Nat.le_of_ble_eq_true rfl⟩ rfl (Nat.le_of_ble_eq_true rfl) dX9_next_14 ?_
    refine ax_if_eq (t := 23) F dX9_next_17 (by decide) (fun hc => ?_) (fun hc => ?_)
    · have h := it_pos0 h hc
      refine ax_aload_n F dX9_next_23 rfl ?_
      refine ax_iconst (v := (0 : Int32)) F dX9_next_24 (by decide) ?_
      refine ax_sipush (v := (990 : Int32)) F dX9_next_25 (by decide) ?_
      obtain ⟨r3, M3, hq3, h⟩ := cq_some0 h
      refine ax_callVv (As := [.int (0 : Int32), .int (990 : Int32)]) (st := []) F (tX9_copyRow F.2.2.2.2.2.2.1 hm _ _  _ _ _ hq3) (ob_338 hm) rfl kc_X9_copyRow kz_X9 ki_X9_copyRow ks_X9_copyRow km_X9_198 ⟨kn_X9_copyRow, rfl, rfl, Nat.le_of_ble_eq_true rfl, Nat.le_of_ble_eq_true rfl⟩ rfl (Nat.le_of_ble_eq_true rfl) dX9_next_28 ?_
      refine ax_aload_n F dX9_next_31 rfl ?_
      refine ax_sipush (v := (990 : Int32)) F dX9_next_32 (by decide) ?_
      refine ax_iload_n F dX9_next_35 rfl ?_
      obtain ⟨r4, M4, hq4, h⟩ := cq_some0 h
      refine ax_callVv (As := [.int (990 : Int32), .int x1]) (st := []) F (tX9_ages F.2.2.2.2.2.2.1 hm _ _  _ _ _ hq4) (ob_338 hm) rfl kc_X9_ages kz_X9 ki_X9_ages ks_X9_ages km_X9_169 ⟨kn_X9_ages, rfl, rfl, Nat.le_of_ble_eq_true rfl, Nat.le_of_ble_eq_true rfl⟩ rfl (Nat.le_of_ble_eq_true rfl) dX9_next_36 ?_
      refine ax_aload_n F dX9_next_39 rfl ?_
      refine ax_sipush (v := (990 : Int32)) F dX9_next_40 (by decide) ?_
      refine ax_iload_n F dX9_next_43 rfl ?_
      obtain ⟨r5, M5, hq5, h⟩ := cq_some0 h
      refine ax_callVi (As := [.int (990 : Int32), .int x1]) (st := []) F (tX9_oldest F.2.2.2.2.2.2.1 hm _ _  _ _ _ hq5) (ob_338 hm) rfl kc_X9_oldest kz_X9 ki_X9_oldest ks_X9_oldest km_X9_173 ⟨kn_X9_oldest, rfl, rfl, Nat.le_of_ble_eq_true rfl, Nat.le_of_ble_eq_true rfl⟩ rfl (Nat.le_of_ble_eq_true rfl) dX9_next_44 ?_
      refine ax_istore_n F dX9_next_47 (by decide) rfl ?_
      refine ax_iload_n F dX9_next_48 rfl ?_
      refine ax_iconst (v := (-1 : Int32)) F dX9_next_49 (by decide) ?_
      refine ax_icmp_ne (t := 57) F dX9_next_50 (by decide) (fun hc => ?_) (fun hc => ?_)
      · have h := it_neg0 h hc
        refine ax_aload_n F dX9_next_57 rfl ?_
        refine ax_get (v := .ref (ad 339)) F (ob_338 hm) rfl inGX9 0 (by decide) rfl kf_X9_7 rfl dX9_next_58 ?_
        refine ax_sipush (v := (1000 : Int32)) F dX9_next_61 (by decide) ?_
        refine ax_iconst (v := (5 : Int32)) F dX9_next_64 (by decide) ?_
        refine ax_iload_n F dX9_next_65 rfl ?_
        refine ax_imul F dX9_next_66 ?_
        refine ax_iadd F dX9_next_67 ?_
        refine ax_iload_n F dX9_next_68 rfl ?_
        refine ax_iadd F dX9_next_69 ?_
        obtain ⟨hg, h⟩ := gd_some0 h
        refine ax_iald F (ar_339 hm) hg dX9_next_70 ?_
        obtain ⟨h1, h2⟩ := rt_some0 h
        subst h1; subst h2
        exact ax_iret F dX9_next_71
      · have h := it_pos0 h hc
        refine ax_iconst (v := (-1 : Int32)) F dX9_next_53 (by decide) ?_
        refine ax_goto (t := 71) F dX9_next_54 (by decide) ?_
        obtain ⟨h1, h2⟩ := rt_some0 h
        subst h1; subst h2
        exact ax_iret F dX9_next_71
    · have h := it_neg0 h hc
      refine ax_bipush (v := (-4 : Int32)) F dX9_next_20 (by decide) ?_
      obtain ⟨h1, h2⟩ := rt_some0 h
      subst h1; subst h2
      exact ax_iret F dX9_next_22
  · have h := it_pos0 h hc
    refine ax_bipush (v := (-2 : Int32)) F dX9_next_8 (by decide) ?_
    obtain ⟨h1, h2⟩ := rt_some0 h
    subst h1; subst h2
    exact ax_iret F dX9_next_10
def rmX9_extreme : Room := { frames := 3, cells := 0, slots := 0, locals := 67 }
theorem kn_X9_extreme : yX9_extreme.cls ≠ "java/lang/invoke/MethodHandle" ∧ yX9_extreme.cls ≠ "java/lang/invoke/VarHandle" ∧ (parseMethodDescriptor yX9_extreme.desc).map (fun d => d.parameters.length) = some 2 := by decide +kernel
noncomputable def bX9_extreme_0 (x1 : Int32) (x2 : Int32) (M : Mm) : Option (Sst ⊕ Rst) := some (.inl (1, [], [x1, x2, (-1 : Int32), (0 : Int32)], M))
noncomputable def bX9_extreme_1 (x1 : Int32) (x2 : Int32) (x3 : Int32) (x4 : Int32) (M : Mm) : Option (Sst ⊕ Rst) := if (M 338 1) ≤ x4 then (some (.inr (x3, M))) else (cl (fX9_isDead x1 x4 M) (fun r1 M1 => if r1 = 0 then (cl (fX9_known x1 x4 M1) (fun r2 M2 => if x3 = (-1 : Int32) then (some (.inl (1, [], [x1, x2, r2, (x4 + (1 : Int32))], M2))) else (if x2 = 0 then (if x3 ≤ r2 then (some (.inl (1, [], [x1, x2, x3, (x4 + (1 : Int32))], M2))) else (some (.inl (1, [], [x1, x2, r2, (x4 + (1 : Int32))], M2)))) else (if r2 ≤ x3 then (some (.inl (1, [], [x1, x2, x3, (x4 + (1 : Int32))], M2))) else (some (.inl (1, [], [x1, x2, r2, (x4 + (1 : Int32))], M2))))))) else (some (.inl (1, [], [x1, x2, x3, (x4 + (1 : Int32))], M1)))))
noncomputable def stX9_extreme : Sst → Option (Sst ⊕ Rst) := fun q => match q.1 with
  | 0 => bX9_extreme_0 (q.2.2.1.getD 0 0) (q.2.2.1.getD 1 0) q.2.2.2
  | 1 => bX9_extreme_1 (q.2.2.1.getD 0 0) (q.2.2.1.getD 1 0) (q.2.2.1.getD 2 0) (q.2.2.1.getD 3 0) q.2.2.2
  | _ => none
noncomputable def fX9_extreme (x1 : Int32) (x2 : Int32) (M : Mm) : Option Rst := run stX9_extreme (0, [], [x1, x2], M)
def PX9_extreme (p : Program) (l : Launch) (e : Env) (s : State) (m : MethodId) (args : Array Value) (below : List Frame) (meth : Method) (c : Code) (G : va_G) (L : List Nat) (ad : Nat → Nat) (cs : Nat → ClassId) (zk : Nat → Nat) (r : Int32) (M' : Mm) (n : Nat) : Prop := (∀ (x1 : Int32) (x2 : Int32) (M : Mm), itr stX9_extreme n (0, [], [x1, x2], M) = some (r, M') → AW p l e rmX9_extreme s m args below meth c (MQ below (AQi G L ad cs r M') args s 0 0 (inA L ad)) G L ad cs 6 0 [some (.ref (ad 338)), some (.int x1), some (.int x2), none, none, none] [] M) ∧ (∀ (x1 : Int32) (x2 : Int32) (x3 : Int32) (x4 : Int32) (M : Mm), itr stX9_extreme n (1, [], [x1, x2, x3, x4], M) = some (r, M') → AW p l e rmX9_extreme s m args below meth c (MQ below (AQi G L ad cs r M') args s 0 0 (inA L ad)) G L ad cs 6 5 [some (.ref (ad 338)), some (.int x1), some (.int x2), some (.int x3), some (.int x4), none] [] M)
set_option maxRecDepth 100000 in
set_option maxHeartbeats 4000000 in
theorem wX9_extreme_0 {p : Program} {l : Launch} {e : Env} {s : State} {m : MethodId} {args : Array Value} {below : List Frame} {meth : Method} {c : Code} {G : va_G} {L : List Nat} {ad : Nat → Nat} {cs : Nat → ClassId} {z : Bool} {zk zv : Nat → Nat} {r : Int32} {M' : Mm} {n : Nat} (F : Fx G L ad cs z zk zv p m meth c cX9_extreme 6 (some .int) s args RX9) (hm : isM L) (IH : PX9_extreme p l e s m args below meth c G L ad cs zk r M' n) (x1 : Int32) (x2 : Int32) (M : Mm) (h : (bX9_extreme_0 x1 x2 M).bind (fun q => match q with | .inl s' => itr stX9_extreme n s' | .inr r => some r) = some (r, M'))  : AW p l e rmX9_extreme s m args below meth c (MQ below (AQi G L ad cs r M') args s 0 0 (inA L ad)) G L ad cs 6 0 [some (.ref (ad 338)), some (.int x1), some (.int x2), none, none, none] [] M := by
  unfold bX9_extreme_0 at h
  refine ax_iconst (v := (-1 : Int32)) F dX9_extreme_0 (by decide) ?_
  refine ax_istore_n F dX9_extreme_1 (by decide) rfl ?_
  refine ax_iconst (v := (0 : Int32)) F dX9_extreme_2 (by decide) ?_
  refine ax_istore F dX9_extreme_3 (by decide) rfl ?_
  exact IH.2 _ _ _ _ _ h 
set_option maxRecDepth 100000 in
set_option maxHeartbeats 4000000 in
theorem wX9_extreme_1 {p : Program} {l : Launch} {e : Env} {s : State} {m : MethodId} {args : Array Value} {below : List Frame} {meth : Method} {c : Code} {G : va_G} {L : List Nat} {ad : Nat → Nat} {cs : Nat → ClassId} {z : Bool} {zk zv : Nat → Nat} {r : Int32} {M' : Mm} {n : Nat} (F : Fx G L ad cs z zk zv p m meth c cX9_extreme 6 (some .int) s args RX9) (hm : isM L) (IH : PX9_extreme p l e s m args below meth c G L ad cs zk r M' n) (x1 : Int32) (x2 : Int32) (x3 : Int32) (x4 : Int32) (M : Mm) (h : (bX9_extreme_1 x1 x2 x3 x4 M).bind (fun q => match q with | .inl s' => itr stX9_extreme n s' | .inr r => some r) = some (r, M'))  : AW p l e rmX9_extreme s m args below meth c (MQ below (AQi G L ad cs r M') args s 0 0 (inA L ad)) G L ad cs 6 5 [some (.ref (ad 338)), some (.int x1), some (.int x2), some (.int x3), some (.int x4), none] [] M := by
  unfold bX9_extreme_1 at h
  refine ax_iload F dX9_extreme_5 rfl ?_
  refine ax_aload_n F dX9_extreme_7 rfl ?_
  refine ax_get (v := .int (M 338 1)) F (ob_338 hm) rfl inGX9 1 (by decide) rfl kf_X9_48 rfl dX9_extreme_8 ?_
  refine ax_icmp_ge (t := 70) F dX9_extreme_11 (by decide) (fun hc => ?_) (fun hc => ?_)
  · have h := it_pos h hc
    refine ax_iload_n F dX9_extreme_70 rfl ?_
    obtain ⟨h1, h2⟩ := rt_some h
    subst h1; subst h2
    exact ax_iret F dX9_extreme_71
  · have h := it_neg h hc
    refine ax_aload_n F dX9_extreme_14 rfl ?_
    refine ax_iload_n F dX9_extreme_15 rfl ?_
    refine ax_iload F dX9_extreme_16 rfl ?_
    obtain ⟨r1, M1, hq1, h⟩ := cq_some h
    refine ax_callVi (As := [.int x1, .int x4]) (st := []) F (tX9_isDead F.2.2.2.2.2.2.1 hm _ _  _ _ _ hq1) (ob_338 hm) rfl kc_X9_isDead kz_X9 ki_X9_isDead ks_X9_isDead km_X9_176 ⟨kn_X9_isDead, rfl, rfl, Nat.le_of_ble_eq_true rfl, Nat.le_of_ble_eq_true rfl⟩ rfl (Nat.le_of_ble_eq_true rfl) dX9_extreme_18 ?_
    refine ax_if_ne (t := 64) F dX9_extreme_21 (by decide) (fun hc => ?_) (fun hc => ?_)
    · have h := it_neg h hc
      refine ax_iinc (v := (1 : Int32)) F dX9_extreme_64 rfl (by decide) (by decide) rfl ?_
      refine ax_goto (t := 5) F dX9_extreme_67 (by decide) ?_
      exact IH.2 _ _ _ _ _ h 
    · have h := it_pos h hc
      refine ax_aload_n F dX9_extreme_24 rfl ?_
      refine ax_iload_n F dX9_extreme_25 rfl ?_
      refine ax_iload F dX9_extreme_26 rfl ?_
      obtain ⟨r2, M2, hq2, h⟩ := cq_some h
      refine ax_callVi (As := [.int x1, .int x4]) (st := []) F (tX9_known F.2.2.2.2.2.2.1 hm _ _  _ _ _ hq2) (ob_338 hm) rfl kc_X9_known kz_X9 ki_X9_known ks_X9_known km_X9_191 ⟨kn_X9_known, rfl, rfl, Nat.le_of_ble_eq_true rfl, Nat.le_of_ble_eq_true rfl⟩ rfl (Nat.le_of_ble_eq_true rfl) dX9_extreme_28 ?_
      refine ax_istore F dX9_extreme_31 (by decide) rfl ?_
      refine ax_iload_n F dX9_extreme_33 rfl ?_
      refine ax_iconst (v := (-1 : Int32)) F dX9_extreme_34 (by decide) ?_
      refine ax_icmp_eq (t := 57) F dX9_extreme_35 (by decide) (fun hc => ?_) (fun hc => ?_)
      · have h := it_pos h hc
        refine ax_iload F dX9_extreme_57 rfl ?_
        refine ax_goto (t := 63) F dX9_extreme_59 (by decide) ?_
        refine ax_istore_n F dX9_extreme_63 (by decide) rfl ?_
        refine ax_iinc (v := (1 : Int32)) F dX9_extreme_64 rfl (by decide) (by decide) rfl ?_
        refine ax_goto (t := 5) F dX9_extreme_67 (by decide) ?_
        refine ax_mask [true, true, true, true, true, false] ?_
        exact IH.2 _ _ _ _ _ h 
      · have h := it_neg h hc
        refine ax_iload_n F dX9_extreme_38 rfl ?_
        refine ax_if_eq (t := 51) F dX9_extreme_39 (by decide) (fun hc => ?_) (fun hc => ?_)
        · have h := it_pos h hc
          refine ax_iload F dX9_extreme_51 rfl ?_
          refine ax_iload_n F dX9_extreme_53 rfl ?_
          refine ax_icmp_ge (t := 62) F dX9_extreme_54 (by decide) (fun hc => ?_) (fun hc => ?_)
          · have h := it_pos h hc
            refine ax_iload_n F dX9_extreme_62 rfl ?_
            refine ax_istore_n F dX9_extreme_63 (by decide) rfl ?_
            refine ax_iinc (v := (1 : Int32)) F dX9_extreme_64 rfl (by decide) (by decide) rfl ?_
            refine ax_goto (t := 5) F dX9_extreme_67 (by decide) ?_
            refine ax_mask [true, true, true, true, true, false] ?_
            exact IH.2 _ _ _ _ _ h 
          · have h := it_neg h hc
            refine ax_iload F dX9_extreme_57 rfl ?_
            refine ax_goto (t := 63) F dX9_extreme_59 (by decide) ?_
            refine ax_istore_n F dX9_extreme_63 (by decide) rfl ?_
            refine ax_iinc (v := (1 : Int32)) F dX9_extreme_64 rfl (by decide) (by decide) rfl ?_
            refine ax_goto (t := 5) F dX9_extreme_67 (by decide) ?_
            refine ax_mask [true, true, true, true, true, false] ?_
            exact IH.2 _ _ _ _ _ h 
        · have h := it_neg h hc
          refine ax_iload F dX9_extreme_42 rfl ?_
          refine ax_iload_n F dX9_extreme_44 rfl ?_
          refine ax_icmp_le (t := 62) F dX9_extreme_45 (by decide) (fun hc => ?_) (fun hc => ?_)
          · have h := it_pos h hc
            refine ax_iload_n F dX9_extreme_62 rfl ?_
            refine ax_istore_n F dX9_extreme_63 (by decide) rfl ?_
            refine ax_iinc (v := (1 : Int32)) F dX9_extreme_64 rfl (by decide) (by decide) rfl ?_
            refine ax_goto (t := 5) F dX9_extreme_67 (by decide) ?_
            refine ax_mask [true, true, true, true, true, false] ?_
            exact IH.2 _ _ _ _ _ h 
          · have h := it_neg h hc
            refine ax_goto (t := 57) F dX9_extreme_48 (by decide) ?_
            refine ax_iload F dX9_extreme_57 rfl ?_
            refine ax_goto (t := 63) F dX9_extreme_59 (by decide) ?_
            refine ax_istore_n F dX9_extreme_63 (by decide) rfl ?_
            refine ax_iinc (v := (1 : Int32)) F dX9_extreme_64 rfl (by decide) (by decide) rfl ?_
            refine ax_goto (t := 5) F dX9_extreme_67 (by decide) ?_
            refine ax_mask [true, true, true, true, true, false] ?_
            exact IH.2 _ _ _ _ _ h 
set_option maxRecDepth 100000 in
set_option maxHeartbeats 4000000 in
theorem wX9_extreme {p : Program} {l : Launch} {e : Env} {s : State} {m : MethodId} {args : Array Value} {below : List Frame} {meth : Method} {c : Code} {G : va_G} {L : List Nat} {ad : Nat → Nat} {cs : Nat → ClassId} {z : Bool} {zk zv : Nat → Nat} {r : Int32} {M' : Mm} (F : Fx G L ad cs z zk zv p m meth c cX9_extreme 6 (some .int) s args RX9) (hm : isM L) (n : Nat) : PX9_extreme p l e s m args below meth c G L ad cs zk r M' n := by
  induction n with
  | zero => exact ⟨(fun x1 x2 M h => by cases h), (fun x1 x2 x3 x4 M h => by cases h)⟩
  | succ n ih =>
    exact ⟨fun x1 x2 M h  => wX9_extreme_0 F hm ih x1 x2 M h ,
      fun x1 x2 x3 x4 M h  => wX9_extreme_1 F hm ih x1 x2 x3 x4 M h ⟩
set_option maxRecDepth 100000 in
set_option maxHeartbeats 4000000 in
theorem tX9_extreme {l : Launch} {G : va_G} {L : List Nat} {ad : Nat → Nat} {cs : Nat → ClassId} {z : Bool} {zk zv : Nat → Nat} (hinj : inj L ad) (hm : isM L) (x1 : Int32) (x2 : Int32)  (M : Mm) (r : Int32) (M' : Mm) (h : fX9_extreme x1 x2 M = some (r, M')) : Met l yX9_extreme (tgW yX9_extreme cX9_extreme 6 (some .int)) rmX9_extreme (APre G L ad cs z zk zv [.ref (ad 338), .int x1, .int x2] M) (AQi G L ad cs r M') 0 0 (inA L ad) := by
  refine met_of (Eq.refl true) (Nat.le_of_ble_eq_true rfl) hinj [some (.ref (ad 338)), some (.int x1), some (.int x2), none, none, none] rfl ?_
  intro p e s m below meth c F
  replace F : Fx G L ad cs z zk zv p m meth c cX9_extreme 6 (some .int) s _ RX9 := F
  obtain ⟨n, hn⟩ := run_ex h
  exact (wX9_extreme F hm n).1 x1 x2 M hn 
def rmX9_spread : Room := { frames := 5, cells := 0, slots := 0, locals := 122 }
theorem kn_X9_spread : yX9_spread.cls ≠ "java/lang/invoke/MethodHandle" ∧ yX9_spread.cls ≠ "java/lang/invoke/VarHandle" ∧ (parseMethodDescriptor yX9_spread.desc).map (fun d => d.parameters.length) = some 1 := by decide +kernel
noncomputable def bX9_spread_0 (x1 : Int32) (M : Mm) : Option (Sst ⊕ Rst) := cl (fX9_in (x1).toInt64 (0 : Int64) (60 : Int64) M) (fun r1 M1 => if r1 = 0 then (some (.inr ((-3 : Int32), M1))) else (cl (fX9_alive (0 : Int32) M1) (fun r2 M2 => if r2 = 0 then (some (.inr ((-4 : Int32), M2))) else (cl (fX9_copyRow (0 : Int32) (990 : Int32) M2) (fun r3 M3 => some (.inl (1, [], [x1, (0 : Int32)], M3)))))))
noncomputable def bX9_spread_1 (x1 : Int32) (x2 : Int32) (M : Mm) : Option (Sst ⊕ Rst) := if x1 ≤ x2 then (cl (fX9_extreme (990 : Int32) (1 : Int32) M) (fun r1 M1 => cl (fX9_extreme (990 : Int32) (0 : Int32) M1) (fun r2 M2 => some (.inr ((r1 - r2), M2))))) else (cl (fX9_cycles (990 : Int32) M) (fun r3 M3 => some (.inl (1, [], [x1, (x2 + (1 : Int32))], M3))))
noncomputable def stX9_spread : Sst → Option (Sst ⊕ Rst) := fun q => match q.1 with
  | 0 => bX9_spread_0 (q.2.2.1.getD 0 0) q.2.2.2
  | 1 => bX9_spread_1 (q.2.2.1.getD 0 0) (q.2.2.1.getD 1 0) q.2.2.2
  | _ => none
noncomputable def fX9_spread (x1 : Int32) (M : Mm) : Option Rst := run stX9_spread (0, [], [x1], M)
def PX9_spread (p : Program) (l : Launch) (e : Env) (s : State) (m : MethodId) (args : Array Value) (below : List Frame) (meth : Method) (c : Code) (G : va_G) (L : List Nat) (ad : Nat → Nat) (cs : Nat → ClassId) (zk : Nat → Nat) (r : Int32) (M' : Mm) (n : Nat) : Prop := (∀ (x1 : Int32) (M : Mm), itr stX9_spread n (0, [], [x1], M) = some (r, M') → AW p l e rmX9_spread s m args below meth c (MQ below (AQi G L ad cs r M') args s 0 0 (inA L ad)) G L ad cs 3 0 [some (.ref (ad 338)), some (.int x1), none] [] M) ∧ (∀ (x1 : Int32) (x2 : Int32) (M : Mm), itr stX9_spread n (1, [], [x1, x2], M) = some (r, M') → AW p l e rmX9_spread s m args below meth c (MQ below (AQi G L ad cs r M') args s 0 0 (inA L ad)) G L ad cs 3 36 [some (.ref (ad 338)), some (.int x1), some (.int x2)] [] M)
set_option maxRecDepth 100000 in
set_option maxHeartbeats 4000000 in
theorem wX9_spread_0 {p : Program} {l : Launch} {e : Env} {s : State} {m : MethodId} {args : Array Value} {below : List Frame} {meth : Method} {c : Code} {G : va_G} {L : List Nat} {ad : Nat → Nat} {cs : Nat → ClassId} {z : Bool} {zk zv : Nat → Nat} {r : Int32} {M' : Mm} {n : Nat} (F : Fx G L ad cs z zk zv p m meth c cX9_spread 3 (some .int) s args RX9) (hm : isM L) (IH : PX9_spread p l e s m args below meth c G L ad cs zk r M' n) (x1 : Int32) (M : Mm) (h : (bX9_spread_0 x1 M).bind (fun q => match q with | .inl s' => itr stX9_spread n s' | .inr r => some r) = some (r, M'))  : AW p l e rmX9_spread s m args below meth c (MQ below (AQi G L ad cs r M') args s 0 0 (inA L ad)) G L ad cs 3 0 [some (.ref (ad 338)), some (.int x1), none] [] M := by
  unfold bX9_spread_0 at h
  refine ax_iload_n F dX9_spread_0 rfl ?_
  refine ax_i2l F dX9_spread_1 ?_
  refine ax_lconst (v := (0 : Int64)) F dX9_spread_2 (by decide) ?_
  refine ax_ldc2 (v := (60 : Int64)) F kk_X9_218 dX9_spread_3 ?_
  obtain ⟨r1, M1, hq1, h⟩ := cq_some h
  refine ax_callSi (As := [.long (x1).toInt64, .long (0 : Int64), .long (60 : Int64)]) (st := []) F (tX9_in F.2.2.2.2.2.2.1 hm _ _ _  _ _ _ hq1) kc_X9_in kz_X9 kt_X9_in km_X9_66 ⟨kn_X9_in, rfl, rfl, Nat.le_of_ble_eq_true rfl, Nat.le_of_ble_eq_true rfl⟩ rfl (Nat.le_of_ble_eq_true rfl) dX9_spread_6 ?_
  refine ax_if_ne (t := 15) F dX9_spread_9 (by decide) (fun hc => ?_) (fun hc => ?_)
  · have h := it_neg h hc
    refine ax_aload_n F dX9_spread_15 rfl ?_
    refine ax_iconst (v := (0 : Int32)) F dX9_spread_16 (by decide) ?_
    obtain ⟨r2, M2, hq2, h⟩ := cq_some h
    refine ax_callVi (As := [.int (0 : Int32)]) (st := []) F (tX9_alive F.2.2.2.2.2.2.1 hm _  _ _ _ hq2) (ob_338 hm) rfl kc_X9_alive kz_X9 ki_X9_alive ks_X9_alive km_X9_212 ⟨kn_X9_alive, rfl, rfl, Nat.le_of_ble_eq_true rfl, Nat.le_of_ble_eq_true rfl⟩ rfl (Nat.le_of_ble_eq_true rfl) dX9_spread_17 ?_
    refine ax_if_ne (t := 26) F dX9_spread_20 (by decide) (fun hc => ?_) (fun hc => ?_)
    · have h := it_neg h hc
      refine ax_aload_n F dX9_spread_26 rfl ?_
      refine ax_iconst (v := (0 : Int32)) F dX9_spread_27 (by decide) ?_
      refine ax_sipush (v := (990 : Int32)) F dX9_spread_28 (by decide) ?_
      obtain ⟨r3, M3, hq3, h⟩ := cq_some h
      refine ax_callVv (As := [.int (0 : Int32), .int (990 : Int32)]) (st := []) F (tX9_copyRow F.2.2.2.2.2.2.1 hm _ _  _ _ _ hq3) (ob_338 hm) rfl kc_X9_copyRow kz_X9 ki_X9_copyRow ks_X9_copyRow km_X9_198 ⟨kn_X9_copyRow, rfl, rfl, Nat.le_of_ble_eq_true rfl, Nat.le_of_ble_eq_true rfl⟩ rfl (Nat.le_of_ble_eq_true rfl) dX9_spread_31 ?_
      refine ax_iconst (v := (0 : Int32)) F dX9_spread_34 (by decide) ?_
      refine ax_istore_n F dX9_spread_35 (by decide) rfl ?_
      exact IH.2 _ _ _ h 
    · have h := it_pos h hc
      refine ax_bipush (v := (-4 : Int32)) F dX9_spread_23 (by decide) ?_
      obtain ⟨h1, h2⟩ := rt_some h
      subst h1; subst h2
      exact ax_iret F dX9_spread_25
  · have h := it_pos h hc
    refine ax_bipush (v := (-3 : Int32)) F dX9_spread_12 (by decide) ?_
    obtain ⟨h1, h2⟩ := rt_some h
    subst h1; subst h2
    exact ax_iret F dX9_spread_14
set_option maxRecDepth 100000 in
set_option maxHeartbeats 4000000 in
theorem wX9_spread_1 {p : Program} {l : Launch} {e : Env} {s : State} {m : MethodId} {args : Array Value} {below : List Frame} {meth : Method} {c : Code} {G : va_G} {L : List Nat} {ad : Nat → Nat} {cs : Nat → ClassId} {z : Bool} {zk zv : Nat → Nat} {r : Int32} {M' : Mm} {n : Nat} (F : Fx G L ad cs z zk zv p m meth c cX9_spread 3 (some .int) s args RX9) (hm : isM L) (IH : PX9_spread p l e s m args below meth c G L ad cs zk r M' n) (x1 : Int32) (x2 : Int32) (M : Mm) (h : (bX9_spread_1 x1 x2 M).bind (fun q => match q with | .inl s' => itr stX9_spread n s' | .inr r => some r) = some (r, M'))  : AW p l e rmX9_spread s m args below meth c (MQ below (AQi G L ad cs r M') args s 0 0 (inA L ad)) G L ad cs 3 36 [some (.ref (ad 338)), some (.int x1), some (.int x2)] [] M := by
  unfold bX9_spread_1 at h
  refine ax_iload_n F dX9_spread_36 rfl ?_
  refine ax_iload_n F dX9_spread_37 rfl ?_
  refine ax_icmp_ge (t := 54) F dX9_spread_38 (by decide) (fun hc => ?_) (fun hc => ?_)
  · have h := it_pos h hc
    refine ax_aload_n F dX9_spread_54 rfl ?_
    refine ax_sipush (v := (990 : Int32)) F dX9_spread_55 (by decide) ?_
    refine ax_iconst (v := (1 : Int32)) F dX9_spread_58 (by decide) ?_
    obtain ⟨r1, M1, hq1, h⟩ := cq_some h
    refine ax_callVi (As := [.int (990 : Int32), .int (1 : Int32)]) (st := []) F (tX9_extreme F.2.2.2.2.2.2.1 hm _ _  _ _ _ hq1) (ob_338 hm) rfl kc_X9_extreme kz_X9 ki_X9_extreme ks_X9_extreme km_X9_220 ⟨kn_X9_extreme, rfl, rfl, Nat.le_of_ble_eq_true rfl, Nat.le_of_ble_eq_true rfl⟩ rfl (Nat.le_of_ble_eq_true rfl) dX9_spread_59 ?_
    refine ax_aload_n F dX9_spread_62 rfl ?_
    refine ax_sipush (v := (990 : Int32)) F dX9_spread_63 (by decide) ?_
    refine ax_iconst (v := (0 : Int32)) F dX9_spread_66 (by decide) ?_
    obtain ⟨r2, M2, hq2, h⟩ := cq_some h
    refine ax_callVi (As := [.int (990 : Int32), .int (0 : Int32)]) (st := [.int r1]) F (tX9_extreme F.2.2.2.2.2.2.1 hm _ _  _ _ _ hq2) (ob_338 hm) rfl kc_X9_extreme kz_X9 ki_X9_extreme ks_X9_extreme km_X9_220 ⟨kn_X9_extreme, rfl, rfl, Nat.le_of_ble_eq_true rfl, Nat.le_of_ble_eq_true rfl⟩ rfl (Nat.le_of_ble_eq_true rfl) dX9_spread_67 ?_
    refine ax_isub F dX9_spread_70 ?_
    obtain ⟨h1, h2⟩ := rt_some h
    subst h1; subst h2
    exact ax_iret F dX9_spread_71
  · have h := it_neg h hc
    refine ax_aload_n F dX9_spread_41 rfl ?_
    refine ax_sipush (v := (990 : Int32)) F dX9_spread_42 (by decide) ?_
    obtain ⟨r3, M3, hq3, h⟩ := cq_some h
    refine ax_callVv (As := [.int (990 : Int32)]) (st := []) F (tX9_cycles F.2.2.2.2.2.2.1 hm _  _ _ _ hq3) (ob_338 hm) rfl kc_X9_cycles kz_X9 ki_X9_cycles ks_X9_cycles km_X9_206 ⟨kn_X9_cycles, rfl, rfl, Nat.le_of_ble_eq_true rfl, Nat.le_of_ble_eq_true rfl⟩ rfl (Nat.le_of_ble_eq_true rfl) dX9_spread_45 ?_
    refine ax_iinc (v := (1 : Int32)) F dX9_spread_48 rfl (by decide) (by decide) rfl ?_
    refine ax_goto (t := 36) F dX9_spread_51 (by decide) ?_
    exact IH.2 _ _ _ h 
set_option maxRecDepth 100000 in
set_option maxHeartbeats 4000000 in
theorem wX9_spread {p : Program} {l : Launch} {e : Env} {s : State} {m : MethodId} {args : Array Value} {below : List Frame} {meth : Method} {c : Code} {G : va_G} {L : List Nat} {ad : Nat → Nat} {cs : Nat → ClassId} {z : Bool} {zk zv : Nat → Nat} {r : Int32} {M' : Mm} (F : Fx G L ad cs z zk zv p m meth c cX9_spread 3 (some .int) s args RX9) (hm : isM L) (n : Nat) : PX9_spread p l e s m args below meth c G L ad cs zk r M' n := by
  induction n with
  | zero => exact ⟨(fun x1 M h => by cases h), (fun x1 x2 M h => by cases h)⟩
  | succ n ih =>
    exact ⟨fun x1 M h  => wX9_spread_0 F hm ih x1 M h ,
      fun x1 x2 M h  => wX9_spread_1 F hm ih x1 x2 M h ⟩
set_option maxRecDepth 100000 in
set_option maxHeartbeats 4000000 in
theorem tX9_spread {l : Launch} {G : va_G} {L : List Nat} {ad : Nat → Nat} {cs : Nat → ClassId} {z : Bool} {zk zv : Nat → Nat} (hinj : inj L ad) (hm : isM L) (x1 : Int32)  (M : Mm) (r : Int32) (M' : Mm) (h : fX9_spread x1 M = some (r, M')) : Met l yX9_spread (tgW yX9_spread cX9_spread 3 (some .int)) rmX9_spread (APre G L ad cs z zk zv [.ref (ad 338), .int x1] M) (AQi G L ad cs r M') 0 0 (inA L ad) := by
  refine met_of (Eq.refl true) (Nat.le_of_ble_eq_true rfl) hinj [some (.ref (ad 338)), some (.int x1), none] rfl ?_
  intro p e s m below meth c F
  replace F : Fx G L ad cs z zk zv p m meth c cX9_spread 3 (some .int) s _ RX9 := F
  obtain ⟨n, hn⟩ := run_ex h
  exact (wX9_spread F hm n).1 x1 M hn 
