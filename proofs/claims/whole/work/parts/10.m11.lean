def rmX9_far : Room := { frames := 2, cells := 0, slots := 0, locals := 46 }
theorem kn_X9_far : yX9_far.cls ≠ "java/lang/invoke/MethodHandle" ∧ yX9_far.cls ≠ "java/lang/invoke/VarHandle" ∧ (parseMethodDescriptor yX9_far.desc).map (fun d => d.parameters.length) = some 2 := by decide +kernel
noncomputable def bX9_far_0 (x1 : Int32) (x2 : Int32) (M : Mm) : Option (Sst ⊕ Rst) := cl (fX9_isNode x1 M) (fun r1 M1 => if r1 = 0 then (some (.inr ((-2 : Int32), M1))) else (cl (fX9_isNode x2 M1) (fun r2 M2 => if r2 = 0 then (some (.inr ((-2 : Int32), M2))) else (if x1 = x2 then (some (.inr ((-2 : Int32), M2))) else (cl (fX9_isDead (0 : Int32) x1 M2) (fun r3 M3 => if r3 = 0 then (cl (fX9_isDead (0 : Int32) x2 M3) (fun r4 M4 => if r4 = 0 then (some (.inl (1, [], [x2, (ish (1 : Int32) x1), (1 : Int32)], M4))) else (some (.inr ((-4 : Int32), M4))))) else (some (.inr ((-4 : Int32), M3)))))))))
noncomputable def bX9_far_1 (x2 : Int32) (x3 : Int32) (x4 : Int32) (M : Mm) : Option (Sst ⊕ Rst) := if (M 338 1) ≤ x4 then (some (.inr ((-1 : Int32), M))) else (some (.inl (2, [], [x2, x3, x4, x3, (0 : Int32)], M)))
noncomputable def bX9_far_2 (x2 : Int32) (x3 : Int32) (x4 : Int32) (x5 : Int32) (x6 : Int32) (M : Mm) : Option (Sst ⊕ Rst) := if (M 338 1) ≤ x6 then (cl (fX9_has x5 x2 M) (fun r1 M1 => if r1 = 0 then (some (.inl (1, [], [x2, x5, (x4 + (1 : Int32))], M1))) else (some (.inr (x4, M1))))) else (cl (fX9_has x3 x6 M) (fun r2 M2 => if r2 = 0 then (some (.inl (2, [], [x2, x3, x4, (x5 ||| (0 : Int32)), (x6 + (1 : Int32))], M2))) else (cl (fX9_viewOf x6 M2) (fun r3 M3 => cl (fX9_alive (0 : Int32) M3) (fun r4 M4 => some (.inl (2, [], [x2, x3, x4, (x5 ||| (r3 &&& r4)), (x6 + (1 : Int32))], M4)))))))
noncomputable def stX9_far : Sst → Option (Sst ⊕ Rst) := fun q => match q.1 with
  | 0 => bX9_far_0 (q.2.2.1.getD 0 0) (q.2.2.1.getD 1 0) q.2.2.2
  | 1 => bX9_far_1 (q.2.2.1.getD 0 0) (q.2.2.1.getD 1 0) (q.2.2.1.getD 2 0) q.2.2.2
  | 2 => bX9_far_2 (q.2.2.1.getD 0 0) (q.2.2.1.getD 1 0) (q.2.2.1.getD 2 0) (q.2.2.1.getD 3 0) (q.2.2.1.getD 4 0) q.2.2.2
  | _ => none
noncomputable def fX9_far (x1 : Int32) (x2 : Int32) (M : Mm) : Option Rst := run stX9_far (0, [], [x1, x2], M)
def PX9_far (p : Program) (l : Launch) (e : Env) (s : State) (m : MethodId) (args : Array Value) (below : List Frame) (meth : Method) (c : Code) (G : va_G) (L : List Nat) (ad : Nat → Nat) (cs : Nat → ClassId) (zk : Nat → Nat) (r : Int32) (M' : Mm) (n : Nat) : Prop := (∀ (x1 : Int32) (x2 : Int32) (M : Mm), itr stX9_far n (0, [], [x1, x2], M) = some (r, M') → AW p l e rmX9_far s m args below meth c (MQ below (AQi G L ad cs r M') args s 0 0 (inA L ad)) G L ad cs 7 0 [some (.ref (ad 338)), some (.int x1), some (.int x2), none, none, none, none] [] M) ∧ (∀ (x2 : Int32) (x3 : Int32) (x4 : Int32) (M : Mm), itr stX9_far n (1, [], [x2, x3, x4], M) = some (r, M') → AW p l e rmX9_far s m args below meth c (MQ below (AQi G L ad cs r M') args s 0 0 (inA L ad)) G L ad cs 7 52 [some (.ref (ad 338)), none, some (.int x2), some (.int x3), some (.int x4), none, none] [] M) ∧ (∀ (x2 : Int32) (x3 : Int32) (x4 : Int32) (x5 : Int32) (x6 : Int32) (M : Mm), itr stX9_far n (2, [], [x2, x3, x4, x5, x6], M) = some (r, M') → AW p l e rmX9_far s m args below meth c (MQ below (AQi G L ad cs r M') args s 0 0 (inA L ad)) G L ad cs 7 67 [some (.ref (ad 338)), none, some (.int x2), some (.int x3), some (.int x4), some (.int x5), some (.int x6)] [] M)
set_option maxRecDepth 100000 in
set_option maxHeartbeats 4000000 in
theorem wX9_far_0 {p : Program} {l : Launch} {e : Env} {s : State} {m : MethodId} {args : Array Value} {below : List Frame} {meth : Method} {c : Code} {G : va_G} {L : List Nat} {ad : Nat → Nat} {cs : Nat → ClassId} {z : Bool} {zk zv : Nat → Nat} {r : Int32} {M' : Mm} {n : Nat} (F : Fx G L ad cs z zk zv p m meth c cX9_far 7 (some .int) s args RX9) (hm : isM L) (IH : PX9_far p l e s m args below meth c G L ad cs zk r M' n) (x1 : Int32) (x2 : Int32) (M : Mm) (h : (bX9_far_0 x1 x2 M).bind (fun q => match q with | .inl s' => itr stX9_far n s' | .inr r => some r) = some (r, M'))  : AW p l e rmX9_far s m args below meth c (MQ below (AQi G L ad cs r M') args s 0 0 (inA L ad)) G L ad cs 7 0 [some (.ref (ad 338)), some (.int x1), some (.int x2), none, none, none, none] [] M := by
  unfold bX9_far_0 at h
  refine ax_aload_n F dX9_far_0 rfl ?_
  refine ax_iload_n F dX9_far_1 rfl ?_
  obtain ⟨r1, M1, hq1, h⟩ := cq_some h
  refine ax_callVi (As := [.int x1]) (st := []) F (tX9_isNode F.2.2.2.2.2.2.1 hm _  _ _ _ hq1) (ob_338 hm) rfl kc_X9_isNode kz_X9 ki_X9_isNode ks_X9_isNode km_X9_188 ⟨kn_X9_isNode, rfl, rfl, Nat.le_of_ble_eq_true rfl, Nat.le_of_ble_eq_true rfl⟩ rfl (Nat.le_of_ble_eq_true rfl) dX9_far_2 ?_
  refine ax_if_eq (t := 21) F dX9_far_5 (by decide) (fun hc => ?_) (fun hc => ?_)
  · have h := it_pos h hc
    refine ax_bipush (v := (-2 : Int32)) F dX9_far_21 (by decide) ?_
    obtain ⟨h1, h2⟩ := rt_some h
    subst h1; subst h2
    exact ax_iret F dX9_far_23
  · have h := it_neg h hc
    refine ax_aload_n F dX9_far_8 rfl ?_
    refine ax_iload_n F dX9_far_9 rfl ?_
    obtain ⟨r2, M2, hq2, h⟩ := cq_some h
    refine ax_callVi (As := [.int x2]) (st := []) F (tX9_isNode F.2.2.2.2.2.2.1 hm _  _ _ _ hq2) (ob_338 hm) rfl kc_X9_isNode kz_X9 ki_X9_isNode ks_X9_isNode km_X9_188 ⟨kn_X9_isNode, rfl, rfl, Nat.le_of_ble_eq_true rfl, Nat.le_of_ble_eq_true rfl⟩ rfl (Nat.le_of_ble_eq_true rfl) dX9_far_10 ?_
    refine ax_if_eq (t := 21) F dX9_far_13 (by decide) (fun hc => ?_) (fun hc => ?_)
    · have h := it_pos h hc
      refine ax_bipush (v := (-2 : Int32)) F dX9_far_21 (by decide) ?_
      obtain ⟨h1, h2⟩ := rt_some h
      subst h1; subst h2
      exact ax_iret F dX9_far_23
    · have h := it_neg h hc
      refine ax_iload_n F dX9_far_16 rfl ?_
      refine ax_iload_n F dX9_far_17 rfl ?_
      refine ax_icmp_ne (t := 24) F dX9_far_18 (by decide) (fun hc => ?_) (fun hc => ?_)
      · have h := it_neg h hc
        refine ax_aload_n F dX9_far_24 rfl ?_
        refine ax_iconst (v := (0 : Int32)) F dX9_far_25 (by decide) ?_
        refine ax_iload_n F dX9_far_26 rfl ?_
        obtain ⟨r3, M3, hq3, h⟩ := cq_some h
        refine ax_callVi (As := [.int (0 : Int32), .int x1]) (st := []) F (tX9_isDead F.2.2.2.2.2.2.1 hm _ _  _ _ _ hq3) (ob_338 hm) rfl kc_X9_isDead kz_X9 ki_X9_isDead ks_X9_isDead km_X9_176 ⟨kn_X9_isDead, rfl, rfl, Nat.le_of_ble_eq_true rfl, Nat.le_of_ble_eq_true rfl⟩ rfl (Nat.le_of_ble_eq_true rfl) dX9_far_27 ?_
        refine ax_if_ne (t := 42) F dX9_far_30 (by decide) (fun hc => ?_) (fun hc => ?_)
        · have h := it_neg h hc
          refine ax_bipush (v := (-4 : Int32)) F dX9_far_42 (by decide) ?_
          obtain ⟨h1, h2⟩ := rt_some h
          subst h1; subst h2
          exact ax_iret F dX9_far_44
        · have h := it_pos h hc
          refine ax_aload_n F dX9_far_33 rfl ?_
          refine ax_iconst (v := (0 : Int32)) F dX9_far_34 (by decide) ?_
          refine ax_iload_n F dX9_far_35 rfl ?_
          obtain ⟨r4, M4, hq4, h⟩ := cq_some h
          refine ax_callVi (As := [.int (0 : Int32), .int x2]) (st := []) F (tX9_isDead F.2.2.2.2.2.2.1 hm _ _  _ _ _ hq4) (ob_338 hm) rfl kc_X9_isDead kz_X9 ki_X9_isDead ks_X9_isDead km_X9_176 ⟨kn_X9_isDead, rfl, rfl, Nat.le_of_ble_eq_true rfl, Nat.le_of_ble_eq_true rfl⟩ rfl (Nat.le_of_ble_eq_true rfl) dX9_far_36 ?_
          refine ax_if_eq (t := 45) F dX9_far_39 (by decide) (fun hc => ?_) (fun hc => ?_)
          · have h := it_pos h hc
            refine ax_iconst (v := (1 : Int32)) F dX9_far_45 (by decide) ?_
            refine ax_iload_n F dX9_far_46 rfl ?_
            refine ax_ishl F dX9_far_47 ?_
            refine ax_istore_n F dX9_far_48 (by decide) rfl ?_
            refine ax_iconst (v := (1 : Int32)) F dX9_far_49 (by decide) ?_
            refine ax_istore F dX9_far_50 (by decide) rfl ?_
            refine ax_mask [true, false, true, true, true, false, false] ?_
            exact IH.2.1 _ _ _ _ h 
          · have h := it_neg h hc
            refine ax_bipush (v := (-4 : Int32)) F dX9_far_42 (by decide) ?_
            obtain ⟨h1, h2⟩ := rt_some h
            subst h1; subst h2
            exact ax_iret F dX9_far_44
      · have h := it_pos h hc
        refine ax_bipush (v := (-2 : Int32)) F dX9_far_21 (by decide) ?_
        obtain ⟨h1, h2⟩ := rt_some h
        subst h1; subst h2
        exact ax_iret F dX9_far_23
set_option maxRecDepth 100000 in
set_option maxHeartbeats 4000000 in
theorem wX9_far_1 {p : Program} {l : Launch} {e : Env} {s : State} {m : MethodId} {args : Array Value} {below : List Frame} {meth : Method} {c : Code} {G : va_G} {L : List Nat} {ad : Nat → Nat} {cs : Nat → ClassId} {z : Bool} {zk zv : Nat → Nat} {r : Int32} {M' : Mm} {n : Nat} (F : Fx G L ad cs z zk zv p m meth c cX9_far 7 (some .int) s args RX9) (hm : isM L) (IH : PX9_far p l e s m args below meth c G L ad cs zk r M' n) (x2 : Int32) (x3 : Int32) (x4 : Int32) (M : Mm) (h : (bX9_far_1 x2 x3 x4 M).bind (fun q => match q with | .inl s' => itr stX9_far n s' | .inr r => some r) = some (r, M'))  : AW p l e rmX9_far s m args below meth c (MQ below (AQi G L ad cs r M') args s 0 0 (inA L ad)) G L ad cs 7 52 [some (.ref (ad 338)), none, some (.int x2), some (.int x3), some (.int x4), none, none] [] M := by
  unfold bX9_far_1 at h
  refine ax_iload F dX9_far_52 rfl ?_
  refine ax_aload_n F dX9_far_54 rfl ?_
  refine ax_get (v := .int (M 338 1)) F (ob_338 hm) rfl inGX9 1 (by decide) rfl kf_X9_48 rfl dX9_far_55 ?_
  refine ax_icmp_ge (t := 132) F dX9_far_58 (by decide) (fun hc => ?_) (fun hc => ?_)
  · have h := it_pos h hc
    refine ax_iconst (v := (-1 : Int32)) F dX9_far_132 (by decide) ?_
    obtain ⟨h1, h2⟩ := rt_some h
    subst h1; subst h2
    exact ax_iret F dX9_far_133
  · have h := it_neg h hc
    refine ax_iload_n F dX9_far_61 rfl ?_
    refine ax_istore F dX9_far_62 (by decide) rfl ?_
    refine ax_iconst (v := (0 : Int32)) F dX9_far_64 (by decide) ?_
    refine ax_istore F dX9_far_65 (by decide) rfl ?_
    exact IH.2.2 _ _ _ _ _ _ h 
set_option maxRecDepth 100000 in
set_option maxHeartbeats 4000000 in
theorem wX9_far_2 {p : Program} {l : Launch} {e : Env} {s : State} {m : MethodId} {args : Array Value} {below : List Frame} {meth : Method} {c : Code} {G : va_G} {L : List Nat} {ad : Nat → Nat} {cs : Nat → ClassId} {z : Bool} {zk zv : Nat → Nat} {r : Int32} {M' : Mm} {n : Nat} (F : Fx G L ad cs z zk zv p m meth c cX9_far 7 (some .int) s args RX9) (hm : isM L) (IH : PX9_far p l e s m args below meth c G L ad cs zk r M' n) (x2 : Int32) (x3 : Int32) (x4 : Int32) (x5 : Int32) (x6 : Int32) (M : Mm) (h : (bX9_far_2 x2 x3 x4 x5 x6 M).bind (fun q => match q with | .inl s' => itr stX9_far n s' | .inr r => some r) = some (r, M'))  : AW p l e rmX9_far s m args below meth c (MQ below (AQi G L ad cs r M') args s 0 0 (inA L ad)) G L ad cs 7 67 [some (.ref (ad 338)), none, some (.int x2), some (.int x3), some (.int x4), some (.int x5), some (.int x6)] [] M := by
  unfold bX9_far_2 at h
  refine ax_iload F dX9_far_67 rfl ?_
  refine ax_aload_n F dX9_far_69 rfl ?_
  refine ax_get (v := .int (M 338 1)) F (ob_338 hm) rfl inGX9 1 (by decide) rfl kf_X9_48 rfl dX9_far_70 ?_
  refine ax_icmp_ge (t := 112) F dX9_far_73 (by decide) (fun hc => ?_) (fun hc => ?_)
  · have h := it_pos h hc
    refine ax_iload F dX9_far_112 rfl ?_
    refine ax_istore_n F dX9_far_114 (by decide) rfl ?_
    refine ax_iload_n F dX9_far_115 rfl ?_
    refine ax_iload_n F dX9_far_116 rfl ?_
    obtain ⟨r1, M1, hq1, h⟩ := cq_some h
    refine ax_callSi (As := [.int x5, .int x2]) (st := []) F (tX9_has F.2.2.2.2.2.2.1 hm _ _  _ _ _ hq1) kc_X9_has kz_X9 kt_X9_has km_X9_152 ⟨kn_X9_has, rfl, rfl, Nat.le_of_ble_eq_true rfl, Nat.le_of_ble_eq_true rfl⟩ rfl (Nat.le_of_ble_eq_true rfl) dX9_far_117 ?_
    refine ax_if_eq (t := 126) F dX9_far_120 (by decide) (fun hc => ?_) (fun hc => ?_)
    · have h := it_pos h hc
      refine ax_iinc (v := (1 : Int32)) F dX9_far_126 rfl (by decide) (by decide) rfl ?_
      refine ax_goto (t := 52) F dX9_far_129 (by decide) ?_
      refine ax_mask [true, false, true, true, true, false, false] ?_
      exact IH.2.1 _ _ _ _ h 
    · have h := it_neg h hc
      refine ax_iload F dX9_far_123 rfl ?_
      obtain ⟨h1, h2⟩ := rt_some h
      subst h1; subst h2
      exact ax_iret F dX9_far_125
  · have h := it_neg h hc
    refine ax_iload F dX9_far_76 rfl ?_
    refine ax_iload_n F dX9_far_78 rfl ?_
    refine ax_iload F dX9_far_79 rfl ?_
    obtain ⟨r2, M2, hq2, h⟩ := cq_some h
    refine ax_callSi (As := [.int x3, .int x6]) (st := [.int x5]) F (tX9_has F.2.2.2.2.2.2.1 hm _ _  _ _ _ hq2) kc_X9_has kz_X9 kt_X9_has km_X9_152 ⟨kn_X9_has, rfl, rfl, Nat.le_of_ble_eq_true rfl, Nat.le_of_ble_eq_true rfl⟩ rfl (Nat.le_of_ble_eq_true rfl) dX9_far_81 ?_
    refine ax_if_eq (t := 102) F dX9_far_84 (by decide) (fun hc => ?_) (fun hc => ?_)
    · have h := it_pos h hc
      refine ax_iconst (v := (0 : Int32)) F dX9_far_102 (by decide) ?_
      refine ax_ior F dX9_far_103 ?_
      refine ax_istore F dX9_far_104 (by decide) rfl ?_
      refine ax_iinc (v := (1 : Int32)) F dX9_far_106 rfl (by decide) (by decide) rfl ?_
      refine ax_goto (t := 67) F dX9_far_109 (by decide) ?_
      exact IH.2.2 _ _ _ _ _ _ h 
    · have h := it_neg h hc
      refine ax_aload_n F dX9_far_87 rfl ?_
      refine ax_iload F dX9_far_88 rfl ?_
      obtain ⟨r3, M3, hq3, h⟩ := cq_some h
      refine ax_callVi (As := [.int x6]) (st := [.int x5]) F (tX9_viewOf F.2.2.2.2.2.2.1 hm _  _ _ _ hq3) (ob_338 hm) rfl kc_X9_viewOf kz_X9 ki_X9_viewOf ks_X9_viewOf km_X9_194 ⟨kn_X9_viewOf, rfl, rfl, Nat.le_of_ble_eq_true rfl, Nat.le_of_ble_eq_true rfl⟩ rfl (Nat.le_of_ble_eq_true rfl) dX9_far_90 ?_
      refine ax_aload_n F dX9_far_93 rfl ?_
      refine ax_iconst (v := (0 : Int32)) F dX9_far_94 (by decide) ?_
      obtain ⟨r4, M4, hq4, h⟩ := cq_some h
      refine ax_callVi (As := [.int (0 : Int32)]) (st := [.int r3, .int x5]) F (tX9_alive F.2.2.2.2.2.2.1 hm _  _ _ _ hq4) (ob_338 hm) rfl kc_X9_alive kz_X9 ki_X9_alive ks_X9_alive km_X9_212 ⟨kn_X9_alive, rfl, rfl, Nat.le_of_ble_eq_true rfl, Nat.le_of_ble_eq_true rfl⟩ rfl (Nat.le_of_ble_eq_true rfl) dX9_far_95 ?_
      refine ax_iand F dX9_far_98 ?_
      refine ax_goto (t := 103) F dX9_far_99 (by decide) ?_
      refine ax_ior F dX9_far_103 ?_
      refine ax_istore F dX9_far_104 (by decide) rfl ?_
      refine ax_iinc (v := (1 : Int32)) F dX9_far_106 rfl (by decide) (by decide) rfl ?_
      refine ax_goto (t := 67) F dX9_far_109 (by decide) ?_
      exact IH.2.2 _ _ _ _ _ _ h 
set_option maxRecDepth 100000 in
set_option maxHeartbeats 4000000 in
theorem wX9_far {p : Program} {l : Launch} {e : Env} {s : State} {m : MethodId} {args : Array Value} {below : List Frame} {meth : Method} {c : Code} {G : va_G} {L : List Nat} {ad : Nat → Nat} {cs : Nat → ClassId} {z : Bool} {zk zv : Nat → Nat} {r : Int32} {M' : Mm} (F : Fx G L ad cs z zk zv p m meth c cX9_far 7 (some .int) s args RX9) (hm : isM L) (n : Nat) : PX9_far p l e s m args below meth c G L ad cs zk r M' n := by
  induction n with
  | zero => exact ⟨(fun x1 x2 M h => by cases h), (fun x2 x3 x4 M h => by cases h), (fun x2 x3 x4 x5 x6 M h => by cases h)⟩
  | succ n ih =>
    exact ⟨fun x1 x2 M h  => wX9_far_0 F hm ih x1 x2 M h ,
      fun x2 x3 x4 M h  => wX9_far_1 F hm ih x2 x3 x4 M h ,
      fun x2 x3 x4 x5 x6 M h  => wX9_far_2 F hm ih x2 x3 x4 x5 x6 M h ⟩
set_option maxRecDepth 100000 in
set_option maxHeartbeats 4000000 in
theorem tX9_far {l : Launch} {G : va_G} {L : List Nat} {ad : Nat → Nat} {cs : Nat → ClassId} {z : Bool} {zk zv : Nat → Nat} (hinj : inj L ad) (hm : isM L) (x1 : Int32) (x2 : Int32)  (M : Mm) (r : Int32) (M' : Mm) (h : fX9_far x1 x2 M = some (r, M')) : Met l yX9_far (tgW yX9_far cX9_far 7 (some .int)) rmX9_far (APre G L ad cs z zk zv [.ref (ad 338), .int x1, .int x2] M) (AQi G L ad cs r M') 0 0 (inA L ad) := by
  refine met_of (Eq.refl true) (Nat.le_of_ble_eq_true rfl) hinj [some (.ref (ad 338)), some (.int x1), some (.int x2), none, none, none, none] rfl ?_
  intro p e s m below meth c F
  replace F : Fx G L ad cs z zk zv p m meth c cX9_far 7 (some .int) s _ RX9 := F
  obtain ⟨n, hn⟩ := run_ex h
  exact (wX9_far F hm n).1 x1 x2 M hn 
def rmX9_parts : Room := { frames := 1, cells := 0, slots := 0, locals := 23 }
theorem kn_X9_parts : yX9_parts.cls ≠ "java/lang/invoke/MethodHandle" ∧ yX9_parts.cls ≠ "java/lang/invoke/VarHandle" ∧ (parseMethodDescriptor yX9_parts.desc).map (fun d => d.parameters.length) = some 0 := by decide +kernel
noncomputable def bX9_parts_0  (M : Mm) : Option (Sst ⊕ Rst) := cl (fX9_alive (0 : Int32) M) (fun r1 M1 => some (.inl (1, [], [r1, (0 : Int32)], M1)))
noncomputable def bX9_parts_1 (x1 : Int32) (x2 : Int32) (M : Mm) : Option (Sst ⊕ Rst) := if x1 = 0 then (some (.inr (x2, M))) else (some (.inl (2, [], [x1, x2, (x1 &&& (-x1)), (0 : Int32)], M)))
noncomputable def bX9_parts_2 (x1 : Int32) (x2 : Int32) (x3 : Int32) (x4 : Int32) (M : Mm) : Option (Sst ⊕ Rst) := if (M 338 1) ≤ x4 then (some (.inl (1, [], [(x1 &&& (x3 ^^^ (-1 : Int32))), (x2 + (1 : Int32))], M))) else (some (.inl (3, [], [x1, x2, x3, x4, (0 : Int32)], M)))
noncomputable def bX9_parts_3 (x1 : Int32) (x2 : Int32) (x3 : Int32) (x4 : Int32) (x5 : Int32) (M : Mm) : Option (Sst ⊕ Rst) := if (M 338 1) ≤ x5 then (some (.inl (2, [], [x1, x2, x3, (x4 + (1 : Int32))], M))) else (cl (fX9_viewOf x5 M) (fun r1 M1 => cl (fX9_alive (0 : Int32) M1) (fun r2 M2 => cl (fX9_has x3 x5 M2) (fun r3 M3 => if r3 = 0 then (some (.inl (4, [], [x1, x2, x4, x5, (r1 &&& r2), (0 : Int32), x3], M3))) else (some (.inl (4, [], [x1, x2, x4, x5, (r1 &&& r2), (r1 &&& r2), x3], M3)))))))
noncomputable def bX9_parts_4 (x1 : Int32) (x2 : Int32) (x4 : Int32) (x5 : Int32) (x6 : Int32) (s0 : Int32) (s1 : Int32) (M : Mm) : Option (Sst ⊕ Rst) := cl (fX9_alive (0 : Int32) M) (fun r1 M1 => cl (fX9_has r1 x5 M1) (fun r2 M2 => if r2 = 0 then (some (.inl (3, [], [x1, x2, ((s1 ||| s0) ||| (0 : Int32)), x4, (x5 + (1 : Int32))], M2))) else (if (x6 &&& (s1 ||| s0)) = 0 then (some (.inl (3, [], [x1, x2, ((s1 ||| s0) ||| (0 : Int32)), x4, (x5 + (1 : Int32))], M2))) else (some (.inl (3, [], [x1, x2, ((s1 ||| s0) ||| (ish (1 : Int32) x5)), x4, (x5 + (1 : Int32))], M2))))))
noncomputable def stX9_parts : Sst → Option (Sst ⊕ Rst) := fun q => match q.1 with
  | 0 => bX9_parts_0  q.2.2.2
  | 1 => bX9_parts_1 (q.2.2.1.getD 0 0) (q.2.2.1.getD 1 0) q.2.2.2
  | 2 => bX9_parts_2 (q.2.2.1.getD 0 0) (q.2.2.1.getD 1 0) (q.2.2.1.getD 2 0) (q.2.2.1.getD 3 0) q.2.2.2
  | 3 => bX9_parts_3 (q.2.2.1.getD 0 0) (q.2.2.1.getD 1 0) (q.2.2.1.getD 2 0) (q.2.2.1.getD 3 0) (q.2.2.1.getD 4 0) q.2.2.2
  | 4 => bX9_parts_4 (q.2.2.1.getD 0 0) (q.2.2.1.getD 1 0) (q.2.2.1.getD 2 0) (q.2.2.1.getD 3 0) (q.2.2.1.getD 4 0) (q.2.2.1.getD 5 0) (q.2.2.1.getD 6 0) q.2.2.2
  | _ => none
noncomputable def fX9_parts  (M : Mm) : Option Rst := run stX9_parts (0, [], [], M)
def PX9_parts (p : Program) (l : Launch) (e : Env) (s : State) (m : MethodId) (args : Array Value) (below : List Frame) (meth : Method) (c : Code) (G : va_G) (L : List Nat) (ad : Nat → Nat) (cs : Nat → ClassId) (zk : Nat → Nat) (r : Int32) (M' : Mm) (n : Nat) : Prop := (∀  (M : Mm), itr stX9_parts n (0, [], [], M) = some (r, M') → AW p l e rmX9_parts s m args below meth c (MQ below (AQi G L ad cs r M') args s 0 0 (inA L ad)) G L ad cs 8 0 [some (.ref (ad 338)), none, none, none, none, none, none, none] [] M) ∧ (∀ (x1 : Int32) (x2 : Int32) (M : Mm), itr stX9_parts n (1, [], [x1, x2], M) = some (r, M') → AW p l e rmX9_parts s m args below meth c (MQ below (AQi G L ad cs r M') args s 0 0 (inA L ad)) G L ad cs 8 8 [some (.ref (ad 338)), some (.int x1), some (.int x2), none, none, none, none, none] [] M) ∧ (∀ (x1 : Int32) (x2 : Int32) (x3 : Int32) (x4 : Int32) (M : Mm), itr stX9_parts n (2, [], [x1, x2, x3, x4], M) = some (r, M') → AW p l e rmX9_parts s m args below meth c (MQ below (AQi G L ad cs r M') args s 0 0 (inA L ad)) G L ad cs 8 20 [some (.ref (ad 338)), some (.int x1), some (.int x2), some (.int x3), some (.int x4), none, none, none] [] M) ∧ (∀ (x1 : Int32) (x2 : Int32) (x3 : Int32) (x4 : Int32) (x5 : Int32) (M : Mm), itr stX9_parts n (3, [], [x1, x2, x3, x4, x5], M) = some (r, M') → AW p l e rmX9_parts s m args below meth c (MQ below (AQi G L ad cs r M') args s 0 0 (inA L ad)) G L ad cs 8 32 [some (.ref (ad 338)), some (.int x1), some (.int x2), some (.int x3), some (.int x4), some (.int x5), none, none] [] M) ∧ (∀ (x1 : Int32) (x2 : Int32) (x4 : Int32) (x5 : Int32) (x6 : Int32) (s0 : Int32) (s1 : Int32) (M : Mm), itr stX9_parts n (4, [], [x1, x2, x4, x5, x6, s0, s1], M) = some (r, M') → AW p l e rmX9_parts s m args below meth c (MQ below (AQi G L ad cs r M') args s 0 0 (inA L ad)) G L ad cs 8 75 [some (.ref (ad 338)), some (.int x1), some (.int x2), none, some (.int x4), some (.int x5), some (.int x6), none] [.int s0, .int s1] M)
set_option maxRecDepth 100000 in
set_option maxHeartbeats 4000000 in
theorem wX9_parts_0 {p : Program} {l : Launch} {e : Env} {s : State} {m : MethodId} {args : Array Value} {below : List Frame} {meth : Method} {c : Code} {G : va_G} {L : List Nat} {ad : Nat → Nat} {cs : Nat → ClassId} {z : Bool} {zk zv : Nat → Nat} {r : Int32} {M' : Mm} {n : Nat} (F : Fx G L ad cs z zk zv p m meth c cX9_parts 8 (some .int) s args RX9) (hm : isM L) (IH : PX9_parts p l e s m args below meth c G L ad cs zk r M' n)  (M : Mm) (h : (bX9_parts_0  M).bind (fun q => match q with | .inl s' => itr stX9_parts n s' | .inr r => some r) = some (r, M'))  : AW p l e rmX9_parts s m args below meth c (MQ below (AQi G L ad cs r M') args s 0 0 (inA L ad)) G L ad cs 8 0 [some (.ref (ad 338)), none, none, none, none, none, none, none] [] M := by
  unfold bX9_parts_0 at h
  refine ax_aload_n F dX9_parts_0 rfl ?_
  refine ax_iconst (v := (0 : Int32)) F dX9_parts_1 (by decide) ?_
  obtain ⟨r1, M1, hq1, h⟩ := cq_some h
  refine ax_callVi (As := [.int (0 : Int32)]) (st := []) F (tX9_alive F.2.2.2.2.2.2.1 hm _  _ _ _ hq1) (ob_338 hm) rfl kc_X9_alive kz_X9 ki_X9_alive ks_X9_alive km_X9_212 ⟨kn_X9_alive, rfl, rfl, Nat.le_of_ble_eq_true rfl, Nat.le_of_ble_eq_true rfl⟩ rfl (Nat.le_of_ble_eq_true rfl) dX9_parts_2 ?_
  refine ax_istore_n F dX9_parts_5 (by decide) rfl ?_
  refine ax_iconst (v := (0 : Int32)) F dX9_parts_6 (by decide) ?_
  refine ax_istore_n F dX9_parts_7 (by decide) rfl ?_
  exact IH.2.1 _ _ _ h 
set_option maxRecDepth 100000 in
set_option maxHeartbeats 4000000 in
theorem wX9_parts_1 {p : Program} {l : Launch} {e : Env} {s : State} {m : MethodId} {args : Array Value} {below : List Frame} {meth : Method} {c : Code} {G : va_G} {L : List Nat} {ad : Nat → Nat} {cs : Nat → ClassId} {z : Bool} {zk zv : Nat → Nat} {r : Int32} {M' : Mm} {n : Nat} (F : Fx G L ad cs z zk zv p m meth c cX9_parts 8 (some .int) s args RX9) (hm : isM L) (IH : PX9_parts p l e s m args below meth c G L ad cs zk r M' n) (x1 : Int32) (x2 : Int32) (M : Mm) (h : (bX9_parts_1 x1 x2 M).bind (fun q => match q with | .inl s' => itr stX9_parts n s' | .inr r => some r) = some (r, M'))  : AW p l e rmX9_parts s m args below meth c (MQ below (AQi G L ad cs r M') args s 0 0 (inA L ad)) G L ad cs 8 8 [some (.ref (ad 338)), some (.int x1), some (.int x2), none, none, none, none, none] [] M := by
  unfold bX9_parts_1 at h
  refine ax_iload_n F dX9_parts_8 rfl ?_
  refine ax_if_eq (t := 132) F dX9_parts_9 (by decide) (fun hc => ?_) (fun hc => ?_)
  · have h := it_pos h hc
    refine ax_iload_n F dX9_parts_132 rfl ?_
    obtain ⟨h1, h2⟩ := rt_some h
    subst h1; subst h2
    exact ax_iret F dX9_parts_133
  · have h := it_neg h hc
    refine ax_iload_n F dX9_parts_12 rfl ?_
    refine ax_iload_n F dX9_parts_13 rfl ?_
    refine ax_ineg F dX9_parts_14 ?_
    refine ax_iand F dX9_parts_15 ?_
    refine ax_istore_n F dX9_parts_16 (by decide) rfl ?_
    refine ax_iconst (v := (0 : Int32)) F dX9_parts_17 (by decide) ?_
    refine ax_istore F dX9_parts_18 (by decide) rfl ?_
    exact IH.2.2.1 _ _ _ _ _ h 
set_option maxRecDepth 100000 in
set_option maxHeartbeats 4000000 in
theorem wX9_parts_2 {p : Program} {l : Launch} {e : Env} {s : State} {m : MethodId} {args : Array Value} {below : List Frame} {meth : Method} {c : Code} {G : va_G} {L : List Nat} {ad : Nat → Nat} {cs : Nat → ClassId} {z : Bool} {zk zv : Nat → Nat} {r : Int32} {M' : Mm} {n : Nat} (F : Fx G L ad cs z zk zv p m meth c cX9_parts 8 (some .int) s args RX9) (hm : isM L) (IH : PX9_parts p l e s m args below meth c G L ad cs zk r M' n) (x1 : Int32) (x2 : Int32) (x3 : Int32) (x4 : Int32) (M : Mm) (h : (bX9_parts_2 x1 x2 x3 x4 M).bind (fun q => match q with | .inl s' => itr stX9_parts n s' | .inr r => some r) = some (r, M'))  : AW p l e rmX9_parts s m args below meth c (MQ below (AQi G L ad cs r M') args s 0 0 (inA L ad)) G L ad cs 8 20 [some (.ref (ad 338)), some (.int x1), some (.int x2), some (.int x3), some (.int x4), none, none, none] [] M := by
  unfold bX9_parts_2 at h
  refine ax_iload F dX9_parts_20 rfl ?_
  refine ax_aload_n F dX9_parts_22 rfl ?_
  refine ax_get (v := .int (M 338 1)) F (ob_338 hm) rfl inGX9 1 (by decide) rfl kf_X9_48 rfl dX9_parts_23 ?_
  refine ax_icmp_ge (t := 120) F dX9_parts_26 (by decide) (fun hc => ?_) (fun hc => ?_)
  · have h := it_pos h hc
    refine ax_iload_n F dX9_parts_120 rfl ?_
    refine ax_iload_n F dX9_parts_121 rfl ?_
    refine ax_iconst (v := (-1 : Int32)) F dX9_parts_122 (by decide) ?_
    refine ax_ixor F dX9_parts_123 ?_
    refine ax_iand F dX9_parts_124 ?_
    refine ax_istore_n F dX9_parts_125 (by decide) rfl ?_
    refine ax_iinc (v := (1 : Int32)) F dX9_parts_126 rfl (by decide) (by decide) rfl ?_
    refine ax_goto (t := 8) F dX9_parts_129 (by decide) ?_
    refine ax_mask [true, true, true, false, false, false, false, false] ?_
    exact IH.2.1 _ _ _ h 
  · have h := it_neg h hc
    refine ax_iconst (v := (0 : Int32)) F dX9_parts_29 (by decide) ?_
    refine ax_istore F dX9_parts_30 (by decide) rfl ?_
    exact IH.2.2.2.1 _ _ _ _ _ _ h 
set_option maxRecDepth 100000 in
set_option maxHeartbeats 4000000 in
theorem wX9_parts_3 {p : Program} {l : Launch} {e : Env} {s : State} {m : MethodId} {args : Array Value} {below : List Frame} {meth : Method} {c : Code} {G : va_G} {L : List Nat} {ad : Nat → Nat} {cs : Nat → ClassId} {z : Bool} {zk zv : Nat → Nat} {r : Int32} {M' : Mm} {n : Nat} (F : Fx G L ad cs z zk zv p m meth c cX9_parts 8 (some .int) s args RX9) (hm : isM L) (IH : PX9_parts p l e s m args below meth c G L ad cs zk r M' n) (x1 : Int32) (x2 : Int32) (x3 : Int32) (x4 : Int32) (x5 : Int32) (M : Mm) (h : (bX9_parts_3 x1 x2 x3 x4 x5 M).bind (fun q => match q with | .inl s' => itr stX9_parts n s' | .inr r => some r) = some (r, M'))  : AW p l e rmX9_parts s m args below meth c (MQ below (AQi G L ad cs r M') args s 0 0 (inA L ad)) G L ad cs 8 32 [some (.ref (ad 338)), some (.int x1), some (.int x2), some (.int x3), some (.int x4), some (.int x5), none, none] [] M := by
  unfold bX9_parts_3 at h
  refine ax_iload F dX9_parts_32 rfl ?_
  refine ax_aload_n F dX9_parts_34 rfl ?_
  refine ax_get (v := .int (M 338 1)) F (ob_338 hm) rfl inGX9 1 (by decide) rfl kf_X9_48 rfl dX9_parts_35 ?_
  refine ax_icmp_ge (t := 114) F dX9_parts_38 (by decide) (fun hc => ?_) (fun hc => ?_)
  · have h := it_pos h hc
    refine ax_iinc (v := (1 : Int32)) F dX9_parts_114 rfl (by decide) (by decide) rfl ?_
    refine ax_goto (t := 20) F dX9_parts_117 (by decide) ?_
    refine ax_mask [true, true, true, true, true, false, false, false] ?_
    exact IH.2.2.1 _ _ _ _ _ h 
  · have h := it_neg h hc
    refine ax_aload_n F dX9_parts_41 rfl ?_
    refine ax_iload F dX9_parts_42 rfl ?_
    obtain ⟨r1, M1, hq1, h⟩ := cq_some h
    refine ax_callVi (As := [.int x5]) (st := []) F (tX9_viewOf F.2.2.2.2.2.2.1 hm _  _ _ _ hq1) (ob_338 hm) rfl kc_X9_viewOf kz_X9 ki_X9_viewOf ks_X9_viewOf km_X9_194 ⟨kn_X9_viewOf, rfl, rfl, Nat.le_of_ble_eq_true rfl, Nat.le_of_ble_eq_true rfl⟩ rfl (Nat.le_of_ble_eq_true rfl) dX9_parts_44 ?_
    refine ax_aload_n F dX9_parts_47 rfl ?_
    refine ax_iconst (v := (0 : Int32)) F dX9_parts_48 (by decide) ?_
    obtain ⟨r2, M2, hq2, h⟩ := cq_some h
    refine ax_callVi (As := [.int (0 : Int32)]) (st := [.int r1]) F (tX9_alive F.2.2.2.2.2.2.1 hm _  _ _ _ hq2) (ob_338 hm) rfl kc_X9_alive kz_X9 ki_X9_alive ks_X9_alive km_X9_212 ⟨kn_X9_alive, rfl, rfl, Nat.le_of_ble_eq_true rfl, Nat.le_of_ble_eq_true rfl⟩ rfl (Nat.le_of_ble_eq_true rfl) dX9_parts_49 ?_
    refine ax_iand F dX9_parts_52 ?_
    refine ax_istore F dX9_parts_53 (by decide) rfl ?_
    refine ax_iload_n F dX9_parts_55 rfl ?_
    refine ax_iload F dX9_parts_56 rfl ?_
    obtain ⟨r3, M3, hq3, h⟩ := cq_some h
    refine ax_callSi (As := [.int x3, .int x5]) (st := []) F (tX9_has F.2.2.2.2.2.2.1 hm _ _  _ _ _ hq3) kc_X9_has kz_X9 kt_X9_has km_X9_152 ⟨kn_X9_has, rfl, rfl, Nat.le_of_ble_eq_true rfl, Nat.le_of_ble_eq_true rfl⟩ rfl (Nat.le_of_ble_eq_true rfl) dX9_parts_58 ?_
    refine ax_istore F dX9_parts_61 (by decide) rfl ?_
    refine ax_iload_n F dX9_parts_63 rfl ?_
    refine ax_iload F dX9_parts_64 rfl ?_
    refine ax_if_eq (t := 74) F dX9_parts_66 (by decide) (fun hc => ?_) (fun hc => ?_)
    · have h := it_pos h hc
      refine ax_iconst (v := (0 : Int32)) F dX9_parts_74 (by decide) ?_
      refine ax_mask [true, true, true, false, true, true, true, false] ?_
      exact IH.2.2.2.2 _ _ _ _ _ _ _ _ h 
    · have h := it_neg h hc
      refine ax_iload F dX9_parts_69 rfl ?_
      refine ax_goto (t := 75) F dX9_parts_71 (by decide) ?_
      refine ax_mask [true, true, true, false, true, true, true, false] ?_
      exact IH.2.2.2.2 _ _ _ _ _ _ _ _ h 
set_option maxRecDepth 100000 in
set_option maxHeartbeats 4000000 in
theorem wX9_parts_4 {p : Program} {l : Launch} {e : Env} {s : State} {m : MethodId} {args : Array Value} {below : List Frame} {meth : Method} {c : Code} {G : va_G} {L : List Nat} {ad : Nat → Nat} {cs : Nat → ClassId} {z : Bool} {zk zv : Nat → Nat} {r : Int32} {M' : Mm} {n : Nat} (F : Fx G L ad cs z zk zv p m meth c cX9_parts 8 (some .int) s args RX9) (hm : isM L) (IH : PX9_parts p l e s m args below meth c G L ad cs zk r M' n) (x1 : Int32) (x2 : Int32) (x4 : Int32) (x5 : Int32) (x6 : Int32) (s0 : Int32) (s1 : Int32) (M : Mm) (h : (bX9_parts_4 x1 x2 x4 x5 x6 s0 s1 M).bind (fun q => match q with | .inl s' => itr stX9_parts n s' | .inr r => some r) = some (r, M'))  : AW p l e rmX9_parts s m args below meth c (MQ below (AQi G L ad cs r M') args s 0 0 (inA L ad)) G L ad cs 8 75 [some (.ref (ad 338)), some (.int x1), some (.int x2), none, some (.int x4), some (.int x5), some (.int x6), none] [.int s0, .int s1] M := by
  unfold bX9_parts_4 at h
  refine ax_ior F dX9_parts_75 ?_
  refine ax_istore_n F dX9_parts_76 (by decide) rfl ?_
  refine ax_iload_n F dX9_parts_77 rfl ?_
  refine ax_aload_n F dX9_parts_78 rfl ?_
  refine ax_iconst (v := (0 : Int32)) F dX9_parts_79 (by decide) ?_
  obtain ⟨r1, M1, hq1, h⟩ := cq_some h
  refine ax_callVi (As := [.int (0 : Int32)]) (st := [.int (s1 ||| s0)]) F (tX9_alive F.2.2.2.2.2.2.1 hm _  _ _ _ hq1) (ob_338 hm) rfl kc_X9_alive kz_X9 ki_X9_alive ks_X9_alive km_X9_212 ⟨kn_X9_alive, rfl, rfl, Nat.le_of_ble_eq_true rfl, Nat.le_of_ble_eq_true rfl⟩ rfl (Nat.le_of_ble_eq_true rfl) dX9_parts_80 ?_
  refine ax_iload F dX9_parts_83 rfl ?_
  obtain ⟨r2, M2, hq2, h⟩ := cq_some h
  refine ax_callSi (As := [.int r1, .int x5]) (st := [.int (s1 ||| s0)]) F (tX9_has F.2.2.2.2.2.2.1 hm _ _  _ _ _ hq2) kc_X9_has kz_X9 kt_X9_has km_X9_152 ⟨kn_X9_has, rfl, rfl, Nat.le_of_ble_eq_true rfl, Nat.le_of_ble_eq_true rfl⟩ rfl (Nat.le_of_ble_eq_true rfl) dX9_parts_85 ?_
  refine ax_if_eq (t := 105) F dX9_parts_88 (by decide) (fun hc => ?_) (fun hc => ?_)
  · have h := it_pos h hc
    refine ax_iconst (v := (0 : Int32)) F dX9_parts_105 (by decide) ?_
    refine ax_ior F dX9_parts_106 ?_
    refine ax_istore_n F dX9_parts_107 (by decide) rfl ?_
    refine ax_iinc (v := (1 : Int32)) F dX9_parts_108 rfl (by decide) (by decide) rfl ?_
    refine ax_goto (t := 32) F dX9_parts_111 (by decide) ?_
    refine ax_mask [true, true, true, true, true, true, false, false] ?_
    exact IH.2.2.2.1 _ _ _ _ _ _ h 
  · have h := it_neg h hc
    refine ax_iload F dX9_parts_91 rfl ?_
    refine ax_iload_n F dX9_parts_93 rfl ?_
    refine ax_iand F dX9_parts_94 ?_
    refine ax_if_eq (t := 105) F dX9_parts_95 (by decide) (fun hc => ?_) (fun hc => ?_)
    · have h := it_pos h hc
      refine ax_iconst (v := (0 : Int32)) F dX9_parts_105 (by decide) ?_
      refine ax_ior F dX9_parts_106 ?_
      refine ax_istore_n F dX9_parts_107 (by decide) rfl ?_
      refine ax_iinc (v := (1 : Int32)) F dX9_parts_108 rfl (by decide) (by decide) rfl ?_
      refine ax_goto (t := 32) F dX9_parts_111 (by decide) ?_
      refine ax_mask [true, true, true, true, true, true, false, false] ?_
      exact IH.2.2.2.1 _ _ _ _ _ _ h 
    · have h := it_neg h hc
      refine ax_iconst (v := (1 : Int32)) F dX9_parts_98 (by decide) ?_
      refine ax_iload F dX9_parts_99 rfl ?_
      refine ax_ishl F dX9_parts_101 ?_
      refine ax_goto (t := 106) F dX9_parts_102 (by decide) ?_
      refine ax_ior F dX9_parts_106 ?_
      refine ax_istore_n F dX9_parts_107 (by decide) rfl ?_
      refine ax_iinc (v := (1 : Int32)) F dX9_parts_108 rfl (by decide) (by decide) rfl ?_
      refine ax_goto (t := 32) F dX9_parts_111 (by decide) ?_
      refine ax_mask [true, true, true, true, true, true, false, false] ?_
      exact IH.2.2.2.1 _ _ _ _ _ _ h 
set_option maxRecDepth 100000 in
set_option maxHeartbeats 4000000 in
theorem wX9_parts {p : Program} {l : Launch} {e : Env} {s : State} {m : MethodId} {args : Array Value} {below : List Frame} {meth : Method} {c : Code} {G : va_G} {L : List Nat} {ad : Nat → Nat} {cs : Nat → ClassId} {z : Bool} {zk zv : Nat → Nat} {r : Int32} {M' : Mm} (F : Fx G L ad cs z zk zv p m meth c cX9_parts 8 (some .int) s args RX9) (hm : isM L) (n : Nat) : PX9_parts p l e s m args below meth c G L ad cs zk r M' n := by
  induction n with
  | zero => exact ⟨(fun  M h => by cases h), (fun x1 x2 M h => by cases h), (fun x1 x2 x3 x4 M h => by cases h), (fun x1 x2 x3 x4 x5 M h => by cases h), (fun x1 x2 x4 x5 x6 s0 s1 M h => by cases h)⟩
  | succ n ih =>
    exact ⟨fun  M h  => wX9_parts_0 F hm ih  M h ,
      fun x1 x2 M h  => wX9_parts_1 F hm ih x1 x2 M h ,
      fun x1 x2 x3 x4 M h  => wX9_parts_2 F hm ih x1 x2 x3 x4 M h ,
      fun x1 x2 x3 x4 x5 M h  => wX9_parts_3 F hm ih x1 x2 x3 x4 x5 M h ,
      fun x1 x2 x4 x5 x6 s0 s1 M h  => wX9_parts_4 F hm ih x1 x2 x4 x5 x6 s0 s1 M h ⟩
set_option maxRecDepth 100000 in
set_option maxHeartbeats 4000000 in
theorem tX9_parts {l : Launch} {G : va_G} {L : List Nat} {ad : Nat → Nat} {cs : Nat → ClassId} {z : Bool} {zk zv : Nat → Nat} (hinj : inj L ad) (hm : isM L)   (M : Mm) (r : Int32) (M' : Mm) (h : fX9_parts  M = some (r, M')) : Met l yX9_parts (tgW yX9_parts cX9_parts 8 (some .int)) rmX9_parts (APre G L ad cs z zk zv [.ref (ad 338)] M) (AQi G L ad cs r M') 0 0 (inA L ad) := by
  refine met_of (Eq.refl true) (Nat.le_of_ble_eq_true rfl) hinj [some (.ref (ad 338)), none, none, none, none, none, none, none] rfl ?_
  intro p e s m below meth c F
  replace F : Fx G L ad cs z zk zv p m meth c cX9_parts 8 (some .int) s _ RX9 := F
  obtain ⟨n, hn⟩ := run_ex h
  exact (wX9_parts F hm n).1  M hn 
noncomputable def fX9_isRing (x0 : Int32) (M : Mm) : Option Rst := cl (fX9_in (x0).toInt64 (0 : Int64) (2 : Int64) M) (fun r1 M1 => gd (okZ r1) (some (r1, M1)))
def rmX9_isRing : Room := { frames := 1, cells := 0, slots := 0, locals := 25 }
theorem kn_X9_isRing : yX9_isRing.cls ≠ "java/lang/invoke/MethodHandle" ∧ yX9_isRing.cls ≠ "java/lang/invoke/VarHandle" ∧ (parseMethodDescriptor yX9_isRing.desc).map (fun d => d.parameters.length) = some 1 := by decide +kernel
set_option maxRecDepth 100000 in
set_option maxHeartbeats 4000000 in
theorem tX9_isRing {l : Launch} {G : va_G} {L : List Nat} {ad : Nat → Nat} {cs : Nat → ClassId} {z : Bool} {zk zv : Nat → Nat} (hinj : inj L ad) (hm : isM L) (x0 : Int32)  (M : Mm) (r : Int32) (M' : Mm) (h : fX9_isRing x0 M = some (r, M')) : Met l yX9_isRing (tgW yX9_isRing cX9_isRing 1 (some .boolean)) rmX9_isRing (APre G L ad cs z zk zv [.int x0] M) (AQi G L ad cs r M') 0 0 (inA L ad) := by
  refine met_of (Eq.refl true) (Nat.le_of_ble_eq_true rfl) hinj [some (.int x0)] rfl ?_
  intro p e s m below meth c F
  replace F : Fx G L ad cs z zk zv p m meth c cX9_isRing 1 (some .boolean) s _ RX9 := F
  unfold fX9_isRing at h
  refine ax_iload_n F dX9_isRing_0 rfl ?_
  refine ax_i2l F dX9_isRing_1 ?_
  refine ax_lconst (v := (0 : Int64)) F dX9_isRing_2 (by decide) ?_
  refine ax_ldc2 (v := (2 : Int64)) F kk_X9_224 dX9_isRing_3 ?_
  obtain ⟨r1, M1, hq1, h⟩ := cq_some0 h
  refine ax_callSi (As := [.long (x0).toInt64, .long (0 : Int64), .long (2 : Int64)]) (st := []) F (tX9_in F.2.2.2.2.2.2.1 hm _ _ _  _ _ _ hq1) kc_X9_in kz_X9 kt_X9_in km_X9_66 ⟨kn_X9_in, rfl, rfl, Nat.le_of_ble_eq_true rfl, Nat.le_of_ble_eq_true rfl⟩ rfl (Nat.le_of_ble_eq_true rfl) dX9_isRing_6 ?_
  obtain ⟨hz, h⟩ := gd_some0 h
  obtain ⟨h1, h2⟩ := rt_some0 h
  subst h1; subst h2
  exact ax_zret F hz dX9_isRing_9
noncomputable def fX9_ring (x1 : Int32) (M : Mm) : Option Rst := cl (fX9_isRing x1 M) (fun r1 M1 => if r1 = 0 then (some ((-2 : Int32), M1)) else (gd (okI x1 3) (some ((0 : Int32), (up2 M1 342 (ix x1) (0 : Int32))))))
def rmX9_ring : Room := { frames := 2, cells := 0, slots := 0, locals := 45 }
theorem kn_X9_ring : yX9_ring.cls ≠ "java/lang/invoke/MethodHandle" ∧ yX9_ring.cls ≠ "java/lang/invoke/VarHandle" ∧ (parseMethodDescriptor yX9_ring.desc).map (fun d => d.parameters.length) = some 1 := by decide +kernel
set_option maxRecDepth 100000 in
set_option maxHeartbeats 4000000 in
theorem tX9_ring {l : Launch} {G : va_G} {L : List Nat} {ad : Nat → Nat} {cs : Nat → ClassId} {z : Bool} {zk zv : Nat → Nat} (hinj : inj L ad) (hm : isM L) (x1 : Int32)  (M : Mm) (r : Int32) (M' : Mm) (h : fX9_ring x1 M = some (r, M')) : Met l yX9_ring (tgW yX9_ring cX9_ring 2 (some .int)) rmX9_ring (APre G L ad cs z zk zv [.ref (ad 338), .int x1] M) (AQi G L ad cs r M') 0 0 (inA L ad) := by
  refine met_of (Eq.refl true) (Nat.le_of_ble_eq_true rfl) hinj [some (.ref (ad 338)), some (.int x1)] rfl ?_
  intro p e s m below meth c F
  replace F : Fx G L ad cs z zk zv p m meth c cX9_ring 2 (some .int) s _ RX9 := F
  unfold fX9_ring at h
  refine ax_iload_n F dX9_ring_0 rfl ?_
  obtain ⟨r1, M1, hq1, h⟩ := cq_some0 h
  refine ax_callSi (As := [.int x1]) (st := []) F (tX9_isRing F.2.2.2.2.2.2.1 hm _  _ _ _ hq1) kc_X9_isRing kz_X9 kt_X9_isRing km_X9_226 ⟨kn_X9_isRing, rfl, rfl, Nat.le_of_ble_eq_true rfl, Nat.le_of_ble_eq_true rfl⟩ rfl (Nat.le_of_ble_eq_true rfl) dX9_ring_1 ?_
  refine ax_if_ne (t := 10) F dX9_ring_4 (by decide) (fun hc => ?_) (fun hc => ?_)
  · have h := it_neg0 h hc
    refine ax_aload_n F dX9_ring_10 rfl ?_
    refine ax_get (v := .ref (ad 342)) F (ob_338 hm) rfl inGX9 9 (by decide) rfl kf_X9_20 rfl dX9_ring_11 ?_
    refine ax_iload_n F dX9_ring_14 rfl ?_
    refine ax_iconst (v := (0 : Int32)) F dX9_ring_15 (by decide) ?_
    obtain ⟨hg, h⟩ := gd_some0 h
    refine ax_iast F (ar_342 hm) hg dX9_ring_16 ?_
    refine ax_iconst (v := (0 : Int32)) F dX9_ring_17 (by decide) ?_
    obtain ⟨h1, h2⟩ := rt_some0 h
    subst h1; subst h2
    exact ax_iret F dX9_ring_18
  · have h := it_pos0 h hc
    refine ax_bipush (v := (-2 : Int32)) F dX9_ring_7 (by decide) ?_
    obtain ⟨h1, h2⟩ := rt_some0 h
    subst h1; subst h2
    exact ax_iret F dX9_ring_9
def rmX9_add : Room := { frames := 2, cells := 0, slots := 0, locals := 45 }
theorem kn_X9_add : yX9_add.cls ≠ "java/lang/invoke/MethodHandle" ∧ yX9_add.cls ≠ "java/lang/invoke/VarHandle" ∧ (parseMethodDescriptor yX9_add.desc).map (fun d => d.parameters.length) = some 2 := by decide +kernel
noncomputable def bX9_add_0 (x1 : Int32) (x2 : Int32) (M : Mm) : Option (Sst ⊕ Rst) := cl (fX9_isRing x1 M) (fun r1 M1 => if r1 = 0 then (some (.inr ((-2 : Int32), M1))) else (cl (fX9_in (x2).toInt64 (-999 : Int64) (999 : Int64) M1) (fun r2 M2 => if r2 = 0 then (some (.inr ((-3 : Int32), M2))) else (gd (okI x1 3) (if 0 ≤ (M2 342 (ix x1)) then (gd (okI x1 3) (if (M2 342 (ix x1)) = (8 : Int32) then (some (.inr ((-13 : Int32), M2))) else (gd (okI x1 3) (some (.inl (1, [], [x1, x2, (M2 342 (ix x1))], M2)))))) else (some (.inr ((-11 : Int32), M2))))))))
noncomputable def bX9_add_1 (x1 : Int32) (x2 : Int32) (x3 : Int32) (M : Mm) : Option (Sst ⊕ Rst) := if x3 ≤ (1 : Int32) then (gd (okI x1 3) (if (M 342 (ix x1)) ≤ 0 then (some (.inl (2, [], [x1, x2, (0 : Int32), ((8 : Int32) * x1)], M))) else (some (.inl (2, [], [x1, x2, (1 : Int32), ((8 : Int32) * x1)], M))))) else (gd (okI ((((8 : Int32) * x1) + x3) - (1 : Int32)) 24) (gd (okI (((8 : Int32) * x1) + x3) 24) (some (.inl (1, [], [x1, x2, (x3 + (-1 : Int32))], (up2 M 343 (ix (((8 : Int32) * x1) + x3)) (M 343 (ix ((((8 : Int32) * x1) + x3) - (1 : Int32))))))))))
noncomputable def bX9_add_2 (x1 : Int32) (x2 : Int32) (s0 : Int32) (s1 : Int32) (M : Mm) : Option (Sst ⊕ Rst) := gd (okI (s1 + s0) 24) (gd (okI x1 3) (gd (okI x1 3) (gd (okI x1 3) (some (.inr (((up2 (up2 M 343 (ix (s1 + s0)) x2) 342 (ix x1) (((up2 M 343 (ix (s1 + s0)) x2) 342 (ix x1)) + (1 : Int32))) 342 (ix x1)), (up2 (up2 M 343 (ix (s1 + s0)) x2) 342 (ix x1) (((up2 M 343 (ix (s1 + s0)) x2) 342 (ix x1)) + (1 : Int32)))))))))
noncomputable def stX9_add : Sst → Option (Sst ⊕ Rst) := fun q => match q.1 with
  | 0 => bX9_add_0 (q.2.2.1.getD 0 0) (q.2.2.1.getD 1 0) q.2.2.2
  | 1 => bX9_add_1 (q.2.2.1.getD 0 0) (q.2.2.1.getD 1 0) (q.2.2.1.getD 2 0) q.2.2.2
  | 2 => bX9_add_2 (q.2.2.1.getD 0 0) (q.2.2.1.getD 1 0) (q.2.2.1.getD 2 0) (q.2.2.1.getD 3 0) q.2.2.2
  | _ => none
noncomputable def fX9_add (x1 : Int32) (x2 : Int32) (M : Mm) : Option Rst := run stX9_add (0, [], [x1, x2], M)
def PX9_add (p : Program) (l : Launch) (e : Env) (s : State) (m : MethodId) (args : Array Value) (below : List Frame) (meth : Method) (c : Code) (G : va_G) (L : List Nat) (ad : Nat → Nat) (cs : Nat → ClassId) (zk : Nat → Nat) (r : Int32) (M' : Mm) (n : Nat) : Prop := (∀ (x1 : Int32) (x2 : Int32) (M : Mm), itr stX9_add n (0, [], [x1, x2], M) = some (r, M') → AW p l e rmX9_add s m args below meth c (MQ below (AQi G L ad cs r M') args s 0 0 (inA L ad)) G L ad cs 4 0 [some (.ref (ad 338)), some (.int x1), some (.int x2), none] [] M) ∧ (∀ (x1 : Int32) (x2 : Int32) (x3 : Int32) (M : Mm), itr stX9_add n (1, [], [x1, x2, x3], M) = some (r, M') → AW p l e rmX9_add s m args below meth c (MQ below (AQi G L ad cs r M') args s 0 0 (inA L ad)) G L ad cs 4 60 [some (.ref (ad 338)), some (.int x1), some (.int x2), some (.int x3)] [] M) ∧ (∀ (x1 : Int32) (x2 : Int32) (s0 : Int32) (s1 : Int32) (M : Mm), itr stX9_add n (2, [], [x1, x2, s0, s1], M) = some (r, M') → AW p l e rmX9_add s m args below meth c (MQ below (AQi G L ad cs r M') args s 0 0 (inA L ad)) G L ad cs 4 117 [some (.ref (ad 338)), some (.int x1), some (.int x2), none] [.int s0, .int s1, .ref (ad 343)] M)
set_option maxRecDepth 100000 in
set_option maxHeartbeats 4000000 in
theorem wX9_add_0 {p : Program} {l : Launch} {e : Env} {s : State} {m : MethodId} {args : Array Value} {below : List Frame} {meth : Method} {c : Code} {G : va_G} {L : List Nat} {ad : Nat → Nat} {cs : Nat → ClassId} {z : Bool} {zk zv : Nat → Nat} {r : Int32} {M' : Mm} {n : Nat} (F : Fx G L ad cs z zk zv p m meth c cX9_add 4 (some .int) s args RX9) (hm : isM L) (IH : PX9_add p l e s m args below meth c G L ad cs zk r M' n) (x1 : Int32) (x2 : Int32) (M : Mm) (h : (bX9_add_0 x1 x2 M).bind (fun q => match q with | .inl s' => itr stX9_add n s' | .inr r => some r) = some (r, M'))  : AW p l e rmX9_add s m args below meth c (MQ below (AQi G L ad cs r M') args s 0 0 (inA L ad)) G L ad cs 4 0 [some (.ref (ad 338)), some (.int x1), some (.int x2), none] [] M := by
  unfold bX9_add_0 at h
  refine ax_iload_n F dX9_add_0 rfl ?_
  obtain ⟨r1, M1, hq1, h⟩ := cq_some h
  refine ax_callSi (As := [.int x1]) (st := []) F (tX9_isRing F.2.2.2.2.2.2.1 hm _  _ _ _ hq1) kc_X9_isRing kz_X9 kt_X9_isRing km_X9_226 ⟨kn_X9_isRing, rfl, rfl, Nat.le_of_ble_eq_true rfl, Nat.le_of_ble_eq_true rfl⟩ rfl (Nat.le_of_ble_eq_true rfl) dX9_add_1 ?_
  refine ax_if_ne (t := 10) F dX9_add_4 (by decide) (fun hc => ?_) (fun hc => ?_)
  · have h := it_neg h hc
    refine ax_iload_n F dX9_add_10 rfl ?_
    refine ax_i2l F dX9_add_11 ?_
    refine ax_ldc2 (v := (-999 : Int64)) F kk_X9_229 dX9_add_12 ?_
    refine ax_ldc2 (v := (999 : Int64)) F kk_X9_231 dX9_add_15 ?_
    obtain ⟨r2, M2, hq2, h⟩ := cq_some h
    refine ax_callSi (As := [.long (x2).toInt64, .long (-999 : Int64), .long (999 : Int64)]) (st := []) F (tX9_in F.2.2.2.2.2.2.1 hm _ _ _  _ _ _ hq2) kc_X9_in kz_X9 kt_X9_in km_X9_66 ⟨kn_X9_in, rfl, rfl, Nat.le_of_ble_eq_true rfl, Nat.le_of_ble_eq_true rfl⟩ rfl (Nat.le_of_ble_eq_true rfl) dX9_add_18 ?_
    refine ax_if_ne (t := 27) F dX9_add_21 (by decide) (fun hc => ?_) (fun hc => ?_)
    · have h := it_neg h hc
      refine ax_aload_n F dX9_add_27 rfl ?_
      refine ax_get (v := .ref (ad 342)) F (ob_338 hm) rfl inGX9 9 (by decide) rfl kf_X9_20 rfl dX9_add_28 ?_
      refine ax_iload_n F dX9_add_31 rfl ?_
      obtain ⟨hg, h⟩ := gd_some h
      refine ax_iald F (ar_342 hm) hg dX9_add_32 ?_
      refine ax_if_ge (t := 39) F dX9_add_33 (by decide) (fun hc => ?_) (fun hc => ?_)
      · have h := it_pos h hc
        refine ax_aload_n F dX9_add_39 rfl ?_
        refine ax_get (v := .ref (ad 342)) F (ob_338 hm) rfl inGX9 9 (by decide) rfl kf_X9_20 rfl dX9_add_40 ?_
        refine ax_iload_n F dX9_add_43 rfl ?_
        obtain ⟨hg, h⟩ := gd_some h
        refine ax_iald F (ar_342 hm) hg dX9_add_44 ?_
        refine ax_bipush (v := (8 : Int32)) F dX9_add_45 (by decide) ?_
        refine ax_icmp_ne (t := 53) F dX9_add_47 (by decide) (fun hc => ?_) (fun hc => ?_)
        · have h := it_neg h hc
          refine ax_aload_n F dX9_add_53 rfl ?_
          refine ax_get (v := .ref (ad 342)) F (ob_338 hm) rfl inGX9 9 (by decide) rfl kf_X9_20 rfl dX9_add_54 ?_
          refine ax_iload_n F dX9_add_57 rfl ?_
          obtain ⟨hg, h⟩ := gd_some h
          refine ax_iald F (ar_342 hm) hg dX9_add_58 ?_
          refine ax_istore_n F dX9_add_59 (by decide) rfl ?_
          exact IH.2.1 _ _ _ _ h 
        · have h := it_pos h hc
          refine ax_bipush (v := (-13 : Int32)) F dX9_add_50 (by decide) ?_
          obtain ⟨h1, h2⟩ := rt_some h
          subst h1; subst h2
          exact ax_iret F dX9_add_52
      · have h := it_neg h hc
        refine ax_bipush (v := (-11 : Int32)) F dX9_add_36 (by decide) ?_
        obtain ⟨h1, h2⟩ := rt_some h
        subst h1; subst h2
        exact ax_iret F dX9_add_38
    · have h := it_pos h hc
      refine ax_bipush (v := (-3 : Int32)) F dX9_add_24 (by decide) ?_
      obtain ⟨h1, h2⟩ := rt_some h
      subst h1; subst h2
      exact ax_iret F dX9_add_26
  · have h := it_pos h hc
    refine ax_bipush (v := (-2 : Int32)) F dX9_add_7 (by decide) ?_
    obtain ⟨h1, h2⟩ := rt_some h
    subst h1; subst h2
    exact ax_iret F dX9_add_9
set_option maxRecDepth 100000 in
set_option maxHeartbeats 4000000 in
theorem wX9_add_1 {p : Program} {l : Launch} {e : Env} {s : State} {m : MethodId} {args : Array Value} {below : List Frame} {meth : Method} {c : Code} {G : va_G} {L : List Nat} {ad : Nat → Nat} {cs : Nat → ClassId} {z : Bool} {zk zv : Nat → Nat} {r : Int32} {M' : Mm} {n : Nat} (F : Fx G L ad cs z zk zv p m meth c cX9_add 4 (some .int) s args RX9) (hm : isM L) (IH : PX9_add p l e s m args below meth c G L ad cs zk r M' n) (x1 : Int32) (x2 : Int32) (x3 : Int32) (M : Mm) (h : (bX9_add_1 x1 x2 x3 M).bind (fun q => match q with | .inl s' => itr stX9_add n s' | .inr r => some r) = some (r, M'))  : AW p l e rmX9_add s m args below meth c (MQ below (AQi G L ad cs r M') args s 0 0 (inA L ad)) G L ad cs 4 60 [some (.ref (ad 338)), some (.int x1), some (.int x2), some (.int x3)] [] M := by
  unfold bX9_add_1 at h
  refine ax_iload_n F dX9_add_60 rfl ?_
  refine ax_iconst (v := (1 : Int32)) F dX9_add_61 (by decide) ?_
  refine ax_icmp_le (t := 95) F dX9_add_62 (by decide) (fun hc => ?_) (fun hc => ?_)
  · have h := it_pos h hc
    refine ax_aload_n F dX9_add_95 rfl ?_
    refine ax_get (v := .ref (ad 343)) F (ob_338 hm) rfl inGX9 10 (by decide) rfl kf_X9_23 rfl dX9_add_96 ?_
    refine ax_bipush (v := (8 : Int32)) F dX9_add_99 (by decide) ?_
    refine ax_iload_n F dX9_add_101 rfl ?_
    refine ax_imul F dX9_add_102 ?_
    refine ax_aload_n F dX9_add_103 rfl ?_
    refine ax_get (v := .ref (ad 342)) F (ob_338 hm) rfl inGX9 9 (by decide) rfl kf_X9_20 rfl dX9_add_104 ?_
    refine ax_iload_n F dX9_add_107 rfl ?_
    obtain ⟨hg, h⟩ := gd_some h
    refine ax_iald F (ar_342 hm) hg dX9_add_108 ?_
    refine ax_if_le (t := 116) F dX9_add_109 (by decide) (fun hc => ?_) (fun hc => ?_)
    · have h := it_pos h hc
      refine ax_iconst (v := (0 : Int32)) F dX9_add_116 (by decide) ?_
      refine ax_mask [true, true, true, false] ?_
      exact IH.2.2 _ _ _ _ _ h 
    · have h := it_neg h hc
      refine ax_iconst (v := (1 : Int32)) F dX9_add_112 (by decide) ?_
      refine ax_goto (t := 117) F dX9_add_113 (by decide) ?_
      refine ax_mask [true, true, true, false] ?_
      exact IH.2.2 _ _ _ _ _ h 
  · have h := it_neg h hc
    refine ax_aload_n F dX9_add_65 rfl ?_
    refine ax_get (v := .ref (ad 343)) F (ob_338 hm) rfl inGX9 10 (by decide) rfl kf_X9_23 rfl dX9_add_66 ?_
    refine ax_bipush (v := (8 : Int32)) F dX9_add_69 (by decide) ?_
    refine ax_iload_n F dX9_add_71 rfl ?_
    refine ax_imul F dX9_add_72 ?_
    refine ax_iload_n F dX9_add_73 rfl ?_
    refine ax_iadd F dX9_add_74 ?_
    refine ax_aload_n F dX9_add_75 rfl ?_
    refine ax_get (v := .ref (ad 343)) F (ob_338 hm) rfl inGX9 10 (by decide) rfl kf_X9_23 rfl dX9_add_76 ?_
    refine ax_bipush (v := (8 : Int32)) F dX9_add_79 (by decide) ?_
    refine ax_iload_n F dX9_add_81 rfl ?_
    refine ax_imul F dX9_add_82 ?_
    refine ax_iload_n F dX9_add_83 rfl ?_
    refine ax_iadd F dX9_add_84 ?_
    refine ax_iconst (v := (1 : Int32)) F dX9_add_85 (by decide) ?_
    refine ax_isub F dX9_add_86 ?_
    obtain ⟨hg, h⟩ := gd_some h
    refine ax_iald F (ar_343 hm) hg dX9_add_87 ?_
    obtain ⟨hg, h⟩ := gd_some h
    refine ax_iast F (ar_343 hm) hg dX9_add_88 ?_
    refine ax_iinc (v := (-1 : Int32)) F dX9_add_89 rfl (by decide) (by decide) rfl ?_
    refine ax_goto (t := 60) F dX9_add_92 (by decide) ?_
    exact IH.2.1 _ _ _ _ h 
set_option maxRecDepth 100000 in
set_option maxHeartbeats 4000000 in
theorem wX9_add_2 {p : Program} {l : Launch} {e : Env} {s : State} {m : MethodId} {args : Array Value} {below : List Frame} {meth : Method} {c : Code} {G : va_G} {L : List Nat} {ad : Nat → Nat} {cs : Nat → ClassId} {z : Bool} {zk zv : Nat → Nat} {r : Int32} {M' : Mm} {n : Nat} (F : Fx G L ad cs z zk zv p m meth c cX9_add 4 (some .int) s args RX9) (hm : isM L) (IH : PX9_add p l e s m args below meth c G L ad cs zk r M' n) (x1 : Int32) (x2 : Int32) (s0 : Int32) (s1 : Int32) (M : Mm) (h : (bX9_add_2 x1 x2 s0 s1 M).bind (fun q => match q with | .inl s' => itr stX9_add n s' | .inr r => some r) = some (r, M'))  : AW p l e rmX9_add s m args below meth c (MQ below (AQi G L ad cs r M') args s 0 0 (inA L ad)) G L ad cs 4 117 [some (.ref (ad 338)), some (.int x1), some (.int x2), none] [.int s0, .int s1, .ref (ad 343)] M := by
  unfold bX9_add_2 at h
  refine ax_iadd F dX9_add_117 ?_
  refine ax_iload_n F dX9_add_118 rfl ?_
  obtain ⟨hg, h⟩ := gd_some h
  refine ax_iast F (ar_343 hm) hg dX9_add_119 ?_
  refine ax_aload_n F dX9_add_120 rfl ?_
  refine ax_get (v := .ref (ad 342)) F (ob_338 hm) rfl inGX9 9 (by decide) rfl kf_X9_20 rfl dX9_add_121 ?_
  refine ax_iload_n F dX9_add_124 rfl ?_
  refine ax_dup2 F dX9_add_125 rfl rfl ?_
  obtain ⟨hg, h⟩ := gd_some h
  refine ax_iald F (ar_342 hm) hg dX9_add_126 ?_
  refine ax_iconst (v := (1 : Int32)) F dX9_add_127 (by decide) ?_
  refine ax_iadd F dX9_add_128 ?_
  obtain ⟨hg, h⟩ := gd_some h
  refine ax_iast F (ar_342 hm) hg dX9_add_129 ?_
  refine ax_aload_n F dX9_add_130 rfl ?_
  refine ax_get (v := .ref (ad 342)) F (ob_338 hm) rfl inGX9 9 (by decide) rfl kf_X9_20 rfl dX9_add_131 ?_
  refine ax_iload_n F dX9_add_134 rfl ?_
  obtain ⟨hg, h⟩ := gd_some h
  refine ax_iald F (ar_342 hm) hg dX9_add_135 ?_
  obtain ⟨h1, h2⟩ := rt_some h
  subst h1; subst h2
  exact ax_iret F dX9_add_136
set_option maxRecDepth 100000 in
set_option maxHeartbeats 4000000 in
theorem wX9_add {p : Program} {l : Launch} {e : Env} {s : State} {m : MethodId} {args : Array Value} {below : List Frame} {meth : Method} {c : Code} {G : va_G} {L : List Nat} {ad : Nat → Nat} {cs : Nat → ClassId} {z : Bool} {zk zv : Nat → Nat} {r : Int32} {M' : Mm} (F : Fx G L ad cs z zk zv p m meth c cX9_add 4 (some .int) s args RX9) (hm : isM L) (n : Nat) : PX9_add p l e s m args below meth c G L ad cs zk r M' n := by
  induction n with
  | zero => exact ⟨(fun x1 x2 M h => by cases h), (fun x1 x2 x3 M h => by cases h), (fun x1 x2 s0 s1 M h => by cases h)⟩
  | succ n ih =>
    exact ⟨fun x1 x2 M h  => wX9_add_0 F hm ih x1 x2 M h ,
      fun x1 x2 x3 M h  => wX9_add_1 F hm ih x1 x2 x3 M h ,
      fun x1 x2 s0 s1 M h  => wX9_add_2 F hm ih x1 x2 s0 s1 M h ⟩
set_option maxRecDepth 100000 in
set_option maxHeartbeats 4000000 in
theorem tX9_add {l : Launch} {G : va_G} {L : List Nat} {ad : Nat → Nat} {cs : Nat → ClassId} {z : Bool} {zk zv : Nat → Nat} (hinj : inj L ad) (hm : isM L) (x1 : Int32) (x2 : Int32)  (M : Mm) (r : Int32) (M' : Mm) (h : fX9_add x1 x2 M = some (r, M')) : Met l yX9_add (tgW yX9_add cX9_add 4 (some .int)) rmX9_add (APre G L ad cs z zk zv [.ref (ad 338), .int x1, .int x2] M) (AQi G L ad cs r M') 0 0 (inA L ad) := by
  refine met_of (Eq.refl true) (Nat.le_of_ble_eq_true rfl) hinj [some (.ref (ad 338)), some (.int x1), some (.int x2), none] rfl ?_
  intro p e s m below meth c F
  replace F : Fx G L ad cs z zk zv p m meth c cX9_add 4 (some .int) s _ RX9 := F
  obtain ⟨n, hn⟩ := run_ex h
  exact (wX9_add F hm n).1 x1 x2 M hn 
def rmX9_goesOn : Room := { frames := 0, cells := 0, slots := 0, locals := 0 }
theorem kn_X9_goesOn : yX9_goesOn.cls ≠ "java/lang/invoke/MethodHandle" ∧ yX9_goesOn.cls ≠ "java/lang/invoke/VarHandle" ∧ (parseMethodDescriptor yX9_goesOn.desc).map (fun d => d.parameters.length) = some 1 := by decide +kernel
noncomputable def bX9_goesOn_0 (x1 : Int32) (M : Mm) : Option (Sst ⊕ Rst) := gd (okI ((8 : Int32) * x1) 24) (some (.inl (1, [], [x1, (M 343 (ix ((8 : Int32) * x1))), (1 : Int32)], M)))
noncomputable def bX9_goesOn_1 (x1 : Int32) (x2 : Int32) (x3 : Int32) (M : Mm) : Option (Sst ⊕ Rst) := gd (okI x1 3) (if (M 342 (ix x1)) ≤ x3 then (gd (okI x1 3) (gd (okI ((((8 : Int32) * x1) + (M 342 (ix x1))) - (1 : Int32)) 24) (some (.inr ((0 : Int32), (up2 M 343 (ix ((((8 : Int32) * x1) + (M 342 (ix x1))) - (1 : Int32))) x2)))))) else (gd (okI (((8 : Int32) * x1) + x3) 24) (gd (okI ((((8 : Int32) * x1) + x3) - (1 : Int32)) 24) (some (.inl (1, [], [x1, x2, (x3 + (1 : Int32))], (up2 M 343 (ix ((((8 : Int32) * x1) + x3) - (1 : Int32))) (M 343 (ix (((8 : Int32) * x1) + x3))))))))))
noncomputable def stX9_goesOn : Sst → Option (Sst ⊕ Rst) := fun q => match q.1 with
  | 0 => bX9_goesOn_0 (q.2.2.1.getD 0 0) q.2.2.2
  | 1 => bX9_goesOn_1 (q.2.2.1.getD 0 0) (q.2.2.1.getD 1 0) (q.2.2.1.getD 2 0) q.2.2.2
  | _ => none
noncomputable def fX9_goesOn (x1 : Int32) (M : Mm) : Option Rst := run stX9_goesOn (0, [], [x1], M)
def PX9_goesOn (p : Program) (l : Launch) (e : Env) (s : State) (m : MethodId) (args : Array Value) (below : List Frame) (meth : Method) (c : Code) (G : va_G) (L : List Nat) (ad : Nat → Nat) (cs : Nat → ClassId) (zk : Nat → Nat) (r : Int32) (M' : Mm) (n : Nat) : Prop := (∀ (x1 : Int32) (M : Mm), itr stX9_goesOn n (0, [], [x1], M) = some (r, M') → AW p l e rmX9_goesOn s m args below meth c (MQ below (AQv G L ad cs M') args s 0 0 (inA L ad)) G L ad cs 4 0 [some (.ref (ad 338)), some (.int x1), none, none] [] M) ∧ (∀ (x1 : Int32) (x2 : Int32) (x3 : Int32) (M : Mm), itr stX9_goesOn n (1, [], [x1, x2, x3], M) = some (r, M') → AW p l e rmX9_goesOn s m args below meth c (MQ below (AQv G L ad cs M') args s 0 0 (inA L ad)) G L ad cs 4 12 [some (.ref (ad 338)), some (.int x1), some (.int x2), some (.int x3)] [] M)
set_option maxRecDepth 100000 in
set_option maxHeartbeats 4000000 in
theorem wX9_goesOn_0 {p : Program} {l : Launch} {e : Env} {s : State} {m : MethodId} {args : Array Value} {below : List Frame} {meth : Method} {c : Code} {G : va_G} {L : List Nat} {ad : Nat → Nat} {cs : Nat → ClassId} {z : Bool} {zk zv : Nat → Nat} {r : Int32} {M' : Mm} {n : Nat} (F : Fx G L ad cs z zk zv p m meth c cX9_goesOn 4 none s args RX9) (hm : isM L) (IH : PX9_goesOn p l e s m args below meth c G L ad cs zk r M' n) (x1 : Int32) (M : Mm) (h : (bX9_goesOn_0 x1 M).bind (fun q => match q with | .inl s' => itr stX9_goesOn n s' | .inr r => some r) = some (r, M'))  : AW p l e rmX9_goesOn s m args below meth c (MQ below (AQv G L ad cs M') args s 0 0 (inA L ad)) G L ad cs 4 0 [some (.ref (ad 338)), some (.int x1), none, none] [] M := by
  unfold bX9_goesOn_0 at h
  refine ax_aload_n F dX9_goesOn_0 rfl ?_
  refine ax_get (v := .ref (ad 343)) F (ob_338 hm) rfl inGX9 10 (by decide) rfl kf_X9_23 rfl dX9_goesOn_1 ?_
  refine ax_bipush (v := (8 : Int32)) F dX9_goesOn_4 (by decide) ?_
  refine ax_iload_n F dX9_goesOn_6 rfl ?_
  refine ax_imul F dX9_goesOn_7 ?_
  obtain ⟨hg, h⟩ := gd_some h
  refine ax_iald F (ar_343 hm) hg dX9_goesOn_8 ?_
  refine ax_istore_n F dX9_goesOn_9 (by decide) rfl ?_
  refine ax_iconst (v := (1 : Int32)) F dX9_goesOn_10 (by decide) ?_
  refine ax_istore_n F dX9_goesOn_11 (by decide) rfl ?_
  exact IH.2 _ _ _ _ h 
set_option maxRecDepth 100000 in
set_option maxHeartbeats 4000000 in
theorem wX9_goesOn_1 {p : Program} {l : Launch} {e : Env} {s : State} {m : MethodId} {args : Array Value} {below : List Frame} {meth : Method} {c : Code} {G : va_G} {L : List Nat} {ad : Nat → Nat} {cs : Nat → ClassId} {z : Bool} {zk zv : Nat → Nat} {r : Int32} {M' : Mm} {n : Nat} (F : Fx G L ad cs z zk zv p m meth c cX9_goesOn 4 none s args RX9) (hm : isM L) (IH : PX9_goesOn p l e s m args below meth c G L ad cs zk r M' n) (x1 : Int32) (x2 : Int32) (x3 : Int32) (M : Mm) (h : (bX9_goesOn_1 x1 x2 x3 M).bind (fun q => match q with | .inl s' => itr stX9_goesOn n s' | .inr r => some r) = some (r, M'))  : AW p l e rmX9_goesOn s m args below meth c (MQ below (AQv G L ad cs M') args s 0 0 (inA L ad)) G L ad cs 4 12 [some (.ref (ad 338)), some (.int x1), some (.int x2), some (.int x3)] [] M := by
  unfold bX9_goesOn_1 at h
  refine ax_iload_n F dX9_goesOn_12 rfl ?_
  refine ax_aload_n F dX9_goesOn_13 rfl ?_
  refine ax_get (v := .ref (ad 342)) F (ob_338 hm) rfl inGX9 9 (by decide) rfl kf_X9_20 rfl dX9_goesOn_14 ?_
  refine ax_iload_n F dX9_goesOn_17 rfl ?_
  obtain ⟨hg, h⟩ := gd_some h
  refine ax_iald F (ar_342 hm) hg dX9_goesOn_18 ?_
  refine ax_icmp_ge (t := 52) F dX9_goesOn_19 (by decide) (fun hc => ?_) (fun hc => ?_)
  · have h := it_pos h hc
    refine ax_aload_n F dX9_goesOn_52 rfl ?_
    refine ax_get (v := .ref (ad 343)) F (ob_338 hm) rfl inGX9 10 (by decide) rfl kf_X9_23 rfl dX9_goesOn_53 ?_
    refine ax_bipush (v := (8 : Int32)) F dX9_goesOn_56 (by decide) ?_
    refine ax_iload_n F dX9_goesOn_58 rfl ?_
    refine ax_imul F dX9_goesOn_59 ?_
    refine ax_aload_n F dX9_goesOn_60 rfl ?_
    refine ax_get (v := .ref (ad 342)) F (ob_338 hm) rfl inGX9 9 (by decide) rfl kf_X9_20 rfl dX9_goesOn_61 ?_
    refine ax_iload_n F dX9_goesOn_64 rfl ?_
    obtain ⟨hg, h⟩ := gd_some h
    refine ax_iald F (ar_342 hm) hg dX9_goesOn_65 ?_
    refine ax_iadd F dX9_goesOn_66 ?_
    refine ax_iconst (v := (1 : Int32)) F dX9_goesOn_67 (by decide) ?_
    refine ax_isub F dX9_goesOn_68 ?_
    refine ax_iload_n F dX9_goesOn_69 rfl ?_
    obtain ⟨hg, h⟩ := gd_some h
    refine ax_iast F (ar_343 hm) hg dX9_goesOn_70 ?_
    obtain ⟨h1, h2⟩ := rt_some h
    subst h2
    exact ax_vret F dX9_goesOn_71
  · have h := it_neg h hc
    refine ax_aload_n F dX9_goesOn_22 rfl ?_
    refine ax_get (v := .ref (ad 343)) F (ob_338 hm) rfl inGX9 10 (by decide) rfl kf_X9_23 rfl dX9_goesOn_23 ?_
    refine ax_bipush (v := (8 : Int32)) F dX9_goesOn_26 (by decide) ?_
    refine ax_iload_n F dX9_goesOn_28 rfl ?_
    refine ax_imul F dX9_goesOn_29 ?_
    refine ax_iload_n F dX9_goesOn_30 rfl ?_
    refine ax_iadd F dX9_goesOn_31 ?_
    refine ax_iconst (v := (1 : Int32)) F dX9_goesOn_32 (by decide) ?_
    refine ax_isub F dX9_goesOn_33 ?_
    refine ax_aload_n F dX9_goesOn_34 rfl ?_
    refine ax_get (v := .ref (ad 343)) F (ob_338 hm) rfl inGX9 10 (by decide) rfl kf_X9_23 rfl dX9_goesOn_35 ?_
    refine ax_bipush (v := (8 : Int32)) F dX9_goesOn_38 (by decide) ?_
    refine ax_iload_n F dX9_goesOn_40 rfl ?_
    refine ax_imul F dX9_goesOn_41 ?_
    refine ax_iload_n F dX9_goesOn_42 rfl ?_
    refine ax_iadd F dX9_goesOn_43 ?_
    obtain ⟨hg, h⟩ := gd_some h
    refine ax_iald F (ar_343 hm) hg dX9_goesOn_44 ?_
    obtain ⟨hg, h⟩ := gd_some h
    refine ax_iast F (ar_343 hm) hg dX9_goesOn_45 ?_
    refine ax_iinc (v := (1 : Int32)) F dX9_goesOn_46 rfl (by decide) (by decide) rfl ?_
    refine ax_goto (t := 12) F dX9_goesOn_49 (by decide) ?_
    exact IH.2 _ _ _ _ h 
set_option maxRecDepth 100000 in
set_option maxHeartbeats 4000000 in
theorem wX9_goesOn {p : Program} {l : Launch} {e : Env} {s : State} {m : MethodId} {args : Array Value} {below : List Frame} {meth : Method} {c : Code} {G : va_G} {L : List Nat} {ad : Nat → Nat} {cs : Nat → ClassId} {z : Bool} {zk zv : Nat → Nat} {r : Int32} {M' : Mm} (F : Fx G L ad cs z zk zv p m meth c cX9_goesOn 4 none s args RX9) (hm : isM L) (n : Nat) : PX9_goesOn p l e s m args below meth c G L ad cs zk r M' n := by
  induction n with
  | zero => exact ⟨(fun x1 M h => by cases h), (fun x1 x2 x3 M h => by cases h)⟩
  | succ n ih =>
    exact ⟨fun x1 M h  => wX9_goesOn_0 F hm ih x1 M h ,
      fun x1 x2 x3 M h  => wX9_goesOn_1 F hm ih x1 x2 x3 M h ⟩
set_option maxRecDepth 100000 in
set_option maxHeartbeats 4000000 in
theorem tX9_goesOn {l : Launch} {G : va_G} {L : List Nat} {ad : Nat → Nat} {cs : Nat → ClassId} {z : Bool} {zk zv : Nat → Nat} (hinj : inj L ad) (hm : isM L) (x1 : Int32)  (M : Mm) (r : Int32) (M' : Mm) (h : fX9_goesOn x1 M = some (r, M')) : Met l yX9_goesOn (tgW yX9_goesOn cX9_goesOn 4 none) rmX9_goesOn (APre G L ad cs z zk zv [.ref (ad 338), .int x1] M) (AQv G L ad cs M') 0 0 (inA L ad) := by
  refine met_of (Eq.refl true) (Nat.le_of_ble_eq_true rfl) hinj [some (.ref (ad 338)), some (.int x1), none, none] rfl ?_
  intro p e s m below meth c F
  replace F : Fx G L ad cs z zk zv p m meth c cX9_goesOn 4 none s _ RX9 := F
  obtain ⟨n, hn⟩ := run_ex h
  exact (wX9_goesOn F hm n).1 x1 M hn 
noncomputable def fX9_takesOne (x1 : Int32) (M : Mm) : Option Rst := gd (okI ((8 : Int32) * x1) 24) (cl (fX9_goesOn x1 M) (fun r1 M1 => gd (okI x1 3) (gd (okI x1 3) (some ((M 343 (ix ((8 : Int32) * x1))), (up2 M1 342 (ix x1) ((M1 342 (ix x1)) - (1 : Int32))))))))
def rmX9_takesOne : Room := { frames := 1, cells := 0, slots := 0, locals := 23 }
theorem kn_X9_takesOne : yX9_takesOne.cls ≠ "java/lang/invoke/MethodHandle" ∧ yX9_takesOne.cls ≠ "java/lang/invoke/VarHandle" ∧ (parseMethodDescriptor yX9_takesOne.desc).map (fun d => d.parameters.length) = some 1 := by decide +kernel
set_option maxRecDepth 100000 in
set_option maxHeartbeats 4000000 in
theorem tX9_takesOne {l : Launch} {G : va_G} {L : List Nat} {ad : Nat → Nat} {cs : Nat → ClassId} {z : Bool} {zk zv : Nat → Nat} (hinj : inj L ad) (hm : isM L) (x1 : Int32)  (M : Mm) (r : Int32) (M' : Mm) (h : fX9_takesOne x1 M = some (r, M')) : Met l yX9_takesOne (tgW yX9_takesOne cX9_takesOne 3 (some .int)) rmX9_takesOne (APre G L ad cs z zk zv [.ref (ad 338), .int x1] M) (AQi G L ad cs r M') 0 0 (inA L ad) := by
  refine met_of (Eq.refl true) (Nat.le_of_ble_eq_true rfl) hinj [some (.ref (ad 338)), some (.int x1), none] rfl ?_
  intro p e s m below meth c F
  replace F : Fx G L ad cs z zk zv p m meth c cX9_takesOne 3 (some .int) s _ RX9 := F
  unfold fX9_takesOne at h
  refine ax_aload_n F dX9_takesOne_0 rfl ?_
  refine ax_get (v := .ref (ad 343)) F (ob_338 hm) rfl inGX9 10 (by decide) rfl kf_X9_23 rfl dX9_takesOne_1 ?_
  refine ax_bipush (v := (8 : Int32)) F dX9_takesOne_4 (by decide) ?_
  refine ax_iload_n F dX9_takesOne_6 rfl ?_
  refine ax_imul F dX9_takesOne_7 ?_
  obtain ⟨hg, h⟩ := gd_some0 h
  refine ax_iald F (ar_343 hm) hg dX9_takesOne_8 ?_
  refine ax_istore_n F dX9_takesOne_9 (by decide) rfl ?_
  refine ax_aload_n F dX9_takesOne_10 rfl ?_
  refine ax_iload_n F dX9_takesOne_11 rfl ?_
  obtain ⟨r1, M1, hq1, h⟩ := cq_some0 h
  refine ax_callVv (As := [.int x1]) (st := []) F (tX9_goesOn F.2.2.2.2.2.2.1 hm _  _ _ _ hq1) (ob_338 hm) rfl kc_X9_goesOn kz_X9 ki_X9_goesOn ks_X9_goesOn km_X9_233 ⟨kn_X9_goesOn, rfl, rfl, Nat.le_of_ble_eq_true rfl, Nat.le_of_ble_eq_true rfl⟩ rfl (Nat.le_of_ble_eq_true rfl) dX9_takesOne_12 ?_
  refine ax_aload_n F dX9_takesOne_15 rfl ?_
  refine ax_get (v := .ref (ad 342)) F (ob_338 hm) rfl inGX9 9 (by decide) rfl kf_X9_20 rfl dX9_takesOne_16 ?_
  refine ax_iload_n F dX9_takesOne_19 rfl ?_
  refine ax_dup2 F dX9_takesOne_20 rfl rfl ?_
  obtain ⟨hg, h⟩ := gd_some0 h
  refine ax_iald F (ar_342 hm) hg dX9_takesOne_21 ?_
  refine ax_iconst (v := (1 : Int32)) F dX9_takesOne_22 (by decide) ?_
  refine ax_isub F dX9_takesOne_23 ?_
  obtain ⟨hg, h⟩ := gd_some0 h
  refine ax_iast F (ar_342 hm) hg dX9_takesOne_24 ?_
  refine ax_iload_n F dX9_takesOne_25 rfl ?_
  obtain ⟨h1, h2⟩ := rt_some0 h
  subst h1; subst h2
  exact ax_iret F dX9_takesOne_26
def rmX9_step : Room := { frames := 2, cells := 0, slots := 0, locals := 45 }
theorem kn_X9_step : yX9_step.cls ≠ "java/lang/invoke/MethodHandle" ∧ yX9_step.cls ≠ "java/lang/invoke/VarHandle" ∧ (parseMethodDescriptor yX9_step.desc).map (fun d => d.parameters.length) = some 2 := by decide +kernel
noncomputable def bX9_step_0 (x1 : Int32) (x2 : Int32) (M : Mm) : Option (Sst ⊕ Rst) := cl (fX9_isRing x1 M) (fun r1 M1 => if r1 = 0 then (some (.inr ((-2 : Int32), M1))) else (cl (fX9_in (x2).toInt64 (0 : Int64) (99 : Int64) M1) (fun r2 M2 => if r2 = 0 then (some (.inr ((-3 : Int32), M2))) else (gd (okI x1 3) (if (1 : Int32) ≤ (M2 342 (ix x1)) then (some (.inl (1, [], [x1, x2, (0 : Int32)], M2))) else (gd (okI x1 3) (if 0 ≤ (M2 342 (ix x1)) then (some (.inr ((-12 : Int32), M2))) else (some (.inr ((-11 : Int32), M2))))))))))
noncomputable def bX9_step_1 (x1 : Int32) (x2 : Int32) (x3 : Int32) (M : Mm) : Option (Sst ⊕ Rst) := if x2 ≤ x3 then (gd (okI ((8 : Int32) * x1) 24) (some (.inr (((M 343 (ix ((8 : Int32) * x1))) + (5000 : Int32)), M)))) else (cl (fX9_goesOn x1 M) (fun r1 M1 => some (.inl (1, [], [x1, x2, (x3 + (1 : Int32))], M1))))
noncomputable def stX9_step : Sst → Option (Sst ⊕ Rst) := fun q => match q.1 with
  | 0 => bX9_step_0 (q.2.2.1.getD 0 0) (q.2.2.1.getD 1 0) q.2.2.2
  | 1 => bX9_step_1 (q.2.2.1.getD 0 0) (q.2.2.1.getD 1 0) (q.2.2.1.getD 2 0) q.2.2.2
  | _ => none
noncomputable def fX9_step (x1 : Int32) (x2 : Int32) (M : Mm) : Option Rst := run stX9_step (0, [], [x1, x2], M)
def PX9_step (p : Program) (l : Launch) (e : Env) (s : State) (m : MethodId) (args : Array Value) (below : List Frame) (meth : Method) (c : Code) (G : va_G) (L : List Nat) (ad : Nat → Nat) (cs : Nat → ClassId) (zk : Nat → Nat) (r : Int32) (M' : Mm) (n : Nat) : Prop := (∀ (x1 : Int32) (x2 : Int32) (M : Mm), itr stX9_step n (0, [], [x1, x2], M) = some (r, M') → AW p l e rmX9_step s m args below meth c (MQ below (AQi G L ad cs r M') args s 0 0 (inA L ad)) G L ad cs 4 0 [some (.ref (ad 338)), some (.int x1), some (.int x2), none] [] M) ∧ (∀ (x1 : Int32) (x2 : Int32) (x3 : Int32) (M : Mm), itr stX9_step n (1, [], [x1, x2, x3], M) = some (r, M') → AW p l e rmX9_step s m args below meth c (MQ below (AQi G L ad cs r M') args s 0 0 (inA L ad)) G L ad cs 4 54 [some (.ref (ad 338)), some (.int x1), some (.int x2), some (.int x3)] [] M)
set_option maxRecDepth 100000 in
set_option maxHeartbeats 4000000 in
theorem wX9_step_0 {p : Program} {l : Launch} {e : Env} {s : State} {m : MethodId} {args : Array Value} {below : List Frame} {meth : Method} {c : Code} {G : va_G} {L : List Nat} {ad : Nat → Nat} {cs : Nat → ClassId} {z : Bool} {zk zv : Nat → Nat} {r : Int32} {M' : Mm} {n : Nat} (F : Fx G L ad cs z zk zv p m meth c cX9_step 4 (some .int) s args RX9) (hm : isM L) (IH : PX9_step p l e s m args below meth c G L ad cs zk r M' n) (x1 : Int32) (x2 : Int32) (M : Mm) (h : (bX9_step_0 x1 x2 M).bind (fun q => match q with | .inl s' => itr stX9_step n s' | .inr r => some r) = some (r, M'))  : AW p l e rmX9_step s m args below meth c (MQ below (AQi G L ad cs r M') args s 0 0 (inA L ad)) G L ad cs 4 0 [some (.ref (ad 338)), some (.int x1), some (.int x2), none] [] M := by
  unfold bX9_step_0 at h
  refine ax_iload_n F dX9_step_0 rfl ?_
  obtain ⟨r1, M1, hq1, h⟩ := cq_some h
  refine ax_callSi (As := [.int x1]) (st := []) F (tX9_isRing F.2.2.2.2.2.2.1 hm _  _ _ _ hq1) kc_X9_isRing kz_X9 kt_X9_isRing km_X9_226 ⟨kn_X9_isRing, rfl, rfl, Nat.le_of_ble_eq_true rfl, Nat.le_of_ble_eq_true rfl⟩ rfl (Nat.le_of_ble_eq_true rfl) dX9_step_1 ?_
  refine ax_if_ne (t := 10) F dX9_step_4 (by decide) (fun hc => ?_) (fun hc => ?_)
  · have h := it_neg h hc
    refine ax_iload_n F dX9_step_10 rfl ?_
    refine ax_i2l F dX9_step_11 ?_
    refine ax_lconst (v := (0 : Int64)) F dX9_step_12 (by decide) ?_
    refine ax_ldc2 (v := (99 : Int64)) F kk_X9_236 dX9_step_13 ?_
    obtain ⟨r2, M2, hq2, h⟩ := cq_some h
    refine ax_callSi (As := [.long (x2).toInt64, .long (0 : Int64), .long (99 : Int64)]) (st := []) F (tX9_in F.2.2.2.2.2.2.1 hm _ _ _  _ _ _ hq2) kc_X9_in kz_X9 kt_X9_in km_X9_66 ⟨kn_X9_in, rfl, rfl, Nat.le_of_ble_eq_true rfl, Nat.le_of_ble_eq_true rfl⟩ rfl (Nat.le_of_ble_eq_true rfl) dX9_step_16 ?_
    refine ax_if_ne (t := 25) F dX9_step_19 (by decide) (fun hc => ?_) (fun hc => ?_)
    · have h := it_neg h hc
      refine ax_aload_n F dX9_step_25 rfl ?_
      refine ax_get (v := .ref (ad 342)) F (ob_338 hm) rfl inGX9 9 (by decide) rfl kf_X9_20 rfl dX9_step_26 ?_
      refine ax_iload_n F dX9_step_29 rfl ?_
      obtain ⟨hg, h⟩ := gd_some h
      refine ax_iald F (ar_342 hm) hg dX9_step_30 ?_
      refine ax_iconst (v := (1 : Int32)) F dX9_step_31 (by decide) ?_
      refine ax_icmp_ge (t := 52) F dX9_step_32 (by decide) (fun hc => ?_) (fun hc => ?_)
      · have h := it_pos h hc
        refine ax_iconst (v := (0 : Int32)) F dX9_step_52 (by decide) ?_
        refine ax_istore_n F dX9_step_53 (by decide) rfl ?_
        exact IH.2 _ _ _ _ h 
      · have h := it_neg h hc
        refine ax_aload_n F dX9_step_35 rfl ?_
        refine ax_get (v := .ref (ad 342)) F (ob_338 hm) rfl inGX9 9 (by decide) rfl kf_X9_20 rfl dX9_step_36 ?_
        refine ax_iload_n F dX9_step_39 rfl ?_
        obtain ⟨hg, h⟩ := gd_some h
        refine ax_iald F (ar_342 hm) hg dX9_step_40 ?_
        refine ax_if_ge (t := 49) F dX9_step_41 (by decide) (fun hc => ?_) (fun hc => ?_)
        · have h := it_pos h hc
          refine ax_bipush (v := (-12 : Int32)) F dX9_step_49 (by decide) ?_
          obtain ⟨h1, h2⟩ := rt_some h
          subst h1; subst h2
          exact ax_iret F dX9_step_51
        · have h := it_neg h hc
          refine ax_bipush (v := (-11 : Int32)) F dX9_step_44 (by decide) ?_
          refine ax_goto (t := 51) F dX9_step_46 (by decide) ?_
          obtain ⟨h1, h2⟩ := rt_some h
          subst h1; subst h2
          exact ax_iret F dX9_step_51
    · have h := it_pos h hc
      refine ax_bipush (v := (-3 : Int32)) F dX9_step_22 (by decide) ?_
      obtain ⟨h1, h2⟩ := rt_some h
      subst h1; subst h2
      exact ax_iret F dX9_step_24
  · have h := it_pos h hc
    refine ax_bipush (v := (-2 : Int32)) F dX9_step_7 (by decide) ?_
    obtain ⟨h1, h2⟩ := rt_some h
    subst h1; subst h2
    exact ax_iret F dX9_step_9
set_option maxRecDepth 100000 in
set_option maxHeartbeats 4000000 in
theorem wX9_step_1 {p : Program} {l : Launch} {e : Env} {s : State} {m : MethodId} {args : Array Value} {below : List Frame} {meth : Method} {c : Code} {G : va_G} {L : List Nat} {ad : Nat → Nat} {cs : Nat → ClassId} {z : Bool} {zk zv : Nat → Nat} {r : Int32} {M' : Mm} {n : Nat} (F : Fx G L ad cs z zk zv p m meth c cX9_step 4 (some .int) s args RX9) (hm : isM L) (IH : PX9_step p l e s m args below meth c G L ad cs zk r M' n) (x1 : Int32) (x2 : Int32) (x3 : Int32) (M : Mm) (h : (bX9_step_1 x1 x2 x3 M).bind (fun q => match q with | .inl s' => itr stX9_step n s' | .inr r => some r) = some (r, M'))  : AW p l e rmX9_step s m args below meth c (MQ below (AQi G L ad cs r M') args s 0 0 (inA L ad)) G L ad cs 4 54 [some (.ref (ad 338)), some (.int x1), some (.int x2), some (.int x3)] [] M := by
  unfold bX9_step_1 at h
  refine ax_iload_n F dX9_step_54 rfl ?_
  refine ax_iload_n F dX9_step_55 rfl ?_
  refine ax_icmp_ge (t := 70) F dX9_step_56 (by decide) (fun hc => ?_) (fun hc => ?_)
  · have h := it_pos h hc
    refine ax_aload_n F dX9_step_70 rfl ?_
    refine ax_get (v := .ref (ad 343)) F (ob_338 hm) rfl inGX9 10 (by decide) rfl kf_X9_23 rfl dX9_step_71 ?_
    refine ax_bipush (v := (8 : Int32)) F dX9_step_74 (by decide) ?_
    refine ax_iload_n F dX9_step_76 rfl ?_
    refine ax_imul F dX9_step_77 ?_
    obtain ⟨hg, h⟩ := gd_some h
    refine ax_iald F (ar_343 hm) hg dX9_step_78 ?_
    refine ax_sipush (v := (5000 : Int32)) F dX9_step_79 (by decide) ?_
    refine ax_iadd F dX9_step_82 ?_
    obtain ⟨h1, h2⟩ := rt_some h
    subst h1; subst h2
    exact ax_iret F dX9_step_83
  · have h := it_neg h hc
    refine ax_aload_n F dX9_step_59 rfl ?_
    refine ax_iload_n F dX9_step_60 rfl ?_
    obtain ⟨r1, M1, hq1, h⟩ := cq_some h
    refine ax_callVv (As := [.int x1]) (st := []) F (tX9_goesOn F.2.2.2.2.2.2.1 hm _  _ _ _ hq1) (ob_338 hm) rfl kc_X9_goesOn kz_X9 ki_X9_goesOn ks_X9_goesOn km_X9_233 ⟨kn_X9_goesOn, rfl, rfl, Nat.le_of_ble_eq_true rfl, Nat.le_of_ble_eq_true rfl⟩ rfl (Nat.le_of_ble_eq_true rfl) dX9_step_61 ?_
    refine ax_iinc (v := (1 : Int32)) F dX9_step_64 rfl (by decide) (by decide) rfl ?_
    refine ax_goto (t := 54) F dX9_step_67 (by decide) ?_
    exact IH.2 _ _ _ _ h 
set_option maxRecDepth 100000 in
set_option maxHeartbeats 4000000 in
theorem wX9_step {p : Program} {l : Launch} {e : Env} {s : State} {m : MethodId} {args : Array Value} {below : List Frame} {meth : Method} {c : Code} {G : va_G} {L : List Nat} {ad : Nat → Nat} {cs : Nat → ClassId} {z : Bool} {zk zv : Nat → Nat} {r : Int32} {M' : Mm} (F : Fx G L ad cs z zk zv p m meth c cX9_step 4 (some .int) s args RX9) (hm : isM L) (n : Nat) : PX9_step p l e s m args below meth c G L ad cs zk r M' n := by
  induction n with
  | zero => exact ⟨(fun x1 x2 M h => by cases h), (fun x1 x2 x3 M h => by cases h)⟩
  | succ n ih =>
    exact ⟨fun x1 x2 M h  => wX9_step_0 F hm ih x1 x2 M h ,
      fun x1 x2 x3 M h  => wX9_step_1 F hm ih x1 x2 x3 M h ⟩
set_option maxRecDepth 100000 in
set_option maxHeartbeats 4000000 in
theorem tX9_step {l : Launch} {G : va_G} {L : List Nat} {ad : Nat → Nat} {cs : Nat → ClassId} {z : Bool} {zk zv : Nat → Nat} (hinj : inj L ad) (hm : isM L) (x1 : Int32) (x2 : Int32)  (M : Mm) (r : Int32) (M' : Mm) (h : fX9_step x1 x2 M = some (r, M')) : Met l yX9_step (tgW yX9_step cX9_step 4 (some .int)) rmX9_step (APre G L ad cs z zk zv [.ref (ad 338), .int x1, .int x2] M) (AQi G L ad cs r M') 0 0 (inA L ad) := by
  refine met_of (Eq.refl true) (Nat.le_of_ble_eq_true rfl) hinj [some (.ref (ad 338)), some (.int x1), some (.int x2), none] rfl ?_
  intro p e s m below meth c F
  replace F : Fx G L ad cs z zk zv p m meth c cX9_step 4 (some .int) s _ RX9 := F
  obtain ⟨n, hn⟩ := run_ex h
  exact (wX9_step F hm n).1 x1 x2 M hn 
noncomputable def fX9_take (x1 : Int32) (M : Mm) : Option Rst := cl (fX9_isRing x1 M) (fun r1 M1 => if r1 = 0 then (some ((-2 : Int32), M1)) else (gd (okI x1 3) (if 0 ≤ (M1 342 (ix x1)) then (gd (okI x1 3) (if (M1 342 (ix x1)) = 0 then (some ((-12 : Int32), M1)) else (cl (fX9_takesOne x1 M1) (fun r2 M2 => some ((r2 + (5000 : Int32)), M2))))) else (some ((-11 : Int32), M1)))))
def rmX9_take : Room := { frames := 2, cells := 0, slots := 0, locals := 45 }
theorem kn_X9_take : yX9_take.cls ≠ "java/lang/invoke/MethodHandle" ∧ yX9_take.cls ≠ "java/lang/invoke/VarHandle" ∧ (parseMethodDescriptor yX9_take.desc).map (fun d => d.parameters.length) = some 1 := by decide +kernel
set_option maxRecDepth 100000 in
set_option maxHeartbeats 4000000 in
theorem tX9_take {l : Launch} {G : va_G} {L : List Nat} {ad : Nat → Nat} {cs : Nat → ClassId} {z : Bool} {zk zv : Nat → Nat} (hinj : inj L ad) (hm : isM L) (x1 : Int32)  (M : Mm) (r : Int32) (M' : Mm) (h : fX9_take x1 M = some (r, M')) : Met l yX9_take (tgW yX9_take cX9_take 2 (some .int)) rmX9_take (APre G L ad cs z zk zv [.ref (ad 338), .int x1] M) (AQi G L ad cs r M') 0 0 (inA L ad) := by
  refine met_of (Eq.refl true) (Nat.le_of_ble_eq_true rfl) hinj [some (.ref (ad 338)), some (.int x1)] rfl ?_
  intro p e s m below meth c F
  replace F : Fx G L ad cs z zk zv p m meth c cX9_take 2 (some .int) s _ RX9 := F
  unfold fX9_take at h
  refine ax_iload_n F dX9_take_0 rfl ?_
  obtain ⟨r1, M1, hq1, h⟩ := cq_some0 h
  refine ax_callSi (As := [.int x1]) (st := []) F (tX9_isRing F.2.2.2.2.2.2.1 hm _  _ _ _ hq1) kc_X9_isRing kz_X9 kt_X9_isRing km_X9_226 ⟨kn_X9_isRing, rfl, rfl, Nat.le_of_ble_eq_true rfl, Nat.le_of_ble_eq_true rfl⟩ rfl (Nat.le_of_ble_eq_true rfl) dX9_take_1 ?_
  refine ax_if_ne (t := 12) F dX9_take_4 (by decide) (fun hc => ?_) (fun hc => ?_)
  · have h := it_neg0 h hc
    refine ax_aload_n F dX9_take_12 rfl ?_
    refine ax_get (v := .ref (ad 342)) F (ob_338 hm) rfl inGX9 9 (by decide) rfl kf_X9_20 rfl dX9_take_13 ?_
    refine ax_iload_n F dX9_take_16 rfl ?_
    obtain ⟨hg, h⟩ := gd_some0 h
    refine ax_iald F (ar_342 hm) hg dX9_take_17 ?_
    refine ax_if_ge (t := 26) F dX9_take_18 (by decide) (fun hc => ?_) (fun hc => ?_)
    · have h := it_pos0 h hc
      refine ax_aload_n F dX9_take_26 rfl ?_
      refine ax_get (v := .ref (ad 342)) F (ob_338 hm) rfl inGX9 9 (by decide) rfl kf_X9_20 rfl dX9_take_27 ?_
      refine ax_iload_n F dX9_take_30 rfl ?_
      obtain ⟨hg, h⟩ := gd_some0 h
      refine ax_iald F (ar_342 hm) hg dX9_take_31 ?_
      refine ax_if_ne (t := 40) F dX9_take_32 (by decide) (fun hc => ?_) (fun hc => ?_)
      · have h := it_neg0 h hc
        refine ax_aload_n F dX9_take_40 rfl ?_
        refine ax_iload_n F dX9_take_41 rfl ?_
        obtain ⟨r2, M2, hq2, h⟩ := cq_some0 h
        refine ax_callVi (As := [.int x1]) (st := []) F (tX9_takesOne F.2.2.2.2.2.2.1 hm _  _ _ _ hq2) (ob_338 hm) rfl kc_X9_takesOne kz_X9 ki_X9_takesOne ks_X9_takesOne km_X9_238 ⟨kn_X9_takesOne, rfl, rfl, Nat.le_of_ble_eq_true rfl, Nat.le_of_ble_eq_true rfl⟩ rfl (Nat.le_of_ble_eq_true rfl) dX9_take_42 ?_
        refine ax_sipush (v := (5000 : Int32)) F dX9_take_45 (by decide) ?_
        refine ax_iadd F dX9_take_48 ?_
        obtain ⟨h1, h2⟩ := rt_some0 h
        subst h1; subst h2
        exact ax_iret F dX9_take_49
      · have h := it_pos0 h hc
        refine ax_bipush (v := (-12 : Int32)) F dX9_take_35 (by decide) ?_
        refine ax_goto (t := 49) F dX9_take_37 (by decide) ?_
        obtain ⟨h1, h2⟩ := rt_some0 h
        subst h1; subst h2
        exact ax_iret F dX9_take_49
    · have h := it_neg0 h hc
      refine ax_bipush (v := (-11 : Int32)) F dX9_take_21 (by decide) ?_
      refine ax_goto (t := 49) F dX9_take_23 (by decide) ?_
      obtain ⟨h1, h2⟩ := rt_some0 h
      subst h1; subst h2
      exact ax_iret F dX9_take_49
  · have h := it_pos0 h hc
    refine ax_bipush (v := (-2 : Int32)) F dX9_take_7 (by decide) ?_
    refine ax_goto (t := 49) F dX9_take_9 (by decide) ?_
    obtain ⟨h1, h2⟩ := rt_some0 h
    subst h1; subst h2
    exact ax_iret F dX9_take_49
def rmX9_count : Room := { frames := 2, cells := 0, slots := 0, locals := 45 }
theorem kn_X9_count : yX9_count.cls ≠ "java/lang/invoke/MethodHandle" ∧ yX9_count.cls ≠ "java/lang/invoke/VarHandle" ∧ (parseMethodDescriptor yX9_count.desc).map (fun d => d.parameters.length) = some 2 := by decide +kernel
noncomputable def bX9_count_0 (x1 : Int32) (x2 : Int32) (M : Mm) : Option (Sst ⊕ Rst) := cl (fX9_isRing x1 M) (fun r1 M1 => if r1 = 0 then (some (.inr ((-2 : Int32), M1))) else (cl (fX9_in (x2).toInt64 (1 : Int64) (9 : Int64) M1) (fun r2 M2 => if r2 = 0 then (some (.inr ((-3 : Int32), M2))) else (gd (okI x1 3) (if (1 : Int32) ≤ (M2 342 (ix x1)) then (some (.inl (1, [], [x1, x2], M2))) else (gd (okI x1 3) (if 0 ≤ (M2 342 (ix x1)) then (some (.inr ((-12 : Int32), M2))) else (some (.inr ((-11 : Int32), M2))))))))))
noncomputable def bX9_count_1 (x1 : Int32) (x2 : Int32) (M : Mm) : Option (Sst ⊕ Rst) := gd (okI x1 3) (if (M 342 (ix x1)) ≤ (1 : Int32) then (gd (okI ((8 : Int32) * x1) 24) (some (.inr (((M 343 (ix ((8 : Int32) * x1))) + (5000 : Int32)), M)))) else (some (.inl (2, [], [x1, x2, (0 : Int32)], M))))
noncomputable def bX9_count_2 (x1 : Int32) (x2 : Int32) (x3 : Int32) (M : Mm) : Option (Sst ⊕ Rst) := if x2 ≤ x3 then (cl (fX9_takesOne x1 M) (fun r1 M1 => some (.inl (1, [], [x1, x2], M1)))) else (cl (fX9_goesOn x1 M) (fun r2 M2 => some (.inl (2, [], [x1, x2, (x3 + (1 : Int32))], M2))))
noncomputable def stX9_count : Sst → Option (Sst ⊕ Rst) := fun q => match q.1 with
  | 0 => bX9_count_0 (q.2.2.1.getD 0 0) (q.2.2.1.getD 1 0) q.2.2.2
  | 1 => bX9_count_1 (q.2.2.1.getD 0 0) (q.2.2.1.getD 1 0) q.2.2.2
  | 2 => bX9_count_2 (q.2.2.1.getD 0 0) (q.2.2.1.getD 1 0) (q.2.2.1.getD 2 0) q.2.2.2
  | _ => none
noncomputable def fX9_count (x1 : Int32) (x2 : Int32) (M : Mm) : Option Rst := run stX9_count (0, [], [x1, x2], M)
def PX9_count (p : Program) (l : Launch) (e : Env) (s : State) (m : MethodId) (args : Array Value) (below : List Frame) (meth : Method) (c : Code) (G : va_G) (L : List Nat) (ad : Nat → Nat) (cs : Nat → ClassId) (zk : Nat → Nat) (r : Int32) (M' : Mm) (n : Nat) : Prop := (∀ (x1 : Int32) (x2 : Int32) (M : Mm), itr stX9_count n (0, [], [x1, x2], M) = some (r, M') → AW p l e rmX9_count s m args below meth c (MQ below (AQi G L ad cs r M') args s 0 0 (inA L ad)) G L ad cs 4 0 [some (.ref (ad 338)), some (.int x1), some (.int x2), none] [] M) ∧ (∀ (x1 : Int32) (x2 : Int32) (M : Mm), itr stX9_count n (1, [], [x1, x2], M) = some (r, M') → AW p l e rmX9_count s m args below meth c (MQ below (AQi G L ad cs r M') args s 0 0 (inA L ad)) G L ad cs 4 52 [some (.ref (ad 338)), some (.int x1), some (.int x2), none] [] M) ∧ (∀ (x1 : Int32) (x2 : Int32) (x3 : Int32) (M : Mm), itr stX9_count n (2, [], [x1, x2, x3], M) = some (r, M') → AW p l e rmX9_count s m args below meth c (MQ below (AQi G L ad cs r M') args s 0 0 (inA L ad)) G L ad cs 4 64 [some (.ref (ad 338)), some (.int x1), some (.int x2), some (.int x3)] [] M)
set_option maxRecDepth 100000 in
set_option maxHeartbeats 4000000 in
theorem wX9_count_0 {p : Program} {l : Launch} {e : Env} {s : State} {m : MethodId} {args : Array Value} {below : List Frame} {meth : Method} {c : Code} {G : va_G} {L : List Nat} {ad : Nat → Nat} {cs : Nat → ClassId} {z : Bool} {zk zv : Nat → Nat} {r : Int32} {M' : Mm} {n : Nat} (F : Fx G L ad cs z zk zv p m meth c cX9_count 4 (some .int) s args RX9) (hm : isM L) (IH : PX9_count p l e s m args below meth c G L ad cs zk r M' n) (x1 : Int32) (x2 : Int32) (M : Mm) (h : (bX9_count_0 x1 x2 M).bind (fun q => match q with | .inl s' => itr stX9_count n s' | .inr r => some r) = some (r, M'))  : AW p l e rmX9_count s m args below meth c (MQ below (AQi G L ad cs r M') args s 0 0 (inA L ad)) G L ad cs 4 0 [some (.ref (ad 338)), some (.int x1), some (.int x2), none] [] M := by
  unfold bX9_count_0 at h
  refine ax_iload_n F dX9_count_0 rfl ?_
  obtain ⟨r1, M1, hq1, h⟩ := cq_some h
  refine ax_callSi (As := [.int x1]) (st := []) F (tX9_isRing F.2.2.2.2.2.2.1 hm _  _ _ _ hq1) kc_X9_isRing kz_X9 kt_X9_isRing km_X9_226 ⟨kn_X9_isRing, rfl, rfl, Nat.le_of_ble_eq_true rfl, Nat.le_of_ble_eq_true rfl⟩ rfl (Nat.le_of_ble_eq_true rfl) dX9_count_1 ?_
  refine ax_if_ne (t := 10) F dX9_count_4 (by decide) (fun hc => ?_) (fun hc => ?_)
  · have h := it_neg h hc
    refine ax_iload_n F dX9_count_10 rfl ?_
    refine ax_i2l F dX9_count_11 ?_
    refine ax_lconst (v := (1 : Int64)) F dX9_count_12 (by decide) ?_
    refine ax_ldc2 (v := (9 : Int64)) F kk_X9_241 dX9_count_13 ?_
    obtain ⟨r2, M2, hq2, h⟩ := cq_some h
    refine ax_callSi (As := [.long (x2).toInt64, .long (1 : Int64), .long (9 : Int64)]) (st := []) F (tX9_in F.2.2.2.2.2.2.1 hm _ _ _  _ _ _ hq2) kc_X9_in kz_X9 kt_X9_in km_X9_66 ⟨kn_X9_in, rfl, rfl, Nat.le_of_ble_eq_true rfl, Nat.le_of_ble_eq_true rfl⟩ rfl (Nat.le_of_ble_eq_true rfl) dX9_count_16 ?_
    refine ax_if_ne (t := 25) F dX9_count_19 (by decide) (fun hc => ?_) (fun hc => ?_)
    · have h := it_neg h hc
      refine ax_aload_n F dX9_count_25 rfl ?_
      refine ax_get (v := .ref (ad 342)) F (ob_338 hm) rfl inGX9 9 (by decide) rfl kf_X9_20 rfl dX9_count_26 ?_
      refine ax_iload_n F dX9_count_29 rfl ?_
      obtain ⟨hg, h⟩ := gd_some h
      refine ax_iald F (ar_342 hm) hg dX9_count_30 ?_
      refine ax_iconst (v := (1 : Int32)) F dX9_count_31 (by decide) ?_
      refine ax_icmp_ge (t := 52) F dX9_count_32 (by decide) (fun hc => ?_) (fun hc => ?_)
      · have h := it_pos h hc
        exact IH.2.1 _ _ _ h 
      · have h := it_neg h hc
        refine ax_aload_n F dX9_count_35 rfl ?_
        refine ax_get (v := .ref (ad 342)) F (ob_338 hm) rfl inGX9 9 (by decide) rfl kf_X9_20 rfl dX9_count_36 ?_
        refine ax_iload_n F dX9_count_39 rfl ?_
        obtain ⟨hg, h⟩ := gd_some h
        refine ax_iald F (ar_342 hm) hg dX9_count_40 ?_
        refine ax_if_ge (t := 49) F dX9_count_41 (by decide) (fun hc => ?_) (fun hc => ?_)
        · have h := it_pos h hc
          refine ax_bipush (v := (-12 : Int32)) F dX9_count_49 (by decide) ?_
          obtain ⟨h1, h2⟩ := rt_some h
          subst h1; subst h2
          exact ax_iret F dX9_count_51
        · have h := it_neg h hc
          refine ax_bipush (v := (-11 : Int32)) F dX9_count_44 (by decide) ?_
          refine ax_goto (t := 51) F dX9_count_46 (by decide) ?_
          obtain ⟨h1, h2⟩ := rt_some h
          subst h1; subst h2
          exact ax_iret F dX9_count_51
    · have h := it_pos h hc
      refine ax_bipush (v := (-3 : Int32)) F dX9_count_22 (by decide) ?_
      obtain ⟨h1, h2⟩ := rt_some h
      subst h1; subst h2
      exact ax_iret F dX9_count_24
  · have h := it_pos h hc
    refine ax_bipush (v := (-2 : Int32)) F dX9_count_7 (by decide) ?_
    obtain ⟨h1, h2⟩ := rt_some h
    subst h1; subst h2
    exact ax_iret F dX9_count_9
set_option maxRecDepth 100000 in
set_option maxHeartbeats 4000000 in
theorem wX9_count_1 {p : Program} {l : Launch} {e : Env} {s : State} {m : MethodId} {args : Array Value} {below : List Frame} {meth : Method} {c : Code} {G : va_G} {L : List Nat} {ad : Nat → Nat} {cs : Nat → ClassId} {z : Bool} {zk zv : Nat → Nat} {r : Int32} {M' : Mm} {n : Nat} (F : Fx G L ad cs z zk zv p m meth c cX9_count 4 (some .int) s args RX9) (hm : isM L) (IH : PX9_count p l e s m args below meth c G L ad cs zk r M' n) (x1 : Int32) (x2 : Int32) (M : Mm) (h : (bX9_count_1 x1 x2 M).bind (fun q => match q with | .inl s' => itr stX9_count n s' | .inr r => some r) = some (r, M'))  : AW p l e rmX9_count s m args below meth c (MQ below (AQi G L ad cs r M') args s 0 0 (inA L ad)) G L ad cs 4 52 [some (.ref (ad 338)), some (.int x1), some (.int x2), none] [] M := by
  unfold bX9_count_1 at h
  refine ax_aload_n F dX9_count_52 rfl ?_
  refine ax_get (v := .ref (ad 342)) F (ob_338 hm) rfl inGX9 9 (by decide) rfl kf_X9_20 rfl dX9_count_53 ?_
  refine ax_iload_n F dX9_count_56 rfl ?_
  obtain ⟨hg, h⟩ := gd_some h
  refine ax_iald F (ar_342 hm) hg dX9_count_57 ?_
  refine ax_iconst (v := (1 : Int32)) F dX9_count_58 (by decide) ?_
  refine ax_icmp_le (t := 89) F dX9_count_59 (by decide) (fun hc => ?_) (fun hc => ?_)
  · have h := it_pos h hc
    refine ax_aload_n F dX9_count_89 rfl ?_
    refine ax_get (v := .ref (ad 343)) F (ob_338 hm) rfl inGX9 10 (by decide) rfl kf_X9_23 rfl dX9_count_90 ?_
    refine ax_bipush (v := (8 : Int32)) F dX9_count_93 (by decide) ?_
    refine ax_iload_n F dX9_count_95 rfl ?_
    refine ax_imul F dX9_count_96 ?_
    obtain ⟨hg, h⟩ := gd_some h
    refine ax_iald F (ar_343 hm) hg dX9_count_97 ?_
    refine ax_sipush (v := (5000 : Int32)) F dX9_count_98 (by decide) ?_
    refine ax_iadd F dX9_count_101 ?_
    obtain ⟨h1, h2⟩ := rt_some h
    subst h1; subst h2
    exact ax_iret F dX9_count_102
  · have h := it_neg h hc
    refine ax_iconst (v := (0 : Int32)) F dX9_count_62 (by decide) ?_
    refine ax_istore_n F dX9_count_63 (by decide) rfl ?_
    exact IH.2.2 _ _ _ _ h 
set_option maxRecDepth 100000 in
set_option maxHeartbeats 4000000 in
theorem wX9_count_2 {p : Program} {l : Launch} {e : Env} {s : State} {m : MethodId} {args : Array Value} {below : List Frame} {meth : Method} {c : Code} {G : va_G} {L : List Nat} {ad : Nat → Nat} {cs : Nat → ClassId} {z : Bool} {zk zv : Nat → Nat} {r : Int32} {M' : Mm} {n : Nat} (F : Fx G L ad cs z zk zv p m meth c cX9_count 4 (some .int) s args RX9) (hm : isM L) (IH : PX9_count p l e s m args below meth c G L ad cs zk r M' n) (x1 : Int32) (x2 : Int32) (x3 : Int32) (M : Mm) (h : (bX9_count_2 x1 x2 x3 M).bind (fun q => match q with | .inl s' => itr stX9_count n s' | .inr r => some r) = some (r, M'))  : AW p l e rmX9_count s m args below meth c (MQ below (AQi G L ad cs r M') args s 0 0 (inA L ad)) G L ad cs 4 64 [some (.ref (ad 338)), some (.int x1), some (.int x2), some (.int x3)] [] M := by
  unfold bX9_count_2 at h
  refine ax_iload_n F dX9_count_64 rfl ?_
  refine ax_iload_n F dX9_count_65 rfl ?_
  refine ax_icmp_ge (t := 80) F dX9_count_66 (by decide) (fun hc => ?_) (fun hc => ?_)
  · have h := it_pos h hc
    refine ax_aload_n F dX9_count_80 rfl ?_
    refine ax_iload_n F dX9_count_81 rfl ?_
    obtain ⟨r1, M1, hq1, h⟩ := cq_some h
    refine ax_callVi (As := [.int x1]) (st := []) F (tX9_takesOne F.2.2.2.2.2.2.1 hm _  _ _ _ hq1) (ob_338 hm) rfl kc_X9_takesOne kz_X9 ki_X9_takesOne ks_X9_takesOne km_X9_238 ⟨kn_X9_takesOne, rfl, rfl, Nat.le_of_ble_eq_true rfl, Nat.le_of_ble_eq_true rfl⟩ rfl (Nat.le_of_ble_eq_true rfl) dX9_count_82 ?_
    refine ax_pop F dX9_count_85 rfl ?_
    refine ax_goto (t := 52) F dX9_count_86 (by decide) ?_
    refine ax_mask [true, true, true, false] ?_
    exact IH.2.1 _ _ _ h 
  · have h := it_neg h hc
    refine ax_aload_n F dX9_count_69 rfl ?_
    refine ax_iload_n F dX9_count_70 rfl ?_
    obtain ⟨r2, M2, hq2, h⟩ := cq_some h
    refine ax_callVv (As := [.int x1]) (st := []) F (tX9_goesOn F.2.2.2.2.2.2.1 hm _  _ _ _ hq2) (ob_338 hm) rfl kc_X9_goesOn kz_X9 ki_X9_goesOn ks_X9_goesOn km_X9_233 ⟨kn_X9_goesOn, rfl, rfl, Nat.le_of_ble_eq_true rfl, Nat.le_of_ble_eq_true rfl⟩ rfl (Nat.le_of_ble_eq_true rfl) dX9_count_71 ?_
    refine ax_iinc (v := (1 : Int32)) F dX9_count_74 rfl (by decide) (by decide) rfl ?_
    refine ax_goto (t := 64) F dX9_count_77 (by decide) ?_
    exact IH.2.2 _ _ _ _ h 
set_option maxRecDepth 100000 in
set_option maxHeartbeats 4000000 in
theorem wX9_count {p : Program} {l : Launch} {e : Env} {s : State} {m : MethodId} {args : Array Value} {below : List Frame} {meth : Method} {c : Code} {G : va_G} {L : List Nat} {ad : Nat → Nat} {cs : Nat → ClassId} {z : Bool} {zk zv : Nat → Nat} {r : Int32} {M' : Mm} (F : Fx G L ad cs z zk zv p m meth c cX9_count 4 (some .int) s args RX9) (hm : isM L) (n : Nat) : PX9_count p l e s m args below meth c G L ad cs zk r M' n := by
  induction n with
  | zero => exact ⟨(fun x1 x2 M h => by cases h), (fun x1 x2 M h => by cases h), (fun x1 x2 x3 M h => by cases h)⟩
  | succ n ih =>
    exact ⟨fun x1 x2 M h  => wX9_count_0 F hm ih x1 x2 M h ,
      fun x1 x2 M h  => wX9_count_1 F hm ih x1 x2 M h ,
      fun x1 x2 x3 M h  => wX9_count_2 F hm ih x1 x2 x3 M h ⟩
set_option maxRecDepth 100000 in
set_option maxHeartbeats 4000000 in
theorem tX9_count {l : Launch} {G : va_G} {L : List Nat} {ad : Nat → Nat} {cs : Nat → ClassId} {z : Bool} {zk zv : Nat → Nat} (hinj : inj L ad) (hm : isM L) (x1 : Int32) (x2 : Int32)  (M : Mm) (r : Int32) (M' : Mm) (h : fX9_count x1 x2 M = some (r, M')) : Met l yX9_count (tgW yX9_count cX9_count 4 (some .int)) rmX9_count (APre G L ad cs z zk zv [.ref (ad 338), .int x1, .int x2] M) (AQi G L ad cs r M') 0 0 (inA L ad) := by
  refine met_of (Eq.refl true) (Nat.le_of_ble_eq_true rfl) hinj [some (.ref (ad 338)), some (.int x1), some (.int x2), none] rfl ?_
  intro p e s m below meth c F
  replace F : Fx G L ad cs z zk zv p m meth c cX9_count 4 (some .int) s _ RX9 := F
  obtain ⟨n, hn⟩ := run_ex h
  exact (wX9_count F hm n).1 x1 x2 M hn 
def rmX9_sum : Room := { frames := 2, cells := 0, slots := 0, locals := 45 }
theorem kn_X9_sum : yX9_sum.cls ≠ "java/lang/invoke/MethodHandle" ∧ yX9_sum.cls ≠ "java/lang/invoke/VarHandle" ∧ (parseMethodDescriptor yX9_sum.desc).map (fun d => d.parameters.length) = some 1 := by decide +kernel
noncomputable def bX9_sum_0 (x1 : Int32) (M : Mm) : Option (Sst ⊕ Rst) := cl (fX9_isRing x1 M) (fun r1 M1 => if r1 = 0 then (some (.inr ((-2 : Int32), M1))) else (gd (okI x1 3) (if 0 ≤ (M1 342 (ix x1)) then (some (.inl (1, [], [x1, (50000 : Int32), (0 : Int32)], M1))) else (some (.inr ((-11 : Int32), M1))))))
noncomputable def bX9_sum_1 (x1 : Int32) (x2 : Int32) (x3 : Int32) (M : Mm) : Option (Sst ⊕ Rst) := gd (okI x1 3) (if (M 342 (ix x1)) ≤ x3 then (some (.inr (x2, M))) else (gd (okI (((8 : Int32) * x1) + x3) 24) (some (.inl (1, [], [x1, (x2 + (M 343 (ix (((8 : Int32) * x1) + x3)))), (x3 + (1 : Int32))], M)))))
noncomputable def stX9_sum : Sst → Option (Sst ⊕ Rst) := fun q => match q.1 with
  | 0 => bX9_sum_0 (q.2.2.1.getD 0 0) q.2.2.2
  | 1 => bX9_sum_1 (q.2.2.1.getD 0 0) (q.2.2.1.getD 1 0) (q.2.2.1.getD 2 0) q.2.2.2
  | _ => none
noncomputable def fX9_sum (x1 : Int32) (M : Mm) : Option Rst := run stX9_sum (0, [], [x1], M)
def PX9_sum (p : Program) (l : Launch) (e : Env) (s : State) (m : MethodId) (args : Array Value) (below : List Frame) (meth : Method) (c : Code) (G : va_G) (L : List Nat) (ad : Nat → Nat) (cs : Nat → ClassId) (zk : Nat → Nat) (r : Int32) (M' : Mm) (n : Nat) : Prop := (∀ (x1 : Int32) (M : Mm), itr stX9_sum n (0, [], [x1], M) = some (r, M') → AW p l e rmX9_sum s m args below meth c (MQ below (AQi G L ad cs r M') args s 0 0 (inA L ad)) G L ad cs 4 0 [some (.ref (ad 338)), some (.int x1), none, none] [] M) ∧ (∀ (x1 : Int32) (x2 : Int32) (x3 : Int32) (M : Mm), itr stX9_sum n (1, [], [x1, x2, x3], M) = some (r, M') → AW p l e rmX9_sum s m args below meth c (MQ below (AQi G L ad cs r M') args s 0 0 (inA L ad)) G L ad cs 4 27 [some (.ref (ad 338)), some (.int x1), some (.int x2), some (.int x3)] [] M)
set_option maxRecDepth 100000 in
set_option maxHeartbeats 4000000 in
theorem wX9_sum_0 {p : Program} {l : Launch} {e : Env} {s : State} {m : MethodId} {args : Array Value} {below : List Frame} {meth : Method} {c : Code} {G : va_G} {L : List Nat} {ad : Nat → Nat} {cs : Nat → ClassId} {z : Bool} {zk zv : Nat → Nat} {r : Int32} {M' : Mm} {n : Nat} (F : Fx G L ad cs z zk zv p m meth c cX9_sum 4 (some .int) s args RX9) (hm : isM L) (IH : PX9_sum p l e s m args below meth c G L ad cs zk r M' n) (x1 : Int32) (M : Mm) (h : (bX9_sum_0 x1 M).bind (fun q => match q with | .inl s' => itr stX9_sum n s' | .inr r => some r) = some (r, M'))  : AW p l e rmX9_sum s m args below meth c (MQ below (AQi G L ad cs r M') args s 0 0 (inA L ad)) G L ad cs 4 0 [some (.ref (ad 338)), some (.int x1), none, none] [] M := by
  unfold bX9_sum_0 at h
  refine ax_iload_n F dX9_sum_0 rfl ?_
  obtain ⟨r1, M1, hq1, h⟩ := cq_some h
  refine ax_callSi (As := [.int x1]) (st := []) F (tX9_isRing F.2.2.2.2.2.2.1 hm _  _ _ _ hq1) kc_X9_isRing kz_X9 kt_X9_isRing km_X9_226 ⟨kn_X9_isRing, rfl, rfl, Nat.le_of_ble_eq_true rfl, Nat.le_of_ble_eq_true rfl⟩ rfl (Nat.le_of_ble_eq_true rfl) dX9_sum_1 ?_
  refine ax_if_ne (t := 10) F dX9_sum_4 (by decide) (fun hc => ?_) (fun hc => ?_)
  · have h := it_neg h hc
    refine ax_aload_n F dX9_sum_10 rfl ?_
    refine ax_get (v := .ref (ad 342)) F (ob_338 hm) rfl inGX9 9 (by decide) rfl kf_X9_20 rfl dX9_sum_11 ?_
    refine ax_iload_n F dX9_sum_14 rfl ?_
    obtain ⟨hg, h⟩ := gd_some h
    refine ax_iald F (ar_342 hm) hg dX9_sum_15 ?_
    refine ax_if_ge (t := 22) F dX9_sum_16 (by decide) (fun hc => ?_) (fun hc => ?_)
    · have h := it_pos h hc
      refine ax_ldc (v := (50000 : Int32)) F kk_X9_243 dX9_sum_22 ?_
      refine ax_istore_n F dX9_sum_24 (by decide) rfl ?_
      refine ax_iconst (v := (0 : Int32)) F dX9_sum_25 (by decide) ?_
      refine ax_istore_n F dX9_sum_26 (by decide) rfl ?_
      exact IH.2 _ _ _ _ h 
    · have h := it_neg h hc
      refine ax_bipush (v := (-11 : Int32)) F dX9_sum_19 (by decide) ?_
      obtain ⟨h1, h2⟩ := rt_some h
      subst h1; subst h2
      exact ax_iret F dX9_sum_21
  · have h := it_pos h hc
    refine ax_bipush (v := (-2 : Int32)) F dX9_sum_7 (by decide) ?_
    obtain ⟨h1, h2⟩ := rt_some h
    subst h1; subst h2
    exact ax_iret F dX9_sum_9
set_option maxRecDepth 100000 in
set_option maxHeartbeats 4000000 in
theorem wX9_sum_1 {p : Program} {l : Launch} {e : Env} {s : State} {m : MethodId} {args : Array Value} {below : List Frame} {meth : Method} {c : Code} {G : va_G} {L : List Nat} {ad : Nat → Nat} {cs : Nat → ClassId} {z : Bool} {zk zv : Nat → Nat} {r : Int32} {M' : Mm} {n : Nat} (F : Fx G L ad cs z zk zv p m meth c cX9_sum 4 (some .int) s args RX9) (hm : isM L) (IH : PX9_sum p l e s m args below meth c G L ad cs zk r M' n) (x1 : Int32) (x2 : Int32) (x3 : Int32) (M : Mm) (h : (bX9_sum_1 x1 x2 x3 M).bind (fun q => match q with | .inl s' => itr stX9_sum n s' | .inr r => some r) = some (r, M'))  : AW p l e rmX9_sum s m args below meth c (MQ below (AQi G L ad cs r M') args s 0 0 (inA L ad)) G L ad cs 4 27 [some (.ref (ad 338)), some (.int x1), some (.int x2), some (.int x3)] [] M := by
  unfold bX9_sum_1 at h
  refine ax_iload_n F dX9_sum_27 rfl ?_
  refine ax_aload_n F dX9_sum_28 rfl ?_
  refine ax_get (v := .ref (ad 342)) F (ob_338 hm) rfl inGX9 9 (by decide) rfl kf_X9_20 rfl dX9_sum_29 ?_
  refine ax_iload_n F dX9_sum_32 rfl ?_
  obtain ⟨hg, h⟩ := gd_some h
  refine ax_iald F (ar_342 hm) hg dX9_sum_33 ?_
  refine ax_icmp_ge (t := 57) F dX9_sum_34 (by decide) (fun hc => ?_) (fun hc => ?_)
  · have h := it_pos h hc
    refine ax_iload_n F dX9_sum_57 rfl ?_
    obtain ⟨h1, h2⟩ := rt_some h
    subst h1; subst h2
    exact ax_iret F dX9_sum_58
  · have h := it_neg h hc
    refine ax_iload_n F dX9_sum_37 rfl ?_
    refine ax_aload_n F dX9_sum_38 rfl ?_
    refine ax_get (v := .ref (ad 343)) F (ob_338 hm) rfl inGX9 10 (by decide) rfl kf_X9_23 rfl dX9_sum_39 ?_
    refine ax_bipush (v := (8 : Int32)) F dX9_sum_42 (by decide) ?_
    refine ax_iload_n F dX9_sum_44 rfl ?_
    refine ax_imul F dX9_sum_45 ?_
    refine ax_iload_n F dX9_sum_46 rfl ?_
    refine ax_iadd F dX9_sum_47 ?_
    obtain ⟨hg, h⟩ := gd_some h
    refine ax_iald F (ar_343 hm) hg dX9_sum_48 ?_
    refine ax_iadd F dX9_sum_49 ?_
    refine ax_istore_n F dX9_sum_50 (by decide) rfl ?_
    refine ax_iinc (v := (1 : Int32)) F dX9_sum_51 rfl (by decide) (by decide) rfl ?_
    refine ax_goto (t := 27) F dX9_sum_54 (by decide) ?_
    exact IH.2 _ _ _ _ h 
set_option maxRecDepth 100000 in
set_option maxHeartbeats 4000000 in
theorem wX9_sum {p : Program} {l : Launch} {e : Env} {s : State} {m : MethodId} {args : Array Value} {below : List Frame} {meth : Method} {c : Code} {G : va_G} {L : List Nat} {ad : Nat → Nat} {cs : Nat → ClassId} {z : Bool} {zk zv : Nat → Nat} {r : Int32} {M' : Mm} (F : Fx G L ad cs z zk zv p m meth c cX9_sum 4 (some .int) s args RX9) (hm : isM L) (n : Nat) : PX9_sum p l e s m args below meth c G L ad cs zk r M' n := by
  induction n with
  | zero => exact ⟨(fun x1 M h => by cases h), (fun x1 x2 x3 M h => by cases h)⟩
  | succ n ih =>
    exact ⟨fun x1 M h  => wX9_sum_0 F hm ih x1 M h ,
      fun x1 x2 x3 M h  => wX9_sum_1 F hm ih x1 x2 x3 M h ⟩
set_option maxRecDepth 100000 in
set_option maxHeartbeats 4000000 in
theorem tX9_sum {l : Launch} {G : va_G} {L : List Nat} {ad : Nat → Nat} {cs : Nat → ClassId} {z : Bool} {zk zv : Nat → Nat} (hinj : inj L ad) (hm : isM L) (x1 : Int32)  (M : Mm) (r : Int32) (M' : Mm) (h : fX9_sum x1 M = some (r, M')) : Met l yX9_sum (tgW yX9_sum cX9_sum 4 (some .int)) rmX9_sum (APre G L ad cs z zk zv [.ref (ad 338), .int x1] M) (AQi G L ad cs r M') 0 0 (inA L ad) := by
  refine met_of (Eq.refl true) (Nat.le_of_ble_eq_true rfl) hinj [some (.ref (ad 338)), some (.int x1), none, none] rfl ?_
  intro p e s m below meth c F
  replace F : Fx G L ad cs z zk zv p m meth c cX9_sum 4 (some .int) s _ RX9 := F
  obtain ⟨n, hn⟩ := run_ex h
  exact (wX9_sum F hm n).1 x1 M hn 
noncomputable def fX9_drop (x1 : Int32) (M : Mm) : Option Rst := cl (fX9_isRing x1 M) (fun r1 M1 => if r1 = 0 then (some ((-2 : Int32), M1)) else (gd (okI x1 3) (gd (okI x1 3) (if 0 ≤ (M1 342 (ix x1)) then (some ((M1 342 (ix x1)), (up2 M1 342 (ix x1) (-1 : Int32)))) else (some ((-11 : Int32), (up2 M1 342 (ix x1) (-1 : Int32))))))))
def rmX9_drop : Room := { frames := 2, cells := 0, slots := 0, locals := 45 }
theorem kn_X9_drop : yX9_drop.cls ≠ "java/lang/invoke/MethodHandle" ∧ yX9_drop.cls ≠ "java/lang/invoke/VarHandle" ∧ (parseMethodDescriptor yX9_drop.desc).map (fun d => d.parameters.length) = some 1 := by decide +kernel
set_option maxRecDepth 100000 in
set_option maxHeartbeats 4000000 in
theorem tX9_drop {l : Launch} {G : va_G} {L : List Nat} {ad : Nat → Nat} {cs : Nat → ClassId} {z : Bool} {zk zv : Nat → Nat} (hinj : inj L ad) (hm : isM L) (x1 : Int32)  (M : Mm) (r : Int32) (M' : Mm) (h : fX9_drop x1 M = some (r, M')) : Met l yX9_drop (tgW yX9_drop cX9_drop 3 (some .int)) rmX9_drop (APre G L ad cs z zk zv [.ref (ad 338), .int x1] M) (AQi G L ad cs r M') 0 0 (inA L ad) := by
  refine met_of (Eq.refl true) (Nat.le_of_ble_eq_true rfl) hinj [some (.ref (ad 338)), some (.int x1), none] rfl ?_
  intro p e s m below meth c F
  replace F : Fx G L ad cs z zk zv p m meth c cX9_drop 3 (some .int) s _ RX9 := F
  unfold fX9_drop at h
  refine ax_iload_n F dX9_drop_0 rfl ?_
  obtain ⟨r1, M1, hq1, h⟩ := cq_some0 h
  refine ax_callSi (As := [.int x1]) (st := []) F (tX9_isRing F.2.2.2.2.2.2.1 hm _  _ _ _ hq1) kc_X9_isRing kz_X9 kt_X9_isRing km_X9_226 ⟨kn_X9_isRing, rfl, rfl, Nat.le_of_ble_eq_true rfl, Nat.le_of_ble_eq_true rfl⟩ rfl (Nat.le_of_ble_eq_true rfl) dX9_drop_1 ?_
  refine ax_if_ne (t := 10) F dX9_drop_4 (by decide) (fun hc => ?_) (fun hc => ?_)
  · have h := it_neg0 h hc
    refine ax_aload_n F dX9_drop_10 rfl ?_
    refine ax_get (v := .ref (ad 342)) F (ob_338 hm) rfl inGX9 9 (by decide) rfl kf_X9_20 rfl dX9_drop_11 ?_
    refine ax_iload_n F dX9_drop_14 rfl ?_
    obtain ⟨hg, h⟩ := gd_some0 h
    refine ax_iald F (ar_342 hm) hg dX9_drop_15 ?_
    refine ax_istore_n F dX9_drop_16 (by decide) rfl ?_
    refine ax_aload_n F dX9_drop_17 rfl ?_
    refine ax_get (v := .ref (ad 342)) F (ob_338 hm) rfl inGX9 9 (by decide) rfl kf_X9_20 rfl dX9_drop_18 ?_
    refine ax_iload_n F dX9_drop_21 rfl ?_
    refine ax_iconst (v := (-1 : Int32)) F dX9_drop_22 (by decide) ?_
    obtain ⟨hg, h⟩ := gd_some0 h
    refine ax_iast F (ar_342 hm) hg dX9_drop_23 ?_
    refine ax_iload_n F dX9_drop_24 rfl ?_
    refine ax_if_ge (t := 33) F dX9_drop_25 (by decide) (fun hc => ?_) (fun hc => ?_)
    · have h := it_pos0 h hc
      refine ax_iload_n F dX9_drop_33 rfl ?_
      obtain ⟨h1, h2⟩ := rt_some0 h
      subst h1; subst h2
      exact ax_iret F dX9_drop_34
    · have h := it_neg0 h hc
      refine ax_bipush (v := (-11 : Int32)) F dX9_drop_28 (by decide) ?_
      refine ax_goto (t := 34) F dX9_drop_30 (by decide) ?_
      obtain ⟨h1, h2⟩ := rt_some0 h
      subst h1; subst h2
      exact ax_iret F dX9_drop_34
  · have h := it_pos0 h hc
    refine ax_bipush (v := (-2 : Int32)) F dX9_drop_7 (by decide) ?_
    obtain ⟨h1, h2⟩ := rt_some0 h
    subst h1; subst h2
    exact ax_iret F dX9_drop_9
