noncomputable def fX6_rewind  (M : Mm) : Option Rst := some ((0 : Int32), (up2 M 1 4 (0 : Int32)))
def rmX6_rewind : Room := { frames := 0, cells := 0, slots := 0, locals := 0 }
theorem kn_X6_rewind : yX6_rewind.cls ≠ "java/lang/invoke/MethodHandle" ∧ yX6_rewind.cls ≠ "java/lang/invoke/VarHandle" ∧ (parseMethodDescriptor yX6_rewind.desc).map (fun d => d.parameters.length) = some 0 := by decide +kernel
set_option maxRecDepth 100000 in
set_option maxHeartbeats 4000000 in
theorem tX6_rewind {l : Launch} {G : va_G} {L : List Nat} {ad : Nat → Nat} {cs : Nat → ClassId} {z : Bool} {zk zv : Nat → Nat} (hinj : inj L ad) (hx : isX L)   (M : Mm) (r : Int32) (M' : Mm) (h : fX6_rewind  M = some (r, M')) : Met l yX6_rewind (tgW yX6_rewind cX6_rewind 1 none) rmX6_rewind (APre G L ad cs z zk zv [.ref (ad 1)] M) (AQv G L ad cs M') 0 0 (inA L ad) := by
  refine met_of (Eq.refl true) (Nat.le_of_ble_eq_true rfl) hinj [some (.ref (ad 1))] rfl ?_
  intro p e s m below meth c F
  replace F : Fx G L ad cs z zk zv p m meth c cX6_rewind 1 none s _ RX6 := F
  unfold fX6_rewind at h
  refine ax_aload_n F dX6_rewind_0 rfl ?_
  refine ax_iconst (v := (0 : Int32)) F dX6_rewind_1 (by decide) ?_
  refine ax_put (ty := .int) F (ob_1 hx) rfl inGX6 tyX6 tyX6_ok nmX6 4 (by decide) rfl kf_X6_19 (by decide) rfl rfl (Nat.le_of_ble_eq_true rfl) rfl dX6_rewind_2 ?_
  obtain ⟨h1, h2⟩ := rt_some0 h
  subst h2
  exact ax_vret F dX6_rewind_5
noncomputable def fX6_letterAt (x1 : Int32) (M : Mm) : Option Rst := if x1 < 0 then (some ((-1 : Int32), M)) else (if (M 1 1) ≤ x1 then (some ((-1 : Int32), M)) else (if x1 < (200 : Int32) then (gd (okI x1 200) (some ((M 2 (ix x1)), M))) else (some ((-1 : Int32), M))))
def rmX6_letterAt : Room := { frames := 0, cells := 0, slots := 0, locals := 0 }
theorem kn_X6_letterAt : yX6_letterAt.cls ≠ "java/lang/invoke/MethodHandle" ∧ yX6_letterAt.cls ≠ "java/lang/invoke/VarHandle" ∧ (parseMethodDescriptor yX6_letterAt.desc).map (fun d => d.parameters.length) = some 1 := by decide +kernel
set_option maxRecDepth 100000 in
set_option maxHeartbeats 4000000 in
theorem tX6_letterAt {l : Launch} {G : va_G} {L : List Nat} {ad : Nat → Nat} {cs : Nat → ClassId} {z : Bool} {zk zv : Nat → Nat} (hinj : inj L ad) (hx : isX L) (x1 : Int32)  (M : Mm) (r : Int32) (M' : Mm) (h : fX6_letterAt x1 M = some (r, M')) : Met l yX6_letterAt (tgW yX6_letterAt cX6_letterAt 2 (some .int)) rmX6_letterAt (APre G L ad cs z zk zv [.ref (ad 1), .int x1] M) (AQi G L ad cs r M') 0 0 (inA L ad) := by
  refine met_of (Eq.refl true) (Nat.le_of_ble_eq_true rfl) hinj [some (.ref (ad 1)), some (.int x1)] rfl ?_
  intro p e s m below meth c F
  replace F : Fx G L ad cs z zk zv p m meth c cX6_letterAt 2 (some .int) s _ RX6 := F
  unfold fX6_letterAt at h
  refine ax_iload_n F dX6_letterAt_0 rfl ?_
  refine ax_if_lt (t := 19) F dX6_letterAt_1 (by decide) (fun hc => ?_) (fun hc => ?_)
  · have h := it_pos0 h hc
    refine ax_iconst (v := (-1 : Int32)) F dX6_letterAt_19 (by decide) ?_
    obtain ⟨h1, h2⟩ := rt_some0 h
    subst h1; subst h2
    exact ax_iret F dX6_letterAt_20
  · have h := it_neg0 h hc
    refine ax_iload_n F dX6_letterAt_4 rfl ?_
    refine ax_aload_n F dX6_letterAt_5 rfl ?_
    refine ax_get (v := .int (M 1 1)) F (ob_1 hx) rfl inGX6 1 (by decide) rfl kf_X6_15 rfl dX6_letterAt_6 ?_
    refine ax_icmp_ge (t := 19) F dX6_letterAt_9 (by decide) (fun hc => ?_) (fun hc => ?_)
    · have h := it_pos0 h hc
      refine ax_iconst (v := (-1 : Int32)) F dX6_letterAt_19 (by decide) ?_
      obtain ⟨h1, h2⟩ := rt_some0 h
      subst h1; subst h2
      exact ax_iret F dX6_letterAt_20
    · have h := it_neg0 h hc
      refine ax_iload_n F dX6_letterAt_12 rfl ?_
      refine ax_sipush (v := (200 : Int32)) F dX6_letterAt_13 (by decide) ?_
      refine ax_icmp_lt (t := 21) F dX6_letterAt_16 (by decide) (fun hc => ?_) (fun hc => ?_)
      · have h := it_pos0 h hc
        refine ax_aload_n F dX6_letterAt_21 rfl ?_
        refine ax_get (v := .ref (ad 2)) F (ob_1 hx) rfl inGX6 0 (by decide) rfl kf_X6_9 rfl dX6_letterAt_22 ?_
        refine ax_iload_n F dX6_letterAt_25 rfl ?_
        obtain ⟨hg, h⟩ := gd_some0 h
        refine ax_iald F (ar_2 hx) hg dX6_letterAt_26 ?_
        obtain ⟨h1, h2⟩ := rt_some0 h
        subst h1; subst h2
        exact ax_iret F dX6_letterAt_27
      · have h := it_neg0 h hc
        refine ax_iconst (v := (-1 : Int32)) F dX6_letterAt_19 (by decide) ?_
        obtain ⟨h1, h2⟩ := rt_some0 h
        subst h1; subst h2
        exact ax_iret F dX6_letterAt_20
noncomputable def fX6_kindAt (x1 : Int32) (M : Mm) : Option Rst := cl (fX6_letterAt x1 M) (fun r1 M1 => if r1 = (-1 : Int32) then (some ((0 : Int32), M1)) else (if r1 < (97 : Int32) then (if r1 < (48 : Int32) then (if r1 = (59 : Int32) then (some ((3 : Int32), M1)) else (some ((4 : Int32), M1))) else (if (57 : Int32) < r1 then (if r1 = (59 : Int32) then (some ((3 : Int32), M1)) else (some ((4 : Int32), M1))) else (some ((2 : Int32), M1)))) else (if (122 : Int32) < r1 then (if r1 < (48 : Int32) then (if r1 = (59 : Int32) then (some ((3 : Int32), M1)) else (some ((4 : Int32), M1))) else (if (57 : Int32) < r1 then (if r1 = (59 : Int32) then (some ((3 : Int32), M1)) else (some ((4 : Int32), M1))) else (some ((2 : Int32), M1)))) else (some ((1 : Int32), M1)))))
def rmX6_kindAt : Room := { frames := 1, cells := 0, slots := 0, locals := 21 }
theorem kn_X6_kindAt : yX6_kindAt.cls ≠ "java/lang/invoke/MethodHandle" ∧ yX6_kindAt.cls ≠ "java/lang/invoke/VarHandle" ∧ (parseMethodDescriptor yX6_kindAt.desc).map (fun d => d.parameters.length) = some 1 := by decide +kernel
set_option maxRecDepth 100000 in
set_option maxHeartbeats 4000000 in
theorem tX6_kindAt {l : Launch} {G : va_G} {L : List Nat} {ad : Nat → Nat} {cs : Nat → ClassId} {z : Bool} {zk zv : Nat → Nat} (hinj : inj L ad) (hx : isX L) (x1 : Int32)  (M : Mm) (r : Int32) (M' : Mm) (h : fX6_kindAt x1 M = some (r, M')) : Met l yX6_kindAt (tgW yX6_kindAt cX6_kindAt 3 (some .int)) rmX6_kindAt (APre G L ad cs z zk zv [.ref (ad 1), .int x1] M) (AQi G L ad cs r M') 0 0 (inA L ad) := by
  refine met_of (Eq.refl true) (Nat.le_of_ble_eq_true rfl) hinj [some (.ref (ad 1)), some (.int x1), none] rfl ?_
  intro p e s m below meth c F
  replace F : Fx G L ad cs z zk zv p m meth c cX6_kindAt 3 (some .int) s _ RX6 := F
  unfold fX6_kindAt at h
  refine ax_aload_n F dX6_kindAt_0 rfl ?_
  refine ax_iload_n F dX6_kindAt_1 rfl ?_
  obtain ⟨r1, M1, hq1, h⟩ := cq_some0 h
  refine ax_callVi (As := [.int x1]) (st := []) F (tX6_letterAt F.2.2.2.2.2.2.1 hx _  _ _ _ hq1) (ob_1 hx) rfl kc_X6_letterAt kz_X6 ki_X6_letterAt ks_X6_letterAt km_X6_25 ⟨kn_X6_letterAt, rfl, rfl, Nat.le_of_ble_eq_true rfl, Nat.le_of_ble_eq_true rfl⟩ rfl (Nat.le_of_ble_eq_true rfl) dX6_kindAt_2 ?_
  refine ax_istore_n F dX6_kindAt_5 (by decide) rfl ?_
  refine ax_iload_n F dX6_kindAt_6 rfl ?_
  refine ax_iconst (v := (-1 : Int32)) F dX6_kindAt_7 (by decide) ?_
  refine ax_icmp_ne (t := 13) F dX6_kindAt_8 (by decide) (fun hc => ?_) (fun hc => ?_)
  · have h := it_neg0 h hc
    refine ax_iload_n F dX6_kindAt_13 rfl ?_
    refine ax_bipush (v := (97 : Int32)) F dX6_kindAt_14 (by decide) ?_
    refine ax_icmp_lt (t := 27) F dX6_kindAt_16 (by decide) (fun hc => ?_) (fun hc => ?_)
    · have h := it_pos0 h hc
      refine ax_iload_n F dX6_kindAt_27 rfl ?_
      refine ax_bipush (v := (48 : Int32)) F dX6_kindAt_28 (by decide) ?_
      refine ax_icmp_lt (t := 41) F dX6_kindAt_30 (by decide) (fun hc => ?_) (fun hc => ?_)
      · have h := it_pos0 h hc
        refine ax_iload_n F dX6_kindAt_41 rfl ?_
        refine ax_bipush (v := (59 : Int32)) F dX6_kindAt_42 (by decide) ?_
        refine ax_icmp_ne (t := 51) F dX6_kindAt_44 (by decide) (fun hc => ?_) (fun hc => ?_)
        · have h := it_neg0 h hc
          refine ax_iconst (v := (4 : Int32)) F dX6_kindAt_51 (by decide) ?_
          obtain ⟨h1, h2⟩ := rt_some0 h
          subst h1; subst h2
          exact ax_iret F dX6_kindAt_52
        · have h := it_pos0 h hc
          refine ax_iconst (v := (3 : Int32)) F dX6_kindAt_47 (by decide) ?_
          refine ax_goto (t := 52) F dX6_kindAt_48 (by decide) ?_
          obtain ⟨h1, h2⟩ := rt_some0 h
          subst h1; subst h2
          exact ax_iret F dX6_kindAt_52
      · have h := it_neg0 h hc
        refine ax_iload_n F dX6_kindAt_33 rfl ?_
        refine ax_bipush (v := (57 : Int32)) F dX6_kindAt_34 (by decide) ?_
        refine ax_icmp_gt (t := 41) F dX6_kindAt_36 (by decide) (fun hc => ?_) (fun hc => ?_)
        · have h := it_pos0 h hc
          refine ax_iload_n F dX6_kindAt_41 rfl ?_
          refine ax_bipush (v := (59 : Int32)) F dX6_kindAt_42 (by decide) ?_
          refine ax_icmp_ne (t := 51) F dX6_kindAt_44 (by decide) (fun hc => ?_) (fun hc => ?_)
          · have h := it_neg0 h hc
            refine ax_iconst (v := (4 : Int32)) F dX6_kindAt_51 (by decide) ?_
            obtain ⟨h1, h2⟩ := rt_some0 h
            subst h1; subst h2
            exact ax_iret F dX6_kindAt_52
          · have h := it_pos0 h hc
            refine ax_iconst (v := (3 : Int32)) F dX6_kindAt_47 (by decide) ?_
            refine ax_goto (t := 52) F dX6_kindAt_48 (by decide) ?_
            obtain ⟨h1, h2⟩ := rt_some0 h
            subst h1; subst h2
            exact ax_iret F dX6_kindAt_52
        · have h := it_neg0 h hc
          refine ax_iconst (v := (2 : Int32)) F dX6_kindAt_39 (by decide) ?_
          obtain ⟨h1, h2⟩ := rt_some0 h
          subst h1; subst h2
          exact ax_iret F dX6_kindAt_40
    · have h := it_neg0 h hc
      refine ax_iload_n F dX6_kindAt_19 rfl ?_
      refine ax_bipush (v := (122 : Int32)) F dX6_kindAt_20 (by decide) ?_
      refine ax_icmp_gt (t := 27) F dX6_kindAt_22 (by decide) (fun hc => ?_) (fun hc => ?_)
      · have h := it_pos0 h hc
        refine ax_iload_n F dX6_kindAt_27 rfl ?_
        refine ax_bipush (v := (48 : Int32)) F dX6_kindAt_28 (by decide) ?_
        refine ax_icmp_lt (t := 41) F dX6_kindAt_30 (by decide) (fun hc => ?_) (fun hc => ?_)
        · have h := it_pos0 h hc
          refine ax_iload_n F dX6_kindAt_41 rfl ?_
          refine ax_bipush (v := (59 : Int32)) F dX6_kindAt_42 (by decide) ?_
          refine ax_icmp_ne (t := 51) F dX6_kindAt_44 (by decide) (fun hc => ?_) (fun hc => ?_)
          · have h := it_neg0 h hc
            refine ax_iconst (v := (4 : Int32)) F dX6_kindAt_51 (by decide) ?_
            obtain ⟨h1, h2⟩ := rt_some0 h
            subst h1; subst h2
            exact ax_iret F dX6_kindAt_52
          · have h := it_pos0 h hc
            refine ax_iconst (v := (3 : Int32)) F dX6_kindAt_47 (by decide) ?_
            refine ax_goto (t := 52) F dX6_kindAt_48 (by decide) ?_
            obtain ⟨h1, h2⟩ := rt_some0 h
            subst h1; subst h2
            exact ax_iret F dX6_kindAt_52
        · have h := it_neg0 h hc
          refine ax_iload_n F dX6_kindAt_33 rfl ?_
          refine ax_bipush (v := (57 : Int32)) F dX6_kindAt_34 (by decide) ?_
          refine ax_icmp_gt (t := 41) F dX6_kindAt_36 (by decide) (fun hc => ?_) (fun hc => ?_)
          · have h := it_pos0 h hc
            refine ax_iload_n F dX6_kindAt_41 rfl ?_
            refine ax_bipush (v := (59 : Int32)) F dX6_kindAt_42 (by decide) ?_
            refine ax_icmp_ne (t := 51) F dX6_kindAt_44 (by decide) (fun hc => ?_) (fun hc => ?_)
            · have h := it_neg0 h hc
              refine ax_iconst (v := (4 : Int32)) F dX6_kindAt_51 (by decide) ?_
              obtain ⟨h1, h2⟩ := rt_some0 h
              subst h1; subst h2
              exact ax_iret F dX6_kindAt_52
            · have h := it_pos0 h hc
              refine ax_iconst (v := (3 : Int32)) F dX6_kindAt_47 (by decide) ?_
              refine ax_goto (t := 52) F dX6_kindAt_48 (by decide) ?_
              obtain ⟨h1, h2⟩ := rt_some0 h
              subst h1; subst h2
              exact ax_iret F dX6_kindAt_52
          · have h := it_neg0 h hc
            refine ax_iconst (v := (2 : Int32)) F dX6_kindAt_39 (by decide) ?_
            obtain ⟨h1, h2⟩ := rt_some0 h
            subst h1; subst h2
            exact ax_iret F dX6_kindAt_40
      · have h := it_neg0 h hc
        refine ax_iconst (v := (1 : Int32)) F dX6_kindAt_25 (by decide) ?_
        obtain ⟨h1, h2⟩ := rt_some0 h
        subst h1; subst h2
        exact ax_iret F dX6_kindAt_26
  · have h := it_pos0 h hc
    refine ax_iconst (v := (0 : Int32)) F dX6_kindAt_11 (by decide) ?_
    obtain ⟨h1, h2⟩ := rt_some0 h
    subst h1; subst h2
    exact ax_iret F dX6_kindAt_12
def rmX6_readToken : Room := { frames := 2, cells := 0, slots := 0, locals := 43 }
theorem kn_X6_readToken : yX6_readToken.cls ≠ "java/lang/invoke/MethodHandle" ∧ yX6_readToken.cls ≠ "java/lang/invoke/VarHandle" ∧ (parseMethodDescriptor yX6_readToken.desc).map (fun d => d.parameters.length) = some 0 := by decide +kernel
noncomputable def bX6_readToken_0  (M : Mm) : Option (Sst ⊕ Rst) := some (.inl (1, [], [], (up2 M 1 3 (M 1 4))))
noncomputable def bX6_readToken_1  (M : Mm) : Option (Sst ⊕ Rst) := if (M 1 1) ≤ (M 1 3) then (some (.inl (2, [], [], M))) else (cl (fX6_letterAt (M 1 3) M) (fun r1 M1 => if r1 = (32 : Int32) then (some (.inl (1, [], [], (up2 M1 1 3 ((M1 1 3) + (1 : Int32)))))) else (some (.inl (2, [], [], M1)))))
noncomputable def bX6_readToken_2  (M : Mm) : Option (Sst ⊕ Rst) := cl (fX6_kindAt (M 1 3) M) (fun r1 M1 => if ((up2 (up2 M1 1 2 r1) 1 4 (imin (((up2 M1 1 2 r1) 1 3) + (1 : Int32)) ((up2 M1 1 2 r1) 1 1))) 1 2) = (1 : Int32) then (some (.inl (3, [], [(1 : Int32)], (up2 (up2 M1 1 2 r1) 1 4 (imin (((up2 M1 1 2 r1) 1 3) + (1 : Int32)) ((up2 M1 1 2 r1) 1 1)))))) else (if ((up2 (up2 M1 1 2 r1) 1 4 (imin (((up2 M1 1 2 r1) 1 3) + (1 : Int32)) ((up2 M1 1 2 r1) 1 1))) 1 2) = (2 : Int32) then (some (.inl (3, [], [(1 : Int32)], (up2 (up2 M1 1 2 r1) 1 4 (imin (((up2 M1 1 2 r1) 1 3) + (1 : Int32)) ((up2 M1 1 2 r1) 1 1)))))) else (some (.inl (3, [], [(0 : Int32)], (up2 (up2 M1 1 2 r1) 1 4 (imin (((up2 M1 1 2 r1) 1 3) + (1 : Int32)) ((up2 M1 1 2 r1) 1 1))))))))
noncomputable def bX6_readToken_3 (x1 : Int32) (M : Mm) : Option (Sst ⊕ Rst) := if x1 = 0 then (some (.inr ((0 : Int32), M))) else (if (M 1 1) ≤ (M 1 4) then (some (.inr ((0 : Int32), M))) else (cl (fX6_kindAt (M 1 4) M) (fun r1 M1 => if r1 = (M1 1 2) then (some (.inl (3, [], [x1], (up2 M1 1 4 ((M1 1 4) + (1 : Int32)))))) else (some (.inr ((0 : Int32), M1))))))
noncomputable def stX6_readToken : Sst → Option (Sst ⊕ Rst) := fun q => match q.1 with
  | 0 => bX6_readToken_0  q.2.2.2
  | 1 => bX6_readToken_1  q.2.2.2
  | 2 => bX6_readToken_2  q.2.2.2
  | 3 => bX6_readToken_3 (q.2.2.1.getD 0 0) q.2.2.2
  | _ => none
noncomputable def fX6_readToken  (M : Mm) : Option Rst := run stX6_readToken (0, [], [], M)
def PX6_readToken (p : Program) (l : Launch) (e : Env) (s : State) (m : MethodId) (args : Array Value) (below : List Frame) (meth : Method) (c : Code) (G : va_G) (L : List Nat) (ad : Nat → Nat) (cs : Nat → ClassId) (zk : Nat → Nat) (r : Int32) (M' : Mm) (n : Nat) : Prop := (∀  (M : Mm), itr stX6_readToken n (0, [], [], M) = some (r, M') → AW p l e rmX6_readToken s m args below meth c (MQ below (AQv G L ad cs M') args s 0 0 (inA L ad)) G L ad cs 2 0 [some (.ref (ad 1)), none] [] M) ∧ (∀  (M : Mm), itr stX6_readToken n (1, [], [], M) = some (r, M') → AW p l e rmX6_readToken s m args below meth c (MQ below (AQv G L ad cs M') args s 0 0 (inA L ad)) G L ad cs 2 8 [some (.ref (ad 1)), none] [] M) ∧ (∀  (M : Mm), itr stX6_readToken n (2, [], [], M) = some (r, M') → AW p l e rmX6_readToken s m args below meth c (MQ below (AQv G L ad cs M') args s 0 0 (inA L ad)) G L ad cs 2 45 [some (.ref (ad 1)), none] [] M) ∧ (∀ (x1 : Int32) (M : Mm), itr stX6_readToken n (3, [], [x1], M) = some (r, M') → AW p l e rmX6_readToken s m args below meth c (MQ below (AQv G L ad cs M') args s 0 0 (inA L ad)) G L ad cs 2 96 [some (.ref (ad 1)), some (.int x1)] [] M)
set_option maxRecDepth 100000 in
set_option maxHeartbeats 4000000 in
theorem wX6_readToken_0 {p : Program} {l : Launch} {e : Env} {s : State} {m : MethodId} {args : Array Value} {below : List Frame} {meth : Method} {c : Code} {G : va_G} {L : List Nat} {ad : Nat → Nat} {cs : Nat → ClassId} {z : Bool} {zk zv : Nat → Nat} {r : Int32} {M' : Mm} {n : Nat} (F : Fx G L ad cs z zk zv p m meth c cX6_readToken 2 none s args RX6) (hx : isX L) (IH : PX6_readToken p l e s m args below meth c G L ad cs zk r M' n)  (M : Mm) (h : (bX6_readToken_0  M).bind (fun q => match q with | .inl s' => itr stX6_readToken n s' | .inr r => some r) = some (r, M'))  : AW p l e rmX6_readToken s m args below meth c (MQ below (AQv G L ad cs M') args s 0 0 (inA L ad)) G L ad cs 2 0 [some (.ref (ad 1)), none] [] M := by
  unfold bX6_readToken_0 at h
  refine ax_aload_n F dX6_readToken_0 rfl ?_
  refine ax_aload_n F dX6_readToken_1 rfl ?_
  refine ax_get (v := .int (M 1 4)) F (ob_1 hx) rfl inGX6 4 (by decide) rfl kf_X6_19 rfl dX6_readToken_2 ?_
  refine ax_put (ty := .int) F (ob_1 hx) rfl inGX6 tyX6 tyX6_ok nmX6 3 (by decide) rfl kf_X6_22 (by decide) rfl rfl (Nat.le_of_ble_eq_true rfl) rfl dX6_readToken_5 ?_
  exact IH.2.1  _ h 
set_option maxRecDepth 100000 in
set_option maxHeartbeats 4000000 in
theorem wX6_readToken_1 {p : Program} {l : Launch} {e : Env} {s : State} {m : MethodId} {args : Array Value} {below : List Frame} {meth : Method} {c : Code} {G : va_G} {L : List Nat} {ad : Nat → Nat} {cs : Nat → ClassId} {z : Bool} {zk zv : Nat → Nat} {r : Int32} {M' : Mm} {n : Nat} (F : Fx G L ad cs z zk zv p m meth c cX6_readToken 2 none s args RX6) (hx : isX L) (IH : PX6_readToken p l e s m args below meth c G L ad cs zk r M' n)  (M : Mm) (h : (bX6_readToken_1  M).bind (fun q => match q with | .inl s' => itr stX6_readToken n s' | .inr r => some r) = some (r, M'))  : AW p l e rmX6_readToken s m args below meth c (MQ below (AQv G L ad cs M') args s 0 0 (inA L ad)) G L ad cs 2 8 [some (.ref (ad 1)), none] [] M := by
  unfold bX6_readToken_1 at h
  refine ax_aload_n F dX6_readToken_8 rfl ?_
  refine ax_get (v := .int (M 1 3)) F (ob_1 hx) rfl inGX6 3 (by decide) rfl kf_X6_22 rfl dX6_readToken_9 ?_
  refine ax_aload_n F dX6_readToken_12 rfl ?_
  refine ax_get (v := .int (M 1 1)) F (ob_1 hx) rfl inGX6 1 (by decide) rfl kf_X6_15 rfl dX6_readToken_13 ?_
  refine ax_icmp_ge (t := 45) F dX6_readToken_16 (by decide) (fun hc => ?_) (fun hc => ?_)
  · have h := it_pos h hc
    exact IH.2.2.1  _ h 
  · have h := it_neg h hc
    refine ax_aload_n F dX6_readToken_19 rfl ?_
    refine ax_aload_n F dX6_readToken_20 rfl ?_
    refine ax_get (v := .int (M 1 3)) F (ob_1 hx) rfl inGX6 3 (by decide) rfl kf_X6_22 rfl dX6_readToken_21 ?_
    obtain ⟨r1, M1, hq1, h⟩ := cq_some h
    refine ax_callVi (As := [.int (M 1 3)]) (st := []) F (tX6_letterAt F.2.2.2.2.2.2.1 hx _  _ _ _ hq1) (ob_1 hx) rfl kc_X6_letterAt kz_X6 ki_X6_letterAt ks_X6_letterAt km_X6_25 ⟨kn_X6_letterAt, rfl, rfl, Nat.le_of_ble_eq_true rfl, Nat.le_of_ble_eq_true rfl⟩ rfl (Nat.le_of_ble_eq_true rfl) dX6_readToken_24 ?_
    refine ax_bipush (v := (32 : Int32)) F dX6_readToken_27 (by decide) ?_
    refine ax_icmp_ne (t := 45) F dX6_readToken_29 (by decide) (fun hc => ?_) (fun hc => ?_)
    · have h := it_neg h hc
      exact IH.2.2.1  _ h 
    · have h := it_pos h hc
      refine ax_aload_n F dX6_readToken_32 rfl ?_
      refine ax_dup F dX6_readToken_33 rfl ?_
      refine ax_get (v := .int (M1 1 3)) F (ob_1 hx) rfl inGX6 3 (by decide) rfl kf_X6_22 rfl dX6_readToken_34 ?_
      refine ax_iconst (v := (1 : Int32)) F dX6_readToken_37 (by decide) ?_
      refine ax_iadd F dX6_readToken_38 ?_
      refine ax_put (ty := .int) F (ob_1 hx) rfl inGX6 tyX6 tyX6_ok nmX6 3 (by decide) rfl kf_X6_22 (by decide) rfl rfl (Nat.le_of_ble_eq_true rfl) rfl dX6_readToken_39 ?_
      refine ax_goto (t := 8) F dX6_readToken_42 (by decide) ?_
      exact IH.2.1  _ h 
set_option maxRecDepth 100000 in
set_option maxHeartbeats 4000000 in
theorem wX6_readToken_2 {p : Program} {l : Launch} {e : Env} {s : State} {m : MethodId} {args : Array Value} {below : List Frame} {meth : Method} {c : Code} {G : va_G} {L : List Nat} {ad : Nat → Nat} {cs : Nat → ClassId} {z : Bool} {zk zv : Nat → Nat} {r : Int32} {M' : Mm} {n : Nat} (F : Fx G L ad cs z zk zv p m meth c cX6_readToken 2 none s args RX6) (hx : isX L) (IH : PX6_readToken p l e s m args below meth c G L ad cs zk r M' n)  (M : Mm) (h : (bX6_readToken_2  M).bind (fun q => match q with | .inl s' => itr stX6_readToken n s' | .inr r => some r) = some (r, M'))  : AW p l e rmX6_readToken s m args below meth c (MQ below (AQv G L ad cs M') args s 0 0 (inA L ad)) G L ad cs 2 45 [some (.ref (ad 1)), none] [] M := by
  unfold bX6_readToken_2 at h
  refine ax_aload_n F dX6_readToken_45 rfl ?_
  refine ax_aload_n F dX6_readToken_46 rfl ?_
  refine ax_aload_n F dX6_readToken_47 rfl ?_
  refine ax_get (v := .int (M 1 3)) F (ob_1 hx) rfl inGX6 3 (by decide) rfl kf_X6_22 rfl dX6_readToken_48 ?_
  obtain ⟨r1, M1, hq1, h⟩ := cq_some h
  refine ax_callVi (As := [.int (M 1 3)]) (st := [.ref (ad 1)]) F (tX6_kindAt F.2.2.2.2.2.2.1 hx _  _ _ _ hq1) (ob_1 hx) rfl kc_X6_kindAt kz_X6 ki_X6_kindAt ks_X6_kindAt km_X6_29 ⟨kn_X6_kindAt, rfl, rfl, Nat.le_of_ble_eq_true rfl, Nat.le_of_ble_eq_true rfl⟩ rfl (Nat.le_of_ble_eq_true rfl) dX6_readToken_51 ?_
  refine ax_put (ty := .int) F (ob_1 hx) rfl inGX6 tyX6 tyX6_ok nmX6 2 (by decide) rfl kf_X6_32 (by decide) rfl rfl (Nat.le_of_ble_eq_true rfl) rfl dX6_readToken_54 ?_
  refine ax_aload_n F dX6_readToken_57 rfl ?_
  refine ax_aload_n F dX6_readToken_58 rfl ?_
  refine ax_get (v := .int ((up2 M1 1 2 r1) 1 3)) F (ob_1 hx) rfl inGX6 3 (by decide) rfl kf_X6_22 rfl dX6_readToken_59 ?_
  refine ax_iconst (v := (1 : Int32)) F dX6_readToken_62 (by decide) ?_
  refine ax_iadd F dX6_readToken_63 ?_
  refine ax_aload_n F dX6_readToken_64 rfl ?_
  refine ax_get (v := .int ((up2 M1 1 2 r1) 1 1)) F (ob_1 hx) rfl inGX6 1 (by decide) rfl kf_X6_15 rfl dX6_readToken_65 ?_
  refine ax_min F km_X6_35 (kt_J9_min_7cf53) kz_J9 (kc_J9_min_7cf53) (Nat.le_of_ble_eq_true rfl) (Nat.le_of_ble_eq_true rfl) dX6_readToken_68 ?_
  refine ax_put (ty := .int) F (ob_1 hx) rfl inGX6 tyX6 tyX6_ok nmX6 4 (by decide) rfl kf_X6_19 (by decide) rfl rfl (Nat.le_of_ble_eq_true rfl) rfl dX6_readToken_71 ?_
  refine ax_aload_n F dX6_readToken_74 rfl ?_
  refine ax_get (v := .int ((up2 (up2 M1 1 2 r1) 1 4 (imin (((up2 M1 1 2 r1) 1 3) + (1 : Int32)) ((up2 M1 1 2 r1) 1 1))) 1 2)) F (ob_1 hx) rfl inGX6 2 (by decide) rfl kf_X6_32 rfl dX6_readToken_75 ?_
  refine ax_iconst (v := (1 : Int32)) F dX6_readToken_78 (by decide) ?_
  refine ax_icmp_eq (t := 90) F dX6_readToken_79 (by decide) (fun hc => ?_) (fun hc => ?_)
  · have h := it_pos h hc
    refine ax_iconst (v := (1 : Int32)) F dX6_readToken_90 (by decide) ?_
    refine ax_goto (t := 95) F dX6_readToken_91 (by decide) ?_
    refine ax_istore_n F dX6_readToken_95 (by decide) rfl ?_
    exact IH.2.2.2 _ _ h 
  · have h := it_neg h hc
    refine ax_aload_n F dX6_readToken_82 rfl ?_
    refine ax_get (v := .int ((up2 (up2 M1 1 2 r1) 1 4 (imin (((up2 M1 1 2 r1) 1 3) + (1 : Int32)) ((up2 M1 1 2 r1) 1 1))) 1 2)) F (ob_1 hx) rfl inGX6 2 (by decide) rfl kf_X6_32 rfl dX6_readToken_83 ?_
    refine ax_iconst (v := (2 : Int32)) F dX6_readToken_86 (by decide) ?_
    refine ax_icmp_ne (t := 94) F dX6_readToken_87 (by decide) (fun hc => ?_) (fun hc => ?_)
    · have h := it_neg h hc
      refine ax_iconst (v := (0 : Int32)) F dX6_readToken_94 (by decide) ?_
      refine ax_istore_n F dX6_readToken_95 (by decide) rfl ?_
      exact IH.2.2.2 _ _ h 
    · have h := it_pos h hc
      refine ax_iconst (v := (1 : Int32)) F dX6_readToken_90 (by decide) ?_
      refine ax_goto (t := 95) F dX6_readToken_91 (by decide) ?_
      refine ax_istore_n F dX6_readToken_95 (by decide) rfl ?_
      exact IH.2.2.2 _ _ h 
set_option maxRecDepth 100000 in
set_option maxHeartbeats 4000000 in
theorem wX6_readToken_3 {p : Program} {l : Launch} {e : Env} {s : State} {m : MethodId} {args : Array Value} {below : List Frame} {meth : Method} {c : Code} {G : va_G} {L : List Nat} {ad : Nat → Nat} {cs : Nat → ClassId} {z : Bool} {zk zv : Nat → Nat} {r : Int32} {M' : Mm} {n : Nat} (F : Fx G L ad cs z zk zv p m meth c cX6_readToken 2 none s args RX6) (hx : isX L) (IH : PX6_readToken p l e s m args below meth c G L ad cs zk r M' n) (x1 : Int32) (M : Mm) (h : (bX6_readToken_3 x1 M).bind (fun q => match q with | .inl s' => itr stX6_readToken n s' | .inr r => some r) = some (r, M'))  : AW p l e rmX6_readToken s m args below meth c (MQ below (AQv G L ad cs M') args s 0 0 (inA L ad)) G L ad cs 2 96 [some (.ref (ad 1)), some (.int x1)] [] M := by
  unfold bX6_readToken_3 at h
  refine ax_iload_n F dX6_readToken_96 rfl ?_
  refine ax_if_eq (t := 139) F dX6_readToken_97 (by decide) (fun hc => ?_) (fun hc => ?_)
  · have h := it_pos h hc
    obtain ⟨h1, h2⟩ := rt_some h
    subst h2
    exact ax_vret F dX6_readToken_139
  · have h := it_neg h hc
    refine ax_aload_n F dX6_readToken_100 rfl ?_
    refine ax_get (v := .int (M 1 4)) F (ob_1 hx) rfl inGX6 4 (by decide) rfl kf_X6_19 rfl dX6_readToken_101 ?_
    refine ax_aload_n F dX6_readToken_104 rfl ?_
    refine ax_get (v := .int (M 1 1)) F (ob_1 hx) rfl inGX6 1 (by decide) rfl kf_X6_15 rfl dX6_readToken_105 ?_
    refine ax_icmp_ge (t := 139) F dX6_readToken_108 (by decide) (fun hc => ?_) (fun hc => ?_)
    · have h := it_pos h hc
      obtain ⟨h1, h2⟩ := rt_some h
      subst h2
      exact ax_vret F dX6_readToken_139
    · have h := it_neg h hc
      refine ax_aload_n F dX6_readToken_111 rfl ?_
      refine ax_aload_n F dX6_readToken_112 rfl ?_
      refine ax_get (v := .int (M 1 4)) F (ob_1 hx) rfl inGX6 4 (by decide) rfl kf_X6_19 rfl dX6_readToken_113 ?_
      obtain ⟨r1, M1, hq1, h⟩ := cq_some h
      refine ax_callVi (As := [.int (M 1 4)]) (st := []) F (tX6_kindAt F.2.2.2.2.2.2.1 hx _  _ _ _ hq1) (ob_1 hx) rfl kc_X6_kindAt kz_X6 ki_X6_kindAt ks_X6_kindAt km_X6_29 ⟨kn_X6_kindAt, rfl, rfl, Nat.le_of_ble_eq_true rfl, Nat.le_of_ble_eq_true rfl⟩ rfl (Nat.le_of_ble_eq_true rfl) dX6_readToken_116 ?_
      refine ax_aload_n F dX6_readToken_119 rfl ?_
      refine ax_get (v := .int (M1 1 2)) F (ob_1 hx) rfl inGX6 2 (by decide) rfl kf_X6_32 rfl dX6_readToken_120 ?_
      refine ax_icmp_ne (t := 139) F dX6_readToken_123 (by decide) (fun hc => ?_) (fun hc => ?_)
      · have h := it_neg h hc
        obtain ⟨h1, h2⟩ := rt_some h
        subst h2
        exact ax_vret F dX6_readToken_139
      · have h := it_pos h hc
        refine ax_aload_n F dX6_readToken_126 rfl ?_
        refine ax_dup F dX6_readToken_127 rfl ?_
        refine ax_get (v := .int (M1 1 4)) F (ob_1 hx) rfl inGX6 4 (by decide) rfl kf_X6_19 rfl dX6_readToken_128 ?_
        refine ax_iconst (v := (1 : Int32)) F dX6_readToken_131 (by decide) ?_
        refine ax_iadd F dX6_readToken_132 ?_
        refine ax_put (ty := .int) F (ob_1 hx) rfl inGX6 tyX6 tyX6_ok nmX6 4 (by decide) rfl kf_X6_19 (by decide) rfl rfl (Nat.le_of_ble_eq_true rfl) rfl dX6_readToken_133 ?_
        refine ax_goto (t := 96) F dX6_readToken_136 (by decide) ?_
        exact IH.2.2.2 _ _ h 
set_option maxRecDepth 100000 in
set_option maxHeartbeats 4000000 in
theorem wX6_readToken {p : Program} {l : Launch} {e : Env} {s : State} {m : MethodId} {args : Array Value} {below : List Frame} {meth : Method} {c : Code} {G : va_G} {L : List Nat} {ad : Nat → Nat} {cs : Nat → ClassId} {z : Bool} {zk zv : Nat → Nat} {r : Int32} {M' : Mm} (F : Fx G L ad cs z zk zv p m meth c cX6_readToken 2 none s args RX6) (hx : isX L) (n : Nat) : PX6_readToken p l e s m args below meth c G L ad cs zk r M' n := by
  induction n with
  | zero => exact ⟨(fun  M h => by cases h), (fun  M h => by cases h), (fun  M h => by cases h), (fun x1 M h => by cases h)⟩
  | succ n ih =>
    exact ⟨fun  M h  => wX6_readToken_0 F hx ih  M h ,
      fun  M h  => wX6_readToken_1 F hx ih  M h ,
      fun  M h  => wX6_readToken_2 F hx ih  M h ,
      fun x1 M h  => wX6_readToken_3 F hx ih x1 M h ⟩
set_option maxRecDepth 100000 in
set_option maxHeartbeats 4000000 in
theorem tX6_readToken {l : Launch} {G : va_G} {L : List Nat} {ad : Nat → Nat} {cs : Nat → ClassId} {z : Bool} {zk zv : Nat → Nat} (hinj : inj L ad) (hx : isX L)   (M : Mm) (r : Int32) (M' : Mm) (h : fX6_readToken  M = some (r, M')) : Met l yX6_readToken (tgW yX6_readToken cX6_readToken 2 none) rmX6_readToken (APre G L ad cs z zk zv [.ref (ad 1)] M) (AQv G L ad cs M') 0 0 (inA L ad) := by
  refine met_of (Eq.refl true) (Nat.le_of_ble_eq_true rfl) hinj [some (.ref (ad 1)), none] rfl ?_
  intro p e s m below meth c F
  replace F : Fx G L ad cs z zk zv p m meth c cX6_readToken 2 none s _ RX6 := F
  obtain ⟨n, hn⟩ := run_ex h
  exact (wX6_readToken F hx n).1  M hn 
def rmX6_isWord : Room := { frames := 4, cells := 0, slots := 0, locals := 130 }
theorem kn_X6_isWord : yX6_isWord.cls ≠ "java/lang/invoke/MethodHandle" ∧ yX6_isWord.cls ≠ "java/lang/invoke/VarHandle" ∧ (parseMethodDescriptor yX6_isWord.desc).map (fun d => d.parameters.length) = some 1 := by decide +kernel
noncomputable def bX6_isWord_0 (a1 : Nat) (M : Mm) : Option (Sst ⊕ Rst) := if (M 1 2) = (1 : Int32) then (if ((M 1 4) - (M 1 3)) = (slen a1) then (some (.inl (1, [a1], [(0 : Int32)], M))) else (some (.inr ((0 : Int32), M)))) else (some (.inr ((0 : Int32), M)))
noncomputable def bX6_isWord_1 (a1 : Nat) (x2 : Int32) (M : Mm) : Option (Sst ⊕ Rst) := if (slen a1) ≤ x2 then (some (.inr ((1 : Int32), M))) else (cl (fX6_letterAt ((M 1 3) + x2) M) (fun r1 M1 => gd (okI x2 (zlen.getD a1 0)) (if r1 = (schar a1 x2) then (some (.inl (1, [a1], [(x2 + (1 : Int32))], M1))) else (some (.inr ((0 : Int32), M1))))))
noncomputable def stX6_isWord : Sst → Option (Sst ⊕ Rst) := fun q => match q.1 with
  | 0 => bX6_isWord_0 (q.2.1.getD 0 0) q.2.2.2
  | 1 => bX6_isWord_1 (q.2.1.getD 0 0) (q.2.2.1.getD 0 0) q.2.2.2
  | _ => none
noncomputable def fX6_isWord (a1 : Nat) (M : Mm) : Option Rst := run stX6_isWord (0, [a1], [], M)
def PX6_isWord (p : Program) (l : Launch) (e : Env) (s : State) (m : MethodId) (args : Array Value) (below : List Frame) (meth : Method) (c : Code) (G : va_G) (L : List Nat) (ad : Nat → Nat) (cs : Nat → ClassId) (zk : Nat → Nat) (r : Int32) (M' : Mm) (n : Nat) : Prop := (∀ (a1 : Nat) (M : Mm), itr stX6_isWord n (0, [a1], [], M) = some (r, M') → a1 < 5 → AW p l e rmX6_isWord s m args below meth c (MQ below (AQi G L ad cs r M') args s 0 0 (inA L ad)) G L ad cs 3 0 [some (.ref (ad 1)), some (.ref (zk a1)), none] [] M) ∧ (∀ (a1 : Nat) (x2 : Int32) (M : Mm), itr stX6_isWord n (1, [a1], [x2], M) = some (r, M') → a1 < 5 → AW p l e rmX6_isWord s m args below meth c (MQ below (AQi G L ad cs r M') args s 0 0 (inA L ad)) G L ad cs 3 28 [some (.ref (ad 1)), some (.ref (zk a1)), some (.int x2)] [] M)
set_option maxRecDepth 100000 in
set_option maxHeartbeats 4000000 in
theorem wX6_isWord_0 {p : Program} {l : Launch} {e : Env} {s : State} {m : MethodId} {args : Array Value} {below : List Frame} {meth : Method} {c : Code} {G : va_G} {L : List Nat} {ad : Nat → Nat} {cs : Nat → ClassId} {z : Bool} {zk zv : Nat → Nat} {r : Int32} {M' : Mm} {n : Nat} (F : Fx G L ad cs z zk zv p m meth c cX6_isWord 3 (some .boolean) s args RX6) (hx : isX L) (hz0 : z = true) (IH : PX6_isWord p l e s m args below meth c G L ad cs zk r M' n) (a1 : Nat) (M : Mm) (h : (bX6_isWord_0 a1 M).bind (fun q => match q with | .inl s' => itr stX6_isWord n s' | .inr r => some r) = some (r, M')) (h1 : a1 < 5) : AW p l e rmX6_isWord s m args below meth c (MQ below (AQi G L ad cs r M') args s 0 0 (inA L ad)) G L ad cs 3 0 [some (.ref (ad 1)), some (.ref (zk a1)), none] [] M := by
  unfold bX6_isWord_0 at h
  refine ax_aload_n F dX6_isWord_0 rfl ?_
  refine ax_get (v := .int (M 1 2)) F (ob_1 hx) rfl inGX6 2 (by decide) rfl kf_X6_32 rfl dX6_isWord_1 ?_
  refine ax_iconst (v := (1 : Int32)) F dX6_isWord_4 (by decide) ?_
  refine ax_icmp_ne (t := 24) F dX6_isWord_5 (by decide) (fun hc => ?_) (fun hc => ?_)
  · have h := it_neg h hc
    refine ax_iconst (v := (0 : Int32)) F dX6_isWord_24 (by decide) ?_
    obtain ⟨h1, h2⟩ := rt_some h
    subst h1; subst h2
    exact ax_zret F (by decide) dX6_isWord_25
  · have h := it_pos h hc
    refine ax_aload_n F dX6_isWord_8 rfl ?_
    refine ax_get (v := .int (M 1 4)) F (ob_1 hx) rfl inGX6 4 (by decide) rfl kf_X6_19 rfl dX6_isWord_9 ?_
    refine ax_aload_n F dX6_isWord_12 rfl ?_
    refine ax_get (v := .int (M 1 3)) F (ob_1 hx) rfl inGX6 3 (by decide) rfl kf_X6_22 rfl dX6_isWord_13 ?_
    refine ax_isub F dX6_isWord_16 ?_
    refine ax_aload_n F dX6_isWord_17 rfl ?_
    refine ax_slen hz0 F h1 (km_X6_41) (st := [.int ((M 1 4) - (M 1 3))]) rfl (Nat.le_of_ble_eq_true rfl) (Nat.le_of_ble_eq_true rfl) (Nat.le_of_ble_eq_true rfl) dX6_isWord_18 ?_
    refine ax_icmp_eq (t := 26) F dX6_isWord_21 (by decide) (fun hc => ?_) (fun hc => ?_)
    · have h := it_pos h hc
      refine ax_iconst (v := (0 : Int32)) F dX6_isWord_26 (by decide) ?_
      refine ax_istore_n F dX6_isWord_27 (by decide) rfl ?_
      exact IH.2 _ _ _ h h1
    · have h := it_neg h hc
      refine ax_iconst (v := (0 : Int32)) F dX6_isWord_24 (by decide) ?_
      obtain ⟨h1, h2⟩ := rt_some h
      subst h1; subst h2
      exact ax_zret F (by decide) dX6_isWord_25
set_option maxRecDepth 100000 in
set_option maxHeartbeats 4000000 in
theorem wX6_isWord_1 {p : Program} {l : Launch} {e : Env} {s : State} {m : MethodId} {args : Array Value} {below : List Frame} {meth : Method} {c : Code} {G : va_G} {L : List Nat} {ad : Nat → Nat} {cs : Nat → ClassId} {z : Bool} {zk zv : Nat → Nat} {r : Int32} {M' : Mm} {n : Nat} (F : Fx G L ad cs z zk zv p m meth c cX6_isWord 3 (some .boolean) s args RX6) (hx : isX L) (hz0 : z = true) (IH : PX6_isWord p l e s m args below meth c G L ad cs zk r M' n) (a1 : Nat) (x2 : Int32) (M : Mm) (h : (bX6_isWord_1 a1 x2 M).bind (fun q => match q with | .inl s' => itr stX6_isWord n s' | .inr r => some r) = some (r, M')) (h1 : a1 < 5) : AW p l e rmX6_isWord s m args below meth c (MQ below (AQi G L ad cs r M') args s 0 0 (inA L ad)) G L ad cs 3 28 [some (.ref (ad 1)), some (.ref (zk a1)), some (.int x2)] [] M := by
  unfold bX6_isWord_1 at h
  refine ax_iload_n F dX6_isWord_28 rfl ?_
  refine ax_aload_n F dX6_isWord_29 rfl ?_
  refine ax_slen hz0 F h1 (km_X6_41) (st := [.int x2]) rfl (Nat.le_of_ble_eq_true rfl) (Nat.le_of_ble_eq_true rfl) (Nat.le_of_ble_eq_true rfl) dX6_isWord_30 ?_
  refine ax_icmp_ge (t := 62) F dX6_isWord_33 (by decide) (fun hc => ?_) (fun hc => ?_)
  · have h := it_pos h hc
    refine ax_iconst (v := (1 : Int32)) F dX6_isWord_62 (by decide) ?_
    obtain ⟨h1, h2⟩ := rt_some h
    subst h1; subst h2
    exact ax_zret F (by decide) dX6_isWord_63
  · have h := it_neg h hc
    refine ax_aload_n F dX6_isWord_36 rfl ?_
    refine ax_aload_n F dX6_isWord_37 rfl ?_
    refine ax_get (v := .int (M 1 3)) F (ob_1 hx) rfl inGX6 3 (by decide) rfl kf_X6_22 rfl dX6_isWord_38 ?_
    refine ax_iload_n F dX6_isWord_41 rfl ?_
    refine ax_iadd F dX6_isWord_42 ?_
    obtain ⟨r1, M1, hq1, h⟩ := cq_some h
    refine ax_callVi (As := [.int ((M 1 3) + x2)]) (st := []) F (tX6_letterAt F.2.2.2.2.2.2.1 hx _  _ _ _ hq1) (ob_1 hx) rfl kc_X6_letterAt kz_X6 ki_X6_letterAt ks_X6_letterAt km_X6_25 ⟨kn_X6_letterAt, rfl, rfl, Nat.le_of_ble_eq_true rfl, Nat.le_of_ble_eq_true rfl⟩ rfl (Nat.le_of_ble_eq_true rfl) dX6_isWord_43 ?_
    refine ax_aload_n F dX6_isWord_46 rfl ?_
    refine ax_iload_n F dX6_isWord_47 rfl ?_
    obtain ⟨hg, h⟩ := gd_some h
    refine ax_schar hz0 F h1 hg (km_X6_46) (st := [.int r1]) rfl (Nat.le_of_ble_eq_true rfl) (Nat.le_of_ble_eq_true rfl) (Nat.le_of_ble_eq_true rfl) dX6_isWord_48 ?_
    refine ax_icmp_eq (t := 56) F dX6_isWord_51 (by decide) (fun hc => ?_) (fun hc => ?_)
    · have h := it_pos h hc
      refine ax_iinc (v := (1 : Int32)) F dX6_isWord_56 rfl (by decide) (by decide) rfl ?_
      refine ax_goto (t := 28) F dX6_isWord_59 (by decide) ?_
      exact IH.2 _ _ _ h h1
    · have h := it_neg h hc
      refine ax_iconst (v := (0 : Int32)) F dX6_isWord_54 (by decide) ?_
      obtain ⟨h1, h2⟩ := rt_some h
      subst h1; subst h2
      exact ax_zret F (by decide) dX6_isWord_55
set_option maxRecDepth 100000 in
set_option maxHeartbeats 4000000 in
theorem wX6_isWord {p : Program} {l : Launch} {e : Env} {s : State} {m : MethodId} {args : Array Value} {below : List Frame} {meth : Method} {c : Code} {G : va_G} {L : List Nat} {ad : Nat → Nat} {cs : Nat → ClassId} {z : Bool} {zk zv : Nat → Nat} {r : Int32} {M' : Mm} (F : Fx G L ad cs z zk zv p m meth c cX6_isWord 3 (some .boolean) s args RX6) (hx : isX L) (hz0 : z = true) (n : Nat) : PX6_isWord p l e s m args below meth c G L ad cs zk r M' n := by
  induction n with
  | zero => exact ⟨(fun a1 M h => by cases h), (fun a1 x2 M h => by cases h)⟩
  | succ n ih =>
    exact ⟨fun a1 M h h1 => wX6_isWord_0 F hx hz0 ih a1 M h h1,
      fun a1 x2 M h h1 => wX6_isWord_1 F hx hz0 ih a1 x2 M h h1⟩
set_option maxRecDepth 100000 in
set_option maxHeartbeats 4000000 in
theorem tX6_isWord {l : Launch} {G : va_G} {L : List Nat} {ad : Nat → Nat} {cs : Nat → ClassId} {z : Bool} {zk zv : Nat → Nat} (hinj : inj L ad) (hx : isX L) (hz0 : z = true) (a1 : Nat) (h1 : a1 < 5) (M : Mm) (r : Int32) (M' : Mm) (h : fX6_isWord a1 M = some (r, M')) : Met l yX6_isWord (tgW yX6_isWord cX6_isWord 3 (some .boolean)) rmX6_isWord (APre G L ad cs z zk zv [.ref (ad 1), .ref (zk a1)] M) (AQi G L ad cs r M') 0 0 (inA L ad) := by
  refine met_of (Eq.refl true) (Nat.le_of_ble_eq_true rfl) hinj [some (.ref (ad 1)), some (.ref (zk a1)), none] rfl ?_
  intro p e s m below meth c F
  replace F : Fx G L ad cs z zk zv p m meth c cX6_isWord 3 (some .boolean) s _ RX6 := F
  obtain ⟨n, hn⟩ := run_ex h
  exact (wX6_isWord F hx hz0 n).1 a1 M hn h1
noncomputable def fX0_formOf  (M : Mm) : Option Rst := cl (fX6_isWord 0 M) (fun r1 M1 => if r1 = 0 then (cl (fX6_isWord 1 M1) (fun r2 M2 => if r2 = 0 then (cl (fX6_isWord 2 M2) (fun r3 M3 => if r3 = 0 then (cl (fX6_isWord 3 M3) (fun r4 M4 => if r4 = 0 then (cl (fX6_isWord 4 M4) (fun r5 M5 => if r5 = 0 then (some ((-1 : Int32), M5)) else (some ((4 : Int32), M5)))) else (some ((3 : Int32), M4)))) else (some ((2 : Int32), M3)))) else (some ((1 : Int32), M2)))) else (some ((0 : Int32), M1)))
def rmX0_formOf : Room := { frames := 5, cells := 0, slots := 0, locals := 152 }
theorem kn_X0_formOf : yX0_formOf.cls ≠ "java/lang/invoke/MethodHandle" ∧ yX0_formOf.cls ≠ "java/lang/invoke/VarHandle" ∧ (parseMethodDescriptor yX0_formOf.desc).map (fun d => d.parameters.length) = some 1 := by decide +kernel
set_option maxRecDepth 100000 in
set_option maxHeartbeats 4000000 in
theorem tX0_formOf {l : Launch} {G : va_G} {L : List Nat} {ad : Nat → Nat} {cs : Nat → ClassId} {z : Bool} {zk zv : Nat → Nat} (hinj : inj L ad) (hx : isX L) (hz0 : z = true)   (M : Mm) (r : Int32) (M' : Mm) (h : fX0_formOf  M = some (r, M')) : Met l yX0_formOf (tgW yX0_formOf cX0_formOf 1 (some .int)) rmX0_formOf (APre G L ad cs z zk zv [.ref (ad 1)] M) (AQi G L ad cs r M') 0 0 (inA L ad) := by
  refine met_of (Eq.refl true) (Nat.le_of_ble_eq_true rfl) hinj [some (.ref (ad 1))] rfl ?_
  intro p e s m below meth c F
  replace F : Fx G L ad cs z zk zv p m meth c cX0_formOf 1 (some .int) s _ RX0 := F
  unfold fX0_formOf at h
  refine ax_aload_n F dX0_formOf_0 rfl ?_
  refine ax_ldcS hz0 F 0 (by decide) rfl dX0_formOf_1 ?_
  obtain ⟨r1, M1, hq1, h⟩ := cq_some0 h
  refine ax_callVi (As := [.ref (zk 0)]) (st := []) F (tX6_isWord F.2.2.2.2.2.2.1 hx hz0 _ (by decide) _ _ _ hq1) (ob_1 hx) rfl kc_X6_isWord kz_X6 ki_X6_isWord ks_X6_isWord km_X0_74 ⟨kn_X6_isWord, rfl, rfl, Nat.le_of_ble_eq_true rfl, Nat.le_of_ble_eq_true rfl⟩ rfl (Nat.le_of_ble_eq_true rfl) dX0_formOf_3 ?_
  refine ax_if_eq (t := 11) F dX0_formOf_6 (by decide) (fun hc => ?_) (fun hc => ?_)
  · have h := it_pos0 h hc
    refine ax_aload_n F dX0_formOf_11 rfl ?_
    refine ax_ldcS hz0 F 1 (by decide) rfl dX0_formOf_12 ?_
    obtain ⟨r2, M2, hq2, h⟩ := cq_some0 h
    refine ax_callVi (As := [.ref (zk 1)]) (st := []) F (tX6_isWord F.2.2.2.2.2.2.1 hx hz0 _ (by decide) _ _ _ hq2) (ob_1 hx) rfl kc_X6_isWord kz_X6 ki_X6_isWord ks_X6_isWord km_X0_74 ⟨kn_X6_isWord, rfl, rfl, Nat.le_of_ble_eq_true rfl, Nat.le_of_ble_eq_true rfl⟩ rfl (Nat.le_of_ble_eq_true rfl) dX0_formOf_14 ?_
    refine ax_if_eq (t := 22) F dX0_formOf_17 (by decide) (fun hc => ?_) (fun hc => ?_)
    · have h := it_pos0 h hc
      refine ax_aload_n F dX0_formOf_22 rfl ?_
      refine ax_ldcS hz0 F 2 (by decide) rfl dX0_formOf_23 ?_
      obtain ⟨r3, M3, hq3, h⟩ := cq_some0 h
      refine ax_callVi (As := [.ref (zk 2)]) (st := []) F (tX6_isWord F.2.2.2.2.2.2.1 hx hz0 _ (by decide) _ _ _ hq3) (ob_1 hx) rfl kc_X6_isWord kz_X6 ki_X6_isWord ks_X6_isWord km_X0_74 ⟨kn_X6_isWord, rfl, rfl, Nat.le_of_ble_eq_true rfl, Nat.le_of_ble_eq_true rfl⟩ rfl (Nat.le_of_ble_eq_true rfl) dX0_formOf_25 ?_
      refine ax_if_eq (t := 33) F dX0_formOf_28 (by decide) (fun hc => ?_) (fun hc => ?_)
      · have h := it_pos0 h hc
        refine ax_aload_n F dX0_formOf_33 rfl ?_
        refine ax_ldcS hz0 F 3 (by decide) rfl dX0_formOf_34 ?_
        obtain ⟨r4, M4, hq4, h⟩ := cq_some0 h
        refine ax_callVi (As := [.ref (zk 3)]) (st := []) F (tX6_isWord F.2.2.2.2.2.2.1 hx hz0 _ (by decide) _ _ _ hq4) (ob_1 hx) rfl kc_X6_isWord kz_X6 ki_X6_isWord ks_X6_isWord km_X0_74 ⟨kn_X6_isWord, rfl, rfl, Nat.le_of_ble_eq_true rfl, Nat.le_of_ble_eq_true rfl⟩ rfl (Nat.le_of_ble_eq_true rfl) dX0_formOf_36 ?_
        refine ax_if_eq (t := 44) F dX0_formOf_39 (by decide) (fun hc => ?_) (fun hc => ?_)
        · have h := it_pos0 h hc
          refine ax_aload_n F dX0_formOf_44 rfl ?_
          refine ax_ldcS hz0 F 4 (by decide) rfl dX0_formOf_45 ?_
          obtain ⟨r5, M5, hq5, h⟩ := cq_some0 h
          refine ax_callVi (As := [.ref (zk 4)]) (st := []) F (tX6_isWord F.2.2.2.2.2.2.1 hx hz0 _ (by decide) _ _ _ hq5) (ob_1 hx) rfl kc_X6_isWord kz_X6 ki_X6_isWord ks_X6_isWord km_X0_74 ⟨kn_X6_isWord, rfl, rfl, Nat.le_of_ble_eq_true rfl, Nat.le_of_ble_eq_true rfl⟩ rfl (Nat.le_of_ble_eq_true rfl) dX0_formOf_47 ?_
          refine ax_if_eq (t := 57) F dX0_formOf_50 (by decide) (fun hc => ?_) (fun hc => ?_)
          · have h := it_pos0 h hc
            refine ax_iconst (v := (-1 : Int32)) F dX0_formOf_57 (by decide) ?_
            obtain ⟨h1, h2⟩ := rt_some0 h
            subst h1; subst h2
            exact ax_iret F dX0_formOf_58
          · have h := it_neg0 h hc
            refine ax_iconst (v := (4 : Int32)) F dX0_formOf_53 (by decide) ?_
            refine ax_goto (t := 58) F dX0_formOf_54 (by decide) ?_
            obtain ⟨h1, h2⟩ := rt_some0 h
            subst h1; subst h2
            exact ax_iret F dX0_formOf_58
        · have h := it_neg0 h hc
          refine ax_iconst (v := (3 : Int32)) F dX0_formOf_42 (by decide) ?_
          obtain ⟨h1, h2⟩ := rt_some0 h
          subst h1; subst h2
          exact ax_iret F dX0_formOf_43
      · have h := it_neg0 h hc
        refine ax_iconst (v := (2 : Int32)) F dX0_formOf_31 (by decide) ?_
        obtain ⟨h1, h2⟩ := rt_some0 h
        subst h1; subst h2
        exact ax_iret F dX0_formOf_32
    · have h := it_neg0 h hc
      refine ax_iconst (v := (1 : Int32)) F dX0_formOf_20 (by decide) ?_
      obtain ⟨h1, h2⟩ := rt_some0 h
      subst h1; subst h2
      exact ax_iret F dX0_formOf_21
  · have h := it_neg0 h hc
    refine ax_iconst (v := (0 : Int32)) F dX0_formOf_9 (by decide) ?_
    obtain ⟨h1, h2⟩ := rt_some0 h
    subst h1; subst h2
    exact ax_iret F dX0_formOf_10
noncomputable def fX0_numbersOf (x0 : Int32) (M : Mm) : Option Rst := if x0 = (0 : Int32) then (some ((4 : Int32), M)) else if x0 = (1 : Int32) then (some ((1 : Int32), M)) else if x0 = (2 : Int32) then (some ((1 : Int32), M)) else if x0 = (3 : Int32) then (some ((3 : Int32), M)) else if x0 = (4 : Int32) then (some ((2 : Int32), M)) else (some ((1 : Int32), M))
def rmX0_numbersOf : Room := { frames := 0, cells := 0, slots := 0, locals := 0 }
theorem kn_X0_numbersOf : yX0_numbersOf.cls ≠ "java/lang/invoke/MethodHandle" ∧ yX0_numbersOf.cls ≠ "java/lang/invoke/VarHandle" ∧ (parseMethodDescriptor yX0_numbersOf.desc).map (fun d => d.parameters.length) = some 1 := by decide +kernel
set_option maxRecDepth 100000 in
set_option maxHeartbeats 4000000 in
theorem tX0_numbersOf {l : Launch} {G : va_G} {L : List Nat} {ad : Nat → Nat} {cs : Nat → ClassId} {z : Bool} {zk zv : Nat → Nat} (hinj : inj L ad) (hx : isX L) (x0 : Int32)  (M : Mm) (r : Int32) (M' : Mm) (h : fX0_numbersOf x0 M = some (r, M')) : Met l yX0_numbersOf (tgW yX0_numbersOf cX0_numbersOf 1 (some .int)) rmX0_numbersOf (APre G L ad cs z zk zv [.int x0] M) (AQi G L ad cs r M') 0 0 (inA L ad) := by
  refine met_of (Eq.refl true) (Nat.le_of_ble_eq_true rfl) hinj [some (.int x0)] rfl ?_
  intro p e s m below meth c F
  replace F : Fx G L ad cs z zk zv p m meth c cX0_numbersOf 1 (some .int) s _ RX0 := F
  unfold fX0_numbersOf at h
  refine ax_iload_n F dX0_numbersOf_0 rfl ?_
  by_cases hc0 : x0 = (0 : Int32)
  · have h := it_pos0 h hc0
    refine ax_swK (v := (0 : Int32)) (t := 36) F dX0_numbersOf_1 hc0 (by decide) (by decide) rfl (by decide) ?_
    refine ax_iconst (v := (4 : Int32)) F dX0_numbersOf_36 (by decide) ?_
    obtain ⟨h1, h2⟩ := rt_some0 h
    subst h1; subst h2
    exact ax_iret F dX0_numbersOf_37
  replace h := it_neg0 h hc0
  by_cases hc1 : x0 = (1 : Int32)
  · have h := it_pos0 h hc1
    refine ax_swK (v := (1 : Int32)) (t := 42) F dX0_numbersOf_1 hc1 (by decide) (by decide) rfl (by decide) ?_
    refine ax_iconst (v := (1 : Int32)) F dX0_numbersOf_42 (by decide) ?_
    obtain ⟨h1, h2⟩ := rt_some0 h
    subst h1; subst h2
    exact ax_iret F dX0_numbersOf_43
  replace h := it_neg0 h hc1
  by_cases hc2 : x0 = (2 : Int32)
  · have h := it_pos0 h hc2
    refine ax_swK (v := (2 : Int32)) (t := 42) F dX0_numbersOf_1 hc2 (by decide) (by decide) rfl (by decide) ?_
    refine ax_iconst (v := (1 : Int32)) F dX0_numbersOf_42 (by decide) ?_
    obtain ⟨h1, h2⟩ := rt_some0 h
    subst h1; subst h2
    exact ax_iret F dX0_numbersOf_43
  replace h := it_neg0 h hc2
  by_cases hc3 : x0 = (3 : Int32)
  · have h := it_pos0 h hc3
    refine ax_swK (v := (3 : Int32)) (t := 38) F dX0_numbersOf_1 hc3 (by decide) (by decide) rfl (by decide) ?_
    refine ax_iconst (v := (3 : Int32)) F dX0_numbersOf_38 (by decide) ?_
    obtain ⟨h1, h2⟩ := rt_some0 h
    subst h1; subst h2
    exact ax_iret F dX0_numbersOf_39
  replace h := it_neg0 h hc3
  by_cases hc4 : x0 = (4 : Int32)
  · have h := it_pos0 h hc4
    refine ax_swK (v := (4 : Int32)) (t := 40) F dX0_numbersOf_1 hc4 (by decide) (by decide) rfl (by decide) ?_
    refine ax_iconst (v := (2 : Int32)) F dX0_numbersOf_40 (by decide) ?_
    obtain ⟨h1, h2⟩ := rt_some0 h
    subst h1; subst h2
    exact ax_iret F dX0_numbersOf_41
  replace h := it_neg0 h hc4
  have hd0 : (x0).toInt ≠ 0 := fun e => hc0 (Int32.toInt_inj.mp (by rw [e]; rfl))
  have hd1 : (x0).toInt ≠ 1 := fun e => hc1 (Int32.toInt_inj.mp (by rw [e]; rfl))
  have hd2 : (x0).toInt ≠ 2 := fun e => hc2 (Int32.toInt_inj.mp (by rw [e]; rfl))
  have hd3 : (x0).toInt ≠ 3 := fun e => hc3 (Int32.toInt_inj.mp (by rw [e]; rfl))
  have hd4 : (x0).toInt ≠ 4 := fun e => hc4 (Int32.toInt_inj.mp (by rw [e]; rfl))
  refine ax_swOut (t := 42) F dX0_numbersOf_1 (by omega) (by decide) ?_
  refine ax_iconst (v := (1 : Int32)) F dX0_numbersOf_42 (by decide) ?_
  obtain ⟨h1, h2⟩ := rt_some0 h
  subst h1; subst h2
  exact ax_iret F dX0_numbersOf_43
def rmX6_number : Room := { frames := 1, cells := 0, slots := 0, locals := 21 }
theorem kn_X6_number : yX6_number.cls ≠ "java/lang/invoke/MethodHandle" ∧ yX6_number.cls ≠ "java/lang/invoke/VarHandle" ∧ (parseMethodDescriptor yX6_number.desc).map (fun d => d.parameters.length) = some 0 := by decide +kernel
noncomputable def bX6_number_0  (M : Mm) : Option (Sst ⊕ Rst) := if (M 1 2) = (2 : Int32) then (if ((M 1 4) - (M 1 3)) ≤ (3 : Int32) then (some (.inl (1, [], [(0 : Int32), (M 1 3)], M))) else (some (.inr ((-1 : Int32), M)))) else (some (.inr ((-1 : Int32), M)))
noncomputable def bX6_number_1 (x1 : Int32) (x2 : Int32) (M : Mm) : Option (Sst ⊕ Rst) := if (M 1 4) ≤ x2 then (some (.inr (x1, M))) else (cl (fX6_letterAt x2 M) (fun r1 M1 => some (.inl (1, [], [((x1 * (10 : Int32)) + (r1 - (48 : Int32))), (x2 + (1 : Int32))], M1))))
noncomputable def stX6_number : Sst → Option (Sst ⊕ Rst) := fun q => match q.1 with
  | 0 => bX6_number_0  q.2.2.2
  | 1 => bX6_number_1 (q.2.2.1.getD 0 0) (q.2.2.1.getD 1 0) q.2.2.2
  | _ => none
noncomputable def fX6_number  (M : Mm) : Option Rst := run stX6_number (0, [], [], M)
def PX6_number (p : Program) (l : Launch) (e : Env) (s : State) (m : MethodId) (args : Array Value) (below : List Frame) (meth : Method) (c : Code) (G : va_G) (L : List Nat) (ad : Nat → Nat) (cs : Nat → ClassId) (zk : Nat → Nat) (r : Int32) (M' : Mm) (n : Nat) : Prop := (∀  (M : Mm), itr stX6_number n (0, [], [], M) = some (r, M') → AW p l e rmX6_number s m args below meth c (MQ below (AQi G L ad cs r M') args s 0 0 (inA L ad)) G L ad cs 3 0 [some (.ref (ad 1)), none, none] [] M) ∧ (∀ (x1 : Int32) (x2 : Int32) (M : Mm), itr stX6_number n (1, [], [x1, x2], M) = some (r, M') → AW p l e rmX6_number s m args below meth c (MQ below (AQi G L ad cs r M') args s 0 0 (inA L ad)) G L ad cs 3 30 [some (.ref (ad 1)), some (.int x1), some (.int x2)] [] M)
set_option maxRecDepth 100000 in
set_option maxHeartbeats 4000000 in
theorem wX6_number_0 {p : Program} {l : Launch} {e : Env} {s : State} {m : MethodId} {args : Array Value} {below : List Frame} {meth : Method} {c : Code} {G : va_G} {L : List Nat} {ad : Nat → Nat} {cs : Nat → ClassId} {z : Bool} {zk zv : Nat → Nat} {r : Int32} {M' : Mm} {n : Nat} (F : Fx G L ad cs z zk zv p m meth c cX6_number 3 (some .int) s args RX6) (hx : isX L) (IH : PX6_number p l e s m args below meth c G L ad cs zk r M' n)  (M : Mm) (h : (bX6_number_0  M).bind (fun q => match q with | .inl s' => itr stX6_number n s' | .inr r => some r) = some (r, M'))  : AW p l e rmX6_number s m args below meth c (MQ below (AQi G L ad cs r M') args s 0 0 (inA L ad)) G L ad cs 3 0 [some (.ref (ad 1)), none, none] [] M := by
  unfold bX6_number_0 at h
  refine ax_aload_n F dX6_number_0 rfl ?_
  refine ax_get (v := .int (M 1 2)) F (ob_1 hx) rfl inGX6 2 (by decide) rfl kf_X6_32 rfl dX6_number_1 ?_
  refine ax_iconst (v := (2 : Int32)) F dX6_number_4 (by decide) ?_
  refine ax_icmp_ne (t := 21) F dX6_number_5 (by decide) (fun hc => ?_) (fun hc => ?_)
  · have h := it_neg h hc
    refine ax_iconst (v := (-1 : Int32)) F dX6_number_21 (by decide) ?_
    obtain ⟨h1, h2⟩ := rt_some h
    subst h1; subst h2
    exact ax_iret F dX6_number_22
  · have h := it_pos h hc
    refine ax_aload_n F dX6_number_8 rfl ?_
    refine ax_get (v := .int (M 1 4)) F (ob_1 hx) rfl inGX6 4 (by decide) rfl kf_X6_19 rfl dX6_number_9 ?_
    refine ax_aload_n F dX6_number_12 rfl ?_
    refine ax_get (v := .int (M 1 3)) F (ob_1 hx) rfl inGX6 3 (by decide) rfl kf_X6_22 rfl dX6_number_13 ?_
    refine ax_isub F dX6_number_16 ?_
    refine ax_iconst (v := (3 : Int32)) F dX6_number_17 (by decide) ?_
    refine ax_icmp_le (t := 23) F dX6_number_18 (by decide) (fun hc => ?_) (fun hc => ?_)
    · have h := it_pos h hc
      refine ax_iconst (v := (0 : Int32)) F dX6_number_23 (by decide) ?_
      refine ax_istore_n F dX6_number_24 (by decide) rfl ?_
      refine ax_aload_n F dX6_number_25 rfl ?_
      refine ax_get (v := .int (M 1 3)) F (ob_1 hx) rfl inGX6 3 (by decide) rfl kf_X6_22 rfl dX6_number_26 ?_
      refine ax_istore_n F dX6_number_29 (by decide) rfl ?_
      exact IH.2 _ _ _ h 
    · have h := it_neg h hc
      refine ax_iconst (v := (-1 : Int32)) F dX6_number_21 (by decide) ?_
      obtain ⟨h1, h2⟩ := rt_some h
      subst h1; subst h2
      exact ax_iret F dX6_number_22
set_option maxRecDepth 100000 in
set_option maxHeartbeats 4000000 in
theorem wX6_number_1 {p : Program} {l : Launch} {e : Env} {s : State} {m : MethodId} {args : Array Value} {below : List Frame} {meth : Method} {c : Code} {G : va_G} {L : List Nat} {ad : Nat → Nat} {cs : Nat → ClassId} {z : Bool} {zk zv : Nat → Nat} {r : Int32} {M' : Mm} {n : Nat} (F : Fx G L ad cs z zk zv p m meth c cX6_number 3 (some .int) s args RX6) (hx : isX L) (IH : PX6_number p l e s m args below meth c G L ad cs zk r M' n) (x1 : Int32) (x2 : Int32) (M : Mm) (h : (bX6_number_1 x1 x2 M).bind (fun q => match q with | .inl s' => itr stX6_number n s' | .inr r => some r) = some (r, M'))  : AW p l e rmX6_number s m args below meth c (MQ below (AQi G L ad cs r M') args s 0 0 (inA L ad)) G L ad cs 3 30 [some (.ref (ad 1)), some (.int x1), some (.int x2)] [] M := by
  unfold bX6_number_1 at h
  refine ax_iload_n F dX6_number_30 rfl ?_
  refine ax_aload_n F dX6_number_31 rfl ?_
  refine ax_get (v := .int (M 1 4)) F (ob_1 hx) rfl inGX6 4 (by decide) rfl kf_X6_19 rfl dX6_number_32 ?_
  refine ax_icmp_ge (t := 58) F dX6_number_35 (by decide) (fun hc => ?_) (fun hc => ?_)
  · have h := it_pos h hc
    refine ax_iload_n F dX6_number_58 rfl ?_
    obtain ⟨h1, h2⟩ := rt_some h
    subst h1; subst h2
    exact ax_iret F dX6_number_59
  · have h := it_neg h hc
    refine ax_iload_n F dX6_number_38 rfl ?_
    refine ax_bipush (v := (10 : Int32)) F dX6_number_39 (by decide) ?_
    refine ax_imul F dX6_number_41 ?_
    refine ax_aload_n F dX6_number_42 rfl ?_
    refine ax_iload_n F dX6_number_43 rfl ?_
    obtain ⟨r1, M1, hq1, h⟩ := cq_some h
    refine ax_callVi (As := [.int x2]) (st := [.int (x1 * (10 : Int32))]) F (tX6_letterAt F.2.2.2.2.2.2.1 hx _  _ _ _ hq1) (ob_1 hx) rfl kc_X6_letterAt kz_X6 ki_X6_letterAt ks_X6_letterAt km_X6_25 ⟨kn_X6_letterAt, rfl, rfl, Nat.le_of_ble_eq_true rfl, Nat.le_of_ble_eq_true rfl⟩ rfl (Nat.le_of_ble_eq_true rfl) dX6_number_44 ?_
    refine ax_bipush (v := (48 : Int32)) F dX6_number_47 (by decide) ?_
    refine ax_isub F dX6_number_49 ?_
    refine ax_iadd F dX6_number_50 ?_
    refine ax_istore_n F dX6_number_51 (by decide) rfl ?_
    refine ax_iinc (v := (1 : Int32)) F dX6_number_52 rfl (by decide) (by decide) rfl ?_
    refine ax_goto (t := 30) F dX6_number_55 (by decide) ?_
    exact IH.2 _ _ _ h 
set_option maxRecDepth 100000 in
set_option maxHeartbeats 4000000 in
theorem wX6_number {p : Program} {l : Launch} {e : Env} {s : State} {m : MethodId} {args : Array Value} {below : List Frame} {meth : Method} {c : Code} {G : va_G} {L : List Nat} {ad : Nat → Nat} {cs : Nat → ClassId} {z : Bool} {zk zv : Nat → Nat} {r : Int32} {M' : Mm} (F : Fx G L ad cs z zk zv p m meth c cX6_number 3 (some .int) s args RX6) (hx : isX L) (n : Nat) : PX6_number p l e s m args below meth c G L ad cs zk r M' n := by
  induction n with
  | zero => exact ⟨(fun  M h => by cases h), (fun x1 x2 M h => by cases h)⟩
  | succ n ih =>
    exact ⟨fun  M h  => wX6_number_0 F hx ih  M h ,
      fun x1 x2 M h  => wX6_number_1 F hx ih x1 x2 M h ⟩
set_option maxRecDepth 100000 in
set_option maxHeartbeats 4000000 in
theorem tX6_number {l : Launch} {G : va_G} {L : List Nat} {ad : Nat → Nat} {cs : Nat → ClassId} {z : Bool} {zk zv : Nat → Nat} (hinj : inj L ad) (hx : isX L)   (M : Mm) (r : Int32) (M' : Mm) (h : fX6_number  M = some (r, M')) : Met l yX6_number (tgW yX6_number cX6_number 3 (some .int)) rmX6_number (APre G L ad cs z zk zv [.ref (ad 1)] M) (AQi G L ad cs r M') 0 0 (inA L ad) := by
  refine met_of (Eq.refl true) (Nat.le_of_ble_eq_true rfl) hinj [some (.ref (ad 1)), none, none] rfl ?_
  intro p e s m below meth c F
  replace F : Fx G L ad cs z zk zv p m meth c cX6_number 3 (some .int) s _ RX6 := F
  obtain ⟨n, hn⟩ := run_ex h
  exact (wX6_number F hx n).1  M hn 
noncomputable def fX0_formAt (x1 : Int32) (M : Mm) : Option Rst := if x1 < 0 then (some ((-1 : Int32), M)) else (if (24 : Int32) ≤ x1 then (some ((-1 : Int32), M)) else (gd (okI x1 24) (some ((M 4 (ix x1)), M))))
def rmX0_formAt : Room := { frames := 0, cells := 0, slots := 0, locals := 0 }
theorem kn_X0_formAt : yX0_formAt.cls ≠ "java/lang/invoke/MethodHandle" ∧ yX0_formAt.cls ≠ "java/lang/invoke/VarHandle" ∧ (parseMethodDescriptor yX0_formAt.desc).map (fun d => d.parameters.length) = some 1 := by decide +kernel
set_option maxRecDepth 100000 in
set_option maxHeartbeats 4000000 in
theorem tX0_formAt {l : Launch} {G : va_G} {L : List Nat} {ad : Nat → Nat} {cs : Nat → ClassId} {z : Bool} {zk zv : Nat → Nat} (hinj : inj L ad) (hx : isX L) (x1 : Int32)  (M : Mm) (r : Int32) (M' : Mm) (h : fX0_formAt x1 M = some (r, M')) : Met l yX0_formAt (tgW yX0_formAt cX0_formAt 2 (some .int)) rmX0_formAt (APre G L ad cs z zk zv [.ref (ad 3), .int x1] M) (AQi G L ad cs r M') 0 0 (inA L ad) := by
  refine met_of (Eq.refl true) (Nat.le_of_ble_eq_true rfl) hinj [some (.ref (ad 3)), some (.int x1)] rfl ?_
  intro p e s m below meth c F
  replace F : Fx G L ad cs z zk zv p m meth c cX0_formAt 2 (some .int) s _ RX0 := F
  unfold fX0_formAt at h
  refine ax_iload_n F dX0_formAt_0 rfl ?_
  refine ax_if_lt (t := 19) F dX0_formAt_1 (by decide) (fun hc => ?_) (fun hc => ?_)
  · have h := it_pos0 h hc
    refine ax_iconst (v := (-1 : Int32)) F dX0_formAt_19 (by decide) ?_
    obtain ⟨h1, h2⟩ := rt_some0 h
    subst h1; subst h2
    exact ax_iret F dX0_formAt_20
  · have h := it_neg0 h hc
    refine ax_iload_n F dX0_formAt_4 rfl ?_
    refine ax_bipush (v := (24 : Int32)) F dX0_formAt_5 (by decide) ?_
    refine ax_icmp_ge (t := 19) F dX0_formAt_7 (by decide) (fun hc => ?_) (fun hc => ?_)
    · have h := it_pos0 h hc
      refine ax_iconst (v := (-1 : Int32)) F dX0_formAt_19 (by decide) ?_
      obtain ⟨h1, h2⟩ := rt_some0 h
      subst h1; subst h2
      exact ax_iret F dX0_formAt_20
    · have h := it_neg0 h hc
      refine ax_aload_n F dX0_formAt_10 rfl ?_
      refine ax_get (v := .ref (ad 4)) F (ob_3 hx) rfl inGX0 0 (by decide) rfl kf_X0_9 rfl dX0_formAt_11 ?_
      refine ax_iload_n F dX0_formAt_14 rfl ?_
      obtain ⟨hg, h⟩ := gd_some0 h
      refine ax_iald F (ar_4 hx) hg dX0_formAt_15 ?_
      refine ax_goto (t := 20) F dX0_formAt_16 (by decide) ?_
      obtain ⟨h1, h2⟩ := rt_some0 h
      subst h1; subst h2
      exact ax_iret F dX0_formAt_20
noncomputable def fX0_leastOfNet (x0 : Int32) (M : Mm) : Option Rst := if x0 = 0 then (some ((2 : Int32), M)) else (some ((1 : Int32), M))
def rmX0_leastOfNet : Room := { frames := 0, cells := 0, slots := 0, locals := 0 }
theorem kn_X0_leastOfNet : yX0_leastOfNet.cls ≠ "java/lang/invoke/MethodHandle" ∧ yX0_leastOfNet.cls ≠ "java/lang/invoke/VarHandle" ∧ (parseMethodDescriptor yX0_leastOfNet.desc).map (fun d => d.parameters.length) = some 1 := by decide +kernel
set_option maxRecDepth 100000 in
set_option maxHeartbeats 4000000 in
theorem tX0_leastOfNet {l : Launch} {G : va_G} {L : List Nat} {ad : Nat → Nat} {cs : Nat → ClassId} {z : Bool} {zk zv : Nat → Nat} (hinj : inj L ad) (hx : isX L) (x0 : Int32)  (M : Mm) (r : Int32) (M' : Mm) (h : fX0_leastOfNet x0 M = some (r, M')) : Met l yX0_leastOfNet (tgW yX0_leastOfNet cX0_leastOfNet 1 (some .int)) rmX0_leastOfNet (APre G L ad cs z zk zv [.int x0] M) (AQi G L ad cs r M') 0 0 (inA L ad) := by
  refine met_of (Eq.refl true) (Nat.le_of_ble_eq_true rfl) hinj [some (.int x0)] rfl ?_
  intro p e s m below meth c F
  replace F : Fx G L ad cs z zk zv p m meth c cX0_leastOfNet 1 (some .int) s _ RX0 := F
  unfold fX0_leastOfNet at h
  refine ax_iload_n F dX0_leastOfNet_0 rfl ?_
  refine ax_if_ne (t := 8) F dX0_leastOfNet_1 (by decide) (fun hc => ?_) (fun hc => ?_)
  · have h := it_neg0 h hc
    refine ax_iconst (v := (1 : Int32)) F dX0_leastOfNet_8 (by decide) ?_
    obtain ⟨h1, h2⟩ := rt_some0 h
    subst h1; subst h2
    exact ax_iret F dX0_leastOfNet_9
  · have h := it_pos0 h hc
    refine ax_iconst (v := (2 : Int32)) F dX0_leastOfNet_4 (by decide) ?_
    refine ax_goto (t := 9) F dX0_leastOfNet_5 (by decide) ?_
    obtain ⟨h1, h2⟩ := rt_some0 h
    subst h1; subst h2
    exact ax_iret F dX0_leastOfNet_9
noncomputable def fX0_numberOf (x1 : Int32) (x2 : Int32) (M : Mm) : Option Rst := if x1 < 0 then (some ((-1 : Int32), M)) else (if (24 : Int32) ≤ x1 then (some ((-1 : Int32), M)) else (if x2 < 0 then (some ((-1 : Int32), M)) else (if x2 < (4 : Int32) then (gd (okI ((x1 * (4 : Int32)) + x2) 96) (some ((M 5 (ix ((x1 * (4 : Int32)) + x2))), M))) else (some ((-1 : Int32), M)))))
def rmX0_numberOf : Room := { frames := 0, cells := 0, slots := 0, locals := 0 }
theorem kn_X0_numberOf : yX0_numberOf.cls ≠ "java/lang/invoke/MethodHandle" ∧ yX0_numberOf.cls ≠ "java/lang/invoke/VarHandle" ∧ (parseMethodDescriptor yX0_numberOf.desc).map (fun d => d.parameters.length) = some 2 := by decide +kernel
set_option maxRecDepth 100000 in
set_option maxHeartbeats 4000000 in
theorem tX0_numberOf {l : Launch} {G : va_G} {L : List Nat} {ad : Nat → Nat} {cs : Nat → ClassId} {z : Bool} {zk zv : Nat → Nat} (hinj : inj L ad) (hx : isX L) (x1 : Int32) (x2 : Int32)  (M : Mm) (r : Int32) (M' : Mm) (h : fX0_numberOf x1 x2 M = some (r, M')) : Met l yX0_numberOf (tgW yX0_numberOf cX0_numberOf 3 (some .int)) rmX0_numberOf (APre G L ad cs z zk zv [.ref (ad 3), .int x1, .int x2] M) (AQi G L ad cs r M') 0 0 (inA L ad) := by
  refine met_of (Eq.refl true) (Nat.le_of_ble_eq_true rfl) hinj [some (.ref (ad 3)), some (.int x1), some (.int x2)] rfl ?_
  intro p e s m below meth c F
  replace F : Fx G L ad cs z zk zv p m meth c cX0_numberOf 3 (some .int) s _ RX0 := F
  unfold fX0_numberOf at h
  refine ax_iload_n F dX0_numberOf_0 rfl ?_
  refine ax_if_lt (t := 19) F dX0_numberOf_1 (by decide) (fun hc => ?_) (fun hc => ?_)
  · have h := it_pos0 h hc
    refine ax_iconst (v := (-1 : Int32)) F dX0_numberOf_19 (by decide) ?_
    obtain ⟨h1, h2⟩ := rt_some0 h
    subst h1; subst h2
    exact ax_iret F dX0_numberOf_20
  · have h := it_neg0 h hc
    refine ax_iload_n F dX0_numberOf_4 rfl ?_
    refine ax_bipush (v := (24 : Int32)) F dX0_numberOf_5 (by decide) ?_
    refine ax_icmp_ge (t := 19) F dX0_numberOf_7 (by decide) (fun hc => ?_) (fun hc => ?_)
    · have h := it_pos0 h hc
      refine ax_iconst (v := (-1 : Int32)) F dX0_numberOf_19 (by decide) ?_
      obtain ⟨h1, h2⟩ := rt_some0 h
      subst h1; subst h2
      exact ax_iret F dX0_numberOf_20
    · have h := it_neg0 h hc
      refine ax_iload_n F dX0_numberOf_10 rfl ?_
      refine ax_if_lt (t := 19) F dX0_numberOf_11 (by decide) (fun hc => ?_) (fun hc => ?_)
      · have h := it_pos0 h hc
        refine ax_iconst (v := (-1 : Int32)) F dX0_numberOf_19 (by decide) ?_
        obtain ⟨h1, h2⟩ := rt_some0 h
        subst h1; subst h2
        exact ax_iret F dX0_numberOf_20
      · have h := it_neg0 h hc
        refine ax_iload_n F dX0_numberOf_14 rfl ?_
        refine ax_iconst (v := (4 : Int32)) F dX0_numberOf_15 (by decide) ?_
        refine ax_icmp_lt (t := 21) F dX0_numberOf_16 (by decide) (fun hc => ?_) (fun hc => ?_)
        · have h := it_pos0 h hc
          refine ax_aload_n F dX0_numberOf_21 rfl ?_
          refine ax_get (v := .ref (ad 5)) F (ob_3 hx) rfl inGX0 1 (by decide) rfl kf_X0_15 rfl dX0_numberOf_22 ?_
          refine ax_iload_n F dX0_numberOf_25 rfl ?_
          refine ax_iconst (v := (4 : Int32)) F dX0_numberOf_26 (by decide) ?_
          refine ax_imul F dX0_numberOf_27 ?_
          refine ax_iload_n F dX0_numberOf_28 rfl ?_
          refine ax_iadd F dX0_numberOf_29 ?_
          obtain ⟨hg, h⟩ := gd_some0 h
          refine ax_iald F (ar_5 hx) hg dX0_numberOf_30 ?_
          obtain ⟨h1, h2⟩ := rt_some0 h
          subst h1; subst h2
          exact ax_iret F dX0_numberOf_31
        · have h := it_neg0 h hc
          refine ax_iconst (v := (-1 : Int32)) F dX0_numberOf_19 (by decide) ?_
          obtain ⟨h1, h2⟩ := rt_some0 h
          subst h1; subst h2
          exact ax_iret F dX0_numberOf_20
noncomputable def fX0_mostOfNet (x1 : Int32) (x2 : Int32) (M : Mm) : Option Rst := if x2 = (0 : Int32) then (some ((8 : Int32), M)) else if x2 = (1 : Int32) then (some ((5 : Int32), M)) else if x2 = (2 : Int32) then (cl (fX0_numberOf x1 (1 : Int32) M) (fun r1 M1 => some (r1, M1))) else (some ((999 : Int32), M))
def rmX0_mostOfNet : Room := { frames := 1, cells := 0, slots := 0, locals := 22 }
theorem kn_X0_mostOfNet : yX0_mostOfNet.cls ≠ "java/lang/invoke/MethodHandle" ∧ yX0_mostOfNet.cls ≠ "java/lang/invoke/VarHandle" ∧ (parseMethodDescriptor yX0_mostOfNet.desc).map (fun d => d.parameters.length) = some 2 := by decide +kernel
set_option maxRecDepth 100000 in
set_option maxHeartbeats 4000000 in
theorem tX0_mostOfNet {l : Launch} {G : va_G} {L : List Nat} {ad : Nat → Nat} {cs : Nat → ClassId} {z : Bool} {zk zv : Nat → Nat} (hinj : inj L ad) (hx : isX L) (x1 : Int32) (x2 : Int32)  (M : Mm) (r : Int32) (M' : Mm) (h : fX0_mostOfNet x1 x2 M = some (r, M')) : Met l yX0_mostOfNet (tgW yX0_mostOfNet cX0_mostOfNet 3 (some .int)) rmX0_mostOfNet (APre G L ad cs z zk zv [.ref (ad 3), .int x1, .int x2] M) (AQi G L ad cs r M') 0 0 (inA L ad) := by
  refine met_of (Eq.refl true) (Nat.le_of_ble_eq_true rfl) hinj [some (.ref (ad 3)), some (.int x1), some (.int x2)] rfl ?_
  intro p e s m below meth c F
  replace F : Fx G L ad cs z zk zv p m meth c cX0_mostOfNet 3 (some .int) s _ RX0 := F
  unfold fX0_mostOfNet at h
  refine ax_iload_n F dX0_mostOfNet_0 rfl ?_
  by_cases hc0 : x2 = (0 : Int32)
  · have h := it_pos0 h hc0
    refine ax_swK (v := (0 : Int32)) (t := 28) F dX0_mostOfNet_1 hc0 (by decide) (by decide) rfl (by decide) ?_
    refine ax_bipush (v := (8 : Int32)) F dX0_mostOfNet_28 (by decide) ?_
    obtain ⟨h1, h2⟩ := rt_some0 h
    subst h1; subst h2
    exact ax_iret F dX0_mostOfNet_30
  replace h := it_neg0 h hc0
  by_cases hc1 : x2 = (1 : Int32)
  · have h := it_pos0 h hc1
    refine ax_swK (v := (1 : Int32)) (t := 31) F dX0_mostOfNet_1 hc1 (by decide) (by decide) rfl (by decide) ?_
    refine ax_iconst (v := (5 : Int32)) F dX0_mostOfNet_31 (by decide) ?_
    obtain ⟨h1, h2⟩ := rt_some0 h
    subst h1; subst h2
    exact ax_iret F dX0_mostOfNet_32
  replace h := it_neg0 h hc1
  by_cases hc2 : x2 = (2 : Int32)
  · have h := it_pos0 h hc2
    refine ax_swK (v := (2 : Int32)) (t := 33) F dX0_mostOfNet_1 hc2 (by decide) (by decide) rfl (by decide) ?_
    refine ax_aload_n F dX0_mostOfNet_33 rfl ?_
    refine ax_iload_n F dX0_mostOfNet_34 rfl ?_
    refine ax_iconst (v := (1 : Int32)) F dX0_mostOfNet_35 (by decide) ?_
    obtain ⟨r1, M1, hq1, h⟩ := cq_some0 h
    refine ax_callVi (As := [.int x1, .int (1 : Int32)]) (st := []) F (tX0_numberOf F.2.2.2.2.2.2.1 hx _ _  _ _ _ hq1) (ob_3 hx) rfl kc_X0_numberOf kz_X0 ki_X0_numberOf ks_X0_numberOf km_X0_59 ⟨kn_X0_numberOf, rfl, rfl, Nat.le_of_ble_eq_true rfl, Nat.le_of_ble_eq_true rfl⟩ rfl (Nat.le_of_ble_eq_true rfl) dX0_mostOfNet_36 ?_
    obtain ⟨h1, h2⟩ := rt_some0 h
    subst h1; subst h2
    exact ax_iret F dX0_mostOfNet_39
  replace h := it_neg0 h hc2
  have hd0 : (x2).toInt ≠ 0 := fun e => hc0 (Int32.toInt_inj.mp (by rw [e]; rfl))
  have hd1 : (x2).toInt ≠ 1 := fun e => hc1 (Int32.toInt_inj.mp (by rw [e]; rfl))
  have hd2 : (x2).toInt ≠ 2 := fun e => hc2 (Int32.toInt_inj.mp (by rw [e]; rfl))
  refine ax_swOut (t := 40) F dX0_mostOfNet_1 (by omega) (by decide) ?_
  refine ax_sipush (v := (999 : Int32)) F dX0_mostOfNet_40 (by decide) ?_
  obtain ⟨h1, h2⟩ := rt_some0 h
  subst h1; subst h2
  exact ax_iret F dX0_mostOfNet_43
noncomputable def fX0_fits (x1 : Int32) (x2 : Int32) (x3 : Int32) (M : Mm) : Option Rst := cl (fX0_formAt x1 M) (fun r1 M1 => if r1 = 0 then (cl (fX0_leastOfNet x2 M1) (fun r3 M3 => if x3 < r3 then (some ((0 : Int32), M3)) else (cl (fX0_mostOfNet x1 x2 M3) (fun r4 M4 => if r4 < x3 then (some ((0 : Int32), M4)) else (some ((1 : Int32), M4)))))) else (if x2 = (2 : Int32) then (if x3 < 0 then (some ((0 : Int32), M1)) else (if (99 : Int32) < x3 then (some ((0 : Int32), M1)) else (some ((1 : Int32), M1)))) else (if x3 < 0 then (some ((0 : Int32), M1)) else (if (M1 3 3) ≤ x3 then (some ((0 : Int32), M1)) else (if x2 = 0 then (some ((1 : Int32), M1)) else (cl (fX0_numberOf x1 (0 : Int32) M1) (fun r2 M2 => if x3 = r2 then (some ((0 : Int32), M2)) else (some ((1 : Int32), M2)))))))))
def rmX0_fits : Room := { frames := 2, cells := 0, slots := 0, locals := 44 }
theorem kn_X0_fits : yX0_fits.cls ≠ "java/lang/invoke/MethodHandle" ∧ yX0_fits.cls ≠ "java/lang/invoke/VarHandle" ∧ (parseMethodDescriptor yX0_fits.desc).map (fun d => d.parameters.length) = some 3 := by decide +kernel
set_option maxRecDepth 100000 in
set_option maxHeartbeats 4000000 in
theorem tX0_fits {l : Launch} {G : va_G} {L : List Nat} {ad : Nat → Nat} {cs : Nat → ClassId} {z : Bool} {zk zv : Nat → Nat} (hinj : inj L ad) (hx : isX L) (x1 : Int32) (x2 : Int32) (x3 : Int32)  (M : Mm) (r : Int32) (M' : Mm) (h : fX0_fits x1 x2 x3 M = some (r, M')) : Met l yX0_fits (tgW yX0_fits cX0_fits 5 (some .boolean)) rmX0_fits (APre G L ad cs z zk zv [.ref (ad 3), .int x1, .int x2, .int x3] M) (AQi G L ad cs r M') 0 0 (inA L ad) := by
  refine met_of (Eq.refl true) (Nat.le_of_ble_eq_true rfl) hinj [some (.ref (ad 3)), some (.int x1), some (.int x2), some (.int x3), none] rfl ?_
  intro p e s m below meth c F
  replace F : Fx G L ad cs z zk zv p m meth c cX0_fits 5 (some .boolean) s _ RX0 := F
  unfold fX0_fits at h
  refine ax_aload_n F dX0_fits_0 rfl ?_
  refine ax_iload_n F dX0_fits_1 rfl ?_
  obtain ⟨r1, M1, hq1, h⟩ := cq_some0 h
  refine ax_callVi (As := [.int x1]) (st := []) F (tX0_formAt F.2.2.2.2.2.2.1 hx _  _ _ _ hq1) (ob_3 hx) rfl kc_X0_formAt kz_X0 ki_X0_formAt ks_X0_formAt km_X0_63 ⟨kn_X0_formAt, rfl, rfl, Nat.le_of_ble_eq_true rfl, Nat.le_of_ble_eq_true rfl⟩ rfl (Nat.le_of_ble_eq_true rfl) dX0_fits_2 ?_
  refine ax_istore F dX0_fits_5 (by decide) rfl ?_
  refine ax_iload F dX0_fits_7 rfl ?_
  refine ax_if_ne (t := 36) F dX0_fits_9 (by decide) (fun hc => ?_) (fun hc => ?_)
  · have h := it_neg0 h hc
    refine ax_iload_n F dX0_fits_36 rfl ?_
    refine ax_iconst (v := (2 : Int32)) F dX0_fits_37 (by decide) ?_
    refine ax_icmp_ne (t := 57) F dX0_fits_38 (by decide) (fun hc => ?_) (fun hc => ?_)
    · have h := it_neg0 h hc
      refine ax_iload_n F dX0_fits_57 rfl ?_
      refine ax_if_lt (t := 87) F dX0_fits_58 (by decide) (fun hc => ?_) (fun hc => ?_)
      · have h := it_pos0 h hc
        refine ax_iconst (v := (0 : Int32)) F dX0_fits_87 (by decide) ?_
        obtain ⟨h1, h2⟩ := rt_some0 h
        subst h1; subst h2
        exact ax_zret F (by decide) dX0_fits_88
      · have h := it_neg0 h hc
        refine ax_iload_n F dX0_fits_61 rfl ?_
        refine ax_aload_n F dX0_fits_62 rfl ?_
        refine ax_get (v := .int (M1 3 3)) F (ob_3 hx) rfl inGX0 3 (by decide) rfl kf_X0_18 rfl dX0_fits_63 ?_
        refine ax_icmp_ge (t := 87) F dX0_fits_66 (by decide) (fun hc => ?_) (fun hc => ?_)
        · have h := it_pos0 h hc
          refine ax_iconst (v := (0 : Int32)) F dX0_fits_87 (by decide) ?_
          obtain ⟨h1, h2⟩ := rt_some0 h
          subst h1; subst h2
          exact ax_zret F (by decide) dX0_fits_88
        · have h := it_neg0 h hc
          refine ax_iload_n F dX0_fits_69 rfl ?_
          refine ax_if_eq (t := 83) F dX0_fits_70 (by decide) (fun hc => ?_) (fun hc => ?_)
          · have h := it_pos0 h hc
            refine ax_iconst (v := (1 : Int32)) F dX0_fits_83 (by decide) ?_
            refine ax_goto (t := 88) F dX0_fits_84 (by decide) ?_
            obtain ⟨h1, h2⟩ := rt_some0 h
            subst h1; subst h2
            exact ax_zret F (by decide) dX0_fits_88
          · have h := it_neg0 h hc
            refine ax_iload_n F dX0_fits_73 rfl ?_
            refine ax_aload_n F dX0_fits_74 rfl ?_
            refine ax_iload_n F dX0_fits_75 rfl ?_
            refine ax_iconst (v := (0 : Int32)) F dX0_fits_76 (by decide) ?_
            obtain ⟨r2, M2, hq2, h⟩ := cq_some0 h
            refine ax_callVi (As := [.int x1, .int (0 : Int32)]) (st := [.int x3]) F (tX0_numberOf F.2.2.2.2.2.2.1 hx _ _  _ _ _ hq2) (ob_3 hx) rfl kc_X0_numberOf kz_X0 ki_X0_numberOf ks_X0_numberOf km_X0_59 ⟨kn_X0_numberOf, rfl, rfl, Nat.le_of_ble_eq_true rfl, Nat.le_of_ble_eq_true rfl⟩ rfl (Nat.le_of_ble_eq_true rfl) dX0_fits_77 ?_
            refine ax_icmp_eq (t := 87) F dX0_fits_80 (by decide) (fun hc => ?_) (fun hc => ?_)
            · have h := it_pos0 h hc
              refine ax_iconst (v := (0 : Int32)) F dX0_fits_87 (by decide) ?_
              obtain ⟨h1, h2⟩ := rt_some0 h
              subst h1; subst h2
              exact ax_zret F (by decide) dX0_fits_88
            · have h := it_neg0 h hc
              refine ax_iconst (v := (1 : Int32)) F dX0_fits_83 (by decide) ?_
              refine ax_goto (t := 88) F dX0_fits_84 (by decide) ?_
              obtain ⟨h1, h2⟩ := rt_some0 h
              subst h1; subst h2
              exact ax_zret F (by decide) dX0_fits_88
    · have h := it_pos0 h hc
      refine ax_iload_n F dX0_fits_41 rfl ?_
      refine ax_if_lt (t := 55) F dX0_fits_42 (by decide) (fun hc => ?_) (fun hc => ?_)
      · have h := it_pos0 h hc
        refine ax_iconst (v := (0 : Int32)) F dX0_fits_55 (by decide) ?_
        obtain ⟨h1, h2⟩ := rt_some0 h
        subst h1; subst h2
        exact ax_zret F (by decide) dX0_fits_56
      · have h := it_neg0 h hc
        refine ax_iload_n F dX0_fits_45 rfl ?_
        refine ax_bipush (v := (99 : Int32)) F dX0_fits_46 (by decide) ?_
        refine ax_icmp_gt (t := 55) F dX0_fits_48 (by decide) (fun hc => ?_) (fun hc => ?_)
        · have h := it_pos0 h hc
          refine ax_iconst (v := (0 : Int32)) F dX0_fits_55 (by decide) ?_
          obtain ⟨h1, h2⟩ := rt_some0 h
          subst h1; subst h2
          exact ax_zret F (by decide) dX0_fits_56
        · have h := it_neg0 h hc
          refine ax_iconst (v := (1 : Int32)) F dX0_fits_51 (by decide) ?_
          refine ax_goto (t := 56) F dX0_fits_52 (by decide) ?_
          obtain ⟨h1, h2⟩ := rt_some0 h
          subst h1; subst h2
          exact ax_zret F (by decide) dX0_fits_56
  · have h := it_pos0 h hc
    refine ax_iload_n F dX0_fits_12 rfl ?_
    refine ax_iload_n F dX0_fits_13 rfl ?_
    obtain ⟨r3, M3, hq3, h⟩ := cq_some0 h
    refine ax_callSi (As := [.int x2]) (st := [.int x3]) F (tX0_leastOfNet F.2.2.2.2.2.2.1 hx _  _ _ _ hq3) kc_X0_leastOfNet kz_X0 kt_X0_leastOfNet km_X0_66 ⟨kn_X0_leastOfNet, rfl, rfl, Nat.le_of_ble_eq_true rfl, Nat.le_of_ble_eq_true rfl⟩ rfl (Nat.le_of_ble_eq_true rfl) dX0_fits_14 ?_
    refine ax_icmp_lt (t := 34) F dX0_fits_17 (by decide) (fun hc => ?_) (fun hc => ?_)
    · have h := it_pos0 h hc
      refine ax_iconst (v := (0 : Int32)) F dX0_fits_34 (by decide) ?_
      obtain ⟨h1, h2⟩ := rt_some0 h
      subst h1; subst h2
      exact ax_zret F (by decide) dX0_fits_35
    · have h := it_neg0 h hc
      refine ax_iload_n F dX0_fits_20 rfl ?_
      refine ax_aload_n F dX0_fits_21 rfl ?_
      refine ax_iload_n F dX0_fits_22 rfl ?_
      refine ax_iload_n F dX0_fits_23 rfl ?_
      obtain ⟨r4, M4, hq4, h⟩ := cq_some0 h
      refine ax_callVi (As := [.int x1, .int x2]) (st := [.int x3]) F (tX0_mostOfNet F.2.2.2.2.2.2.1 hx _ _  _ _ _ hq4) (ob_3 hx) rfl kc_X0_mostOfNet kz_X0 ki_X0_mostOfNet ks_X0_mostOfNet km_X0_69 ⟨kn_X0_mostOfNet, rfl, rfl, Nat.le_of_ble_eq_true rfl, Nat.le_of_ble_eq_true rfl⟩ rfl (Nat.le_of_ble_eq_true rfl) dX0_fits_24 ?_
      refine ax_icmp_gt (t := 34) F dX0_fits_27 (by decide) (fun hc => ?_) (fun hc => ?_)
      · have h := it_pos0 h hc
        refine ax_iconst (v := (0 : Int32)) F dX0_fits_34 (by decide) ?_
        obtain ⟨h1, h2⟩ := rt_some0 h
        subst h1; subst h2
        exact ax_zret F (by decide) dX0_fits_35
      · have h := it_neg0 h hc
        refine ax_iconst (v := (1 : Int32)) F dX0_fits_30 (by decide) ?_
        refine ax_goto (t := 35) F dX0_fits_31 (by decide) ?_
        obtain ⟨h1, h2⟩ := rt_some0 h
        subst h1; subst h2
        exact ax_zret F (by decide) dX0_fits_35
def rmX0_readClause : Room := { frames := 6, cells := 0, slots := 0, locals := 172 }
theorem kn_X0_readClause : yX0_readClause.cls ≠ "java/lang/invoke/MethodHandle" ∧ yX0_readClause.cls ≠ "java/lang/invoke/VarHandle" ∧ (parseMethodDescriptor yX0_readClause.desc).map (fun d => d.parameters.length) = some 2 := by decide +kernel
noncomputable def bX0_readClause_0 (x2 : Int32) (M : Mm) : Option (Sst ⊕ Rst) := cl (fX0_formOf M) (fun r1 M1 => if r1 = (-1 : Int32) then (some (.inr ((0 : Int32), M1))) else (if x2 < 0 then (some (.inr ((0 : Int32), M1))) else (if x2 < (24 : Int32) then (gd (okI x2 24) (some (.inl (1, [], [x2, r1, (0 : Int32)], (up2 M1 4 (ix x2) r1))))) else (some (.inr ((0 : Int32), M1))))))
noncomputable def bX0_readClause_1 (x2 : Int32) (x3 : Int32) (x4 : Int32) (M : Mm) : Option (Sst ⊕ Rst) := cl (fX0_numbersOf x3 M) (fun r1 M1 => if r1 ≤ x4 then (some (.inl (2, [], [x2, x3], M1))) else (if (4 : Int32) ≤ x4 then (some (.inl (2, [], [x2, x3], M1))) else (cl (fX6_readToken M1) (fun r2 M2 => cl (fX6_number M2) (fun r3 M3 => cl (fX0_fits x2 x4 r3 M3) (fun r4 M4 => if r4 = 0 then (some (.inr ((0 : Int32), M4))) else (gd (okI ((x2 * (4 : Int32)) + x4) 96) (some (.inl (1, [], [x2, x3, (x4 + (1 : Int32))], (up2 M4 5 (ix ((x2 * (4 : Int32)) + x4)) r3)))))))))))
noncomputable def bX0_readClause_2 (x2 : Int32) (x3 : Int32) (M : Mm) : Option (Sst ⊕ Rst) := if x3 = 0 then (cl (fX0_numberOf x2 (0 : Int32) M) (fun r2 M2 => cl (fX6_readToken (up2 M2 3 3 r2)) (fun r3 M3 => some (.inr ((1 : Int32), M3))))) else (cl (fX6_readToken M) (fun r1 M1 => some (.inr ((1 : Int32), M1))))
noncomputable def stX0_readClause : Sst → Option (Sst ⊕ Rst) := fun q => match q.1 with
  | 0 => bX0_readClause_0 (q.2.2.1.getD 0 0) q.2.2.2
  | 1 => bX0_readClause_1 (q.2.2.1.getD 0 0) (q.2.2.1.getD 1 0) (q.2.2.1.getD 2 0) q.2.2.2
  | 2 => bX0_readClause_2 (q.2.2.1.getD 0 0) (q.2.2.1.getD 1 0) q.2.2.2
  | _ => none
noncomputable def fX0_readClause (x2 : Int32) (M : Mm) : Option Rst := run stX0_readClause (0, [], [x2], M)
def PX0_readClause (p : Program) (l : Launch) (e : Env) (s : State) (m : MethodId) (args : Array Value) (below : List Frame) (meth : Method) (c : Code) (G : va_G) (L : List Nat) (ad : Nat → Nat) (cs : Nat → ClassId) (zk : Nat → Nat) (r : Int32) (M' : Mm) (n : Nat) : Prop := (∀ (x2 : Int32) (M : Mm), itr stX0_readClause n (0, [], [x2], M) = some (r, M') → AW p l e rmX0_readClause s m args below meth c (MQ below (AQi G L ad cs r M') args s 0 0 (inA L ad)) G L ad cs 6 0 [some (.ref (ad 3)), some (.ref (ad 1)), some (.int x2), none, none, none] [] M) ∧ (∀ (x2 : Int32) (x3 : Int32) (x4 : Int32) (M : Mm), itr stX0_readClause n (1, [], [x2, x3, x4], M) = some (r, M') → AW p l e rmX0_readClause s m args below meth c (MQ below (AQi G L ad cs r M') args s 0 0 (inA L ad)) G L ad cs 6 32 [some (.ref (ad 3)), some (.ref (ad 1)), some (.int x2), some (.int x3), some (.int x4), none] [] M) ∧ (∀ (x2 : Int32) (x3 : Int32) (M : Mm), itr stX0_readClause n (2, [], [x2, x3], M) = some (r, M') → AW p l e rmX0_readClause s m args below meth c (MQ below (AQi G L ad cs r M') args s 0 0 (inA L ad)) G L ad cs 6 90 [some (.ref (ad 3)), some (.ref (ad 1)), some (.int x2), some (.int x3), none, none] [] M)
set_option maxRecDepth 100000 in
set_option maxHeartbeats 4000000 in
theorem wX0_readClause_0 {p : Program} {l : Launch} {e : Env} {s : State} {m : MethodId} {args : Array Value} {below : List Frame} {meth : Method} {c : Code} {G : va_G} {L : List Nat} {ad : Nat → Nat} {cs : Nat → ClassId} {z : Bool} {zk zv : Nat → Nat} {r : Int32} {M' : Mm} {n : Nat} (F : Fx G L ad cs z zk zv p m meth c cX0_readClause 6 (some .boolean) s args RX0) (hx : isX L) (hz0 : z = true) (IH : PX0_readClause p l e s m args below meth c G L ad cs zk r M' n) (x2 : Int32) (M : Mm) (h : (bX0_readClause_0 x2 M).bind (fun q => match q with | .inl s' => itr stX0_readClause n s' | .inr r => some r) = some (r, M'))  : AW p l e rmX0_readClause s m args below meth c (MQ below (AQi G L ad cs r M') args s 0 0 (inA L ad)) G L ad cs 6 0 [some (.ref (ad 3)), some (.ref (ad 1)), some (.int x2), none, none, none] [] M := by
  unfold bX0_readClause_0 at h
  refine ax_aload_n F dX0_readClause_0 rfl ?_
  obtain ⟨r1, M1, hq1, h⟩ := cq_some h
  refine ax_callSi (As := [.ref (ad 1)]) (st := []) F (tX0_formOf F.2.2.2.2.2.2.1 hx hz0   _ _ _ hq1) kc_X0_formOf kz_X0 kt_X0_formOf km_X0_43 ⟨kn_X0_formOf, rfl, rfl, Nat.le_of_ble_eq_true rfl, Nat.le_of_ble_eq_true rfl⟩ rfl (Nat.le_of_ble_eq_true rfl) dX0_readClause_1 ?_
  refine ax_istore_n F dX0_readClause_4 (by decide) rfl ?_
  refine ax_iload_n F dX0_readClause_5 rfl ?_
  refine ax_iconst (v := (-1 : Int32)) F dX0_readClause_6 (by decide) ?_
  refine ax_icmp_eq (t := 20) F dX0_readClause_7 (by decide) (fun hc => ?_) (fun hc => ?_)
  · have h := it_pos h hc
    refine ax_iconst (v := (0 : Int32)) F dX0_readClause_20 (by decide) ?_
    obtain ⟨h1, h2⟩ := rt_some h
    subst h1; subst h2
    exact ax_zret F (by decide) dX0_readClause_21
  · have h := it_neg h hc
    refine ax_iload_n F dX0_readClause_10 rfl ?_
    refine ax_if_lt (t := 20) F dX0_readClause_11 (by decide) (fun hc => ?_) (fun hc => ?_)
    · have h := it_pos h hc
      refine ax_iconst (v := (0 : Int32)) F dX0_readClause_20 (by decide) ?_
      obtain ⟨h1, h2⟩ := rt_some h
      subst h1; subst h2
      exact ax_zret F (by decide) dX0_readClause_21
    · have h := it_neg h hc
      refine ax_iload_n F dX0_readClause_14 rfl ?_
      refine ax_bipush (v := (24 : Int32)) F dX0_readClause_15 (by decide) ?_
      refine ax_icmp_lt (t := 22) F dX0_readClause_17 (by decide) (fun hc => ?_) (fun hc => ?_)
      · have h := it_pos h hc
        refine ax_aload_n F dX0_readClause_22 rfl ?_
        refine ax_get (v := .ref (ad 4)) F (ob_3 hx) rfl inGX0 0 (by decide) rfl kf_X0_9 rfl dX0_readClause_23 ?_
        refine ax_iload_n F dX0_readClause_26 rfl ?_
        refine ax_iload_n F dX0_readClause_27 rfl ?_
        obtain ⟨hg, h⟩ := gd_some h
        refine ax_iast F (ar_4 hx) hg dX0_readClause_28 ?_
        refine ax_iconst (v := (0 : Int32)) F dX0_readClause_29 (by decide) ?_
        refine ax_istore F dX0_readClause_30 (by decide) rfl ?_
        exact IH.2.1 _ _ _ _ h 
      · have h := it_neg h hc
        refine ax_iconst (v := (0 : Int32)) F dX0_readClause_20 (by decide) ?_
        obtain ⟨h1, h2⟩ := rt_some h
        subst h1; subst h2
        exact ax_zret F (by decide) dX0_readClause_21
set_option maxRecDepth 100000 in
set_option maxHeartbeats 4000000 in
theorem wX0_readClause_1 {p : Program} {l : Launch} {e : Env} {s : State} {m : MethodId} {args : Array Value} {below : List Frame} {meth : Method} {c : Code} {G : va_G} {L : List Nat} {ad : Nat → Nat} {cs : Nat → ClassId} {z : Bool} {zk zv : Nat → Nat} {r : Int32} {M' : Mm} {n : Nat} (F : Fx G L ad cs z zk zv p m meth c cX0_readClause 6 (some .boolean) s args RX0) (hx : isX L) (hz0 : z = true) (IH : PX0_readClause p l e s m args below meth c G L ad cs zk r M' n) (x2 : Int32) (x3 : Int32) (x4 : Int32) (M : Mm) (h : (bX0_readClause_1 x2 x3 x4 M).bind (fun q => match q with | .inl s' => itr stX0_readClause n s' | .inr r => some r) = some (r, M'))  : AW p l e rmX0_readClause s m args below meth c (MQ below (AQi G L ad cs r M') args s 0 0 (inA L ad)) G L ad cs 6 32 [some (.ref (ad 3)), some (.ref (ad 1)), some (.int x2), some (.int x3), some (.int x4), none] [] M := by
  unfold bX0_readClause_1 at h
  refine ax_iload F dX0_readClause_32 rfl ?_
  refine ax_iload_n F dX0_readClause_34 rfl ?_
  obtain ⟨r1, M1, hq1, h⟩ := cq_some h
  refine ax_callSi (As := [.int x3]) (st := [.int x4]) F (tX0_numbersOf F.2.2.2.2.2.2.1 hx _  _ _ _ hq1) kc_X0_numbersOf kz_X0 kt_X0_numbersOf km_X0_47 ⟨kn_X0_numbersOf, rfl, rfl, Nat.le_of_ble_eq_true rfl, Nat.le_of_ble_eq_true rfl⟩ rfl (Nat.le_of_ble_eq_true rfl) dX0_readClause_35 ?_
  refine ax_icmp_ge (t := 90) F dX0_readClause_38 (by decide) (fun hc => ?_) (fun hc => ?_)
  · have h := it_pos h hc
    refine ax_mask [true, true, true, true, false, false] ?_
    exact IH.2.2 _ _ _ h 
  · have h := it_neg h hc
    refine ax_iload F dX0_readClause_41 rfl ?_
    refine ax_iconst (v := (4 : Int32)) F dX0_readClause_43 (by decide) ?_
    refine ax_icmp_ge (t := 90) F dX0_readClause_44 (by decide) (fun hc => ?_) (fun hc => ?_)
    · have h := it_pos h hc
      refine ax_mask [true, true, true, true, false, false] ?_
      exact IH.2.2 _ _ _ h 
    · have h := it_neg h hc
      refine ax_aload_n F dX0_readClause_47 rfl ?_
      obtain ⟨r2, M2, hq2, h⟩ := cq_some h
      refine ax_callVv (As := []) (st := []) F (tX6_readToken F.2.2.2.2.2.2.1 hx   _ _ _ hq2) (ob_1 hx) rfl kc_X6_readToken kz_X6 ki_X6_readToken ks_X6_readToken km_X0_30 ⟨kn_X6_readToken, rfl, rfl, Nat.le_of_ble_eq_true rfl, Nat.le_of_ble_eq_true rfl⟩ rfl (Nat.le_of_ble_eq_true rfl) dX0_readClause_48 ?_
      refine ax_aload_n F dX0_readClause_51 rfl ?_
      obtain ⟨r3, M3, hq3, h⟩ := cq_some h
      refine ax_callVi (As := []) (st := []) F (tX6_number F.2.2.2.2.2.2.1 hx   _ _ _ hq3) (ob_1 hx) rfl kc_X6_number kz_X6 ki_X6_number ks_X6_number km_X0_51 ⟨kn_X6_number, rfl, rfl, Nat.le_of_ble_eq_true rfl, Nat.le_of_ble_eq_true rfl⟩ rfl (Nat.le_of_ble_eq_true rfl) dX0_readClause_52 ?_
      refine ax_istore F dX0_readClause_55 (by decide) rfl ?_
      refine ax_aload_n F dX0_readClause_57 rfl ?_
      refine ax_iload_n F dX0_readClause_58 rfl ?_
      refine ax_iload F dX0_readClause_59 rfl ?_
      refine ax_iload F dX0_readClause_61 rfl ?_
      obtain ⟨r4, M4, hq4, h⟩ := cq_some h
      refine ax_callVi (As := [.int x2, .int x4, .int r3]) (st := []) F (tX0_fits F.2.2.2.2.2.2.1 hx _ _ _  _ _ _ hq4) (ob_3 hx) rfl kc_X0_fits kz_X0 ki_X0_fits ks_X0_fits km_X0_55 ⟨kn_X0_fits, rfl, rfl, Nat.le_of_ble_eq_true rfl, Nat.le_of_ble_eq_true rfl⟩ rfl (Nat.le_of_ble_eq_true rfl) dX0_readClause_63 ?_
      refine ax_if_ne (t := 71) F dX0_readClause_66 (by decide) (fun hc => ?_) (fun hc => ?_)
      · have h := it_neg h hc
        refine ax_aload_n F dX0_readClause_71 rfl ?_
        refine ax_get (v := .ref (ad 5)) F (ob_3 hx) rfl inGX0 1 (by decide) rfl kf_X0_15 rfl dX0_readClause_72 ?_
        refine ax_iload_n F dX0_readClause_75 rfl ?_
        refine ax_iconst (v := (4 : Int32)) F dX0_readClause_76 (by decide) ?_
        refine ax_imul F dX0_readClause_77 ?_
        refine ax_iload F dX0_readClause_78 rfl ?_
        refine ax_iadd F dX0_readClause_80 ?_
        refine ax_iload F dX0_readClause_81 rfl ?_
        obtain ⟨hg, h⟩ := gd_some h
        refine ax_iast F (ar_5 hx) hg dX0_readClause_83 ?_
        refine ax_iinc (v := (1 : Int32)) F dX0_readClause_84 rfl (by decide) (by decide) rfl ?_
        refine ax_goto (t := 32) F dX0_readClause_87 (by decide) ?_
        refine ax_mask [true, true, true, true, true, false] ?_
        exact IH.2.1 _ _ _ _ h 
      · have h := it_pos h hc
        refine ax_iconst (v := (0 : Int32)) F dX0_readClause_69 (by decide) ?_
        obtain ⟨h1, h2⟩ := rt_some h
        subst h1; subst h2
        exact ax_zret F (by decide) dX0_readClause_70
set_option maxRecDepth 100000 in
set_option maxHeartbeats 4000000 in
theorem wX0_readClause_2 {p : Program} {l : Launch} {e : Env} {s : State} {m : MethodId} {args : Array Value} {below : List Frame} {meth : Method} {c : Code} {G : va_G} {L : List Nat} {ad : Nat → Nat} {cs : Nat → ClassId} {z : Bool} {zk zv : Nat → Nat} {r : Int32} {M' : Mm} {n : Nat} (F : Fx G L ad cs z zk zv p m meth c cX0_readClause 6 (some .boolean) s args RX0) (hx : isX L) (hz0 : z = true) (IH : PX0_readClause p l e s m args below meth c G L ad cs zk r M' n) (x2 : Int32) (x3 : Int32) (M : Mm) (h : (bX0_readClause_2 x2 x3 M).bind (fun q => match q with | .inl s' => itr stX0_readClause n s' | .inr r => some r) = some (r, M'))  : AW p l e rmX0_readClause s m args below meth c (MQ below (AQi G L ad cs r M') args s 0 0 (inA L ad)) G L ad cs 6 90 [some (.ref (ad 3)), some (.ref (ad 1)), some (.int x2), some (.int x3), none, none] [] M := by
  unfold bX0_readClause_2 at h
  refine ax_iload_n F dX0_readClause_90 rfl ?_
  refine ax_if_ne (t := 104) F dX0_readClause_91 (by decide) (fun hc => ?_) (fun hc => ?_)
  · have h := it_neg h hc
    refine ax_aload_n F dX0_readClause_104 rfl ?_
    obtain ⟨r1, M1, hq1, h⟩ := cq_some h
    refine ax_callVv (As := []) (st := []) F (tX6_readToken F.2.2.2.2.2.2.1 hx   _ _ _ hq1) (ob_1 hx) rfl kc_X6_readToken kz_X6 ki_X6_readToken ks_X6_readToken km_X0_30 ⟨kn_X6_readToken, rfl, rfl, Nat.le_of_ble_eq_true rfl, Nat.le_of_ble_eq_true rfl⟩ rfl (Nat.le_of_ble_eq_true rfl) dX0_readClause_105 ?_
    refine ax_iconst (v := (1 : Int32)) F dX0_readClause_108 (by decide) ?_
    obtain ⟨h1, h2⟩ := rt_some h
    subst h1; subst h2
    exact ax_zret F (by decide) dX0_readClause_109
  · have h := it_pos h hc
    refine ax_aload_n F dX0_readClause_94 rfl ?_
    refine ax_aload_n F dX0_readClause_95 rfl ?_
    refine ax_iload_n F dX0_readClause_96 rfl ?_
    refine ax_iconst (v := (0 : Int32)) F dX0_readClause_97 (by decide) ?_
    obtain ⟨r2, M2, hq2, h⟩ := cq_some h
    refine ax_callVi (As := [.int x2, .int (0 : Int32)]) (st := [.ref (ad 3)]) F (tX0_numberOf F.2.2.2.2.2.2.1 hx _ _  _ _ _ hq2) (ob_3 hx) rfl kc_X0_numberOf kz_X0 ki_X0_numberOf ks_X0_numberOf km_X0_59 ⟨kn_X0_numberOf, rfl, rfl, Nat.le_of_ble_eq_true rfl, Nat.le_of_ble_eq_true rfl⟩ rfl (Nat.le_of_ble_eq_true rfl) dX0_readClause_98 ?_
    refine ax_put (ty := .int) F (ob_3 hx) rfl inGX0 tyX0 tyX0_ok nmX0 3 (by decide) rfl kf_X0_18 (by decide) rfl rfl (Nat.le_of_ble_eq_true rfl) rfl dX0_readClause_101 ?_
    refine ax_aload_n F dX0_readClause_104 rfl ?_
    obtain ⟨r3, M3, hq3, h⟩ := cq_some h
    refine ax_callVv (As := []) (st := []) F (tX6_readToken F.2.2.2.2.2.2.1 hx   _ _ _ hq3) (ob_1 hx) rfl kc_X6_readToken kz_X6 ki_X6_readToken ks_X6_readToken km_X0_30 ⟨kn_X6_readToken, rfl, rfl, Nat.le_of_ble_eq_true rfl, Nat.le_of_ble_eq_true rfl⟩ rfl (Nat.le_of_ble_eq_true rfl) dX0_readClause_105 ?_
    refine ax_iconst (v := (1 : Int32)) F dX0_readClause_108 (by decide) ?_
    obtain ⟨h1, h2⟩ := rt_some h
    subst h1; subst h2
    exact ax_zret F (by decide) dX0_readClause_109
set_option maxRecDepth 100000 in
set_option maxHeartbeats 4000000 in
theorem wX0_readClause {p : Program} {l : Launch} {e : Env} {s : State} {m : MethodId} {args : Array Value} {below : List Frame} {meth : Method} {c : Code} {G : va_G} {L : List Nat} {ad : Nat → Nat} {cs : Nat → ClassId} {z : Bool} {zk zv : Nat → Nat} {r : Int32} {M' : Mm} (F : Fx G L ad cs z zk zv p m meth c cX0_readClause 6 (some .boolean) s args RX0) (hx : isX L) (hz0 : z = true) (n : Nat) : PX0_readClause p l e s m args below meth c G L ad cs zk r M' n := by
  induction n with
  | zero => exact ⟨(fun x2 M h => by cases h), (fun x2 x3 x4 M h => by cases h), (fun x2 x3 M h => by cases h)⟩
  | succ n ih =>
    exact ⟨fun x2 M h  => wX0_readClause_0 F hx hz0 ih x2 M h ,
      fun x2 x3 x4 M h  => wX0_readClause_1 F hx hz0 ih x2 x3 x4 M h ,
      fun x2 x3 M h  => wX0_readClause_2 F hx hz0 ih x2 x3 M h ⟩
set_option maxRecDepth 100000 in
set_option maxHeartbeats 4000000 in
theorem tX0_readClause {l : Launch} {G : va_G} {L : List Nat} {ad : Nat → Nat} {cs : Nat → ClassId} {z : Bool} {zk zv : Nat → Nat} (hinj : inj L ad) (hx : isX L) (hz0 : z = true) (x2 : Int32)  (M : Mm) (r : Int32) (M' : Mm) (h : fX0_readClause x2 M = some (r, M')) : Met l yX0_readClause (tgW yX0_readClause cX0_readClause 6 (some .boolean)) rmX0_readClause (APre G L ad cs z zk zv [.ref (ad 3), .ref (ad 1), .int x2] M) (AQi G L ad cs r M') 0 0 (inA L ad) := by
  refine met_of (Eq.refl true) (Nat.le_of_ble_eq_true rfl) hinj [some (.ref (ad 3)), some (.ref (ad 1)), some (.int x2), none, none, none] rfl ?_
  intro p e s m below meth c F
  replace F : Fx G L ad cs z zk zv p m meth c cX0_readClause 6 (some .boolean) s _ RX0 := F
  obtain ⟨n, hn⟩ := run_ex h
  exact (wX0_readClause F hx hz0 n).1 x2 M hn 
def rmX0_read : Room := { frames := 7, cells := 0, slots := 0, locals := 197 }
theorem kn_X0_read : yX0_read.cls ≠ "java/lang/invoke/MethodHandle" ∧ yX0_read.cls ≠ "java/lang/invoke/VarHandle" ∧ (parseMethodDescriptor yX0_read.desc).map (fun d => d.parameters.length) = some 2 := by decide +kernel
noncomputable def bX0_read_0 (x2 : Int32) (M : Mm) : Option (Sst ⊕ Rst) := cl (fX6_rewind (up2 (up2 M 3 3 x2) 3 2 (0 : Int32))) (fun r1 M1 => some (.inl (1, [], [(0 : Int32)], M1)))
noncomputable def bX0_read_1 (x3 : Int32) (M : Mm) : Option (Sst ⊕ Rst) := if (24 : Int32) ≤ x3 then (some (.inr ((M 1 3), M))) else (cl (fX6_readToken M) (fun r1 M1 => cl (fX0_readClause x3 M1) (fun r2 M2 => if r2 = 0 then (some (.inr ((M2 1 3), M2))) else (if ((up2 M2 3 2 (x3 + (1 : Int32))) 1 2) = 0 then (some (.inr ((-1 : Int32), (up2 M2 3 2 (x3 + (1 : Int32)))))) else (if ((up2 M2 3 2 (x3 + (1 : Int32))) 1 2) = (3 : Int32) then (some (.inl (1, [], [(x3 + (1 : Int32))], (up2 M2 3 2 (x3 + (1 : Int32)))))) else (some (.inr (((up2 M2 3 2 (x3 + (1 : Int32))) 1 3), (up2 M2 3 2 (x3 + (1 : Int32)))))))))))
noncomputable def stX0_read : Sst → Option (Sst ⊕ Rst) := fun q => match q.1 with
  | 0 => bX0_read_0 (q.2.2.1.getD 0 0) q.2.2.2
  | 1 => bX0_read_1 (q.2.2.1.getD 0 0) q.2.2.2
  | _ => none
noncomputable def fX0_read (x2 : Int32) (M : Mm) : Option Rst := run stX0_read (0, [], [x2], M)
def PX0_read (p : Program) (l : Launch) (e : Env) (s : State) (m : MethodId) (args : Array Value) (below : List Frame) (meth : Method) (c : Code) (G : va_G) (L : List Nat) (ad : Nat → Nat) (cs : Nat → ClassId) (zk : Nat → Nat) (r : Int32) (M' : Mm) (n : Nat) : Prop := (∀ (x2 : Int32) (M : Mm), itr stX0_read n (0, [], [x2], M) = some (r, M') → AW p l e rmX0_read s m args below meth c (MQ below (AQi G L ad cs r M') args s 0 0 (inA L ad)) G L ad cs 4 0 [some (.ref (ad 3)), some (.ref (ad 1)), some (.int x2), none] [] M) ∧ (∀ (x3 : Int32) (M : Mm), itr stX0_read n (1, [], [x3], M) = some (r, M') → AW p l e rmX0_read s m args below meth c (MQ below (AQi G L ad cs r M') args s 0 0 (inA L ad)) G L ad cs 4 16 [some (.ref (ad 3)), some (.ref (ad 1)), none, some (.int x3)] [] M)
set_option maxRecDepth 100000 in
set_option maxHeartbeats 4000000 in
theorem wX0_read_0 {p : Program} {l : Launch} {e : Env} {s : State} {m : MethodId} {args : Array Value} {below : List Frame} {meth : Method} {c : Code} {G : va_G} {L : List Nat} {ad : Nat → Nat} {cs : Nat → ClassId} {z : Bool} {zk zv : Nat → Nat} {r : Int32} {M' : Mm} {n : Nat} (F : Fx G L ad cs z zk zv p m meth c cX0_read 4 (some .int) s args RX0) (hx : isX L) (hz0 : z = true) (IH : PX0_read p l e s m args below meth c G L ad cs zk r M' n) (x2 : Int32) (M : Mm) (h : (bX0_read_0 x2 M).bind (fun q => match q with | .inl s' => itr stX0_read n s' | .inr r => some r) = some (r, M'))  : AW p l e rmX0_read s m args below meth c (MQ below (AQi G L ad cs r M') args s 0 0 (inA L ad)) G L ad cs 4 0 [some (.ref (ad 3)), some (.ref (ad 1)), some (.int x2), none] [] M := by
  unfold bX0_read_0 at h
  refine ax_aload_n F dX0_read_0 rfl ?_
  refine ax_iload_n F dX0_read_1 rfl ?_
  refine ax_put (ty := .int) F (ob_3 hx) rfl inGX0 tyX0 tyX0_ok nmX0 3 (by decide) rfl kf_X0_18 (by decide) rfl rfl (Nat.le_of_ble_eq_true rfl) rfl dX0_read_2 ?_
  refine ax_aload_n F dX0_read_5 rfl ?_
  refine ax_iconst (v := (0 : Int32)) F dX0_read_6 (by decide) ?_
  refine ax_put (ty := .int) F (ob_3 hx) rfl inGX0 tyX0 tyX0_ok nmX0 2 (by decide) rfl kf_X0_22 (by decide) rfl rfl (Nat.le_of_ble_eq_true rfl) rfl dX0_read_7 ?_
  refine ax_aload_n F dX0_read_10 rfl ?_
  obtain ⟨r1, M1, hq1, h⟩ := cq_some h
  refine ax_callVv (As := []) (st := []) F (tX6_rewind F.2.2.2.2.2.2.1 hx   _ _ _ hq1) (ob_1 hx) rfl kc_X6_rewind kz_X6 ki_X6_rewind ks_X6_rewind km_X0_25 ⟨kn_X6_rewind, rfl, rfl, Nat.le_of_ble_eq_true rfl, Nat.le_of_ble_eq_true rfl⟩ rfl (Nat.le_of_ble_eq_true rfl) dX0_read_11 ?_
  refine ax_iconst (v := (0 : Int32)) F dX0_read_14 (by decide) ?_
  refine ax_istore_n F dX0_read_15 (by decide) rfl ?_
  refine ax_mask [true, true, false, true] ?_
  exact IH.2 _ _ h 
set_option maxRecDepth 100000 in
set_option maxHeartbeats 4000000 in
theorem wX0_read_1 {p : Program} {l : Launch} {e : Env} {s : State} {m : MethodId} {args : Array Value} {below : List Frame} {meth : Method} {c : Code} {G : va_G} {L : List Nat} {ad : Nat → Nat} {cs : Nat → ClassId} {z : Bool} {zk zv : Nat → Nat} {r : Int32} {M' : Mm} {n : Nat} (F : Fx G L ad cs z zk zv p m meth c cX0_read 4 (some .int) s args RX0) (hx : isX L) (hz0 : z = true) (IH : PX0_read p l e s m args below meth c G L ad cs zk r M' n) (x3 : Int32) (M : Mm) (h : (bX0_read_1 x3 M).bind (fun q => match q with | .inl s' => itr stX0_read n s' | .inr r => some r) = some (r, M'))  : AW p l e rmX0_read s m args below meth c (MQ below (AQi G L ad cs r M') args s 0 0 (inA L ad)) G L ad cs 4 16 [some (.ref (ad 3)), some (.ref (ad 1)), none, some (.int x3)] [] M := by
  unfold bX0_read_1 at h
  refine ax_iload_n F dX0_read_16 rfl ?_
  refine ax_bipush (v := (24 : Int32)) F dX0_read_17 (by decide) ?_
  refine ax_icmp_ge (t := 75) F dX0_read_19 (by decide) (fun hc => ?_) (fun hc => ?_)
  · have h := it_pos h hc
    refine ax_aload_n F dX0_read_75 rfl ?_
    refine ax_get (v := .int (M 1 3)) F (ob_1 hx) rfl inGX6 3 (by decide) rfl kf_X0_37 rfl dX0_read_76 ?_
    obtain ⟨h1, h2⟩ := rt_some h
    subst h1; subst h2
    exact ax_iret F dX0_read_79
  · have h := it_neg h hc
    refine ax_aload_n F dX0_read_22 rfl ?_
    obtain ⟨r1, M1, hq1, h⟩ := cq_some h
    refine ax_callVv (As := []) (st := []) F (tX6_readToken F.2.2.2.2.2.2.1 hx   _ _ _ hq1) (ob_1 hx) rfl kc_X6_readToken kz_X6 ki_X6_readToken ks_X6_readToken km_X0_30 ⟨kn_X6_readToken, rfl, rfl, Nat.le_of_ble_eq_true rfl, Nat.le_of_ble_eq_true rfl⟩ rfl (Nat.le_of_ble_eq_true rfl) dX0_read_23 ?_
    refine ax_aload_n F dX0_read_26 rfl ?_
    refine ax_aload_n F dX0_read_27 rfl ?_
    refine ax_iload_n F dX0_read_28 rfl ?_
    obtain ⟨r2, M2, hq2, h⟩ := cq_some h
    refine ax_callVi (As := [.ref (ad 1), .int x3]) (st := []) F (tX0_readClause F.2.2.2.2.2.2.1 hx hz0 _  _ _ _ hq2) (ob_3 hx) rfl kc_X0_readClause kz_X0 ki_X0_readClause ks_X0_readClause km_X0_33 ⟨kn_X0_readClause, rfl, rfl, Nat.le_of_ble_eq_true rfl, Nat.le_of_ble_eq_true rfl⟩ rfl (Nat.le_of_ble_eq_true rfl) dX0_read_29 ?_
    refine ax_if_ne (t := 40) F dX0_read_32 (by decide) (fun hc => ?_) (fun hc => ?_)
    · have h := it_neg h hc
      refine ax_aload_n F dX0_read_40 rfl ?_
      refine ax_iload_n F dX0_read_41 rfl ?_
      refine ax_iconst (v := (1 : Int32)) F dX0_read_42 (by decide) ?_
      refine ax_iadd F dX0_read_43 ?_
      refine ax_put (ty := .int) F (ob_3 hx) rfl inGX0 tyX0 tyX0_ok nmX0 2 (by decide) rfl kf_X0_22 (by decide) rfl rfl (Nat.le_of_ble_eq_true rfl) rfl dX0_read_44 ?_
      refine ax_aload_n F dX0_read_47 rfl ?_
      refine ax_get (v := .int ((up2 M2 3 2 (x3 + (1 : Int32))) 1 2)) F (ob_1 hx) rfl inGX6 2 (by decide) rfl kf_X0_40 rfl dX0_read_48 ?_
      refine ax_if_ne (t := 56) F dX0_read_51 (by decide) (fun hc => ?_) (fun hc => ?_)
      · have h := it_neg h hc
        refine ax_aload_n F dX0_read_56 rfl ?_
        refine ax_get (v := .int ((up2 M2 3 2 (x3 + (1 : Int32))) 1 2)) F (ob_1 hx) rfl inGX6 2 (by decide) rfl kf_X0_40 rfl dX0_read_57 ?_
        refine ax_iconst (v := (3 : Int32)) F dX0_read_60 (by decide) ?_
        refine ax_icmp_eq (t := 69) F dX0_read_61 (by decide) (fun hc => ?_) (fun hc => ?_)
        · have h := it_pos h hc
          refine ax_iinc (v := (1 : Int32)) F dX0_read_69 rfl (by decide) (by decide) rfl ?_
          refine ax_goto (t := 16) F dX0_read_72 (by decide) ?_
          exact IH.2 _ _ h 
        · have h := it_neg h hc
          refine ax_aload_n F dX0_read_64 rfl ?_
          refine ax_get (v := .int ((up2 M2 3 2 (x3 + (1 : Int32))) 1 3)) F (ob_1 hx) rfl inGX6 3 (by decide) rfl kf_X0_37 rfl dX0_read_65 ?_
          obtain ⟨h1, h2⟩ := rt_some h
          subst h1; subst h2
          exact ax_iret F dX0_read_68
      · have h := it_pos h hc
        refine ax_iconst (v := (-1 : Int32)) F dX0_read_54 (by decide) ?_
        obtain ⟨h1, h2⟩ := rt_some h
        subst h1; subst h2
        exact ax_iret F dX0_read_55
    · have h := it_pos h hc
      refine ax_aload_n F dX0_read_35 rfl ?_
      refine ax_get (v := .int (M2 1 3)) F (ob_1 hx) rfl inGX6 3 (by decide) rfl kf_X0_37 rfl dX0_read_36 ?_
      obtain ⟨h1, h2⟩ := rt_some h
      subst h1; subst h2
      exact ax_iret F dX0_read_39
set_option maxRecDepth 100000 in
set_option maxHeartbeats 4000000 in
theorem wX0_read {p : Program} {l : Launch} {e : Env} {s : State} {m : MethodId} {args : Array Value} {below : List Frame} {meth : Method} {c : Code} {G : va_G} {L : List Nat} {ad : Nat → Nat} {cs : Nat → ClassId} {z : Bool} {zk zv : Nat → Nat} {r : Int32} {M' : Mm} (F : Fx G L ad cs z zk zv p m meth c cX0_read 4 (some .int) s args RX0) (hx : isX L) (hz0 : z = true) (n : Nat) : PX0_read p l e s m args below meth c G L ad cs zk r M' n := by
  induction n with
  | zero => exact ⟨(fun x2 M h => by cases h), (fun x3 M h => by cases h)⟩
  | succ n ih =>
    exact ⟨fun x2 M h  => wX0_read_0 F hx hz0 ih x2 M h ,
      fun x3 M h  => wX0_read_1 F hx hz0 ih x3 M h ⟩
set_option maxRecDepth 100000 in
set_option maxHeartbeats 4000000 in
theorem tX0_read {l : Launch} {G : va_G} {L : List Nat} {ad : Nat → Nat} {cs : Nat → ClassId} {z : Bool} {zk zv : Nat → Nat} (hinj : inj L ad) (hx : isX L) (hz0 : z = true) (x2 : Int32)  (M : Mm) (r : Int32) (M' : Mm) (h : fX0_read x2 M = some (r, M')) : Met l yX0_read (tgW yX0_read cX0_read 4 (some .int)) rmX0_read (APre G L ad cs z zk zv [.ref (ad 3), .ref (ad 1), .int x2] M) (AQi G L ad cs r M') 0 0 (inA L ad) := by
  refine met_of (Eq.refl true) (Nat.le_of_ble_eq_true rfl) hinj [some (.ref (ad 3)), some (.ref (ad 1)), some (.int x2), none] rfl ?_
  intro p e s m below meth c F
  replace F : Fx G L ad cs z zk zv p m meth c cX0_read 4 (some .int) s _ RX0 := F
  obtain ⟨n, hn⟩ := run_ex h
  exact (wX0_read F hx hz0 n).1 x2 M hn 
noncomputable def fX7_clear (a0 : Nat) (M : Mm) : Option Rst := some ((0 : Int32), (up2 M a0 2 (0 : Int32)))
def rmX7_clear : Room := { frames := 0, cells := 0, slots := 0, locals := 0 }
theorem kn_X7_clear : yX7_clear.cls ≠ "java/lang/invoke/MethodHandle" ∧ yX7_clear.cls ≠ "java/lang/invoke/VarHandle" ∧ (parseMethodDescriptor yX7_clear.desc).map (fun d => d.parameters.length) = some 0 := by decide +kernel
set_option maxRecDepth 100000 in
set_option maxHeartbeats 4000000 in
theorem tX7_clear {l : Launch} {G : va_G} {L : List Nat} {ad : Nat → Nat} {cs : Nat → ClassId} {z : Bool} {zk zv : Nat → Nat} (hinj : inj L ad)  (a0 : Nat) (h0 : isV L a0) (M : Mm) (r : Int32) (M' : Mm) (h : fX7_clear a0 M = some (r, M')) : Met l yX7_clear (tgW yX7_clear cX7_clear 1 none) rmX7_clear (APre G L ad cs z zk zv [.ref (ad a0)] M) (AQv G L ad cs M') 0 0 (inA L ad) := by
  refine met_of (Eq.refl true) (Nat.le_of_ble_eq_true rfl) hinj [some (.ref (ad a0))] rfl ?_
  intro p e s m below meth c F
  replace F : Fx G L ad cs z zk zv p m meth c cX7_clear 1 none s _ RX7 := F
  unfold fX7_clear at h
  refine ax_aload_n F dX7_clear_0 rfl ?_
  refine ax_iconst (v := (0 : Int32)) F dX7_clear_1 (by decide) ?_
  refine ax_put (ty := .int) F (ob_V h0) rfl inGX7 tyX7 tyX7_ok nmX7 2 (by decide) rfl kf_X7_18 (by decide) rfl rfl (Nat.le_of_ble_eq_true rfl) rfl dX7_clear_2 ?_
  obtain ⟨h1, h2⟩ := rt_some0 h
  subst h2
  exact ax_vret F dX7_clear_5
noncomputable def fX7_append (a0 : Nat) (x1 : Int32) (x2 : Int32) (M : Mm) : Option Rst := if (M a0 2) < 0 then (some ((0 : Int32), M)) else (if (5 : Int32) ≤ (M a0 2) then (some ((0 : Int32), M)) else (gd (okI (M a0 2) 5) (gd (okI ((up2 M (a0 + 1) (ix (M a0 2)) x1) a0 2) 5) (some ((0 : Int32), (up2 (up2 (up2 M (a0 + 1) (ix (M a0 2)) x1) (a0 + 2) (ix ((up2 M (a0 + 1) (ix (M a0 2)) x1) a0 2)) x2) a0 2 (((up2 (up2 M (a0 + 1) (ix (M a0 2)) x1) (a0 + 2) (ix ((up2 M (a0 + 1) (ix (M a0 2)) x1) a0 2)) x2) a0 2) + (1 : Int32))))))))
def rmX7_append : Room := { frames := 0, cells := 0, slots := 0, locals := 0 }
theorem kn_X7_append : yX7_append.cls ≠ "java/lang/invoke/MethodHandle" ∧ yX7_append.cls ≠ "java/lang/invoke/VarHandle" ∧ (parseMethodDescriptor yX7_append.desc).map (fun d => d.parameters.length) = some 2 := by decide +kernel
set_option maxRecDepth 100000 in
set_option maxHeartbeats 4000000 in
theorem tX7_append {l : Launch} {G : va_G} {L : List Nat} {ad : Nat → Nat} {cs : Nat → ClassId} {z : Bool} {zk zv : Nat → Nat} (hinj : inj L ad)  (a0 : Nat) (x1 : Int32) (x2 : Int32) (h0 : isV L a0) (M : Mm) (r : Int32) (M' : Mm) (h : fX7_append a0 x1 x2 M = some (r, M')) : Met l yX7_append (tgW yX7_append cX7_append 3 none) rmX7_append (APre G L ad cs z zk zv [.ref (ad a0), .int x1, .int x2] M) (AQv G L ad cs M') 0 0 (inA L ad) := by
  refine met_of (Eq.refl true) (Nat.le_of_ble_eq_true rfl) hinj [some (.ref (ad a0)), some (.int x1), some (.int x2)] rfl ?_
  intro p e s m below meth c F
  replace F : Fx G L ad cs z zk zv p m meth c cX7_append 3 none s _ RX7 := F
  unfold fX7_append at h
  refine ax_aload_n F dX7_append_0 rfl ?_
  refine ax_get (v := .int (M a0 2)) F (ob_V h0) rfl inGX7 2 (by decide) rfl kf_X7_18 rfl dX7_append_1 ?_
  refine ax_if_lt (t := 45) F dX7_append_4 (by decide) (fun hc => ?_) (fun hc => ?_)
  · have h := it_pos0 h hc
    obtain ⟨h1, h2⟩ := rt_some0 h
    subst h2
    exact ax_vret F dX7_append_45
  · have h := it_neg0 h hc
    refine ax_aload_n F dX7_append_7 rfl ?_
    refine ax_get (v := .int (M a0 2)) F (ob_V h0) rfl inGX7 2 (by decide) rfl kf_X7_18 rfl dX7_append_8 ?_
    refine ax_iconst (v := (5 : Int32)) F dX7_append_11 (by decide) ?_
    refine ax_icmp_ge (t := 45) F dX7_append_12 (by decide) (fun hc => ?_) (fun hc => ?_)
    · have h := it_pos0 h hc
      obtain ⟨h1, h2⟩ := rt_some0 h
      subst h2
      exact ax_vret F dX7_append_45
    · have h := it_neg0 h hc
      refine ax_aload_n F dX7_append_15 rfl ?_
      refine ax_get (v := .ref (ad (a0 + 1))) F (ob_V h0) rfl inGX7 0 (by decide) rfl kf_X7_9 rfl dX7_append_16 ?_
      refine ax_aload_n F dX7_append_19 rfl ?_
      refine ax_get (v := .int (M a0 2)) F (ob_V h0) rfl inGX7 2 (by decide) rfl kf_X7_18 rfl dX7_append_20 ?_
      refine ax_iload_n F dX7_append_23 rfl ?_
      obtain ⟨hg, h⟩ := gd_some0 h
      refine ax_iast F (ar_V1 h0) hg dX7_append_24 ?_
      refine ax_aload_n F dX7_append_25 rfl ?_
      refine ax_get (v := .ref (ad (a0 + 2))) F (ob_V h0) rfl inGX7 1 (by decide) rfl kf_X7_15 rfl dX7_append_26 ?_
      refine ax_aload_n F dX7_append_29 rfl ?_
      refine ax_get (v := .int ((up2 M (a0 + 1) (ix (M a0 2)) x1) a0 2)) F (ob_V h0) rfl inGX7 2 (by decide) rfl kf_X7_18 rfl dX7_append_30 ?_
      refine ax_iload_n F dX7_append_33 rfl ?_
      obtain ⟨hg, h⟩ := gd_some0 h
      refine ax_iast F (ar_V2 h0) hg dX7_append_34 ?_
      refine ax_aload_n F dX7_append_35 rfl ?_
      refine ax_dup F dX7_append_36 rfl ?_
      refine ax_get (v := .int ((up2 (up2 M (a0 + 1) (ix (M a0 2)) x1) (a0 + 2) (ix ((up2 M (a0 + 1) (ix (M a0 2)) x1) a0 2)) x2) a0 2)) F (ob_V h0) rfl inGX7 2 (by decide) rfl kf_X7_18 rfl dX7_append_37 ?_
      refine ax_iconst (v := (1 : Int32)) F dX7_append_40 (by decide) ?_
      refine ax_iadd F dX7_append_41 ?_
      refine ax_put (ty := .int) F (ob_V h0) rfl inGX7 tyX7 tyX7_ok nmX7 2 (by decide) rfl kf_X7_18 (by decide) rfl rfl (Nat.le_of_ble_eq_true rfl) rfl dX7_append_42 ?_
      obtain ⟨h1, h2⟩ := rt_some0 h
      subst h2
      exact ax_vret F dX7_append_45
