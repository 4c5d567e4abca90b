noncomputable def fX9_write (x1 : Int32) (M : Mm) : Option Rst := cl (fX9_in (x1).toInt64 (0 : Int64) (255 : Int64) M) (fun r1 M1 => if r1 = 0 then (some ((-3 : Int32), M1)) else (if (M1 338 8) = (200 : Int32) then (some ((-5 : Int32), M1)) else (gd (okI (M1 338 8) 200) (some (((up2 (up2 M1 341 (ix (M1 338 8)) x1) 338 8 (((up2 M1 341 (ix (M1 338 8)) x1) 338 8) + (1 : Int32))) 338 8), (up2 (up2 M1 341 (ix (M1 338 8)) x1) 338 8 (((up2 M1 341 (ix (M1 338 8)) x1) 338 8) + (1 : Int32))))))))
def rmX9_write : Room := { frames := 1, cells := 0, slots := 0, locals := 25 }
theorem kn_X9_write : yX9_write.cls ≠ "java/lang/invoke/MethodHandle" ∧ yX9_write.cls ≠ "java/lang/invoke/VarHandle" ∧ (parseMethodDescriptor yX9_write.desc).map (fun d => d.parameters.length) = some 1 := by decide +kernel
set_option maxRecDepth 100000 in
set_option maxHeartbeats 4000000 in
theorem tX9_write {l : Launch} {G : va_G} {ad : Nat → Nat} {cs : Nat → ClassId} {zk zv : Nat → Nat} (hinj : inj ad) (x1 : Int32)  (M : Mm) (r : Int32) (M' : Mm) (h : fX9_write x1 M = some (r, M')) : Met l yX9_write (tgW yX9_write cX9_write 2 (some .int)) rmX9_write (APre G ad cs zk zv [.ref (ad 338), .int x1] M) (AQi G ad cs r M') 0 0 (inA ad) := by
  refine met_of (Eq.refl true) (Nat.le_of_ble_eq_true rfl) hinj [some (.ref (ad 338)), some (.int x1)] rfl ?_
  intro p e s m below meth c F
  replace F : Fx G ad cs zk zv p m meth c cX9_write 2 (some .int) s _ RX9 := F
  unfold fX9_write at h
  refine ax_iload_n F dX9_write_0 rfl ?_
  refine ax_i2l F dX9_write_1 ?_
  refine ax_lconst (v := (0 : Int64)) F dX9_write_2 (by decide) ?_
  refine ax_ldc2 (v := (255 : Int64)) F kk_X9_64 dX9_write_3 ?_
  obtain ⟨r1, M1, hq1, h⟩ := cq_some0 h
  refine ax_callSi (As := [.long (x1).toInt64, .long (0 : Int64), .long (255 : Int64)]) (st := []) F (tX9_in F.2.2.2.2.2.2.1 _ _ _  _ _ _ hq1) kc_X9_in kz_X9 kt_X9_in km_X9_66 ⟨kn_X9_in, rfl, rfl, Nat.le_of_ble_eq_true rfl, Nat.le_of_ble_eq_true rfl⟩ rfl (Nat.le_of_ble_eq_true rfl) dX9_write_6 ?_
  refine ax_if_ne (t := 15) F dX9_write_9 (by decide) (fun hc => ?_) (fun hc => ?_)
  · have h := it_neg0 h hc
    refine ax_aload_n F dX9_write_15 rfl ?_
    refine ax_get (v := .int (M1 338 8)) F ob_338 rfl inGX9 8 (by decide) rfl kf_X9_70 rfl dX9_write_16 ?_
    refine ax_sipush (v := (200 : Int32)) F dX9_write_19 (by decide) ?_
    refine ax_icmp_ne (t := 28) F dX9_write_22 (by decide) (fun hc => ?_) (fun hc => ?_)
    · have h := it_neg0 h hc
      refine ax_aload_n F dX9_write_28 rfl ?_
      refine ax_get (v := .ref (ad 341)) F ob_338 rfl inGX9 7 (by decide) rfl kf_X9_17 rfl dX9_write_29 ?_
      refine ax_aload_n F dX9_write_32 rfl ?_
      refine ax_get (v := .int (M1 338 8)) F ob_338 rfl inGX9 8 (by decide) rfl kf_X9_70 rfl dX9_write_33 ?_
      refine ax_iload_n F dX9_write_36 rfl ?_
      obtain ⟨hg, h⟩ := gd_some0 h
      refine ax_iast F ar_341 hg dX9_write_37 ?_
      refine ax_aload_n F dX9_write_38 rfl ?_
      refine ax_dup F dX9_write_39 rfl ?_
      refine ax_get (v := .int ((up2 M1 341 (ix (M1 338 8)) x1) 338 8)) F ob_338 rfl inGX9 8 (by decide) rfl kf_X9_70 rfl dX9_write_40 ?_
      refine ax_iconst (v := (1 : Int32)) F dX9_write_43 (by decide) ?_
      refine ax_iadd F dX9_write_44 ?_
      refine ax_put (ty := .int) F ob_338 rfl inGX9 tyX9 tyX9_ok nmX9 8 (by decide) rfl kf_X9_70 (by decide) rfl rfl (Nat.le_of_ble_eq_true rfl) rfl dX9_write_45 ?_
      refine ax_aload_n F dX9_write_48 rfl ?_
      refine ax_get (v := .int ((up2 (up2 M1 341 (ix (M1 338 8)) x1) 338 8 (((up2 M1 341 (ix (M1 338 8)) x1) 338 8) + (1 : Int32))) 338 8)) F ob_338 rfl inGX9 8 (by decide) rfl kf_X9_70 rfl dX9_write_49 ?_
      obtain ⟨h1, h2⟩ := rt_some0 h
      subst h1; subst h2
      exact ax_iret F dX9_write_52
    · have h := it_pos0 h hc
      refine ax_bipush (v := (-5 : Int32)) F dX9_write_25 (by decide) ?_
      obtain ⟨h1, h2⟩ := rt_some0 h
      subst h1; subst h2
      exact ax_iret F dX9_write_27
  · have h := it_pos0 h hc
    refine ax_bipush (v := (-3 : Int32)) F dX9_write_12 (by decide) ?_
    obtain ⟨h1, h2⟩ := rt_some0 h
    subst h1; subst h2
    exact ax_iret F dX9_write_14
noncomputable def fX9_erase  (M : Mm) : Option Rst := some ((M 338 8), (up2 M 338 8 (0 : Int32)))
def rmX9_erase : Room := { frames := 0, cells := 0, slots := 0, locals := 0 }
theorem kn_X9_erase : yX9_erase.cls ≠ "java/lang/invoke/MethodHandle" ∧ yX9_erase.cls ≠ "java/lang/invoke/VarHandle" ∧ (parseMethodDescriptor yX9_erase.desc).map (fun d => d.parameters.length) = some 0 := by decide +kernel
set_option maxRecDepth 100000 in
set_option maxHeartbeats 4000000 in
theorem tX9_erase {l : Launch} {G : va_G} {ad : Nat → Nat} {cs : Nat → ClassId} {zk zv : Nat → Nat} (hinj : inj ad)   (M : Mm) (r : Int32) (M' : Mm) (h : fX9_erase  M = some (r, M')) : Met l yX9_erase (tgW yX9_erase cX9_erase 2 (some .int)) rmX9_erase (APre G ad cs zk zv [.ref (ad 338)] M) (AQi G ad cs r M') 0 0 (inA ad) := by
  refine met_of (Eq.refl true) (Nat.le_of_ble_eq_true rfl) hinj [some (.ref (ad 338)), none] rfl ?_
  intro p e s m below meth c F
  replace F : Fx G ad cs zk zv p m meth c cX9_erase 2 (some .int) s _ RX9 := F
  unfold fX9_erase at h
  refine ax_aload_n F dX9_erase_0 rfl ?_
  refine ax_get (v := .int (M 338 8)) F ob_338 rfl inGX9 8 (by decide) rfl kf_X9_70 rfl dX9_erase_1 ?_
  refine ax_istore_n F dX9_erase_4 (by decide) rfl ?_
  refine ax_aload_n F dX9_erase_5 rfl ?_
  refine ax_iconst (v := (0 : Int32)) F dX9_erase_6 (by decide) ?_
  refine ax_put (ty := .int) F ob_338 rfl inGX9 tyX9 tyX9_ok nmX9 8 (by decide) rfl kf_X9_70 (by decide) rfl rfl (Nat.le_of_ble_eq_true rfl) rfl dX9_erase_7 ?_
  refine ax_iload_n F dX9_erase_10 rfl ?_
  obtain ⟨h1, h2⟩ := rt_some0 h
  subst h1; subst h2
  exact ax_iret F dX9_erase_11
noncomputable def fX9_isSmall (x0 : Int32) (M : Mm) : Option Rst := cl (fX9_in (x0).toInt64 (97 : Int64) (122 : Int64) M) (fun r1 M1 => gd (okZ r1) (some (r1, M1)))
def rmX9_isSmall : Room := { frames := 1, cells := 0, slots := 0, locals := 25 }
theorem kn_X9_isSmall : yX9_isSmall.cls ≠ "java/lang/invoke/MethodHandle" ∧ yX9_isSmall.cls ≠ "java/lang/invoke/VarHandle" ∧ (parseMethodDescriptor yX9_isSmall.desc).map (fun d => d.parameters.length) = some 1 := by decide +kernel
set_option maxRecDepth 100000 in
set_option maxHeartbeats 4000000 in
theorem tX9_isSmall {l : Launch} {G : va_G} {ad : Nat → Nat} {cs : Nat → ClassId} {zk zv : Nat → Nat} (hinj : inj ad) (x0 : Int32)  (M : Mm) (r : Int32) (M' : Mm) (h : fX9_isSmall x0 M = some (r, M')) : Met l yX9_isSmall (tgW yX9_isSmall cX9_isSmall 1 (some .boolean)) rmX9_isSmall (APre G ad cs zk zv [.int x0] M) (AQi G ad cs r M') 0 0 (inA ad) := by
  refine met_of (Eq.refl true) (Nat.le_of_ble_eq_true rfl) hinj [some (.int x0)] rfl ?_
  intro p e s m below meth c F
  replace F : Fx G ad cs zk zv p m meth c cX9_isSmall 1 (some .boolean) s _ RX9 := F
  unfold fX9_isSmall at h
  refine ax_iload_n F dX9_isSmall_0 rfl ?_
  refine ax_i2l F dX9_isSmall_1 ?_
  refine ax_ldc2 (v := (97 : Int64)) F kk_X9_73 dX9_isSmall_2 ?_
  refine ax_ldc2 (v := (122 : Int64)) F kk_X9_75 dX9_isSmall_5 ?_
  obtain ⟨r1, M1, hq1, h⟩ := cq_some0 h
  refine ax_callSi (As := [.long (x0).toInt64, .long (97 : Int64), .long (122 : Int64)]) (st := []) F (tX9_in F.2.2.2.2.2.2.1 _ _ _  _ _ _ hq1) kc_X9_in kz_X9 kt_X9_in km_X9_66 ⟨kn_X9_in, rfl, rfl, Nat.le_of_ble_eq_true rfl, Nat.le_of_ble_eq_true rfl⟩ rfl (Nat.le_of_ble_eq_true rfl) dX9_isSmall_8 ?_
  obtain ⟨hz, h⟩ := gd_some0 h
  obtain ⟨h1, h2⟩ := rt_some0 h
  subst h1; subst h2
  exact ax_zret F hz dX9_isSmall_11
noncomputable def fX9_isDigit (x0 : Int32) (M : Mm) : Option Rst := cl (fX9_in (x0).toInt64 (48 : Int64) (57 : Int64) M) (fun r1 M1 => gd (okZ r1) (some (r1, M1)))
def rmX9_isDigit : Room := { frames := 1, cells := 0, slots := 0, locals := 25 }
theorem kn_X9_isDigit : yX9_isDigit.cls ≠ "java/lang/invoke/MethodHandle" ∧ yX9_isDigit.cls ≠ "java/lang/invoke/VarHandle" ∧ (parseMethodDescriptor yX9_isDigit.desc).map (fun d => d.parameters.length) = some 1 := by decide +kernel
set_option maxRecDepth 100000 in
set_option maxHeartbeats 4000000 in
theorem tX9_isDigit {l : Launch} {G : va_G} {ad : Nat → Nat} {cs : Nat → ClassId} {zk zv : Nat → Nat} (hinj : inj ad) (x0 : Int32)  (M : Mm) (r : Int32) (M' : Mm) (h : fX9_isDigit x0 M = some (r, M')) : Met l yX9_isDigit (tgW yX9_isDigit cX9_isDigit 1 (some .boolean)) rmX9_isDigit (APre G ad cs zk zv [.int x0] M) (AQi G ad cs r M') 0 0 (inA ad) := by
  refine met_of (Eq.refl true) (Nat.le_of_ble_eq_true rfl) hinj [some (.int x0)] rfl ?_
  intro p e s m below meth c F
  replace F : Fx G ad cs zk zv p m meth c cX9_isDigit 1 (some .boolean) s _ RX9 := F
  unfold fX9_isDigit at h
  refine ax_iload_n F dX9_isDigit_0 rfl ?_
  refine ax_i2l F dX9_isDigit_1 ?_
  refine ax_ldc2 (v := (48 : Int64)) F kk_X9_77 dX9_isDigit_2 ?_
  refine ax_ldc2 (v := (57 : Int64)) F kk_X9_79 dX9_isDigit_5 ?_
  obtain ⟨r1, M1, hq1, h⟩ := cq_some0 h
  refine ax_callSi (As := [.long (x0).toInt64, .long (48 : Int64), .long (57 : Int64)]) (st := []) F (tX9_in F.2.2.2.2.2.2.1 _ _ _  _ _ _ hq1) kc_X9_in kz_X9 kt_X9_in km_X9_66 ⟨kn_X9_in, rfl, rfl, Nat.le_of_ble_eq_true rfl, Nat.le_of_ble_eq_true rfl⟩ rfl (Nat.le_of_ble_eq_true rfl) dX9_isDigit_8 ?_
  obtain ⟨hz, h⟩ := gd_some0 h
  obtain ⟨h1, h2⟩ := rt_some0 h
  subst h1; subst h2
  exact ax_zret F hz dX9_isDigit_11
def rmX9_nextToken : Room := { frames := 2, cells := 0, slots := 0, locals := 45 }
theorem kn_X9_nextToken : yX9_nextToken.cls ≠ "java/lang/invoke/MethodHandle" ∧ yX9_nextToken.cls ≠ "java/lang/invoke/VarHandle" ∧ (parseMethodDescriptor yX9_nextToken.desc).map (fun d => d.parameters.length) = some 0 := by decide +kernel
noncomputable def bX9_nextToken_0  (M : Mm) : Option (Sst ⊕ Rst) := some (.inl (1, [], [], (up2 M 338 11 (M 338 12))))
noncomputable def bX9_nextToken_1  (M : Mm) : Option (Sst ⊕ Rst) := if (M 338 8) ≤ (M 338 11) then (some (.inl (2, [], [], M))) else (gd (okI (M 338 11) 200) (if (M 341 (ix (M 338 11))) = (32 : Int32) then (some (.inl (1, [], [], (up2 M 338 11 ((M 338 11) + (1 : Int32)))))) else (some (.inl (2, [], [], M)))))
noncomputable def bX9_nextToken_2  (M : Mm) : Option (Sst ⊕ Rst) := if (M 338 8) ≤ (M 338 11) then (some (.inl (3, [], [(M 338 11)], M))) else (some (.inl (3, [], [((M 338 11) + (1 : Int32))], M)))
noncomputable def bX9_nextToken_3 (s0 : Int32) (M : Mm) : Option (Sst ⊕ Rst) := if ((up2 M 338 12 s0) 338 8) ≤ ((up2 M 338 12 s0) 338 11) then (some (.inl (5, [], [], (up2 M 338 12 s0)))) else (gd (okI ((up2 M 338 12 s0) 338 11) 200) (cl (fX9_isSmall ((up2 M 338 12 s0) 341 (ix ((up2 M 338 12 s0) 338 11))) (up2 M 338 12 s0)) (fun r1 M1 => if r1 = 0 then (some (.inl (5, [], [], M1))) else (some (.inl (4, [], [], M1))))))
noncomputable def bX9_nextToken_4  (M : Mm) : Option (Sst ⊕ Rst) := if (M 338 8) ≤ (M 338 12) then (some (.inr ((0 : Int32), M))) else (gd (okI (M 338 12) 200) (cl (fX9_isSmall (M 341 (ix (M 338 12))) M) (fun r1 M1 => if r1 = 0 then (some (.inr ((0 : Int32), M1))) else (some (.inl (4, [], [], (up2 M1 338 12 ((M1 338 12) + (1 : Int32)))))))))
noncomputable def bX9_nextToken_5  (M : Mm) : Option (Sst ⊕ Rst) := if (M 338 8) ≤ (M 338 11) then (some (.inr ((0 : Int32), M))) else (gd (okI (M 338 11) 200) (cl (fX9_isDigit (M 341 (ix (M 338 11))) M) (fun r1 M1 => if r1 = 0 then (some (.inr ((0 : Int32), M1))) else (some (.inl (6, [], [], M1))))))
noncomputable def bX9_nextToken_6  (M : Mm) : Option (Sst ⊕ Rst) := if (M 338 8) ≤ (M 338 12) then (some (.inr ((0 : Int32), M))) else (gd (okI (M 338 12) 200) (cl (fX9_isDigit (M 341 (ix (M 338 12))) M) (fun r1 M1 => if r1 = 0 then (some (.inr ((0 : Int32), M1))) else (some (.inl (6, [], [], (up2 M1 338 12 ((M1 338 12) + (1 : Int32)))))))))
noncomputable def stX9_nextToken : Sst → Option (Sst ⊕ Rst) := fun q => match q.1 with
  | 0 => bX9_nextToken_0  q.2.2.2
  | 1 => bX9_nextToken_1  q.2.2.2
  | 2 => bX9_nextToken_2  q.2.2.2
  | 3 => bX9_nextToken_3 (q.2.2.1.getD 0 0) q.2.2.2
  | 4 => bX9_nextToken_4  q.2.2.2
  | 5 => bX9_nextToken_5  q.2.2.2
  | 6 => bX9_nextToken_6  q.2.2.2
  | _ => none
noncomputable def fX9_nextToken  (M : Mm) : Option Rst := run stX9_nextToken (0, [], [], M)
def PX9_nextToken (p : Program) (l : Launch) (e : Env) (s : State) (m : MethodId) (args : Array Value) (below : List Frame) (meth : Method) (c : Code) (G : va_G) (ad : Nat → Nat) (cs : Nat → ClassId) (zk : Nat → Nat) (r : Int32) (M' : Mm) (n : Nat) : Prop := (∀  (M : Mm), itr stX9_nextToken n (0, [], [], M) = some (r, M') → AW p l e rmX9_nextToken s m args below meth c (MQ below (AQv G ad cs M') args s 0 0 (inA ad)) G ad cs 1 0 [some (.ref (ad 338))] [] M) ∧ (∀  (M : Mm), itr stX9_nextToken n (1, [], [], M) = some (r, M') → AW p l e rmX9_nextToken s m args below meth c (MQ below (AQv G ad cs M') args s 0 0 (inA ad)) G ad cs 1 8 [some (.ref (ad 338))] [] M) ∧ (∀  (M : Mm), itr stX9_nextToken n (2, [], [], M) = some (r, M') → AW p l e rmX9_nextToken s m args below meth c (MQ below (AQv G ad cs M') args s 0 0 (inA ad)) G ad cs 1 46 [some (.ref (ad 338))] [] M) ∧ (∀ (s0 : Int32) (M : Mm), itr stX9_nextToken n (3, [], [s0], M) = some (r, M') → AW p l e rmX9_nextToken s m args below meth c (MQ below (AQv G ad cs M') args s 0 0 (inA ad)) G ad cs 1 71 [some (.ref (ad 338))] [.int s0, .ref (ad 338)] M) ∧ (∀  (M : Mm), itr stX9_nextToken n (4, [], [], M) = some (r, M') → AW p l e rmX9_nextToken s m args below meth c (MQ below (AQv G ad cs M') args s 0 0 (inA ad)) G ad cs 1 100 [some (.ref (ad 338))] [] M) ∧ (∀  (M : Mm), itr stX9_nextToken n (5, [], [], M) = some (r, M') → AW p l e rmX9_nextToken s m args below meth c (MQ below (AQv G ad cs M') args s 0 0 (inA ad)) G ad cs 1 139 [some (.ref (ad 338))] [] M) ∧ (∀  (M : Mm), itr stX9_nextToken n (6, [], [], M) = some (r, M') → AW p l e rmX9_nextToken s m args below meth c (MQ below (AQv G ad cs M') args s 0 0 (inA ad)) G ad cs 1 165 [some (.ref (ad 338))] [] M)
set_option maxRecDepth 100000 in
set_option maxHeartbeats 4000000 in
theorem wX9_nextToken_0 {p : Program} {l : Launch} {e : Env} {s : State} {m : MethodId} {args : Array Value} {below : List Frame} {meth : Method} {c : Code} {G : va_G} {ad : Nat → Nat} {cs : Nat → ClassId} {zk zv : Nat → Nat} {r : Int32} {M' : Mm} {n : Nat} (F : Fx G ad cs zk zv p m meth c cX9_nextToken 1 none s args RX9) (IH : PX9_nextToken p l e s m args below meth c G ad cs zk r M' n)  (M : Mm) (h : (bX9_nextToken_0  M).bind (fun q => match q with | .inl s' => itr stX9_nextToken n s' | .inr r => some r) = some (r, M'))  : AW p l e rmX9_nextToken s m args below meth c (MQ below (AQv G ad cs M') args s 0 0 (inA ad)) G ad cs 1 0 [some (.ref (ad 338))] [] M := by
  unfold bX9_nextToken_0 at h
  refine ax_aload_n F dX9_nextToken_0 rfl ?_
  refine ax_aload_n F dX9_nextToken_1 rfl ?_
  refine ax_get (v := .int (M 338 12)) F ob_338 rfl inGX9 12 (by decide) rfl kf_X9_81 rfl dX9_nextToken_2 ?_
  refine ax_put (ty := .int) F ob_338 rfl inGX9 tyX9 tyX9_ok nmX9 11 (by decide) rfl kf_X9_84 (by decide) rfl rfl (Nat.le_of_ble_eq_true rfl) rfl dX9_nextToken_5 ?_
  exact IH.2.1  _ h 
set_option maxRecDepth 100000 in
set_option maxHeartbeats 4000000 in
theorem wX9_nextToken_1 {p : Program} {l : Launch} {e : Env} {s : State} {m : MethodId} {args : Array Value} {below : List Frame} {meth : Method} {c : Code} {G : va_G} {ad : Nat → Nat} {cs : Nat → ClassId} {zk zv : Nat → Nat} {r : Int32} {M' : Mm} {n : Nat} (F : Fx G ad cs zk zv p m meth c cX9_nextToken 1 none s args RX9) (IH : PX9_nextToken p l e s m args below meth c G ad cs zk r M' n)  (M : Mm) (h : (bX9_nextToken_1  M).bind (fun q => match q with | .inl s' => itr stX9_nextToken n s' | .inr r => some r) = some (r, M'))  : AW p l e rmX9_nextToken s m args below meth c (MQ below (AQv G ad cs M') args s 0 0 (inA ad)) G ad cs 1 8 [some (.ref (ad 338))] [] M := by
  unfold bX9_nextToken_1 at h
  refine ax_aload_n F dX9_nextToken_8 rfl ?_
  refine ax_get (v := .int (M 338 11)) F ob_338 rfl inGX9 11 (by decide) rfl kf_X9_84 rfl dX9_nextToken_9 ?_
  refine ax_aload_n F dX9_nextToken_12 rfl ?_
  refine ax_get (v := .int (M 338 8)) F ob_338 rfl inGX9 8 (by decide) rfl kf_X9_70 rfl dX9_nextToken_13 ?_
  refine ax_icmp_ge (t := 46) F dX9_nextToken_16 (by decide) (fun hc => ?_) (fun hc => ?_)
  · have h := it_pos h hc
    exact IH.2.2.1  _ h 
  · have h := it_neg h hc
    refine ax_aload_n F dX9_nextToken_19 rfl ?_
    refine ax_get (v := .ref (ad 341)) F ob_338 rfl inGX9 7 (by decide) rfl kf_X9_17 rfl dX9_nextToken_20 ?_
    refine ax_aload_n F dX9_nextToken_23 rfl ?_
    refine ax_get (v := .int (M 338 11)) F ob_338 rfl inGX9 11 (by decide) rfl kf_X9_84 rfl dX9_nextToken_24 ?_
    obtain ⟨hg, h⟩ := gd_some h
    refine ax_iald F ar_341 hg dX9_nextToken_27 ?_
    refine ax_bipush (v := (32 : Int32)) F dX9_nextToken_28 (by decide) ?_
    refine ax_icmp_ne (t := 46) F dX9_nextToken_30 (by decide) (fun hc => ?_) (fun hc => ?_)
    · have h := it_neg h hc
      exact IH.2.2.1  _ h 
    · have h := it_pos h hc
      refine ax_aload_n F dX9_nextToken_33 rfl ?_
      refine ax_dup F dX9_nextToken_34 rfl ?_
      refine ax_get (v := .int (M 338 11)) F ob_338 rfl inGX9 11 (by decide) rfl kf_X9_84 rfl dX9_nextToken_35 ?_
      refine ax_iconst (v := (1 : Int32)) F dX9_nextToken_38 (by decide) ?_
      refine ax_iadd F dX9_nextToken_39 ?_
      refine ax_put (ty := .int) F ob_338 rfl inGX9 tyX9 tyX9_ok nmX9 11 (by decide) rfl kf_X9_84 (by decide) rfl rfl (Nat.le_of_ble_eq_true rfl) rfl dX9_nextToken_40 ?_
      refine ax_goto (t := 8) F dX9_nextToken_43 (by decide) ?_
      exact IH.2.1  _ h 
set_option maxRecDepth 100000 in
set_option maxHeartbeats 4000000 in
theorem wX9_nextToken_2 {p : Program} {l : Launch} {e : Env} {s : State} {m : MethodId} {args : Array Value} {below : List Frame} {meth : Method} {c : Code} {G : va_G} {ad : Nat → Nat} {cs : Nat → ClassId} {zk zv : Nat → Nat} {r : Int32} {M' : Mm} {n : Nat} (F : Fx G ad cs zk zv p m meth c cX9_nextToken 1 none s args RX9) (IH : PX9_nextToken p l e s m args below meth c G ad cs zk r M' n)  (M : Mm) (h : (bX9_nextToken_2  M).bind (fun q => match q with | .inl s' => itr stX9_nextToken n s' | .inr r => some r) = some (r, M'))  : AW p l e rmX9_nextToken s m args below meth c (MQ below (AQv G ad cs M') args s 0 0 (inA ad)) G ad cs 1 46 [some (.ref (ad 338))] [] M := by
  unfold bX9_nextToken_2 at h
  refine ax_aload_n F dX9_nextToken_46 rfl ?_
  refine ax_aload_n F dX9_nextToken_47 rfl ?_
  refine ax_get (v := .int (M 338 11)) F ob_338 rfl inGX9 11 (by decide) rfl kf_X9_84 rfl dX9_nextToken_48 ?_
  refine ax_aload_n F dX9_nextToken_51 rfl ?_
  refine ax_get (v := .int (M 338 8)) F ob_338 rfl inGX9 8 (by decide) rfl kf_X9_70 rfl dX9_nextToken_52 ?_
  refine ax_icmp_ge (t := 67) F dX9_nextToken_55 (by decide) (fun hc => ?_) (fun hc => ?_)
  · have h := it_pos h hc
    refine ax_aload_n F dX9_nextToken_67 rfl ?_
    refine ax_get (v := .int (M 338 11)) F ob_338 rfl inGX9 11 (by decide) rfl kf_X9_84 rfl dX9_nextToken_68 ?_
    exact IH.2.2.2.1 _ _ h 
  · have h := it_neg h hc
    refine ax_aload_n F dX9_nextToken_58 rfl ?_
    refine ax_get (v := .int (M 338 11)) F ob_338 rfl inGX9 11 (by decide) rfl kf_X9_84 rfl dX9_nextToken_59 ?_
    refine ax_iconst (v := (1 : Int32)) F dX9_nextToken_62 (by decide) ?_
    refine ax_iadd F dX9_nextToken_63 ?_
    refine ax_goto (t := 71) F dX9_nextToken_64 (by decide) ?_
    exact IH.2.2.2.1 _ _ h 
set_option maxRecDepth 100000 in
set_option maxHeartbeats 4000000 in
theorem wX9_nextToken_3 {p : Program} {l : Launch} {e : Env} {s : State} {m : MethodId} {args : Array Value} {below : List Frame} {meth : Method} {c : Code} {G : va_G} {ad : Nat → Nat} {cs : Nat → ClassId} {zk zv : Nat → Nat} {r : Int32} {M' : Mm} {n : Nat} (F : Fx G ad cs zk zv p m meth c cX9_nextToken 1 none s args RX9) (IH : PX9_nextToken p l e s m args below meth c G ad cs zk r M' n) (s0 : Int32) (M : Mm) (h : (bX9_nextToken_3 s0 M).bind (fun q => match q with | .inl s' => itr stX9_nextToken n s' | .inr r => some r) = some (r, M'))  : AW p l e rmX9_nextToken s m args below meth c (MQ below (AQv G ad cs M') args s 0 0 (inA ad)) G ad cs 1 71 [some (.ref (ad 338))] [.int s0, .ref (ad 338)] M := by
  unfold bX9_nextToken_3 at h
  refine ax_put (ty := .int) F ob_338 rfl inGX9 tyX9 tyX9_ok nmX9 12 (by decide) rfl kf_X9_81 (by decide) rfl rfl (Nat.le_of_ble_eq_true rfl) rfl dX9_nextToken_71 ?_
  refine ax_aload_n F dX9_nextToken_74 rfl ?_
  refine ax_get (v := .int ((up2 M 338 12 s0) 338 11)) F ob_338 rfl inGX9 11 (by decide) rfl kf_X9_84 rfl dX9_nextToken_75 ?_
  refine ax_aload_n F dX9_nextToken_78 rfl ?_
  refine ax_get (v := .int ((up2 M 338 12 s0) 338 8)) F ob_338 rfl inGX9 8 (by decide) rfl kf_X9_70 rfl dX9_nextToken_79 ?_
  refine ax_icmp_ge (t := 139) F dX9_nextToken_82 (by decide) (fun hc => ?_) (fun hc => ?_)
  · have h := it_pos h hc
    exact IH.2.2.2.2.2.1  _ h 
  · have h := it_neg h hc
    refine ax_aload_n F dX9_nextToken_85 rfl ?_
    refine ax_get (v := .ref (ad 341)) F ob_338 rfl inGX9 7 (by decide) rfl kf_X9_17 rfl dX9_nextToken_86 ?_
    refine ax_aload_n F dX9_nextToken_89 rfl ?_
    refine ax_get (v := .int ((up2 M 338 12 s0) 338 11)) F ob_338 rfl inGX9 11 (by decide) rfl kf_X9_84 rfl dX9_nextToken_90 ?_
    obtain ⟨hg, h⟩ := gd_some h
    refine ax_iald F ar_341 hg dX9_nextToken_93 ?_
    obtain ⟨r1, M1, hq1, h⟩ := cq_some h
    refine ax_callSi (As := [.int ((up2 M 338 12 s0) 341 (ix ((up2 M 338 12 s0) 338 11)))]) (st := []) F (tX9_isSmall F.2.2.2.2.2.2.1 _  _ _ _ hq1) kc_X9_isSmall kz_X9 kt_X9_isSmall km_X9_87 ⟨kn_X9_isSmall, rfl, rfl, Nat.le_of_ble_eq_true rfl, Nat.le_of_ble_eq_true rfl⟩ rfl (Nat.le_of_ble_eq_true rfl) dX9_nextToken_94 ?_
    refine ax_if_eq (t := 139) F dX9_nextToken_97 (by decide) (fun hc => ?_) (fun hc => ?_)
    · have h := it_pos h hc
      exact IH.2.2.2.2.2.1  _ h 
    · have h := it_neg h hc
      exact IH.2.2.2.2.1  _ h 
set_option maxRecDepth 100000 in
set_option maxHeartbeats 4000000 in
theorem wX9_nextToken_4 {p : Program} {l : Launch} {e : Env} {s : State} {m : MethodId} {args : Array Value} {below : List Frame} {meth : Method} {c : Code} {G : va_G} {ad : Nat → Nat} {cs : Nat → ClassId} {zk zv : Nat → Nat} {r : Int32} {M' : Mm} {n : Nat} (F : Fx G ad cs zk zv p m meth c cX9_nextToken 1 none s args RX9) (IH : PX9_nextToken p l e s m args below meth c G ad cs zk r M' n)  (M : Mm) (h : (bX9_nextToken_4  M).bind (fun q => match q with | .inl s' => itr stX9_nextToken n s' | .inr r => some r) = some (r, M'))  : AW p l e rmX9_nextToken s m args below meth c (MQ below (AQv G ad cs M') args s 0 0 (inA ad)) G ad cs 1 100 [some (.ref (ad 338))] [] M := by
  unfold bX9_nextToken_4 at h
  refine ax_aload_n F dX9_nextToken_100 rfl ?_
  refine ax_get (v := .int (M 338 12)) F ob_338 rfl inGX9 12 (by decide) rfl kf_X9_81 rfl dX9_nextToken_101 ?_
  refine ax_aload_n F dX9_nextToken_104 rfl ?_
  refine ax_get (v := .int (M 338 8)) F ob_338 rfl inGX9 8 (by decide) rfl kf_X9_70 rfl dX9_nextToken_105 ?_
  refine ax_icmp_ge (t := 204) F dX9_nextToken_108 (by decide) (fun hc => ?_) (fun hc => ?_)
  · have h := it_pos h hc
    obtain ⟨h1, h2⟩ := rt_some h
    subst h2
    exact ax_vret F dX9_nextToken_204
  · have h := it_neg h hc
    refine ax_aload_n F dX9_nextToken_111 rfl ?_
    refine ax_get (v := .ref (ad 341)) F ob_338 rfl inGX9 7 (by decide) rfl kf_X9_17 rfl dX9_nextToken_112 ?_
    refine ax_aload_n F dX9_nextToken_115 rfl ?_
    refine ax_get (v := .int (M 338 12)) F ob_338 rfl inGX9 12 (by decide) rfl kf_X9_81 rfl dX9_nextToken_116 ?_
    obtain ⟨hg, h⟩ := gd_some h
    refine ax_iald F ar_341 hg dX9_nextToken_119 ?_
    obtain ⟨r1, M1, hq1, h⟩ := cq_some h
    refine ax_callSi (As := [.int (M 341 (ix (M 338 12)))]) (st := []) F (tX9_isSmall F.2.2.2.2.2.2.1 _  _ _ _ hq1) kc_X9_isSmall kz_X9 kt_X9_isSmall km_X9_87 ⟨kn_X9_isSmall, rfl, rfl, Nat.le_of_ble_eq_true rfl, Nat.le_of_ble_eq_true rfl⟩ rfl (Nat.le_of_ble_eq_true rfl) dX9_nextToken_120 ?_
    refine ax_if_eq (t := 204) F dX9_nextToken_123 (by decide) (fun hc => ?_) (fun hc => ?_)
    · have h := it_pos h hc
      obtain ⟨h1, h2⟩ := rt_some h
      subst h2
      exact ax_vret F dX9_nextToken_204
    · have h := it_neg h hc
      refine ax_aload_n F dX9_nextToken_126 rfl ?_
      refine ax_dup F dX9_nextToken_127 rfl ?_
      refine ax_get (v := .int (M1 338 12)) F ob_338 rfl inGX9 12 (by decide) rfl kf_X9_81 rfl dX9_nextToken_128 ?_
      refine ax_iconst (v := (1 : Int32)) F dX9_nextToken_131 (by decide) ?_
      refine ax_iadd F dX9_nextToken_132 ?_
      refine ax_put (ty := .int) F ob_338 rfl inGX9 tyX9 tyX9_ok nmX9 12 (by decide) rfl kf_X9_81 (by decide) rfl rfl (Nat.le_of_ble_eq_true rfl) rfl dX9_nextToken_133 ?_
      refine ax_goto (t := 100) F dX9_nextToken_136 (by decide) ?_
      exact IH.2.2.2.2.1  _ h 
set_option maxRecDepth 100000 in
set_option maxHeartbeats 4000000 in
theorem wX9_nextToken_5 {p : Program} {l : Launch} {e : Env} {s : State} {m : MethodId} {args : Array Value} {below : List Frame} {meth : Method} {c : Code} {G : va_G} {ad : Nat → Nat} {cs : Nat → ClassId} {zk zv : Nat → Nat} {r : Int32} {M' : Mm} {n : Nat} (F : Fx G ad cs zk zv p m meth c cX9_nextToken 1 none s args RX9) (IH : PX9_nextToken p l e s m args below meth c G ad cs zk r M' n)  (M : Mm) (h : (bX9_nextToken_5  M).bind (fun q => match q with | .inl s' => itr stX9_nextToken n s' | .inr r => some r) = some (r, M'))  : AW p l e rmX9_nextToken s m args below meth c (MQ below (AQv G ad cs M') args s 0 0 (inA ad)) G ad cs 1 139 [some (.ref (ad 338))] [] M := by
  unfold bX9_nextToken_5 at h
  refine ax_aload_n F dX9_nextToken_139 rfl ?_
  refine ax_get (v := .int (M 338 11)) F ob_338 rfl inGX9 11 (by decide) rfl kf_X9_84 rfl dX9_nextToken_140 ?_
  refine ax_aload_n F dX9_nextToken_143 rfl ?_
  refine ax_get (v := .int (M 338 8)) F ob_338 rfl inGX9 8 (by decide) rfl kf_X9_70 rfl dX9_nextToken_144 ?_
  refine ax_icmp_ge (t := 204) F dX9_nextToken_147 (by decide) (fun hc => ?_) (fun hc => ?_)
  · have h := it_pos h hc
    obtain ⟨h1, h2⟩ := rt_some h
    subst h2
    exact ax_vret F dX9_nextToken_204
  · have h := it_neg h hc
    refine ax_aload_n F dX9_nextToken_150 rfl ?_
    refine ax_get (v := .ref (ad 341)) F ob_338 rfl inGX9 7 (by decide) rfl kf_X9_17 rfl dX9_nextToken_151 ?_
    refine ax_aload_n F dX9_nextToken_154 rfl ?_
    refine ax_get (v := .int (M 338 11)) F ob_338 rfl inGX9 11 (by decide) rfl kf_X9_84 rfl dX9_nextToken_155 ?_
    obtain ⟨hg, h⟩ := gd_some h
    refine ax_iald F ar_341 hg dX9_nextToken_158 ?_
    obtain ⟨r1, M1, hq1, h⟩ := cq_some h
    refine ax_callSi (As := [.int (M 341 (ix (M 338 11)))]) (st := []) F (tX9_isDigit F.2.2.2.2.2.2.1 _  _ _ _ hq1) kc_X9_isDigit kz_X9 kt_X9_isDigit km_X9_91 ⟨kn_X9_isDigit, rfl, rfl, Nat.le_of_ble_eq_true rfl, Nat.le_of_ble_eq_true rfl⟩ rfl (Nat.le_of_ble_eq_true rfl) dX9_nextToken_159 ?_
    refine ax_if_eq (t := 204) F dX9_nextToken_162 (by decide) (fun hc => ?_) (fun hc => ?_)
    · have h := it_pos h hc
      obtain ⟨h1, h2⟩ := rt_some h
      subst h2
      exact ax_vret F dX9_nextToken_204
    · have h := it_neg h hc
      exact IH.2.2.2.2.2.2  _ h 
set_option maxRecDepth 100000 in
set_option maxHeartbeats 4000000 in
theorem wX9_nextToken_6 {p : Program} {l : Launch} {e : Env} {s : State} {m : MethodId} {args : Array Value} {below : List Frame} {meth : Method} {c : Code} {G : va_G} {ad : Nat → Nat} {cs : Nat → ClassId} {zk zv : Nat → Nat} {r : Int32} {M' : Mm} {n : Nat} (F : Fx G ad cs zk zv p m meth c cX9_nextToken 1 none s args RX9) (IH : PX9_nextToken p l e s m args below meth c G ad cs zk r M' n)  (M : Mm) (h : (bX9_nextToken_6  M).bind (fun q => match q with | .inl s' => itr stX9_nextToken n s' | .inr r => some r) = some (r, M'))  : AW p l e rmX9_nextToken s m args below meth c (MQ below (AQv G ad cs M') args s 0 0 (inA ad)) G ad cs 1 165 [some (.ref (ad 338))] [] M := by
  unfold bX9_nextToken_6 at h
  refine ax_aload_n F dX9_nextToken_165 rfl ?_
  refine ax_get (v := .int (M 338 12)) F ob_338 rfl inGX9 12 (by decide) rfl kf_X9_81 rfl dX9_nextToken_166 ?_
  refine ax_aload_n F dX9_nextToken_169 rfl ?_
  refine ax_get (v := .int (M 338 8)) F ob_338 rfl inGX9 8 (by decide) rfl kf_X9_70 rfl dX9_nextToken_170 ?_
  refine ax_icmp_ge (t := 204) F dX9_nextToken_173 (by decide) (fun hc => ?_) (fun hc => ?_)
  · have h := it_pos h hc
    obtain ⟨h1, h2⟩ := rt_some h
    subst h2
    exact ax_vret F dX9_nextToken_204
  · have h := it_neg h hc
    refine ax_aload_n F dX9_nextToken_176 rfl ?_
    refine ax_get (v := .ref (ad 341)) F ob_338 rfl inGX9 7 (by decide) rfl kf_X9_17 rfl dX9_nextToken_177 ?_
    refine ax_aload_n F dX9_nextToken_180 rfl ?_
    refine ax_get (v := .int (M 338 12)) F ob_338 rfl inGX9 12 (by decide) rfl kf_X9_81 rfl dX9_nextToken_181 ?_
    obtain ⟨hg, h⟩ := gd_some h
    refine ax_iald F ar_341 hg dX9_nextToken_184 ?_
    obtain ⟨r1, M1, hq1, h⟩ := cq_some h
    refine ax_callSi (As := [.int (M 341 (ix (M 338 12)))]) (st := []) F (tX9_isDigit F.2.2.2.2.2.2.1 _  _ _ _ hq1) kc_X9_isDigit kz_X9 kt_X9_isDigit km_X9_91 ⟨kn_X9_isDigit, rfl, rfl, Nat.le_of_ble_eq_true rfl, Nat.le_of_ble_eq_true rfl⟩ rfl (Nat.le_of_ble_eq_true rfl) dX9_nextToken_185 ?_
    refine ax_if_eq (t := 204) F dX9_nextToken_188 (by decide) (fun hc => ?_) (fun hc => ?_)
    · have h := it_pos h hc
      obtain ⟨h1, h2⟩ := rt_some h
      subst h2
      exact ax_vret F dX9_nextToken_204
    · have h := it_neg h hc
      refine ax_aload_n F dX9_nextToken_191 rfl ?_
      refine ax_dup F dX9_nextToken_192 rfl ?_
      refine ax_get (v := .int (M1 338 12)) F ob_338 rfl inGX9 12 (by decide) rfl kf_X9_81 rfl dX9_nextToken_193 ?_
      refine ax_iconst (v := (1 : Int32)) F dX9_nextToken_196 (by decide) ?_
      refine ax_iadd F dX9_nextToken_197 ?_
      refine ax_put (ty := .int) F ob_338 rfl inGX9 tyX9 tyX9_ok nmX9 12 (by decide) rfl kf_X9_81 (by decide) rfl rfl (Nat.le_of_ble_eq_true rfl) rfl dX9_nextToken_198 ?_
      refine ax_goto (t := 165) F dX9_nextToken_201 (by decide) ?_
      exact IH.2.2.2.2.2.2  _ h 
set_option maxRecDepth 100000 in
set_option maxHeartbeats 4000000 in
theorem wX9_nextToken {p : Program} {l : Launch} {e : Env} {s : State} {m : MethodId} {args : Array Value} {below : List Frame} {meth : Method} {c : Code} {G : va_G} {ad : Nat → Nat} {cs : Nat → ClassId} {zk zv : Nat → Nat} {r : Int32} {M' : Mm} (F : Fx G ad cs zk zv p m meth c cX9_nextToken 1 none s args RX9) (n : Nat) : PX9_nextToken p l e s m args below meth c G ad cs zk r M' n := by
  induction n with
  | zero => exact ⟨(fun  M h => by cases h), (fun  M h => by cases h), (fun  M h => by cases h), (fun s0 M h => by cases h), (fun  M h => by cases h), (fun  M h => by cases h), (fun  M h => by cases h)⟩
  | succ n ih =>
    exact ⟨fun  M h  => wX9_nextToken_0 F ih  M h ,
      fun  M h  => wX9_nextToken_1 F ih  M h ,
      fun  M h  => wX9_nextToken_2 F ih  M h ,
      fun s0 M h  => wX9_nextToken_3 F ih s0 M h ,
      fun  M h  => wX9_nextToken_4 F ih  M h ,
      fun  M h  => wX9_nextToken_5 F ih  M h ,
      fun  M h  => wX9_nextToken_6 F ih  M h ⟩
set_option maxRecDepth 100000 in
set_option maxHeartbeats 4000000 in
theorem tX9_nextToken {l : Launch} {G : va_G} {ad : Nat → Nat} {cs : Nat → ClassId} {zk zv : Nat → Nat} (hinj : inj ad)   (M : Mm) (r : Int32) (M' : Mm) (h : fX9_nextToken  M = some (r, M')) : Met l yX9_nextToken (tgW yX9_nextToken cX9_nextToken 1 none) rmX9_nextToken (APre G ad cs zk zv [.ref (ad 338)] M) (AQv G ad cs M') 0 0 (inA ad) := by
  refine met_of (Eq.refl true) (Nat.le_of_ble_eq_true rfl) hinj [some (.ref (ad 338))] rfl ?_
  intro p e s m below meth c F
  replace F : Fx G ad cs zk zv p m meth c cX9_nextToken 1 none s _ RX9 := F
  obtain ⟨n, hn⟩ := run_ex h
  exact (wX9_nextToken F n).1  M hn 
def rmX9_wordHere : Room := { frames := 0, cells := 0, slots := 0, locals := 0 }
theorem kn_X9_wordHere : yX9_wordHere.cls ≠ "java/lang/invoke/MethodHandle" ∧ yX9_wordHere.cls ≠ "java/lang/invoke/VarHandle" ∧ (parseMethodDescriptor yX9_wordHere.desc).map (fun d => d.parameters.length) = some 0 := by decide +kernel
noncomputable def bX9_wordHere_0  (M : Mm) : Option (Sst ⊕ Rst) := some (.inl (1, [], [(0 : Int32)], M))
noncomputable def bX9_wordHere_1 (x1 : Int32) (M : Mm) : Option (Sst ⊕ Rst) := if (4 : Int32) < x1 then (some (.inr ((-1 : Int32), M))) else (if (M 338 12) ≤ (M 338 11) then (some (.inl (2, [], [x1, (0 : Int32), (0 : Int32)], M))) else (if (5 : Int32) ≤ ((M 338 12) - (M 338 11)) then (some (.inl (2, [], [x1, (0 : Int32), (0 : Int32)], M))) else (some (.inl (2, [], [x1, (1 : Int32), (0 : Int32)], M)))))
noncomputable def bX9_wordHere_2 (x1 : Int32) (x2 : Int32) (x3 : Int32) (M : Mm) : Option (Sst ⊕ Rst) := if (4 : Int32) ≤ x3 then (if x2 = 0 then (some (.inl (1, [], [(x1 + (1 : Int32))], M))) else (some (.inr (x1, M)))) else (if x2 = 0 then (if x2 = 0 then (some (.inl (1, [], [(x1 + (1 : Int32))], M))) else (some (.inr (x1, M)))) else (gd (okI (((4 : Int32) * x1) + x3) 20) (if (M 338 12) ≤ ((M 338 11) + x3) then (some (.inl (3, [], [x1, x3, (0 : Int32), (M 345 (ix (((4 : Int32) * x1) + x3)))], M))) else (gd (okI ((M 338 11) + x3) 200) (some (.inl (3, [], [x1, x3, (M 341 (ix ((M 338 11) + x3))), (M 345 (ix (((4 : Int32) * x1) + x3)))], M)))))))
noncomputable def bX9_wordHere_3 (x1 : Int32) (x3 : Int32) (s0 : Int32) (s1 : Int32) (M : Mm) : Option (Sst ⊕ Rst) := if s1 = s0 then (some (.inl (2, [], [x1, (1 : Int32), (x3 + (1 : Int32))], M))) else (some (.inl (2, [], [x1, (0 : Int32), (x3 + (1 : Int32))], M)))
noncomputable def stX9_wordHere : Sst → Option (Sst ⊕ Rst) := fun q => match q.1 with
  | 0 => bX9_wordHere_0  q.2.2.2
  | 1 => bX9_wordHere_1 (q.2.2.1.getD 0 0) q.2.2.2
  | 2 => bX9_wordHere_2 (q.2.2.1.getD 0 0) (q.2.2.1.getD 1 0) (q.2.2.1.getD 2 0) q.2.2.2
  | 3 => bX9_wordHere_3 (q.2.2.1.getD 0 0) (q.2.2.1.getD 1 0) (q.2.2.1.getD 2 0) (q.2.2.1.getD 3 0) q.2.2.2
  | _ => none
noncomputable def fX9_wordHere  (M : Mm) : Option Rst := run stX9_wordHere (0, [], [], M)
def PX9_wordHere (p : Program) (l : Launch) (e : Env) (s : State) (m : MethodId) (args : Array Value) (below : List Frame) (meth : Method) (c : Code) (G : va_G) (ad : Nat → Nat) (cs : Nat → ClassId) (zk : Nat → Nat) (r : Int32) (M' : Mm) (n : Nat) : Prop := (∀  (M : Mm), itr stX9_wordHere n (0, [], [], M) = some (r, M') → AW p l e rmX9_wordHere s m args below meth c (MQ below (AQi G ad cs r M') args s 0 0 (inA ad)) G ad cs 4 0 [some (.ref (ad 338)), none, none, none] [] M) ∧ (∀ (x1 : Int32) (M : Mm), itr stX9_wordHere n (1, [], [x1], M) = some (r, M') → AW p l e rmX9_wordHere s m args below meth c (MQ below (AQi G ad cs r M') args s 0 0 (inA ad)) G ad cs 4 2 [some (.ref (ad 338)), some (.int x1), none, none] [] M) ∧ (∀ (x1 : Int32) (x2 : Int32) (x3 : Int32) (M : Mm), itr stX9_wordHere n (2, [], [x1, x2, x3], M) = some (r, M') → AW p l e rmX9_wordHere s m args below meth c (MQ below (AQi G ad cs r M') args s 0 0 (inA ad)) G ad cs 4 39 [some (.ref (ad 338)), some (.int x1), some (.int x2), some (.int x3)] [] M) ∧ (∀ (x1 : Int32) (x3 : Int32) (s0 : Int32) (s1 : Int32) (M : Mm), itr stX9_wordHere n (3, [], [x1, x3, s0, s1], M) = some (r, M') → AW p l e rmX9_wordHere s m args below meth c (MQ below (AQi G ad cs r M') args s 0 0 (inA ad)) G ad cs 4 86 [some (.ref (ad 338)), some (.int x1), none, some (.int x3)] [.int s0, .int s1] M)
set_option maxRecDepth 100000 in
set_option maxHeartbeats 4000000 in
theorem wX9_wordHere_0 {p : Program} {l : Launch} {e : Env} {s : State} {m : MethodId} {args : Array Value} {below : List Frame} {meth : Method} {c : Code} {G : va_G} {ad : Nat → Nat} {cs : Nat → ClassId} {zk zv : Nat → Nat} {r : Int32} {M' : Mm} {n : Nat} (F : Fx G ad cs zk zv p m meth c cX9_wordHere 4 (some .int) s args RX9) (IH : PX9_wordHere p l e s m args below meth c G ad cs zk r M' n)  (M : Mm) (h : (bX9_wordHere_0  M).bind (fun q => match q with | .inl s' => itr stX9_wordHere n s' | .inr r => some r) = some (r, M'))  : AW p l e rmX9_wordHere s m args below meth c (MQ below (AQi G ad cs r M') args s 0 0 (inA ad)) G ad cs 4 0 [some (.ref (ad 338)), none, none, none] [] M := by
  unfold bX9_wordHere_0 at h
  refine ax_iconst (v := (0 : Int32)) F dX9_wordHere_0 (by decide) ?_
  refine ax_istore_n F dX9_wordHere_1 (by decide) rfl ?_
  exact IH.2.1 _ _ h 
set_option maxRecDepth 100000 in
set_option maxHeartbeats 4000000 in
theorem wX9_wordHere_1 {p : Program} {l : Launch} {e : Env} {s : State} {m : MethodId} {args : Array Value} {below : List Frame} {meth : Method} {c : Code} {G : va_G} {ad : Nat → Nat} {cs : Nat → ClassId} {zk zv : Nat → Nat} {r : Int32} {M' : Mm} {n : Nat} (F : Fx G ad cs zk zv p m meth c cX9_wordHere 4 (some .int) s args RX9) (IH : PX9_wordHere p l e s m args below meth c G ad cs zk r M' n) (x1 : Int32) (M : Mm) (h : (bX9_wordHere_1 x1 M).bind (fun q => match q with | .inl s' => itr stX9_wordHere n s' | .inr r => some r) = some (r, M'))  : AW p l e rmX9_wordHere s m args below meth c (MQ below (AQi G ad cs r M') args s 0 0 (inA ad)) G ad cs 4 2 [some (.ref (ad 338)), some (.int x1), none, none] [] M := by
  unfold bX9_wordHere_1 at h
  refine ax_iload_n F dX9_wordHere_2 rfl ?_
  refine ax_iconst (v := (4 : Int32)) F dX9_wordHere_3 (by decide) ?_
  refine ax_icmp_gt (t := 113) F dX9_wordHere_4 (by decide) (fun hc => ?_) (fun hc => ?_)
  · have h := it_pos h hc
    refine ax_iconst (v := (-1 : Int32)) F dX9_wordHere_113 (by decide) ?_
    obtain ⟨h1, h2⟩ := rt_some h
    subst h1; subst h2
    exact ax_iret F dX9_wordHere_114
  · have h := it_neg h hc
    refine ax_aload_n F dX9_wordHere_7 rfl ?_
    refine ax_get (v := .int (M 338 12)) F ob_338 rfl inGX9 12 (by decide) rfl kf_X9_81 rfl dX9_wordHere_8 ?_
    refine ax_aload_n F dX9_wordHere_11 rfl ?_
    refine ax_get (v := .int (M 338 11)) F ob_338 rfl inGX9 11 (by decide) rfl kf_X9_84 rfl dX9_wordHere_12 ?_
    refine ax_icmp_le (t := 35) F dX9_wordHere_15 (by decide) (fun hc => ?_) (fun hc => ?_)
    · have h := it_pos h hc
      refine ax_iconst (v := (0 : Int32)) F dX9_wordHere_35 (by decide) ?_
      refine ax_istore_n F dX9_wordHere_36 (by decide) rfl ?_
      refine ax_iconst (v := (0 : Int32)) F dX9_wordHere_37 (by decide) ?_
      refine ax_istore_n F dX9_wordHere_38 (by decide) rfl ?_
      exact IH.2.2.1 _ _ _ _ h 
    · have h := it_neg h hc
      refine ax_aload_n F dX9_wordHere_18 rfl ?_
      refine ax_get (v := .int (M 338 12)) F ob_338 rfl inGX9 12 (by decide) rfl kf_X9_81 rfl dX9_wordHere_19 ?_
      refine ax_aload_n F dX9_wordHere_22 rfl ?_
      refine ax_get (v := .int (M 338 11)) F ob_338 rfl inGX9 11 (by decide) rfl kf_X9_84 rfl dX9_wordHere_23 ?_
      refine ax_isub F dX9_wordHere_26 ?_
      refine ax_iconst (v := (5 : Int32)) F dX9_wordHere_27 (by decide) ?_
      refine ax_icmp_ge (t := 35) F dX9_wordHere_28 (by decide) (fun hc => ?_) (fun hc => ?_)
      · have h := it_pos h hc
        refine ax_iconst (v := (0 : Int32)) F dX9_wordHere_35 (by decide) ?_
        refine ax_istore_n F dX9_wordHere_36 (by decide) rfl ?_
        refine ax_iconst (v := (0 : Int32)) F dX9_wordHere_37 (by decide) ?_
        refine ax_istore_n F dX9_wordHere_38 (by decide) rfl ?_
        exact IH.2.2.1 _ _ _ _ h 
      · have h := it_neg h hc
        refine ax_iconst (v := (1 : Int32)) F dX9_wordHere_31 (by decide) ?_
        refine ax_goto (t := 36) F dX9_wordHere_32 (by decide) ?_
        refine ax_istore_n F dX9_wordHere_36 (by decide) rfl ?_
        refine ax_iconst (v := (0 : Int32)) F dX9_wordHere_37 (by decide) ?_
        refine ax_istore_n F dX9_wordHere_38 (by decide) rfl ?_
        exact IH.2.2.1 _ _ _ _ h 
set_option maxRecDepth 100000 in
set_option maxHeartbeats 4000000 in
theorem wX9_wordHere_2 {p : Program} {l : Launch} {e : Env} {s : State} {m : MethodId} {args : Array Value} {below : List Frame} {meth : Method} {c : Code} {G : va_G} {ad : Nat → Nat} {cs : Nat → ClassId} {zk zv : Nat → Nat} {r : Int32} {M' : Mm} {n : Nat} (F : Fx G ad cs zk zv p m meth c cX9_wordHere 4 (some .int) s args RX9) (IH : PX9_wordHere p l e s m args below meth c G ad cs zk r M' n) (x1 : Int32) (x2 : Int32) (x3 : Int32) (M : Mm) (h : (bX9_wordHere_2 x1 x2 x3 M).bind (fun q => match q with | .inl s' => itr stX9_wordHere n s' | .inr r => some r) = some (r, M'))  : AW p l e rmX9_wordHere s m args below meth c (MQ below (AQi G ad cs r M') args s 0 0 (inA ad)) G ad cs 4 39 [some (.ref (ad 338)), some (.int x1), some (.int x2), some (.int x3)] [] M := by
  unfold bX9_wordHere_2 at h
  refine ax_iload_n F dX9_wordHere_39 rfl ?_
  refine ax_iconst (v := (4 : Int32)) F dX9_wordHere_40 (by decide) ?_
  refine ax_icmp_ge (t := 101) F dX9_wordHere_41 (by decide) (fun hc => ?_) (fun hc => ?_)
  · have h := it_pos h hc
    refine ax_iload_n F dX9_wordHere_101 rfl ?_
    refine ax_if_eq (t := 107) F dX9_wordHere_102 (by decide) (fun hc => ?_) (fun hc => ?_)
    · have h := it_pos h hc
      refine ax_iinc (v := (1 : Int32)) F dX9_wordHere_107 rfl (by decide) (by decide) rfl ?_
      refine ax_goto (t := 2) F dX9_wordHere_110 (by decide) ?_
      refine ax_mask [true, true, false, false] ?_
      exact IH.2.1 _ _ h 
    · have h := it_neg h hc
      refine ax_iload_n F dX9_wordHere_105 rfl ?_
      obtain ⟨h1, h2⟩ := rt_some h
      subst h1; subst h2
      exact ax_iret F dX9_wordHere_106
  · have h := it_neg h hc
    refine ax_iload_n F dX9_wordHere_44 rfl ?_
    refine ax_if_eq (t := 101) F dX9_wordHere_45 (by decide) (fun hc => ?_) (fun hc => ?_)
    · have h := it_pos h hc
      refine ax_iload_n F dX9_wordHere_101 rfl ?_
      refine ax_if_eq (t := 107) F dX9_wordHere_102 (by decide) (fun hc => ?_) (fun hc => ?_)
      · have h := it_pos h hc
        refine ax_iinc (v := (1 : Int32)) F dX9_wordHere_107 rfl (by decide) (by decide) rfl ?_
        refine ax_goto (t := 2) F dX9_wordHere_110 (by decide) ?_
        refine ax_mask [true, true, false, false] ?_
        exact IH.2.1 _ _ h 
      · have h := it_neg h hc
        refine ax_iload_n F dX9_wordHere_105 rfl ?_
        obtain ⟨h1, h2⟩ := rt_some h
        subst h1; subst h2
        exact ax_iret F dX9_wordHere_106
    · have h := it_neg h hc
      refine ax_aload_n F dX9_wordHere_48 rfl ?_
      refine ax_get (v := .ref (ad 345)) F ob_338 rfl inGX9 17 (by decide) rfl kf_X9_29 rfl dX9_wordHere_49 ?_
      refine ax_iconst (v := (4 : Int32)) F dX9_wordHere_52 (by decide) ?_
      refine ax_iload_n F dX9_wordHere_53 rfl ?_
      refine ax_imul F dX9_wordHere_54 ?_
      refine ax_iload_n F dX9_wordHere_55 rfl ?_
      refine ax_iadd F dX9_wordHere_56 ?_
      obtain ⟨hg, h⟩ := gd_some h
      refine ax_iald F ar_345 hg dX9_wordHere_57 ?_
      refine ax_aload_n F dX9_wordHere_58 rfl ?_
      refine ax_get (v := .int (M 338 11)) F ob_338 rfl inGX9 11 (by decide) rfl kf_X9_84 rfl dX9_wordHere_59 ?_
      refine ax_iload_n F dX9_wordHere_62 rfl ?_
      refine ax_iadd F dX9_wordHere_63 ?_
      refine ax_aload_n F dX9_wordHere_64 rfl ?_
      refine ax_get (v := .int (M 338 12)) F ob_338 rfl inGX9 12 (by decide) rfl kf_X9_81 rfl dX9_wordHere_65 ?_
      refine ax_icmp_ge (t := 85) F dX9_wordHere_68 (by decide) (fun hc => ?_) (fun hc => ?_)
      · have h := it_pos h hc
        refine ax_iconst (v := (0 : Int32)) F dX9_wordHere_85 (by decide) ?_
        refine ax_mask [true, true, false, true] ?_
        exact IH.2.2.2 _ _ _ _ _ h 
      · have h := it_neg h hc
        refine ax_aload_n F dX9_wordHere_71 rfl ?_
        refine ax_get (v := .ref (ad 341)) F ob_338 rfl inGX9 7 (by decide) rfl kf_X9_17 rfl dX9_wordHere_72 ?_
        refine ax_aload_n F dX9_wordHere_75 rfl ?_
        refine ax_get (v := .int (M 338 11)) F ob_338 rfl inGX9 11 (by decide) rfl kf_X9_84 rfl dX9_wordHere_76 ?_
        refine ax_iload_n F dX9_wordHere_79 rfl ?_
        refine ax_iadd F dX9_wordHere_80 ?_
        obtain ⟨hg, h⟩ := gd_some h
        refine ax_iald F ar_341 hg dX9_wordHere_81 ?_
        refine ax_goto (t := 86) F dX9_wordHere_82 (by decide) ?_
        refine ax_mask [true, true, false, true] ?_
        exact IH.2.2.2 _ _ _ _ _ h 
set_option maxRecDepth 100000 in
set_option maxHeartbeats 4000000 in
theorem wX9_wordHere_3 {p : Program} {l : Launch} {e : Env} {s : State} {m : MethodId} {args : Array Value} {below : List Frame} {meth : Method} {c : Code} {G : va_G} {ad : Nat → Nat} {cs : Nat → ClassId} {zk zv : Nat → Nat} {r : Int32} {M' : Mm} {n : Nat} (F : Fx G ad cs zk zv p m meth c cX9_wordHere 4 (some .int) s args RX9) (IH : PX9_wordHere p l e s m args below meth c G ad cs zk r M' n) (x1 : Int32) (x3 : Int32) (s0 : Int32) (s1 : Int32) (M : Mm) (h : (bX9_wordHere_3 x1 x3 s0 s1 M).bind (fun q => match q with | .inl s' => itr stX9_wordHere n s' | .inr r => some r) = some (r, M'))  : AW p l e rmX9_wordHere s m args below meth c (MQ below (AQi G ad cs r M') args s 0 0 (inA ad)) G ad cs 4 86 [some (.ref (ad 338)), some (.int x1), none, some (.int x3)] [.int s0, .int s1] M := by
  unfold bX9_wordHere_3 at h
  refine ax_icmp_ne (t := 93) F dX9_wordHere_86 (by decide) (fun hc => ?_) (fun hc => ?_)
  · have h := it_neg h hc
    refine ax_iconst (v := (0 : Int32)) F dX9_wordHere_93 (by decide) ?_
    refine ax_istore_n F dX9_wordHere_94 (by decide) rfl ?_
    refine ax_iinc (v := (1 : Int32)) F dX9_wordHere_95 rfl (by decide) (by decide) rfl ?_
    refine ax_goto (t := 39) F dX9_wordHere_98 (by decide) ?_
    exact IH.2.2.1 _ _ _ _ h 
  · have h := it_pos h hc
    refine ax_iconst (v := (1 : Int32)) F dX9_wordHere_89 (by decide) ?_
    refine ax_goto (t := 94) F dX9_wordHere_90 (by decide) ?_
    refine ax_istore_n F dX9_wordHere_94 (by decide) rfl ?_
    refine ax_iinc (v := (1 : Int32)) F dX9_wordHere_95 rfl (by decide) (by decide) rfl ?_
    refine ax_goto (t := 39) F dX9_wordHere_98 (by decide) ?_
    exact IH.2.2.1 _ _ _ _ h 
set_option maxRecDepth 100000 in
set_option maxHeartbeats 4000000 in
theorem wX9_wordHere {p : Program} {l : Launch} {e : Env} {s : State} {m : MethodId} {args : Array Value} {below : List Frame} {meth : Method} {c : Code} {G : va_G} {ad : Nat → Nat} {cs : Nat → ClassId} {zk zv : Nat → Nat} {r : Int32} {M' : Mm} (F : Fx G ad cs zk zv p m meth c cX9_wordHere 4 (some .int) s args RX9) (n : Nat) : PX9_wordHere p l e s m args below meth c G ad cs zk r M' n := by
  induction n with
  | zero => exact ⟨(fun  M h => by cases h), (fun x1 M h => by cases h), (fun x1 x2 x3 M h => by cases h), (fun x1 x3 s0 s1 M h => by cases h)⟩
  | succ n ih =>
    exact ⟨fun  M h  => wX9_wordHere_0 F ih  M h ,
      fun x1 M h  => wX9_wordHere_1 F ih x1 M h ,
      fun x1 x2 x3 M h  => wX9_wordHere_2 F ih x1 x2 x3 M h ,
      fun x1 x3 s0 s1 M h  => wX9_wordHere_3 F ih x1 x3 s0 s1 M h ⟩
set_option maxRecDepth 100000 in
set_option maxHeartbeats 4000000 in
theorem tX9_wordHere {l : Launch} {G : va_G} {ad : Nat → Nat} {cs : Nat → ClassId} {zk zv : Nat → Nat} (hinj : inj ad)   (M : Mm) (r : Int32) (M' : Mm) (h : fX9_wordHere  M = some (r, M')) : Met l yX9_wordHere (tgW yX9_wordHere cX9_wordHere 4 (some .int)) rmX9_wordHere (APre G ad cs zk zv [.ref (ad 338)] M) (AQi G ad cs r M') 0 0 (inA ad) := by
  refine met_of (Eq.refl true) (Nat.le_of_ble_eq_true rfl) hinj [some (.ref (ad 338)), none, none, none] rfl ?_
  intro p e s m below meth c F
  replace F : Fx G ad cs zk zv p m meth c cX9_wordHere 4 (some .int) s _ RX9 := F
  obtain ⟨n, hn⟩ := run_ex h
  exact (wX9_wordHere F n).1  M hn 
def rmX9_number : Room := { frames := 3, cells := 0, slots := 0, locals := 65 }
theorem kn_X9_number : yX9_number.cls ≠ "java/lang/invoke/MethodHandle" ∧ yX9_number.cls ≠ "java/lang/invoke/VarHandle" ∧ (parseMethodDescriptor yX9_number.desc).map (fun d => d.parameters.length) = some 4 := by decide +kernel
noncomputable def bX9_number_0 (x1 : Int32) (x2 : Int32) (x3 : Int32) (x4 : Int32) (M : Mm) : Option (Sst ⊕ Rst) := if (M 338 11) = (M 338 8) then (some (.inr ((0 : Int32), M))) else (gd (okI (M 338 11) 200) (cl (fX9_isDigit (M 341 (ix (M 338 11))) M) (fun r1 M1 => if r1 = 0 then (some (.inr ((0 : Int32), M1))) else (if ((M1 338 12) - (M1 338 11)) ≤ (3 : Int32) then (some (.inl (1, [], [x1, x2, x3, x4, (0 : Int32), (M1 338 11)], M1))) else (some (.inr ((0 : Int32), M1)))))))
noncomputable def bX9_number_1 (x1 : Int32) (x2 : Int32) (x3 : Int32) (x4 : Int32) (x5 : Int32) (x6 : Int32) (M : Mm) : Option (Sst ⊕ Rst) := if (M 338 12) ≤ x6 then (cl (fX9_in (x5).toInt64 (x2).toInt64 (x3).toInt64 M) (fun r1 M1 => if r1 = 0 then (some (.inl (2, [], [x1, x5, (0 : Int32)], M1))) else (if x5 = x4 then (some (.inl (2, [], [x1, x5, (0 : Int32)], M1))) else (some (.inl (2, [], [x1, x5, (1 : Int32)], M1)))))) else (gd (okI x6 200) (some (.inl (1, [], [x1, x2, x3, x4, ((((10 : Int32) * x5) + (M 341 (ix x6))) - (48 : Int32)), (x6 + (1 : Int32))], M))))
noncomputable def bX9_number_2 (x1 : Int32) (x5 : Int32) (s0 : Int32) (M : Mm) : Option (Sst ⊕ Rst) := if s0 = 0 then (gd (okZ s0) (some (.inr (s0, M)))) else (gd (okI x1 4) (cl (fX9_nextToken (up2 M 344 (ix x1) x5)) (fun r1 M1 => gd (okZ s0) (some (.inr (s0, M1))))))
noncomputable def stX9_number : Sst → Option (Sst ⊕ Rst) := fun q => match q.1 with
  | 0 => bX9_number_0 (q.2.2.1.getD 0 0) (q.2.2.1.getD 1 0) (q.2.2.1.getD 2 0) (q.2.2.1.getD 3 0) q.2.2.2
  | 1 => bX9_number_1 (q.2.2.1.getD 0 0) (q.2.2.1.getD 1 0) (q.2.2.1.getD 2 0) (q.2.2.1.getD 3 0) (q.2.2.1.getD 4 0) (q.2.2.1.getD 5 0) q.2.2.2
  | 2 => bX9_number_2 (q.2.2.1.getD 0 0) (q.2.2.1.getD 1 0) (q.2.2.1.getD 2 0) q.2.2.2
  | _ => none
noncomputable def fX9_number (x1 : Int32) (x2 : Int32) (x3 : Int32) (x4 : Int32) (M : Mm) : Option Rst := run stX9_number (0, [], [x1, x2, x3, x4], M)
def PX9_number (p : Program) (l : Launch) (e : Env) (s : State) (m : MethodId) (args : Array Value) (below : List Frame) (meth : Method) (c : Code) (G : va_G) (ad : Nat → Nat) (cs : Nat → ClassId) (zk : Nat → Nat) (r : Int32) (M' : Mm) (n : Nat) : Prop := (∀ (x1 : Int32) (x2 : Int32) (x3 : Int32) (x4 : Int32) (M : Mm), itr stX9_number n (0, [], [x1, x2, x3, x4], M) = some (r, M') → AW p l e rmX9_number s m args below meth c (MQ below (AQi G ad cs r M') args s 0 0 (inA ad)) G ad cs 7 0 [some (.ref (ad 338)), some (.int x1), some (.int x2), some (.int x3), some (.int x4), none, none] [] M) ∧ (∀ (x1 : Int32) (x2 : Int32) (x3 : Int32) (x4 : Int32) (x5 : Int32) (x6 : Int32) (M : Mm), itr stX9_number n (1, [], [x1, x2, x3, x4, x5, x6], M) = some (r, M') → AW p l e rmX9_number s m args below meth c (MQ below (AQi G ad cs r M') args s 0 0 (inA ad)) G ad cs 7 50 [some (.ref (ad 338)), some (.int x1), some (.int x2), some (.int x3), some (.int x4), some (.int x5), some (.int x6)] [] M) ∧ (∀ (x1 : Int32) (x5 : Int32) (s0 : Int32) (M : Mm), itr stX9_number n (2, [], [x1, x5, s0], M) = some (r, M') → AW p l e rmX9_number s m args below meth c (MQ below (AQi G ad cs r M') args s 0 0 (inA ad)) G ad cs 7 108 [some (.ref (ad 338)), some (.int x1), none, none, none, some (.int x5), none] [.int s0] M)
set_option maxRecDepth 100000 in
set_option maxHeartbeats 4000000 in
theorem wX9_number_0 {p : Program} {l : Launch} {e : Env} {s : State} {m : MethodId} {args : Array Value} {below : List Frame} {meth : Method} {c : Code} {G : va_G} {ad : Nat → Nat} {cs : Nat → ClassId} {zk zv : Nat → Nat} {r : Int32} {M' : Mm} {n : Nat} (F : Fx G ad cs zk zv p m meth c cX9_number 7 (some .boolean) s args RX9) (IH : PX9_number p l e s m args below meth c G ad cs zk r M' n) (x1 : Int32) (x2 : Int32) (x3 : Int32) (x4 : Int32) (M : Mm) (h : (bX9_number_0 x1 x2 x3 x4 M).bind (fun q => match q with | .inl s' => itr stX9_number n s' | .inr r => some r) = some (r, M'))  : AW p l e rmX9_number s m args below meth c (MQ below (AQi G ad cs r M') args s 0 0 (inA ad)) G ad cs 7 0 [some (.ref (ad 338)), some (.int x1), some (.int x2), some (.int x3), some (.int x4), none, none] [] M := by
  unfold bX9_number_0 at h
  refine ax_aload_n F dX9_number_0 rfl ?_
  refine ax_get (v := .int (M 338 11)) F ob_338 rfl inGX9 11 (by decide) rfl kf_X9_84 rfl dX9_number_1 ?_
  refine ax_aload_n F dX9_number_4 rfl ?_
  refine ax_get (v := .int (M 338 8)) F ob_338 rfl inGX9 8 (by decide) rfl kf_X9_70 rfl dX9_number_5 ?_
  refine ax_icmp_eq (t := 39) F dX9_number_8 (by decide) (fun hc => ?_) (fun hc => ?_)
  · have h := it_pos h hc
    refine ax_iconst (v := (0 : Int32)) F dX9_number_39 (by decide) ?_
    obtain ⟨h1, h2⟩ := rt_some h
    subst h1; subst h2
    exact ax_zret F (by decide) dX9_number_40
  · have h := it_neg h hc
    refine ax_aload_n F dX9_number_11 rfl ?_
    refine ax_get (v := .ref (ad 341)) F ob_338 rfl inGX9 7 (by decide) rfl kf_X9_17 rfl dX9_number_12 ?_
    refine ax_aload_n F dX9_number_15 rfl ?_
    refine ax_get (v := .int (M 338 11)) F ob_338 rfl inGX9 11 (by decide) rfl kf_X9_84 rfl dX9_number_16 ?_
    obtain ⟨hg, h⟩ := gd_some h
    refine ax_iald F ar_341 hg dX9_number_19 ?_
    obtain ⟨r1, M1, hq1, h⟩ := cq_some h
    refine ax_callSi (As := [.int (M 341 (ix (M 338 11)))]) (st := []) F (tX9_isDigit F.2.2.2.2.2.2.1 _  _ _ _ hq1) kc_X9_isDigit kz_X9 kt_X9_isDigit km_X9_91 ⟨kn_X9_isDigit, rfl, rfl, Nat.le_of_ble_eq_true rfl, Nat.le_of_ble_eq_true rfl⟩ rfl (Nat.le_of_ble_eq_true rfl) dX9_number_20 ?_
    refine ax_if_eq (t := 39) F dX9_number_23 (by decide) (fun hc => ?_) (fun hc => ?_)
    · have h := it_pos h hc
      refine ax_iconst (v := (0 : Int32)) F dX9_number_39 (by decide) ?_
      obtain ⟨h1, h2⟩ := rt_some h
      subst h1; subst h2
      exact ax_zret F (by decide) dX9_number_40
    · have h := it_neg h hc
      refine ax_aload_n F dX9_number_26 rfl ?_
      refine ax_get (v := .int (M1 338 12)) F ob_338 rfl inGX9 12 (by decide) rfl kf_X9_81 rfl dX9_number_27 ?_
      refine ax_aload_n F dX9_number_30 rfl ?_
      refine ax_get (v := .int (M1 338 11)) F ob_338 rfl inGX9 11 (by decide) rfl kf_X9_84 rfl dX9_number_31 ?_
      refine ax_isub F dX9_number_34 ?_
      refine ax_iconst (v := (3 : Int32)) F dX9_number_35 (by decide) ?_
      refine ax_icmp_le (t := 41) F dX9_number_36 (by decide) (fun hc => ?_) (fun hc => ?_)
      · have h := it_pos h hc
        refine ax_iconst (v := (0 : Int32)) F dX9_number_41 (by decide) ?_
        refine ax_istore F dX9_number_42 (by decide) rfl ?_
        refine ax_aload_n F dX9_number_44 rfl ?_
        refine ax_get (v := .int (M1 338 11)) F ob_338 rfl inGX9 11 (by decide) rfl kf_X9_84 rfl dX9_number_45 ?_
        refine ax_istore F dX9_number_48 (by decide) rfl ?_
        exact IH.2.1 _ _ _ _ _ _ _ h 
      · have h := it_neg h hc
        refine ax_iconst (v := (0 : Int32)) F dX9_number_39 (by decide) ?_
        obtain ⟨h1, h2⟩ := rt_some h
        subst h1; subst h2
        exact ax_zret F (by decide) dX9_number_40
set_option maxRecDepth 100000 in
set_option maxHeartbeats 4000000 in
theorem wX9_number_1 {p : Program} {l : Launch} {e : Env} {s : State} {m : MethodId} {args : Array Value} {below : List Frame} {meth : Method} {c : Code} {G : va_G} {ad : Nat → Nat} {cs : Nat → ClassId} {zk zv : Nat → Nat} {r : Int32} {M' : Mm} {n : Nat} (F : Fx G ad cs zk zv p m meth c cX9_number 7 (some .boolean) s args RX9) (IH : PX9_number p l e s m args below meth c G ad cs zk r M' n) (x1 : Int32) (x2 : Int32) (x3 : Int32) (x4 : Int32) (x5 : Int32) (x6 : Int32) (M : Mm) (h : (bX9_number_1 x1 x2 x3 x4 x5 x6 M).bind (fun q => match q with | .inl s' => itr stX9_number n s' | .inr r => some r) = some (r, M'))  : AW p l e rmX9_number s m args below meth c (MQ below (AQi G ad cs r M') args s 0 0 (inA ad)) G ad cs 7 50 [some (.ref (ad 338)), some (.int x1), some (.int x2), some (.int x3), some (.int x4), some (.int x5), some (.int x6)] [] M := by
  unfold bX9_number_1 at h
  refine ax_iload F dX9_number_50 rfl ?_
  refine ax_aload_n F dX9_number_52 rfl ?_
  refine ax_get (v := .int (M 338 12)) F ob_338 rfl inGX9 12 (by decide) rfl kf_X9_81 rfl dX9_number_53 ?_
  refine ax_icmp_ge (t := 83) F dX9_number_56 (by decide) (fun hc => ?_) (fun hc => ?_)
  · have h := it_pos h hc
    refine ax_iload F dX9_number_83 rfl ?_
    refine ax_i2l F dX9_number_85 ?_
    refine ax_iload_n F dX9_number_86 rfl ?_
    refine ax_i2l F dX9_number_87 ?_
    refine ax_iload_n F dX9_number_88 rfl ?_
    refine ax_i2l F dX9_number_89 ?_
    obtain ⟨r1, M1, hq1, h⟩ := cq_some h
    refine ax_callSi (As := [.long (x5).toInt64, .long (x2).toInt64, .long (x3).toInt64]) (st := []) F (tX9_in F.2.2.2.2.2.2.1 _ _ _  _ _ _ hq1) kc_X9_in kz_X9 kt_X9_in km_X9_66 ⟨kn_X9_in, rfl, rfl, Nat.le_of_ble_eq_true rfl, Nat.le_of_ble_eq_true rfl⟩ rfl (Nat.le_of_ble_eq_true rfl) dX9_number_90 ?_
    refine ax_if_eq (t := 107) F dX9_number_93 (by decide) (fun hc => ?_) (fun hc => ?_)
    · have h := it_pos h hc
      refine ax_iconst (v := (0 : Int32)) F dX9_number_107 (by decide) ?_
      refine ax_mask [true, true, false, false, false, true, false] ?_
      exact IH.2.2 _ _ _ _ h 
    · have h := it_neg h hc
      refine ax_iload F dX9_number_96 rfl ?_
      refine ax_iload F dX9_number_98 rfl ?_
      refine ax_icmp_eq (t := 107) F dX9_number_100 (by decide) (fun hc => ?_) (fun hc => ?_)
      · have h := it_pos h hc
        refine ax_iconst (v := (0 : Int32)) F dX9_number_107 (by decide) ?_
        refine ax_mask [true, true, false, false, false, true, false] ?_
        exact IH.2.2 _ _ _ _ h 
      · have h := it_neg h hc
        refine ax_iconst (v := (1 : Int32)) F dX9_number_103 (by decide) ?_
        refine ax_goto (t := 108) F dX9_number_104 (by decide) ?_
        refine ax_mask [true, true, false, false, false, true, false] ?_
        exact IH.2.2 _ _ _ _ h 
  · have h := it_neg h hc
    refine ax_bipush (v := (10 : Int32)) F dX9_number_59 (by decide) ?_
    refine ax_iload F dX9_number_61 rfl ?_
    refine ax_imul F dX9_number_63 ?_
    refine ax_aload_n F dX9_number_64 rfl ?_
    refine ax_get (v := .ref (ad 341)) F ob_338 rfl inGX9 7 (by decide) rfl kf_X9_17 rfl dX9_number_65 ?_
    refine ax_iload F dX9_number_68 rfl ?_
    obtain ⟨hg, h⟩ := gd_some h
    refine ax_iald F ar_341 hg dX9_number_70 ?_
    refine ax_iadd F dX9_number_71 ?_
    refine ax_bipush (v := (48 : Int32)) F dX9_number_72 (by decide) ?_
    refine ax_isub F dX9_number_74 ?_
    refine ax_istore F dX9_number_75 (by decide) rfl ?_
    refine ax_iinc (v := (1 : Int32)) F dX9_number_77 rfl (by decide) (by decide) rfl ?_
    refine ax_goto (t := 50) F dX9_number_80 (by decide) ?_
    exact IH.2.1 _ _ _ _ _ _ _ h 
set_option maxRecDepth 100000 in
set_option maxHeartbeats 4000000 in
theorem wX9_number_2 {p : Program} {l : Launch} {e : Env} {s : State} {m : MethodId} {args : Array Value} {below : List Frame} {meth : Method} {c : Code} {G : va_G} {ad : Nat → Nat} {cs : Nat → ClassId} {zk zv : Nat → Nat} {r : Int32} {M' : Mm} {n : Nat} (F : Fx G ad cs zk zv p m meth c cX9_number 7 (some .boolean) s args RX9) (IH : PX9_number p l e s m args below meth c G ad cs zk r M' n) (x1 : Int32) (x5 : Int32) (s0 : Int32) (M : Mm) (h : (bX9_number_2 x1 x5 s0 M).bind (fun q => match q with | .inl s' => itr stX9_number n s' | .inr r => some r) = some (r, M'))  : AW p l e rmX9_number s m args below meth c (MQ below (AQi G ad cs r M') args s 0 0 (inA ad)) G ad cs 7 108 [some (.ref (ad 338)), some (.int x1), none, none, none, some (.int x5), none] [.int s0] M := by
  unfold bX9_number_2 at h
  refine ax_istore F dX9_number_108 (by decide) rfl ?_
  refine ax_iload F dX9_number_110 rfl ?_
  refine ax_if_eq (t := 127) F dX9_number_112 (by decide) (fun hc => ?_) (fun hc => ?_)
  · have h := it_pos h hc
    refine ax_iload F dX9_number_127 rfl ?_
    obtain ⟨hz, h⟩ := gd_some h
    obtain ⟨h1, h2⟩ := rt_some h
    subst h1; subst h2
    exact ax_zret F hz dX9_number_129
  · have h := it_neg h hc
    refine ax_aload_n F dX9_number_115 rfl ?_
    refine ax_get (v := .ref (ad 344)) F ob_338 rfl inGX9 16 (by decide) rfl kf_X9_26 rfl dX9_number_116 ?_
    refine ax_iload_n F dX9_number_119 rfl ?_
    refine ax_iload F dX9_number_120 rfl ?_
    obtain ⟨hg, h⟩ := gd_some h
    refine ax_iast F ar_344 hg dX9_number_122 ?_
    refine ax_aload_n F dX9_number_123 rfl ?_
    obtain ⟨r1, M1, hq1, h⟩ := cq_some h
    refine ax_callVv (As := []) (st := []) F (tX9_nextToken F.2.2.2.2.2.2.1   _ _ _ hq1) ob_338 rfl kc_X9_nextToken kz_X9 ki_X9_nextToken ks_X9_nextToken km_X9_94 ⟨kn_X9_nextToken, rfl, rfl, Nat.le_of_ble_eq_true rfl, Nat.le_of_ble_eq_true rfl⟩ rfl (Nat.le_of_ble_eq_true rfl) dX9_number_124 ?_
    refine ax_iload F dX9_number_127 rfl ?_
    obtain ⟨hz, h⟩ := gd_some h
    obtain ⟨h1, h2⟩ := rt_some h
    subst h1; subst h2
    exact ax_zret F hz dX9_number_129
set_option maxRecDepth 100000 in
set_option maxHeartbeats 4000000 in
theorem wX9_number {p : Program} {l : Launch} {e : Env} {s : State} {m : MethodId} {args : Array Value} {below : List Frame} {meth : Method} {c : Code} {G : va_G} {ad : Nat → Nat} {cs : Nat → ClassId} {zk zv : Nat → Nat} {r : Int32} {M' : Mm} (F : Fx G ad cs zk zv p m meth c cX9_number 7 (some .boolean) s args RX9) (n : Nat) : PX9_number p l e s m args below meth c G ad cs zk r M' n := by
  induction n with
  | zero => exact ⟨(fun x1 x2 x3 x4 M h => by cases h), (fun x1 x2 x3 x4 x5 x6 M h => by cases h), (fun x1 x5 s0 M h => by cases h)⟩
  | succ n ih =>
    exact ⟨fun x1 x2 x3 x4 M h  => wX9_number_0 F ih x1 x2 x3 x4 M h ,
      fun x1 x2 x3 x4 x5 x6 M h  => wX9_number_1 F ih x1 x2 x3 x4 x5 x6 M h ,
      fun x1 x5 s0 M h  => wX9_number_2 F ih x1 x5 s0 M h ⟩
set_option maxRecDepth 100000 in
set_option maxHeartbeats 4000000 in
theorem tX9_number {l : Launch} {G : va_G} {ad : Nat → Nat} {cs : Nat → ClassId} {zk zv : Nat → Nat} (hinj : inj ad) (x1 : Int32) (x2 : Int32) (x3 : Int32) (x4 : Int32)  (M : Mm) (r : Int32) (M' : Mm) (h : fX9_number x1 x2 x3 x4 M = some (r, M')) : Met l yX9_number (tgW yX9_number cX9_number 7 (some .boolean)) rmX9_number (APre G ad cs zk zv [.ref (ad 338), .int x1, .int x2, .int x3, .int x4] M) (AQi G ad cs r M') 0 0 (inA ad) := by
  refine met_of (Eq.refl true) (Nat.le_of_ble_eq_true rfl) hinj [some (.ref (ad 338)), some (.int x1), some (.int x2), some (.int x3), some (.int x4), none, none] rfl ?_
  intro p e s m below meth c F
  replace F : Fx G ad cs zk zv p m meth c cX9_number 7 (some .boolean) s _ RX9 := F
  obtain ⟨n, hn⟩ := run_ex h
  exact (wX9_number F n).1 x1 x2 x3 x4 M hn 
noncomputable def fX9_readsNode (x1 : Int32) (x2 : Int32) (M : Mm) : Option Rst := cl (fX9_number x1 (0 : Int32) ((M 338 13) - (1 : Int32)) x2 M) (fun r1 M1 => gd (okZ r1) (some (r1, M1)))
def rmX9_readsNode : Room := { frames := 4, cells := 0, slots := 0, locals := 91 }
theorem kn_X9_readsNode : yX9_readsNode.cls ≠ "java/lang/invoke/MethodHandle" ∧ yX9_readsNode.cls ≠ "java/lang/invoke/VarHandle" ∧ (parseMethodDescriptor yX9_readsNode.desc).map (fun d => d.parameters.length) = some 2 := by decide +kernel
set_option maxRecDepth 100000 in
set_option maxHeartbeats 4000000 in
theorem tX9_readsNode {l : Launch} {G : va_G} {ad : Nat → Nat} {cs : Nat → ClassId} {zk zv : Nat → Nat} (hinj : inj ad) (x1 : Int32) (x2 : Int32)  (M : Mm) (r : Int32) (M' : Mm) (h : fX9_readsNode x1 x2 M = some (r, M')) : Met l yX9_readsNode (tgW yX9_readsNode cX9_readsNode 3 (some .boolean)) rmX9_readsNode (APre G ad cs zk zv [.ref (ad 338), .int x1, .int x2] M) (AQi G ad cs r M') 0 0 (inA ad) := by
  refine met_of (Eq.refl true) (Nat.le_of_ble_eq_true rfl) hinj [some (.ref (ad 338)), some (.int x1), some (.int x2)] rfl ?_
  intro p e s m below meth c F
  replace F : Fx G ad cs zk zv p m meth c cX9_readsNode 3 (some .boolean) s _ RX9 := F
  unfold fX9_readsNode at h
  refine ax_aload_n F dX9_readsNode_0 rfl ?_
  refine ax_iload_n F dX9_readsNode_1 rfl ?_
  refine ax_iconst (v := (0 : Int32)) F dX9_readsNode_2 (by decide) ?_
  refine ax_aload_n F dX9_readsNode_3 rfl ?_
  refine ax_get (v := .int (M 338 13)) F ob_338 rfl inGX9 13 (by decide) rfl kf_X9_97 rfl dX9_readsNode_4 ?_
  refine ax_iconst (v := (1 : Int32)) F dX9_readsNode_7 (by decide) ?_
  refine ax_isub F dX9_readsNode_8 ?_
  refine ax_iload_n F dX9_readsNode_9 rfl ?_
  obtain ⟨r1, M1, hq1, h⟩ := cq_some0 h
  refine ax_callVi (As := [.int x1, .int (0 : Int32), .int ((M 338 13) - (1 : Int32)), .int x2]) (st := []) F (tX9_number F.2.2.2.2.2.2.1 _ _ _ _  _ _ _ hq1) ob_338 rfl kc_X9_number kz_X9 ki_X9_number ks_X9_number km_X9_100 ⟨kn_X9_number, rfl, rfl, Nat.le_of_ble_eq_true rfl, Nat.le_of_ble_eq_true rfl⟩ rfl (Nat.le_of_ble_eq_true rfl) dX9_readsNode_10 ?_
  obtain ⟨hz, h⟩ := gd_some0 h
  obtain ⟨h1, h2⟩ := rt_some0 h
  subst h1; subst h2
  exact ax_zret F hz dX9_readsNode_13
noncomputable def fX9_readsRest (x1 : Int32) (M : Mm) : Option Rst := if x1 = (0 : Int32) then (cl (fX9_number (0 : Int32) (2 : Int32) (8 : Int32) (-1 : Int32) M) (fun r1 M1 => if r1 = 0 then (some ((0 : Int32), M1)) else (cl (fX9_number (1 : Int32) (1 : Int32) (5 : Int32) (-1 : Int32) M1) (fun r2 M2 => if r2 = 0 then (some ((0 : Int32), M2)) else (cl (fX9_number (2 : Int32) (1 : Int32) (M2 344 (ix (1 : Int32))) (-1 : Int32) M2) (fun r3 M3 => if r3 = 0 then (some ((0 : Int32), M3)) else (cl (fX9_number (3 : Int32) (1 : Int32) (999 : Int32) (-1 : Int32) M3) (fun r4 M4 => if r4 = 0 then (some ((0 : Int32), M4)) else (some ((1 : Int32), M4)))))))))) else if x1 = (1 : Int32) then (cl (fX9_readsNode (0 : Int32) (-1 : Int32) M) (fun r5 M5 => gd (okZ r5) (some (r5, M5)))) else if x1 = (2 : Int32) then (cl (fX9_readsNode (0 : Int32) (-1 : Int32) M) (fun r6 M6 => gd (okZ r6) (some (r6, M6)))) else if x1 = (3 : Int32) then (cl (fX9_readsNode (0 : Int32) (-1 : Int32) M) (fun r7 M7 => if r7 = 0 then (some ((0 : Int32), M7)) else (cl (fX9_readsNode (1 : Int32) (M7 344 (ix (0 : Int32))) M7) (fun r8 M8 => if r8 = 0 then (some ((0 : Int32), M8)) else (cl (fX9_number (2 : Int32) (0 : Int32) (99 : Int32) (-1 : Int32) M8) (fun r9 M9 => if r9 = 0 then (some ((0 : Int32), M9)) else (some ((1 : Int32), M9)))))))) else if x1 = (4 : Int32) then (cl (fX9_readsNode (0 : Int32) (-1 : Int32) M) (fun r10 M10 => if r10 = 0 then (some ((0 : Int32), M10)) else (cl (fX9_readsNode (1 : Int32) (M10 344 (ix (0 : Int32))) M10) (fun r11 M11 => if r11 = 0 then (some ((0 : Int32), M11)) else (some ((1 : Int32), M11)))))) else (cl (fX9_readsNode (0 : Int32) (-1 : Int32) M) (fun r12 M12 => gd (okZ r12) (some (r12, M12))))
def rmX9_readsRest : Room := { frames := 5, cells := 0, slots := 0, locals := 113 }
theorem kn_X9_readsRest : yX9_readsRest.cls ≠ "java/lang/invoke/MethodHandle" ∧ yX9_readsRest.cls ≠ "java/lang/invoke/VarHandle" ∧ (parseMethodDescriptor yX9_readsRest.desc).map (fun d => d.parameters.length) = some 1 := by decide +kernel
set_option maxRecDepth 100000 in
set_option maxHeartbeats 4000000 in
theorem tX9_readsRest {l : Launch} {G : va_G} {ad : Nat → Nat} {cs : Nat → ClassId} {zk zv : Nat → Nat} (hinj : inj ad) (x1 : Int32)  (M : Mm) (r : Int32) (M' : Mm) (h : fX9_readsRest x1 M = some (r, M')) : Met l yX9_readsRest (tgW yX9_readsRest cX9_readsRest 2 (some .boolean)) rmX9_readsRest (APre G ad cs zk zv [.ref (ad 338), .int x1] M) (AQi G ad cs r M') 0 0 (inA ad) := by
  refine met_of (Eq.refl true) (Nat.le_of_ble_eq_true rfl) hinj [some (.ref (ad 338)), some (.int x1)] rfl ?_
  intro p e s m below meth c F
  replace F : Fx G ad cs zk zv p m meth c cX9_readsRest 2 (some .boolean) s _ RX9 := F
  unfold fX9_readsRest at h
  refine ax_iload_n F dX9_readsRest_0 rfl ?_
  by_cases hc0 : x1 = (0 : Int32)
  · have h := it_pos0 h hc0
    refine ax_swK (v := (0 : Int32)) (t := 36) F dX9_readsRest_1 hc0 (by decide) (by decide) rfl (by decide) ?_
    refine ax_aload_n F dX9_readsRest_36 rfl ?_
    refine ax_iconst (v := (0 : Int32)) F dX9_readsRest_37 (by decide) ?_
    refine ax_iconst (v := (2 : Int32)) F dX9_readsRest_38 (by decide) ?_
    refine ax_bipush (v := (8 : Int32)) F dX9_readsRest_39 (by decide) ?_
    refine ax_iconst (v := (-1 : Int32)) F dX9_readsRest_41 (by decide) ?_
    obtain ⟨r1, M1, hq1, h⟩ := cq_some0 h
    refine ax_callVi (As := [.int (0 : Int32), .int (2 : Int32), .int (8 : Int32), .int (-1 : Int32)]) (st := []) F (tX9_number F.2.2.2.2.2.2.1 _ _ _ _  _ _ _ hq1) ob_338 rfl kc_X9_number kz_X9 ki_X9_number ks_X9_number km_X9_100 ⟨kn_X9_number, rfl, rfl, Nat.le_of_ble_eq_true rfl, Nat.le_of_ble_eq_true rfl⟩ rfl (Nat.le_of_ble_eq_true rfl) dX9_readsRest_42 ?_
    refine ax_if_eq (t := 92) F dX9_readsRest_45 (by decide) (fun hc => ?_) (fun hc => ?_)
    · have h := it_pos0 h hc
      refine ax_iconst (v := (0 : Int32)) F dX9_readsRest_92 (by decide) ?_
      obtain ⟨h1, h2⟩ := rt_some0 h
      subst h1; subst h2
      exact ax_zret F (by decide) dX9_readsRest_93
    · have h := it_neg0 h hc
      refine ax_aload_n F dX9_readsRest_48 rfl ?_
      refine ax_iconst (v := (1 : Int32)) F dX9_readsRest_49 (by decide) ?_
      refine ax_iconst (v := (1 : Int32)) F dX9_readsRest_50 (by decide) ?_
      refine ax_iconst (v := (5 : Int32)) F dX9_readsRest_51 (by decide) ?_
      refine ax_iconst (v := (-1 : Int32)) F dX9_readsRest_52 (by decide) ?_
      obtain ⟨r2, M2, hq2, h⟩ := cq_some0 h
      refine ax_callVi (As := [.int (1 : Int32), .int (1 : Int32), .int (5 : Int32), .int (-1 : Int32)]) (st := []) F (tX9_number F.2.2.2.2.2.2.1 _ _ _ _  _ _ _ hq2) ob_338 rfl kc_X9_number kz_X9 ki_X9_number ks_X9_number km_X9_100 ⟨kn_X9_number, rfl, rfl, Nat.le_of_ble_eq_true rfl, Nat.le_of_ble_eq_true rfl⟩ rfl (Nat.le_of_ble_eq_true rfl) dX9_readsRest_53 ?_
      refine ax_if_eq (t := 92) F dX9_readsRest_56 (by decide) (fun hc => ?_) (fun hc => ?_)
      · have h := it_pos0 h hc
        refine ax_iconst (v := (0 : Int32)) F dX9_readsRest_92 (by decide) ?_
        obtain ⟨h1, h2⟩ := rt_some0 h
        subst h1; subst h2
        exact ax_zret F (by decide) dX9_readsRest_93
      · have h := it_neg0 h hc
        refine ax_aload_n F dX9_readsRest_59 rfl ?_
        refine ax_iconst (v := (2 : Int32)) F dX9_readsRest_60 (by decide) ?_
        refine ax_iconst (v := (1 : Int32)) F dX9_readsRest_61 (by decide) ?_
        refine ax_aload_n F dX9_readsRest_62 rfl ?_
        refine ax_get (v := .ref (ad 344)) F ob_338 rfl inGX9 16 (by decide) rfl kf_X9_26 rfl dX9_readsRest_63 ?_
        refine ax_iconst (v := (1 : Int32)) F dX9_readsRest_66 (by decide) ?_
        refine ax_iald F ar_344 (by decide) dX9_readsRest_67 ?_
        refine ax_iconst (v := (-1 : Int32)) F dX9_readsRest_68 (by decide) ?_
        obtain ⟨r3, M3, hq3, h⟩ := cq_some0 h
        refine ax_callVi (As := [.int (2 : Int32), .int (1 : Int32), .int (M2 344 (ix (1 : Int32))), .int (-1 : Int32)]) (st := []) F (tX9_number F.2.2.2.2.2.2.1 _ _ _ _  _ _ _ hq3) ob_338 rfl kc_X9_number kz_X9 ki_X9_number ks_X9_number km_X9_100 ⟨kn_X9_number, rfl, rfl, Nat.le_of_ble_eq_true rfl, Nat.le_of_ble_eq_true rfl⟩ rfl (Nat.le_of_ble_eq_true rfl) dX9_readsRest_69 ?_
        refine ax_if_eq (t := 92) F dX9_readsRest_72 (by decide) (fun hc => ?_) (fun hc => ?_)
        · have h := it_pos0 h hc
          refine ax_iconst (v := (0 : Int32)) F dX9_readsRest_92 (by decide) ?_
          obtain ⟨h1, h2⟩ := rt_some0 h
          subst h1; subst h2
          exact ax_zret F (by decide) dX9_readsRest_93
        · have h := it_neg0 h hc
          refine ax_aload_n F dX9_readsRest_75 rfl ?_
          refine ax_iconst (v := (3 : Int32)) F dX9_readsRest_76 (by decide) ?_
          refine ax_iconst (v := (1 : Int32)) F dX9_readsRest_77 (by decide) ?_
          refine ax_sipush (v := (999 : Int32)) F dX9_readsRest_78 (by decide) ?_
          refine ax_iconst (v := (-1 : Int32)) F dX9_readsRest_81 (by decide) ?_
          obtain ⟨r4, M4, hq4, h⟩ := cq_some0 h
          refine ax_callVi (As := [.int (3 : Int32), .int (1 : Int32), .int (999 : Int32), .int (-1 : Int32)]) (st := []) F (tX9_number F.2.2.2.2.2.2.1 _ _ _ _  _ _ _ hq4) ob_338 rfl kc_X9_number kz_X9 ki_X9_number ks_X9_number km_X9_100 ⟨kn_X9_number, rfl, rfl, Nat.le_of_ble_eq_true rfl, Nat.le_of_ble_eq_true rfl⟩ rfl (Nat.le_of_ble_eq_true rfl) dX9_readsRest_82 ?_
          refine ax_if_eq (t := 92) F dX9_readsRest_85 (by decide) (fun hc => ?_) (fun hc => ?_)
          · have h := it_pos0 h hc
            refine ax_iconst (v := (0 : Int32)) F dX9_readsRest_92 (by decide) ?_
            obtain ⟨h1, h2⟩ := rt_some0 h
            subst h1; subst h2
            exact ax_zret F (by decide) dX9_readsRest_93
          · have h := it_neg0 h hc
            refine ax_iconst (v := (1 : Int32)) F dX9_readsRest_88 (by decide) ?_
            refine ax_goto (t := 93) F dX9_readsRest_89 (by decide) ?_
            obtain ⟨h1, h2⟩ := rt_some0 h
            subst h1; subst h2
            exact ax_zret F (by decide) dX9_readsRest_93
  replace h := it_neg0 h hc0
  by_cases hc1 : x1 = (1 : Int32)
  · have h := it_pos0 h hc1
    refine ax_swK (v := (1 : Int32)) (t := 164) F dX9_readsRest_1 hc1 (by decide) (by decide) rfl (by decide) ?_
    refine ax_aload_n F dX9_readsRest_164 rfl ?_
    refine ax_iconst (v := (0 : Int32)) F dX9_readsRest_165 (by decide) ?_
    refine ax_iconst (v := (-1 : Int32)) F dX9_readsRest_166 (by decide) ?_
    obtain ⟨r5, M5, hq5, h⟩ := cq_some0 h
    refine ax_callVi (As := [.int (0 : Int32), .int (-1 : Int32)]) (st := []) F (tX9_readsNode F.2.2.2.2.2.2.1 _ _  _ _ _ hq5) ob_338 rfl kc_X9_readsNode kz_X9 ki_X9_readsNode ks_X9_readsNode km_X9_104 ⟨kn_X9_readsNode, rfl, rfl, Nat.le_of_ble_eq_true rfl, Nat.le_of_ble_eq_true rfl⟩ rfl (Nat.le_of_ble_eq_true rfl) dX9_readsRest_167 ?_
    obtain ⟨hz, h⟩ := gd_some0 h
    obtain ⟨h1, h2⟩ := rt_some0 h
    subst h1; subst h2
    exact ax_zret F hz dX9_readsRest_170
  replace h := it_neg0 h hc1
  by_cases hc2 : x1 = (2 : Int32)
  · have h := it_pos0 h hc2
    refine ax_swK (v := (2 : Int32)) (t := 164) F dX9_readsRest_1 hc2 (by decide) (by decide) rfl (by decide) ?_
    refine ax_aload_n F dX9_readsRest_164 rfl ?_
    refine ax_iconst (v := (0 : Int32)) F dX9_readsRest_165 (by decide) ?_
    refine ax_iconst (v := (-1 : Int32)) F dX9_readsRest_166 (by decide) ?_
    obtain ⟨r6, M6, hq6, h⟩ := cq_some0 h
    refine ax_callVi (As := [.int (0 : Int32), .int (-1 : Int32)]) (st := []) F (tX9_readsNode F.2.2.2.2.2.2.1 _ _  _ _ _ hq6) ob_338 rfl kc_X9_readsNode kz_X9 ki_X9_readsNode ks_X9_readsNode km_X9_104 ⟨kn_X9_readsNode, rfl, rfl, Nat.le_of_ble_eq_true rfl, Nat.le_of_ble_eq_true rfl⟩ rfl (Nat.le_of_ble_eq_true rfl) dX9_readsRest_167 ?_
    obtain ⟨hz, h⟩ := gd_some0 h
    obtain ⟨h1, h2⟩ := rt_some0 h
    subst h1; subst h2
    exact ax_zret F hz dX9_readsRest_170
  replace h := it_neg0 h hc2
  by_cases hc3 : x1 = (3 : Int32)
  · have h := it_pos0 h hc3
    refine ax_swK (v := (3 : Int32)) (t := 94) F dX9_readsRest_1 hc3 (by decide) (by decide) rfl (by decide) ?_
    refine ax_aload_n F dX9_readsRest_94 rfl ?_
    refine ax_iconst (v := (0 : Int32)) F dX9_readsRest_95 (by decide) ?_
    refine ax_iconst (v := (-1 : Int32)) F dX9_readsRest_96 (by decide) ?_
    obtain ⟨r7, M7, hq7, h⟩ := cq_some0 h
    refine ax_callVi (As := [.int (0 : Int32), .int (-1 : Int32)]) (st := []) F (tX9_readsNode F.2.2.2.2.2.2.1 _ _  _ _ _ hq7) ob_338 rfl kc_X9_readsNode kz_X9 ki_X9_readsNode ks_X9_readsNode km_X9_104 ⟨kn_X9_readsNode, rfl, rfl, Nat.le_of_ble_eq_true rfl, Nat.le_of_ble_eq_true rfl⟩ rfl (Nat.le_of_ble_eq_true rfl) dX9_readsRest_97 ?_
    refine ax_if_eq (t := 133) F dX9_readsRest_100 (by decide) (fun hc => ?_) (fun hc => ?_)
    · have h := it_pos0 h hc
      refine ax_iconst (v := (0 : Int32)) F dX9_readsRest_133 (by decide) ?_
      obtain ⟨h1, h2⟩ := rt_some0 h
      subst h1; subst h2
      exact ax_zret F (by decide) dX9_readsRest_134
    · have h := it_neg0 h hc
      refine ax_aload_n F dX9_readsRest_103 rfl ?_
      refine ax_iconst (v := (1 : Int32)) F dX9_readsRest_104 (by decide) ?_
      refine ax_aload_n F dX9_readsRest_105 rfl ?_
      refine ax_get (v := .ref (ad 344)) F ob_338 rfl inGX9 16 (by decide) rfl kf_X9_26 rfl dX9_readsRest_106 ?_
      refine ax_iconst (v := (0 : Int32)) F dX9_readsRest_109 (by decide) ?_
      refine ax_iald F ar_344 (by decide) dX9_readsRest_110 ?_
      obtain ⟨r8, M8, hq8, h⟩ := cq_some0 h
      refine ax_callVi (As := [.int (1 : Int32), .int (M7 344 (ix (0 : Int32)))]) (st := []) F (tX9_readsNode F.2.2.2.2.2.2.1 _ _  _ _ _ hq8) ob_338 rfl kc_X9_readsNode kz_X9 ki_X9_readsNode ks_X9_readsNode km_X9_104 ⟨kn_X9_readsNode, rfl, rfl, Nat.le_of_ble_eq_true rfl, Nat.le_of_ble_eq_true rfl⟩ rfl (Nat.le_of_ble_eq_true rfl) dX9_readsRest_111 ?_
      refine ax_if_eq (t := 133) F dX9_readsRest_114 (by decide) (fun hc => ?_) (fun hc => ?_)
      · have h := it_pos0 h hc
        refine ax_iconst (v := (0 : Int32)) F dX9_readsRest_133 (by decide) ?_
        obtain ⟨h1, h2⟩ := rt_some0 h
        subst h1; subst h2
        exact ax_zret F (by decide) dX9_readsRest_134
      · have h := it_neg0 h hc
        refine ax_aload_n F dX9_readsRest_117 rfl ?_
        refine ax_iconst (v := (2 : Int32)) F dX9_readsRest_118 (by decide) ?_
        refine ax_iconst (v := (0 : Int32)) F dX9_readsRest_119 (by decide) ?_
        refine ax_bipush (v := (99 : Int32)) F dX9_readsRest_120 (by decide) ?_
        refine ax_iconst (v := (-1 : Int32)) F dX9_readsRest_122 (by decide) ?_
        obtain ⟨r9, M9, hq9, h⟩ := cq_some0 h
        refine ax_callVi (As := [.int (2 : Int32), .int (0 : Int32), .int (99 : Int32), .int (-1 : Int32)]) (st := []) F (tX9_number F.2.2.2.2.2.2.1 _ _ _ _  _ _ _ hq9) ob_338 rfl kc_X9_number kz_X9 ki_X9_number ks_X9_number km_X9_100 ⟨kn_X9_number, rfl, rfl, Nat.le_of_ble_eq_true rfl, Nat.le_of_ble_eq_true rfl⟩ rfl (Nat.le_of_ble_eq_true rfl) dX9_readsRest_123 ?_
        refine ax_if_eq (t := 133) F dX9_readsRest_126 (by decide) (fun hc => ?_) (fun hc => ?_)
        · have h := it_pos0 h hc
          refine ax_iconst (v := (0 : Int32)) F dX9_readsRest_133 (by decide) ?_
          obtain ⟨h1, h2⟩ := rt_some0 h
          subst h1; subst h2
          exact ax_zret F (by decide) dX9_readsRest_134
        · have h := it_neg0 h hc
          refine ax_iconst (v := (1 : Int32)) F dX9_readsRest_129 (by decide) ?_
          refine ax_goto (t := 134) F dX9_readsRest_130 (by decide) ?_
          obtain ⟨h1, h2⟩ := rt_some0 h
          subst h1; subst h2
          exact ax_zret F (by decide) dX9_readsRest_134
  replace h := it_neg0 h hc3
  by_cases hc4 : x1 = (4 : Int32)
  · have h := it_pos0 h hc4
    refine ax_swK (v := (4 : Int32)) (t := 135) F dX9_readsRest_1 hc4 (by decide) (by decide) rfl (by decide) ?_
    refine ax_aload_n F dX9_readsRest_135 rfl ?_
    refine ax_iconst (v := (0 : Int32)) F dX9_readsRest_136 (by decide) ?_
    refine ax_iconst (v := (-1 : Int32)) F dX9_readsRest_137 (by decide) ?_
    obtain ⟨r10, M10, hq10, h⟩ := cq_some0 h
    refine ax_callVi (As := [.int (0 : Int32), .int (-1 : Int32)]) (st := []) F (tX9_readsNode F.2.2.2.2.2.2.1 _ _  _ _ _ hq10) ob_338 rfl kc_X9_readsNode kz_X9 ki_X9_readsNode ks_X9_readsNode km_X9_104 ⟨kn_X9_readsNode, rfl, rfl, Nat.le_of_ble_eq_true rfl, Nat.le_of_ble_eq_true rfl⟩ rfl (Nat.le_of_ble_eq_true rfl) dX9_readsRest_138 ?_
    refine ax_if_eq (t := 162) F dX9_readsRest_141 (by decide) (fun hc => ?_) (fun hc => ?_)
    · have h := it_pos0 h hc
      refine ax_iconst (v := (0 : Int32)) F dX9_readsRest_162 (by decide) ?_
      obtain ⟨h1, h2⟩ := rt_some0 h
      subst h1; subst h2
      exact ax_zret F (by decide) dX9_readsRest_163
    · have h := it_neg0 h hc
      refine ax_aload_n F dX9_readsRest_144 rfl ?_
      refine ax_iconst (v := (1 : Int32)) F dX9_readsRest_145 (by decide) ?_
      refine ax_aload_n F dX9_readsRest_146 rfl ?_
      refine ax_get (v := .ref (ad 344)) F ob_338 rfl inGX9 16 (by decide) rfl kf_X9_26 rfl dX9_readsRest_147 ?_
      refine ax_iconst (v := (0 : Int32)) F dX9_readsRest_150 (by decide) ?_
      refine ax_iald F ar_344 (by decide) dX9_readsRest_151 ?_
      obtain ⟨r11, M11, hq11, h⟩ := cq_some0 h
      refine ax_callVi (As := [.int (1 : Int32), .int (M10 344 (ix (0 : Int32)))]) (st := []) F (tX9_readsNode F.2.2.2.2.2.2.1 _ _  _ _ _ hq11) ob_338 rfl kc_X9_readsNode kz_X9 ki_X9_readsNode ks_X9_readsNode km_X9_104 ⟨kn_X9_readsNode, rfl, rfl, Nat.le_of_ble_eq_true rfl, Nat.le_of_ble_eq_true rfl⟩ rfl (Nat.le_of_ble_eq_true rfl) dX9_readsRest_152 ?_
      refine ax_if_eq (t := 162) F dX9_readsRest_155 (by decide) (fun hc => ?_) (fun hc => ?_)
      · have h := it_pos0 h hc
        refine ax_iconst (v := (0 : Int32)) F dX9_readsRest_162 (by decide) ?_
        obtain ⟨h1, h2⟩ := rt_some0 h
        subst h1; subst h2
        exact ax_zret F (by decide) dX9_readsRest_163
      · have h := it_neg0 h hc
        refine ax_iconst (v := (1 : Int32)) F dX9_readsRest_158 (by decide) ?_
        refine ax_goto (t := 163) F dX9_readsRest_159 (by decide) ?_
        obtain ⟨h1, h2⟩ := rt_some0 h
        subst h1; subst h2
        exact ax_zret F (by decide) dX9_readsRest_163
  replace h := it_neg0 h hc4
  have hd0 : (x1).toInt ≠ 0 := fun e => hc0 (Int32.toInt_inj.mp (by rw [e]; rfl))
  have hd1 : (x1).toInt ≠ 1 := fun e => hc1 (Int32.toInt_inj.mp (by rw [e]; rfl))
  have hd2 : (x1).toInt ≠ 2 := fun e => hc2 (Int32.toInt_inj.mp (by rw [e]; rfl))
  have hd3 : (x1).toInt ≠ 3 := fun e => hc3 (Int32.toInt_inj.mp (by rw [e]; rfl))
  have hd4 : (x1).toInt ≠ 4 := fun e => hc4 (Int32.toInt_inj.mp (by rw [e]; rfl))
  refine ax_swOut (t := 164) F dX9_readsRest_1 (by omega) (by decide) ?_
  refine ax_aload_n F dX9_readsRest_164 rfl ?_
  refine ax_iconst (v := (0 : Int32)) F dX9_readsRest_165 (by decide) ?_
  refine ax_iconst (v := (-1 : Int32)) F dX9_readsRest_166 (by decide) ?_
  obtain ⟨r12, M12, hq12, h⟩ := cq_some0 h
  refine ax_callVi (As := [.int (0 : Int32), .int (-1 : Int32)]) (st := []) F (tX9_readsNode F.2.2.2.2.2.2.1 _ _  _ _ _ hq12) ob_338 rfl kc_X9_readsNode kz_X9 ki_X9_readsNode ks_X9_readsNode km_X9_104 ⟨kn_X9_readsNode, rfl, rfl, Nat.le_of_ble_eq_true rfl, Nat.le_of_ble_eq_true rfl⟩ rfl (Nat.le_of_ble_eq_true rfl) dX9_readsRest_167 ?_
  obtain ⟨hz, h⟩ := gd_some0 h
  obtain ⟨h1, h2⟩ := rt_some0 h
  subst h1; subst h2
  exact ax_zret F hz dX9_readsRest_170
noncomputable def fX9_links (x1 : Int32) (x2 : Int32) (x3 : Int32) (M : Mm) : Option Rst := cl (fX9_placeOf (0 : Int32) x1 x2 M) (fun r1 M1 => gd (okI ((2 : Int32) + x1) 1080) (if r1 = (-1 : Int32) then (if (M1 338 2) ≤ (M1 339 (ix ((2 : Int32) + x1))) then (cl (fX9_replace (0 : Int32) x1 ((M1 339 (ix ((2 : Int32) + x1))) - (1 : Int32)) x2 x3 M1) (fun r2 M2 => some ((0 : Int32), M2))) else (cl (fX9_put (0 : Int32) x1 x2 x3 M1) (fun r3 M3 => some ((0 : Int32), M3)))) else (cl (fX9_replace (0 : Int32) x1 r1 x2 x3 M1) (fun r4 M4 => some ((0 : Int32), M4)))))
def rmX9_links : Room := { frames := 1, cells := 0, slots := 0, locals := 25 }
theorem kn_X9_links : yX9_links.cls ≠ "java/lang/invoke/MethodHandle" ∧ yX9_links.cls ≠ "java/lang/invoke/VarHandle" ∧ (parseMethodDescriptor yX9_links.desc).map (fun d => d.parameters.length) = some 3 := by decide +kernel
set_option maxRecDepth 100000 in
set_option maxHeartbeats 4000000 in
theorem tX9_links {l : Launch} {G : va_G} {ad : Nat → Nat} {cs : Nat → ClassId} {zk zv : Nat → Nat} (hinj : inj ad) (x1 : Int32) (x2 : Int32) (x3 : Int32)  (M : Mm) (r : Int32) (M' : Mm) (h : fX9_links x1 x2 x3 M = some (r, M')) : Met l yX9_links (tgW yX9_links cX9_links 6 none) rmX9_links (APre G ad cs zk zv [.ref (ad 338), .int x1, .int x2, .int x3] M) (AQv G ad cs M') 0 0 (inA ad) := by
  refine met_of (Eq.refl true) (Nat.le_of_ble_eq_true rfl) hinj [some (.ref (ad 338)), some (.int x1), some (.int x2), some (.int x3), none, none] rfl ?_
  intro p e s m below meth c F
  replace F : Fx G ad cs zk zv p m meth c cX9_links 6 none s _ RX9 := F
  unfold fX9_links at h
  refine ax_aload_n F dX9_links_0 rfl ?_
  refine ax_iconst (v := (0 : Int32)) F dX9_links_1 (by decide) ?_
  refine ax_iload_n F dX9_links_2 rfl ?_
  refine ax_iload_n F dX9_links_3 rfl ?_
  obtain ⟨r1, M1, hq1, h⟩ := cq_some0 h
  refine ax_callVi (As := [.int (0 : Int32), .int x1, .int x2]) (st := []) F (tX9_placeOf F.2.2.2.2.2.2.1 _ _ _  _ _ _ hq1) ob_338 rfl kc_X9_placeOf kz_X9 ki_X9_placeOf ks_X9_placeOf km_X9_108 ⟨kn_X9_placeOf, rfl, rfl, Nat.le_of_ble_eq_true rfl, Nat.le_of_ble_eq_true rfl⟩ rfl (Nat.le_of_ble_eq_true rfl) dX9_links_4 ?_
  refine ax_istore F dX9_links_7 (by decide) rfl ?_
  refine ax_aload_n F dX9_links_9 rfl ?_
  refine ax_get (v := .ref (ad 339)) F ob_338 rfl inGX9 0 (by decide) rfl kf_X9_7 rfl dX9_links_10 ?_
  refine ax_iconst (v := (2 : Int32)) F dX9_links_13 (by decide) ?_
  refine ax_iload_n F dX9_links_14 rfl ?_
  refine ax_iadd F dX9_links_15 ?_
  obtain ⟨hg, h⟩ := gd_some0 h
  refine ax_iald F ar_339 hg dX9_links_16 ?_
  refine ax_istore F dX9_links_17 (by decide) rfl ?_
  refine ax_iload F dX9_links_19 rfl ?_
  refine ax_iconst (v := (-1 : Int32)) F dX9_links_21 (by decide) ?_
  refine ax_icmp_eq (t := 38) F dX9_links_22 (by decide) (fun hc => ?_) (fun hc => ?_)
  · have h := it_pos0 h hc
    refine ax_iload F dX9_links_38 rfl ?_
    refine ax_aload_n F dX9_links_40 rfl ?_
    refine ax_get (v := .int (M1 338 2)) F ob_338 rfl inGX9 2 (by decide) rfl kf_X9_52 rfl dX9_links_41 ?_
    refine ax_icmp_ge (t := 58) F dX9_links_44 (by decide) (fun hc => ?_) (fun hc => ?_)
    · have h := it_pos0 h hc
      refine ax_aload_n F dX9_links_58 rfl ?_
      refine ax_iconst (v := (0 : Int32)) F dX9_links_59 (by decide) ?_
      refine ax_iload_n F dX9_links_60 rfl ?_
      refine ax_iload F dX9_links_61 rfl ?_
      refine ax_iconst (v := (1 : Int32)) F dX9_links_63 (by decide) ?_
      refine ax_isub F dX9_links_64 ?_
      refine ax_iload_n F dX9_links_65 rfl ?_
      refine ax_iload_n F dX9_links_66 rfl ?_
      obtain ⟨r2, M2, hq2, h⟩ := cq_some0 h
      refine ax_callVv (As := [.int (0 : Int32), .int x1, .int ((M1 339 (ix ((2 : Int32) + x1))) - (1 : Int32)), .int x2, .int x3]) (st := []) F (tX9_replace F.2.2.2.2.2.2.1 _ _ _ _ _  _ _ _ hq2) ob_338 rfl kc_X9_replace kz_X9 ki_X9_replace ks_X9_replace km_X9_112 ⟨kn_X9_replace, rfl, rfl, Nat.le_of_ble_eq_true rfl, Nat.le_of_ble_eq_true rfl⟩ rfl (Nat.le_of_ble_eq_true rfl) dX9_links_67 ?_
      obtain ⟨h1, h2⟩ := rt_some0 h
      subst h2
      exact ax_vret F dX9_links_70
    · have h := it_neg0 h hc
      refine ax_aload_n F dX9_links_47 rfl ?_
      refine ax_iconst (v := (0 : Int32)) F dX9_links_48 (by decide) ?_
      refine ax_iload_n F dX9_links_49 rfl ?_
      refine ax_iload_n F dX9_links_50 rfl ?_
      refine ax_iload_n F dX9_links_51 rfl ?_
      obtain ⟨r3, M3, hq3, h⟩ := cq_some0 h
      refine ax_callVv (As := [.int (0 : Int32), .int x1, .int x2, .int x3]) (st := []) F (tX9_put F.2.2.2.2.2.2.1 _ _ _ _  _ _ _ hq3) ob_338 rfl kc_X9_put kz_X9 ki_X9_put ks_X9_put km_X9_61 ⟨kn_X9_put, rfl, rfl, Nat.le_of_ble_eq_true rfl, Nat.le_of_ble_eq_true rfl⟩ rfl (Nat.le_of_ble_eq_true rfl) dX9_links_52 ?_
      refine ax_goto (t := 70) F dX9_links_55 (by decide) ?_
      obtain ⟨h1, h2⟩ := rt_some0 h
      subst h2
      exact ax_vret F dX9_links_70
  · have h := it_neg0 h hc
    refine ax_aload_n F dX9_links_25 rfl ?_
    refine ax_iconst (v := (0 : Int32)) F dX9_links_26 (by decide) ?_
    refine ax_iload_n F dX9_links_27 rfl ?_
    refine ax_iload F dX9_links_28 rfl ?_
    refine ax_iload_n F dX9_links_30 rfl ?_
    refine ax_iload_n F dX9_links_31 rfl ?_
    obtain ⟨r4, M4, hq4, h⟩ := cq_some0 h
    refine ax_callVv (As := [.int (0 : Int32), .int x1, .int r1, .int x2, .int x3]) (st := []) F (tX9_replace F.2.2.2.2.2.2.1 _ _ _ _ _  _ _ _ hq4) ob_338 rfl kc_X9_replace kz_X9 ki_X9_replace ks_X9_replace km_X9_112 ⟨kn_X9_replace, rfl, rfl, Nat.le_of_ble_eq_true rfl, Nat.le_of_ble_eq_true rfl⟩ rfl (Nat.le_of_ble_eq_true rfl) dX9_links_32 ?_
    refine ax_goto (t := 70) F dX9_links_35 (by decide) ?_
    obtain ⟨h1, h2⟩ := rt_some0 h
    subst h2
    exact ax_vret F dX9_links_70
noncomputable def fX9_does (x1 : Int32) (M : Mm) : Option Rst := if x1 = (0 : Int32) then (cl (fX9_anew (M 344 (ix (0 : Int32))) (M 344 (ix (1 : Int32))) (M 344 (ix (2 : Int32))) (M 344 (ix (3 : Int32))) M) (fun r1 M1 => some ((0 : Int32), M1))) else if x1 = (1 : Int32) then (some ((0 : Int32), (up2 M 339 (ix (1 : Int32)) ((M 339 (ix (1 : Int32))) ||| (ish (1 : Int32) (M 344 (ix (0 : Int32)))))))) else if x1 = (2 : Int32) then (some ((0 : Int32), (up2 M 338 4 ((M 338 4) ||| (ish (1 : Int32) (M 344 (ix (0 : Int32)))))))) else if x1 = (3 : Int32) then (cl (fX9_links (M 344 (ix (0 : Int32))) (M 344 (ix (1 : Int32))) (M 344 (ix (2 : Int32))) M) (fun r2 M2 => some ((0 : Int32), M2))) else (cl (fX9_placeOf (0 : Int32) (M 344 (ix (0 : Int32))) (M 344 (ix (1 : Int32))) M) (fun r3 M3 => if r3 = (-1 : Int32) then (some ((0 : Int32), M3)) else (cl (fX9_strike (0 : Int32) (M3 344 (ix (0 : Int32))) r3 M3) (fun r4 M4 => some ((0 : Int32), M4)))))
def rmX9_does : Room := { frames := 2, cells := 0, slots := 0, locals := 51 }
theorem kn_X9_does : yX9_does.cls ≠ "java/lang/invoke/MethodHandle" ∧ yX9_does.cls ≠ "java/lang/invoke/VarHandle" ∧ (parseMethodDescriptor yX9_does.desc).map (fun d => d.parameters.length) = some 1 := by decide +kernel
set_option maxRecDepth 100000 in
set_option maxHeartbeats 4000000 in
theorem tX9_does {l : Launch} {G : va_G} {ad : Nat → Nat} {cs : Nat → ClassId} {zk zv : Nat → Nat} (hinj : inj ad) (x1 : Int32)  (M : Mm) (r : Int32) (M' : Mm) (h : fX9_does x1 M = some (r, M')) : Met l yX9_does (tgW yX9_does cX9_does 3 none) rmX9_does (APre G ad cs zk zv [.ref (ad 338), .int x1] M) (AQv G ad cs M') 0 0 (inA ad) := by
  refine met_of (Eq.refl true) (Nat.le_of_ble_eq_true rfl) hinj [some (.ref (ad 338)), some (.int x1), none] rfl ?_
  intro p e s m below meth c F
  replace F : Fx G ad cs zk zv p m meth c cX9_does 3 none s _ RX9 := F
  unfold fX9_does at h
  refine ax_iload_n F dX9_does_0 rfl ?_
  by_cases hc0 : x1 = (0 : Int32)
  · have h := it_pos0 h hc0
    refine ax_swK (v := (0 : Int32)) (t := 32) F dX9_does_1 hc0 (by decide) (by decide) rfl (by decide) ?_
    refine ax_aload_n F dX9_does_32 rfl ?_
    refine ax_aload_n F dX9_does_33 rfl ?_
    refine ax_get (v := .ref (ad 344)) F ob_338 rfl inGX9 16 (by decide) rfl kf_X9_26 rfl dX9_does_34 ?_
    refine ax_iconst (v := (0 : Int32)) F dX9_does_37 (by decide) ?_
    refine ax_iald F ar_344 (by decide) dX9_does_38 ?_
    refine ax_aload_n F dX9_does_39 rfl ?_
    refine ax_get (v := .ref (ad 344)) F ob_338 rfl inGX9 16 (by decide) rfl kf_X9_26 rfl dX9_does_40 ?_
    refine ax_iconst (v := (1 : Int32)) F dX9_does_43 (by decide) ?_
    refine ax_iald F ar_344 (by decide) dX9_does_44 ?_
    refine ax_aload_n F dX9_does_45 rfl ?_
    refine ax_get (v := .ref (ad 344)) F ob_338 rfl inGX9 16 (by decide) rfl kf_X9_26 rfl dX9_does_46 ?_
    refine ax_iconst (v := (2 : Int32)) F dX9_does_49 (by decide) ?_
    refine ax_iald F ar_344 (by decide) dX9_does_50 ?_
    refine ax_aload_n F dX9_does_51 rfl ?_
    refine ax_get (v := .ref (ad 344)) F ob_338 rfl inGX9 16 (by decide) rfl kf_X9_26 rfl dX9_does_52 ?_
    refine ax_iconst (v := (3 : Int32)) F dX9_does_55 (by decide) ?_
    refine ax_iald F ar_344 (by decide) dX9_does_56 ?_
    obtain ⟨r1, M1, hq1, h⟩ := cq_some0 h
    refine ax_callVv (As := [.int (M 344 (ix (0 : Int32))), .int (M 344 (ix (1 : Int32))), .int (M 344 (ix (2 : Int32))), .int (M 344 (ix (3 : Int32)))]) (st := []) F (tX9_anew F.2.2.2.2.2.2.1 _ _ _ _  _ _ _ hq1) ob_338 rfl kc_X9_anew kz_X9 ki_X9_anew ks_X9_anew km_X9_44 ⟨kn_X9_anew, rfl, rfl, Nat.le_of_ble_eq_true rfl, Nat.le_of_ble_eq_true rfl⟩ rfl (Nat.le_of_ble_eq_true rfl) dX9_does_57 ?_
    refine ax_goto (t := 163) F dX9_does_60 (by decide) ?_
    obtain ⟨h1, h2⟩ := rt_some0 h
    subst h2
    exact ax_vret F dX9_does_163
  replace h := it_neg0 h hc0
  by_cases hc1 : x1 = (1 : Int32)
  · have h := it_pos0 h hc1
    refine ax_swK (v := (1 : Int32)) (t := 63) F dX9_does_1 hc1 (by decide) (by decide) rfl (by decide) ?_
    refine ax_aload_n F dX9_does_63 rfl ?_
    refine ax_get (v := .ref (ad 339)) F ob_338 rfl inGX9 0 (by decide) rfl kf_X9_7 rfl dX9_does_64 ?_
    refine ax_iconst (v := (1 : Int32)) F dX9_does_67 (by decide) ?_
    refine ax_dup2 F dX9_does_68 rfl rfl ?_
    refine ax_iald F ar_339 (by decide) dX9_does_69 ?_
    refine ax_iconst (v := (1 : Int32)) F dX9_does_70 (by decide) ?_
    refine ax_aload_n F dX9_does_71 rfl ?_
    refine ax_get (v := .ref (ad 344)) F ob_338 rfl inGX9 16 (by decide) rfl kf_X9_26 rfl dX9_does_72 ?_
    refine ax_iconst (v := (0 : Int32)) F dX9_does_75 (by decide) ?_
    refine ax_iald F ar_344 (by decide) dX9_does_76 ?_
    refine ax_ishl F dX9_does_77 ?_
    refine ax_ior F dX9_does_78 ?_
    refine ax_iast F ar_339 (by decide) dX9_does_79 ?_
    refine ax_goto (t := 163) F dX9_does_80 (by decide) ?_
    obtain ⟨h1, h2⟩ := rt_some0 h
    subst h2
    exact ax_vret F dX9_does_163
  replace h := it_neg0 h hc1
  by_cases hc2 : x1 = (2 : Int32)
  · have h := it_pos0 h hc2
    refine ax_swK (v := (2 : Int32)) (t := 83) F dX9_does_1 hc2 (by decide) (by decide) rfl (by decide) ?_
    refine ax_aload_n F dX9_does_83 rfl ?_
    refine ax_dup F dX9_does_84 rfl ?_
    refine ax_get (v := .int (M 338 4)) F ob_338 rfl inGX9 4 (by decide) rfl kf_X9_58 rfl dX9_does_85 ?_
    refine ax_iconst (v := (1 : Int32)) F dX9_does_88 (by decide) ?_
    refine ax_aload_n F dX9_does_89 rfl ?_
    refine ax_get (v := .ref (ad 344)) F ob_338 rfl inGX9 16 (by decide) rfl kf_X9_26 rfl dX9_does_90 ?_
    refine ax_iconst (v := (0 : Int32)) F dX9_does_93 (by decide) ?_
    refine ax_iald F ar_344 (by decide) dX9_does_94 ?_
    refine ax_ishl F dX9_does_95 ?_
    refine ax_ior F dX9_does_96 ?_
    refine ax_put (ty := .int) F ob_338 rfl inGX9 tyX9 tyX9_ok nmX9 4 (by decide) rfl kf_X9_58 (by decide) rfl rfl (Nat.le_of_ble_eq_true rfl) rfl dX9_does_97 ?_
    refine ax_goto (t := 163) F dX9_does_100 (by decide) ?_
    obtain ⟨h1, h2⟩ := rt_some0 h
    subst h2
    exact ax_vret F dX9_does_163
  replace h := it_neg0 h hc2
  by_cases hc3 : x1 = (3 : Int32)
  · have h := it_pos0 h hc3
    refine ax_swK (v := (3 : Int32)) (t := 103) F dX9_does_1 hc3 (by decide) (by decide) rfl (by decide) ?_
    refine ax_aload_n F dX9_does_103 rfl ?_
    refine ax_aload_n F dX9_does_104 rfl ?_
    refine ax_get (v := .ref (ad 344)) F ob_338 rfl inGX9 16 (by decide) rfl kf_X9_26 rfl dX9_does_105 ?_
    refine ax_iconst (v := (0 : Int32)) F dX9_does_108 (by decide) ?_
    refine ax_iald F ar_344 (by decide) dX9_does_109 ?_
    refine ax_aload_n F dX9_does_110 rfl ?_
    refine ax_get (v := .ref (ad 344)) F ob_338 rfl inGX9 16 (by decide) rfl kf_X9_26 rfl dX9_does_111 ?_
    refine ax_iconst (v := (1 : Int32)) F dX9_does_114 (by decide) ?_
    refine ax_iald F ar_344 (by decide) dX9_does_115 ?_
    refine ax_aload_n F dX9_does_116 rfl ?_
    refine ax_get (v := .ref (ad 344)) F ob_338 rfl inGX9 16 (by decide) rfl kf_X9_26 rfl dX9_does_117 ?_
    refine ax_iconst (v := (2 : Int32)) F dX9_does_120 (by decide) ?_
    refine ax_iald F ar_344 (by decide) dX9_does_121 ?_
    obtain ⟨r2, M2, hq2, h⟩ := cq_some0 h
    refine ax_callVv (As := [.int (M 344 (ix (0 : Int32))), .int (M 344 (ix (1 : Int32))), .int (M 344 (ix (2 : Int32)))]) (st := []) F (tX9_links F.2.2.2.2.2.2.1 _ _ _  _ _ _ hq2) ob_338 rfl kc_X9_links kz_X9 ki_X9_links ks_X9_links km_X9_116 ⟨kn_X9_links, rfl, rfl, Nat.le_of_ble_eq_true rfl, Nat.le_of_ble_eq_true rfl⟩ rfl (Nat.le_of_ble_eq_true rfl) dX9_does_122 ?_
    refine ax_goto (t := 163) F dX9_does_125 (by decide) ?_
    obtain ⟨h1, h2⟩ := rt_some0 h
    subst h2
    exact ax_vret F dX9_does_163
  replace h := it_neg0 h hc3
  have hd0 : (x1).toInt ≠ 0 := fun e => hc0 (Int32.toInt_inj.mp (by rw [e]; rfl))
  have hd1 : (x1).toInt ≠ 1 := fun e => hc1 (Int32.toInt_inj.mp (by rw [e]; rfl))
  have hd2 : (x1).toInt ≠ 2 := fun e => hc2 (Int32.toInt_inj.mp (by rw [e]; rfl))
  have hd3 : (x1).toInt ≠ 3 := fun e => hc3 (Int32.toInt_inj.mp (by rw [e]; rfl))
  refine ax_swOut (t := 128) F dX9_does_1 (by omega) (by decide) ?_
  refine ax_aload_n F dX9_does_128 rfl ?_
  refine ax_iconst (v := (0 : Int32)) F dX9_does_129 (by decide) ?_
  refine ax_aload_n F dX9_does_130 rfl ?_
  refine ax_get (v := .ref (ad 344)) F ob_338 rfl inGX9 16 (by decide) rfl kf_X9_26 rfl dX9_does_131 ?_
  refine ax_iconst (v := (0 : Int32)) F dX9_does_134 (by decide) ?_
  refine ax_iald F ar_344 (by decide) dX9_does_135 ?_
  refine ax_aload_n F dX9_does_136 rfl ?_
  refine ax_get (v := .ref (ad 344)) F ob_338 rfl inGX9 16 (by decide) rfl kf_X9_26 rfl dX9_does_137 ?_
  refine ax_iconst (v := (1 : Int32)) F dX9_does_140 (by decide) ?_
  refine ax_iald F ar_344 (by decide) dX9_does_141 ?_
  obtain ⟨r3, M3, hq3, h⟩ := cq_some0 h
  refine ax_callVi (As := [.int (0 : Int32), .int (M 344 (ix (0 : Int32))), .int (M 344 (ix (1 : Int32)))]) (st := []) F (tX9_placeOf F.2.2.2.2.2.2.1 _ _ _  _ _ _ hq3) ob_338 rfl kc_X9_placeOf kz_X9 ki_X9_placeOf ks_X9_placeOf km_X9_108 ⟨kn_X9_placeOf, rfl, rfl, Nat.le_of_ble_eq_true rfl, Nat.le_of_ble_eq_true rfl⟩ rfl (Nat.le_of_ble_eq_true rfl) dX9_does_142 ?_
  refine ax_istore_n F dX9_does_145 (by decide) rfl ?_
  refine ax_iload_n F dX9_does_146 rfl ?_
  refine ax_iconst (v := (-1 : Int32)) F dX9_does_147 (by decide) ?_
  refine ax_icmp_eq (t := 163) F dX9_does_148 (by decide) (fun hc => ?_) (fun hc => ?_)
  · have h := it_pos0 h hc
    obtain ⟨h1, h2⟩ := rt_some0 h
    subst h2
    exact ax_vret F dX9_does_163
  · have h := it_neg0 h hc
    refine ax_aload_n F dX9_does_151 rfl ?_
    refine ax_iconst (v := (0 : Int32)) F dX9_does_152 (by decide) ?_
    refine ax_aload_n F dX9_does_153 rfl ?_
    refine ax_get (v := .ref (ad 344)) F ob_338 rfl inGX9 16 (by decide) rfl kf_X9_26 rfl dX9_does_154 ?_
    refine ax_iconst (v := (0 : Int32)) F dX9_does_157 (by decide) ?_
    refine ax_iald F ar_344 (by decide) dX9_does_158 ?_
    refine ax_iload_n F dX9_does_159 rfl ?_
    obtain ⟨r4, M4, hq4, h⟩ := cq_some0 h
    refine ax_callVv (As := [.int (0 : Int32), .int (M3 344 (ix (0 : Int32))), .int r3]) (st := []) F (tX9_strike F.2.2.2.2.2.2.1 _ _ _  _ _ _ hq4) ob_338 rfl kc_X9_strike kz_X9 ki_X9_strike ks_X9_strike km_X9_120 ⟨kn_X9_strike, rfl, rfl, Nat.le_of_ble_eq_true rfl, Nat.le_of_ble_eq_true rfl⟩ rfl (Nat.le_of_ble_eq_true rfl) dX9_does_160 ?_
    obtain ⟨h1, h2⟩ := rt_some0 h
    subst h2
    exact ax_vret F dX9_does_163
noncomputable def fX9_readsClause  (M : Mm) : Option Rst := cl (fX9_wordHere M) (fun r1 M1 => if r1 = (-1 : Int32) then (some ((0 : Int32), M1)) else (cl (fX9_nextToken M1) (fun r2 M2 => cl (fX9_readsRest r1 M2) (fun r3 M3 => if r3 = 0 then (some ((0 : Int32), M3)) else (if r1 = 0 then (if ((up2 M3 338 13 (M3 344 (ix (0 : Int32)))) 338 15) = 0 then (some ((1 : Int32), (up2 M3 338 13 (M3 344 (ix (0 : Int32)))))) else (cl (fX9_does r1 (up2 M3 338 13 (M3 344 (ix (0 : Int32))))) (fun r5 M5 => some ((1 : Int32), M5)))) else (if ((up2 M3 338 13 (M3 338 13)) 338 15) = 0 then (some ((1 : Int32), (up2 M3 338 13 (M3 338 13)))) else (cl (fX9_does r1 (up2 M3 338 13 (M3 338 13))) (fun r4 M4 => some ((1 : Int32), M4)))))))))
def rmX9_readsClause : Room := { frames := 6, cells := 0, slots := 0, locals := 134 }
theorem kn_X9_readsClause : yX9_readsClause.cls ≠ "java/lang/invoke/MethodHandle" ∧ yX9_readsClause.cls ≠ "java/lang/invoke/VarHandle" ∧ (parseMethodDescriptor yX9_readsClause.desc).map (fun d => d.parameters.length) = some 0 := by decide +kernel
set_option maxRecDepth 100000 in
set_option maxHeartbeats 4000000 in
theorem tX9_readsClause {l : Launch} {G : va_G} {ad : Nat → Nat} {cs : Nat → ClassId} {zk zv : Nat → Nat} (hinj : inj ad)   (M : Mm) (r : Int32) (M' : Mm) (h : fX9_readsClause  M = some (r, M')) : Met l yX9_readsClause (tgW yX9_readsClause cX9_readsClause 2 (some .boolean)) rmX9_readsClause (APre G ad cs zk zv [.ref (ad 338)] M) (AQi G ad cs r M') 0 0 (inA ad) := by
  refine met_of (Eq.refl true) (Nat.le_of_ble_eq_true rfl) hinj [some (.ref (ad 338)), none] rfl ?_
  intro p e s m below meth c F
  replace F : Fx G ad cs zk zv p m meth c cX9_readsClause 2 (some .boolean) s _ RX9 := F
  unfold fX9_readsClause at h
  refine ax_aload_n F dX9_readsClause_0 rfl ?_
  obtain ⟨r1, M1, hq1, h⟩ := cq_some0 h
  refine ax_callVi (As := []) (st := []) F (tX9_wordHere F.2.2.2.2.2.2.1   _ _ _ hq1) ob_338 rfl kc_X9_wordHere kz_X9 ki_X9_wordHere ks_X9_wordHere km_X9_123 ⟨kn_X9_wordHere, rfl, rfl, Nat.le_of_ble_eq_true rfl, Nat.le_of_ble_eq_true rfl⟩ rfl (Nat.le_of_ble_eq_true rfl) dX9_readsClause_1 ?_
  refine ax_istore_n F dX9_readsClause_4 (by decide) rfl ?_
  refine ax_iload_n F dX9_readsClause_5 rfl ?_
  refine ax_iconst (v := (-1 : Int32)) F dX9_readsClause_6 (by decide) ?_
  refine ax_icmp_ne (t := 12) F dX9_readsClause_7 (by decide) (fun hc => ?_) (fun hc => ?_)
  · have h := it_neg0 h hc
    refine ax_aload_n F dX9_readsClause_12 rfl ?_
    obtain ⟨r2, M2, hq2, h⟩ := cq_some0 h
    refine ax_callVv (As := []) (st := []) F (tX9_nextToken F.2.2.2.2.2.2.1   _ _ _ hq2) ob_338 rfl kc_X9_nextToken kz_X9 ki_X9_nextToken ks_X9_nextToken km_X9_94 ⟨kn_X9_nextToken, rfl, rfl, Nat.le_of_ble_eq_true rfl, Nat.le_of_ble_eq_true rfl⟩ rfl (Nat.le_of_ble_eq_true rfl) dX9_readsClause_13 ?_
    refine ax_aload_n F dX9_readsClause_16 rfl ?_
    refine ax_iload_n F dX9_readsClause_17 rfl ?_
    obtain ⟨r3, M3, hq3, h⟩ := cq_some0 h
    refine ax_callVi (As := [.int r1]) (st := []) F (tX9_readsRest F.2.2.2.2.2.2.1 _  _ _ _ hq3) ob_338 rfl kc_X9_readsRest kz_X9 ki_X9_readsRest ks_X9_readsRest km_X9_127 ⟨kn_X9_readsRest, rfl, rfl, Nat.le_of_ble_eq_true rfl, Nat.le_of_ble_eq_true rfl⟩ rfl (Nat.le_of_ble_eq_true rfl) dX9_readsClause_18 ?_
    refine ax_if_ne (t := 26) F dX9_readsClause_21 (by decide) (fun hc => ?_) (fun hc => ?_)
    · have h := it_neg0 h hc
      refine ax_aload_n F dX9_readsClause_26 rfl ?_
      refine ax_iload_n F dX9_readsClause_27 rfl ?_
      refine ax_if_ne (t := 40) F dX9_readsClause_28 (by decide) (fun hc => ?_) (fun hc => ?_)
      · have h := it_neg0 h hc
        refine ax_aload_n F dX9_readsClause_40 rfl ?_
        refine ax_get (v := .int (M3 338 13)) F ob_338 rfl inGX9 13 (by decide) rfl kf_X9_97 rfl dX9_readsClause_41 ?_
        refine ax_put (ty := .int) F ob_338 rfl inGX9 tyX9 tyX9_ok nmX9 13 (by decide) rfl kf_X9_97 (by decide) rfl rfl (Nat.le_of_ble_eq_true rfl) rfl dX9_readsClause_44 ?_
        refine ax_aload_n F dX9_readsClause_47 rfl ?_
        refine ax_get (v := .int ((up2 M3 338 13 (M3 338 13)) 338 15)) F ob_338 rfl inGX9 15 (by decide) rfl kf_X9_130 rfl dX9_readsClause_48 ?_
        refine ax_if_eq (t := 59) F dX9_readsClause_51 (by decide) (fun hc => ?_) (fun hc => ?_)
        · have h := it_pos0 h hc
          refine ax_iconst (v := (1 : Int32)) F dX9_readsClause_59 (by decide) ?_
          obtain ⟨h1, h2⟩ := rt_some0 h
          subst h1; subst h2
          exact ax_zret F (by decide) dX9_readsClause_60
        · have h := it_neg0 h hc
          refine ax_aload_n F dX9_readsClause_54 rfl ?_
          refine ax_iload_n F dX9_readsClause_55 rfl ?_
          obtain ⟨r4, M4, hq4, h⟩ := cq_some0 h
          refine ax_callVv (As := [.int r1]) (st := []) F (tX9_does F.2.2.2.2.2.2.1 _  _ _ _ hq4) ob_338 rfl kc_X9_does kz_X9 ki_X9_does ks_X9_does km_X9_134 ⟨kn_X9_does, rfl, rfl, Nat.le_of_ble_eq_true rfl, Nat.le_of_ble_eq_true rfl⟩ rfl (Nat.le_of_ble_eq_true rfl) dX9_readsClause_56 ?_
          refine ax_iconst (v := (1 : Int32)) F dX9_readsClause_59 (by decide) ?_
          obtain ⟨h1, h2⟩ := rt_some0 h
          subst h1; subst h2
          exact ax_zret F (by decide) dX9_readsClause_60
      · have h := it_pos0 h hc
        refine ax_aload_n F dX9_readsClause_31 rfl ?_
        refine ax_get (v := .ref (ad 344)) F ob_338 rfl inGX9 16 (by decide) rfl kf_X9_26 rfl dX9_readsClause_32 ?_
        refine ax_iconst (v := (0 : Int32)) F dX9_readsClause_35 (by decide) ?_
        refine ax_iald F ar_344 (by decide) dX9_readsClause_36 ?_
        refine ax_goto (t := 44) F dX9_readsClause_37 (by decide) ?_
        refine ax_put (ty := .int) F ob_338 rfl inGX9 tyX9 tyX9_ok nmX9 13 (by decide) rfl kf_X9_97 (by decide) rfl rfl (Nat.le_of_ble_eq_true rfl) rfl dX9_readsClause_44 ?_
        refine ax_aload_n F dX9_readsClause_47 rfl ?_
        refine ax_get (v := .int ((up2 M3 338 13 (M3 344 (ix (0 : Int32)))) 338 15)) F ob_338 rfl inGX9 15 (by decide) rfl kf_X9_130 rfl dX9_readsClause_48 ?_
        refine ax_if_eq (t := 59) F dX9_readsClause_51 (by decide) (fun hc => ?_) (fun hc => ?_)
        · have h := it_pos0 h hc
          refine ax_iconst (v := (1 : Int32)) F dX9_readsClause_59 (by decide) ?_
          obtain ⟨h1, h2⟩ := rt_some0 h
          subst h1; subst h2
          exact ax_zret F (by decide) dX9_readsClause_60
        · have h := it_neg0 h hc
          refine ax_aload_n F dX9_readsClause_54 rfl ?_
          refine ax_iload_n F dX9_readsClause_55 rfl ?_
          obtain ⟨r5, M5, hq5, h⟩ := cq_some0 h
          refine ax_callVv (As := [.int r1]) (st := []) F (tX9_does F.2.2.2.2.2.2.1 _  _ _ _ hq5) ob_338 rfl kc_X9_does kz_X9 ki_X9_does ks_X9_does km_X9_134 ⟨kn_X9_does, rfl, rfl, Nat.le_of_ble_eq_true rfl, Nat.le_of_ble_eq_true rfl⟩ rfl (Nat.le_of_ble_eq_true rfl) dX9_readsClause_56 ?_
          refine ax_iconst (v := (1 : Int32)) F dX9_readsClause_59 (by decide) ?_
          obtain ⟨h1, h2⟩ := rt_some0 h
          subst h1; subst h2
          exact ax_zret F (by decide) dX9_readsClause_60
    · have h := it_pos0 h hc
      refine ax_iconst (v := (0 : Int32)) F dX9_readsClause_24 (by decide) ?_
      obtain ⟨h1, h2⟩ := rt_some0 h
      subst h1; subst h2
      exact ax_zret F (by decide) dX9_readsClause_25
  · have h := it_pos0 h hc
    refine ax_iconst (v := (0 : Int32)) F dX9_readsClause_10 (by decide) ?_
    obtain ⟨h1, h2⟩ := rt_some0 h
    subst h1; subst h2
    exact ax_zret F (by decide) dX9_readsClause_11
