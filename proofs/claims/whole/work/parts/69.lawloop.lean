/-! the loop of the law -/
section Lwl
variable {p : Program} {l : Launch} {e : Env} {s : State} {m : MethodId} {below : List Frame} {meth : Method} {c : Code}
variable {G : va_G} {cs : Nat → ClassId} {b L : Nat} {xs : Nat → Int32} {ad zk zv : Nat → Nat} {ce sl : Nat}
theorem lw_end (B : Lx G cs p m meth c s b L xs) (hr : meth.sig.returnType = ret) (hlocks : meth.locks = false) (hce : ce ≤ 600000) (hsl : sl ≤ 7302250) {lv : List (Option Value)} {ws : va_W} : BW p l e room_1 s m #[Value.ref b] below meth c (lw_Z below #[Value.ref b] s) G (AL s) 4 779 lv [] ws ce sl := by
  refine lx_iconst (v := 1) B dL_law_779 (by decide) ?_
  intro H locs ls hP hD hS hl
  exact va_forget (fun q hq => hS.2.2 q hq) (W.widen hce hsl (lw_ret B.1 B.2.1 hr hlocks dL_law_780))
set_option maxRecDepth 100000 in
set_option maxHeartbeats 4000000 in
theorem lw_loop (B : Lx G cs p m meth c s b L xs) (hZ : Zl s zk zv) (hr : meth.sig.returnType = ret) (hlocks : meth.locks = false) (hce : ce ≤ 600000) (hsl : sl ≤ 7302250) (hL : L ≤ 2048) : ∀ (d i : Nat) (M : Mm), L + 4 ≤ i + 4 * d → i ≤ L → RE M M → BW p l e room_1 s m #[Value.ref b] below meth c (lw_Z below #[Value.ref b] s) G (AL s) 4 18 [some (.ref b), some (.ref (ad 0)), some (.ref (ad 338)), some (.int (nI i))] [] (wsO LA ad cs M) ce sl := by
  intro d
  induction d with
  | zero => intro i M h1 h2; omega
  | succ d ih =>
    intro i M h1 h2 hR
    refine lx_iload_n B dL_law_18 rfl ?_
    refine lx_aload_n B dL_law_19 rfl ?_
    refine lx_slen B dL_law_20 ?_
    refine lx_iconst (v := nI 4) B dL_law_21 (by decide) ?_
    refine lx_isub B dL_law_22 ?_
    refine lx_icmp_gt (t := 779) B dL_law_23 rfl (fun _ => lw_end B hr hlocks hce hsl) (fun h => ?_)
    have hi : i + 4 ≤ L := by
      apply Nat.not_lt.mp
      intro hlt
      apply h
      rw [Int32.lt_iff_toInt_lt, pk_sub_toInt (by omega) (by omega), nI_toInt (by omega)]
      omega
    have hL2 : L < 2 ^ 31 := by omega
    have K : ∀ M2 : Mm, RE M2 M2 → BW p l e room_1 s m #[Value.ref b] below meth c (lw_Z below #[Value.ref b] s) G (AL s) 4 773 [some (.ref b), some (.ref (ad 0)), some (.ref (ad 338)), some (.int (nI i))] [] (wsO LA ad cs M2) ce sl := by
      intro M2 hR2
      refine lx_iinc (v := nI 4) B dL_law_773 rfl (by decide) (by decide) rfl ?_
      refine lx_goto (t := 18) B dL_law_776 rfl ?_
      have key := ih (i + 4) M2 (by omega) hi hR2
      rw [← nI_add] at key
      exact key
    refine lx_aload_n B dL_law_26 rfl ?_
    refine lx_iload_n B dL_law_27 rfl ?_
    refine lx_sld B (by omega) hL2 dL_law_28 ?_
    refine lx_bipush (v := 31) B dL_law_29 (by decide) ?_
    refine lx_iand B dL_law_31 ?_
    generalize xs i &&& 31 = x
    by_cases hx : x.toInt < 0 ∨ 24 < x.toInt
    · exact lx_tabOut (tgt := 773) B dL_law_32 hx rfl (K M hR)
    have hx1 : ¬ x.toInt < 0 := fun h => hx (Or.inl h)
    have hx2 : ¬ 24 < x.toInt := fun h => hx (Or.inr h)
    rcases (by omega : x.toInt = 0 ∨ x.toInt = 1 ∨ x.toInt = 2 ∨ x.toInt = 3 ∨ x.toInt = 4 ∨ x.toInt = 5 ∨ x.toInt = 6 ∨ x.toInt = 7 ∨ x.toInt = 8 ∨ x.toInt = 9 ∨ x.toInt = 10 ∨ x.toInt = 11 ∨ x.toInt = 12 ∨ x.toInt = 13 ∨ x.toInt = 14 ∨ x.toInt = 15 ∨ x.toInt = 16 ∨ x.toInt = 17 ∨ x.toInt = 18 ∨ x.toInt = 19 ∨ x.toInt = 20 ∨ x.toInt = 21 ∨ x.toInt = 22 ∨ x.toInt = 23 ∨ x.toInt = 24) with h | h | h | h | h | h | h | h | h | h | h | h | h | h | h | h | h | h | h | h | h | h | h | h | h
    · exact lx_tabIn (off := 116) (tgt := 148) B dL_law_32 hx1 hx2 (by rw [h]; rfl) rfl (lw_c0 B hZ hce hsl hi hL2 hR K)
    · exact lx_tabIn (off := 139) (tgt := 171) B dL_law_32 hx1 hx2 (by rw [h]; rfl) rfl (lw_c1 B hZ hce hsl hi hL2 hR K)
    · exact lx_tabIn (off := 152) (tgt := 184) B dL_law_32 hx1 hx2 (by rw [h]; rfl) rfl (lw_c2 B hZ hce hsl hi hL2 hR K)
    · exact lx_tabIn (off := 165) (tgt := 197) B dL_law_32 hx1 hx2 (by rw [h]; rfl) rfl (lw_c3 B hZ hce hsl hi hL2 hR K)
    · exact lx_tabIn (off := 178) (tgt := 210) B dL_law_32 hx1 hx2 (by rw [h]; rfl) rfl (lw_c4 B hZ hce hsl hi hL2 hR K)
    · exact lx_tabIn (off := 211) (tgt := 243) B dL_law_32 hx1 hx2 (by rw [h]; rfl) rfl (lw_c5 B hZ hce hsl hi hL2 hR K)
    · exact lx_tabIn (off := 254) (tgt := 286) B dL_law_32 hx1 hx2 (by rw [h]; rfl) rfl (lw_c6 B hZ hce hsl hi hL2 hR K)
    · exact lx_tabIn (off := 277) (tgt := 309) B dL_law_32 hx1 hx2 (by rw [h]; rfl) rfl (lw_c7 B hZ hce hsl hi hL2 hR K)
    · exact lx_tabIn (off := 300) (tgt := 332) B dL_law_32 hx1 hx2 (by rw [h]; rfl) rfl (lw_c8 B hZ hce hsl hi hL2 hR K)
    · exact lx_tabIn (off := 333) (tgt := 365) B dL_law_32 hx1 hx2 (by rw [h]; rfl) rfl (lw_c9 B hZ hce hsl hi hL2 hR K)
    · exact lx_tabIn (off := 366) (tgt := 398) B dL_law_32 hx1 hx2 (by rw [h]; rfl) rfl (lw_c10 B hZ hce hsl hi hL2 hR K)
    · exact lx_tabIn (off := 379) (tgt := 411) B dL_law_32 hx1 hx2 (by rw [h]; rfl) rfl (lw_c11 B hZ hce hsl hi hL2 hR K)
    · exact lx_tabIn (off := 402) (tgt := 434) B dL_law_32 hx1 hx2 (by rw [h]; rfl) rfl (lw_c12 B hZ hce hsl hi hL2 hR K)
    · exact lx_tabIn (off := 425) (tgt := 457) B dL_law_32 hx1 hx2 (by rw [h]; rfl) rfl (lw_c13 B hZ hce hsl hi hL2 hR K)
    · exact lx_tabIn (off := 448) (tgt := 480) B dL_law_32 hx1 hx2 (by rw [h]; rfl) rfl (lw_c14 B hZ hce hsl hi hL2 hR K)
    · exact lx_tabIn (off := 471) (tgt := 503) B dL_law_32 hx1 hx2 (by rw [h]; rfl) rfl (lw_c15 B hZ hce hsl hi hL2 hR K)
    · exact lx_tabIn (off := 494) (tgt := 526) B dL_law_32 hx1 hx2 (by rw [h]; rfl) rfl (lw_c16 B hZ hce hsl hi hL2 hR K)
    · exact lx_tabIn (off := 527) (tgt := 559) B dL_law_32 hx1 hx2 (by rw [h]; rfl) rfl (lw_c17 B hZ hce hsl hi hL2 hR K)
    · exact lx_tabIn (off := 550) (tgt := 582) B dL_law_32 hx1 hx2 (by rw [h]; rfl) rfl (lw_c18 B hZ hce hsl hi hL2 hR K)
    · exact lx_tabIn (off := 583) (tgt := 615) B dL_law_32 hx1 hx2 (by rw [h]; rfl) rfl (lw_c19 B hZ hce hsl hi hL2 hR K)
    · exact lx_tabIn (off := 616) (tgt := 648) B dL_law_32 hx1 hx2 (by rw [h]; rfl) rfl (lw_c20 B hZ hce hsl hi hL2 hR K)
    · exact lx_tabIn (off := 639) (tgt := 671) B dL_law_32 hx1 hx2 (by rw [h]; rfl) rfl (lw_c21 B hZ hce hsl hi hL2 hR K)
    · exact lx_tabIn (off := 672) (tgt := 704) B dL_law_32 hx1 hx2 (by rw [h]; rfl) rfl (lw_c22 B hZ hce hsl hi hL2 hR K)
    · exact lx_tabIn (off := 695) (tgt := 727) B dL_law_32 hx1 hx2 (by rw [h]; rfl) rfl (lw_c23 B hZ hce hsl hi hL2 hR K)
    · exact lx_tabIn (off := 718) (tgt := 750) B dL_law_32 hx1 hx2 (by rw [h]; rfl) rfl (lw_c24 B hZ hce hsl hi hL2 hR K)
end Lwl
