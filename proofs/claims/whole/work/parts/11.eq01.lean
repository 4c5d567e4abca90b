theorem ite_b {α β : Type} {c : Prop} {_ : Decidable c} {A B : Option α} {k : α → Option β} : (if c then A else B).bind k = if c then A.bind k else B.bind k := by split <;> rfl
theorem gd_b {α β : Type} {c : Bool} {A : Option α} {k : α → Option β} : (gd c A).bind k = gd c (A.bind k) := by unfold gd; split <;> rfl
theorem cl_b {α β : Type} {f : Option Rst} {g : Int32 → Mm → Option α} {k : α → Option β} : (cl f g).bind k = cl f (fun r M => (g r M).bind k) := by cases f <;> rfl
theorem eX6_readToken_0  (M : Mm) : run stX6_readToken (0, [], [], M) = run stX6_readToken (1, [], [], (up2 M 1 3 (M 1 4))) := by
  rw [run_eq]
  show (bX6_readToken_0  M).bind _ = _
  simp only [bX6_readToken_0, ite_b, gd_b, cl_b, Option.bind_some]
theorem eX6_readToken_1  (M : Mm) : run stX6_readToken (1, [], [], M) = if (M 1 1) ≤ (M 1 3) then (run stX6_readToken (2, [], [], M)) else (cl (fX6_letterAt (M 1 3) M) (fun r1 M1 => if r1 = (32 : Int32) then (run stX6_readToken (1, [], [], (up2 M1 1 3 ((M1 1 3) + (1 : Int32))))) else (run stX6_readToken (2, [], [], M1)))) := by
  rw [run_eq]
  show (bX6_readToken_1  M).bind _ = _
  simp only [bX6_readToken_1, ite_b, gd_b, cl_b, Option.bind_some]
theorem eX6_readToken_2  (M : Mm) : run stX6_readToken (2, [], [], M) = cl (fX6_kindAt (M 1 3) M) (fun r1 M1 => if ((up2 (up2 M1 1 2 r1) 1 4 (imin (((up2 M1 1 2 r1) 1 3) + (1 : Int32)) ((up2 M1 1 2 r1) 1 1))) 1 2) = (1 : Int32) then (run stX6_readToken (3, [], [(1 : Int32)], (up2 (up2 M1 1 2 r1) 1 4 (imin (((up2 M1 1 2 r1) 1 3) + (1 : Int32)) ((up2 M1 1 2 r1) 1 1))))) else (if ((up2 (up2 M1 1 2 r1) 1 4 (imin (((up2 M1 1 2 r1) 1 3) + (1 : Int32)) ((up2 M1 1 2 r1) 1 1))) 1 2) = (2 : Int32) then (run stX6_readToken (3, [], [(1 : Int32)], (up2 (up2 M1 1 2 r1) 1 4 (imin (((up2 M1 1 2 r1) 1 3) + (1 : Int32)) ((up2 M1 1 2 r1) 1 1))))) else (run stX6_readToken (3, [], [(0 : Int32)], (up2 (up2 M1 1 2 r1) 1 4 (imin (((up2 M1 1 2 r1) 1 3) + (1 : Int32)) ((up2 M1 1 2 r1) 1 1))))))) := by
  rw [run_eq]
  show (bX6_readToken_2  M).bind _ = _
  simp only [bX6_readToken_2, ite_b, gd_b, cl_b, Option.bind_some]
theorem eX6_readToken_3 (x1 : Int32) (M : Mm) : run stX6_readToken (3, [], [x1], M) = if x1 = 0 then (some ((0 : Int32), M)) else (if (M 1 1) ≤ (M 1 4) then (some ((0 : Int32), M)) else (cl (fX6_kindAt (M 1 4) M) (fun r1 M1 => if r1 = (M1 1 2) then (run stX6_readToken (3, [], [x1], (up2 M1 1 4 ((M1 1 4) + (1 : Int32))))) else (some ((0 : Int32), M1))))) := by
  rw [run_eq]
  show (bX6_readToken_3 x1 M).bind _ = _
  simp only [bX6_readToken_3, ite_b, gd_b, cl_b, Option.bind_some]
theorem eX6_isWord_0 (a1 : Nat) (M : Mm) : run stX6_isWord (0, [a1], [], M) = if (M 1 2) = (1 : Int32) then (if ((M 1 4) - (M 1 3)) = (slen a1) then (run stX6_isWord (1, [a1], [(0 : Int32)], M)) else (some ((0 : Int32), M))) else (some ((0 : Int32), M)) := by
  rw [run_eq]
  show (bX6_isWord_0 a1 M).bind _ = _
  simp only [bX6_isWord_0, ite_b, gd_b, cl_b, Option.bind_some]
theorem eX6_isWord_1 (a1 : Nat) (x2 : Int32) (M : Mm) : run stX6_isWord (1, [a1], [x2], M) = if (slen a1) ≤ x2 then (some ((1 : Int32), M)) else (cl (fX6_letterAt ((M 1 3) + x2) M) (fun r1 M1 => gd (okI x2 (zlen.getD a1 0)) (if r1 = (schar a1 x2) then (run stX6_isWord (1, [a1], [(x2 + (1 : Int32))], M1)) else (some ((0 : Int32), M1))))) := by
  rw [run_eq]
  show (bX6_isWord_1 a1 x2 M).bind _ = _
  simp only [bX6_isWord_1, ite_b, gd_b, cl_b, Option.bind_some]
theorem eX6_number_0  (M : Mm) : run stX6_number (0, [], [], M) = if (M 1 2) = (2 : Int32) then (if ((M 1 4) - (M 1 3)) ≤ (3 : Int32) then (run stX6_number (1, [], [(0 : Int32), (M 1 3)], M)) else (some ((-1 : Int32), M))) else (some ((-1 : Int32), M)) := by
  rw [run_eq]
  show (bX6_number_0  M).bind _ = _
  simp only [bX6_number_0, ite_b, gd_b, cl_b, Option.bind_some]
theorem eX6_number_1 (x1 : Int32) (x2 : Int32) (M : Mm) : run stX6_number (1, [], [x1, x2], M) = if (M 1 4) ≤ x2 then (some (x1, M)) else (cl (fX6_letterAt x2 M) (fun r1 M1 => run stX6_number (1, [], [((x1 * (10 : Int32)) + (r1 - (48 : Int32))), (x2 + (1 : Int32))], M1))) := by
  rw [run_eq]
  show (bX6_number_1 x1 x2 M).bind _ = _
  simp only [bX6_number_1, ite_b, gd_b, cl_b, Option.bind_some]
theorem eX0_readClause_0 (x2 : Int32) (M : Mm) : run stX0_readClause (0, [], [x2], M) = cl (fX0_formOf M) (fun r1 M1 => if r1 = (-1 : Int32) then (some ((0 : Int32), M1)) else (if x2 < 0 then (some ((0 : Int32), M1)) else (if x2 < (24 : Int32) then (gd (okI x2 24) (run stX0_readClause (1, [], [x2, r1, (0 : Int32)], (up2 M1 4 (ix x2) r1)))) else (some ((0 : Int32), M1))))) := by
  rw [run_eq]
  show (bX0_readClause_0 x2 M).bind _ = _
  simp only [bX0_readClause_0, ite_b, gd_b, cl_b, Option.bind_some]
theorem eX0_readClause_1 (x2 : Int32) (x3 : Int32) (x4 : Int32) (M : Mm) : run stX0_readClause (1, [], [x2, x3, x4], M) = cl (fX0_numbersOf x3 M) (fun r1 M1 => if r1 ≤ x4 then (run stX0_readClause (2, [], [x2, x3], M1)) else (if (4 : Int32) ≤ x4 then (run stX0_readClause (2, [], [x2, x3], M1)) else (cl (fX6_readToken M1) (fun r2 M2 => cl (fX6_number M2) (fun r3 M3 => cl (fX0_fits x2 x4 r3 M3) (fun r4 M4 => if r4 = 0 then (some ((0 : Int32), M4)) else (gd (okI ((x2 * (4 : Int32)) + x4) 96) (run stX0_readClause (1, [], [x2, x3, (x4 + (1 : Int32))], (up2 M4 5 (ix ((x2 * (4 : Int32)) + x4)) r3)))))))))) := by
  rw [run_eq]
  show (bX0_readClause_1 x2 x3 x4 M).bind _ = _
  simp only [bX0_readClause_1, ite_b, gd_b, cl_b, Option.bind_some]
theorem eX0_readClause_2 (x2 : Int32) (x3 : Int32) (M : Mm) : run stX0_readClause (2, [], [x2, x3], M) = if x3 = 0 then (cl (fX0_numberOf x2 (0 : Int32) M) (fun r2 M2 => cl (fX6_readToken (up2 M2 3 3 r2)) (fun r3 M3 => some ((1 : Int32), M3)))) else (cl (fX6_readToken M) (fun r1 M1 => some ((1 : Int32), M1))) := by
  rw [run_eq]
  show (bX0_readClause_2 x2 x3 M).bind _ = _
  simp only [bX0_readClause_2, ite_b, gd_b, cl_b, Option.bind_some]
theorem eX0_read_0 (x2 : Int32) (M : Mm) : run stX0_read (0, [], [x2], M) = cl (fX6_rewind (up2 (up2 M 3 3 x2) 3 2 (0 : Int32))) (fun r1 M1 => run stX0_read (1, [], [(0 : Int32)], M1)) := by
  rw [run_eq]
  show (bX0_read_0 x2 M).bind _ = _
  simp only [bX0_read_0, ite_b, gd_b, cl_b, Option.bind_some]
theorem eX0_read_1 (x3 : Int32) (M : Mm) : run stX0_read (1, [], [x3], M) = if (24 : Int32) ≤ x3 then (some ((M 1 3), M)) else (cl (fX6_readToken M) (fun r1 M1 => cl (fX0_readClause x3 M1) (fun r2 M2 => if r2 = 0 then (some ((M2 1 3), M2)) else (if ((up2 M2 3 2 (x3 + (1 : Int32))) 1 2) = 0 then (some ((-1 : Int32), (up2 M2 3 2 (x3 + (1 : Int32))))) else (if ((up2 M2 3 2 (x3 + (1 : Int32))) 1 2) = (3 : Int32) then (run stX0_read (1, [], [(x3 + (1 : Int32))], (up2 M2 3 2 (x3 + (1 : Int32))))) else (some (((up2 M2 3 2 (x3 + (1 : Int32))) 1 3), (up2 M2 3 2 (x3 + (1 : Int32)))))))))) := by
  rw [run_eq]
  show (bX0_read_1 x3 M).bind _ = _
  simp only [bX0_read_1, ite_b, gd_b, cl_b, Option.bind_some]
theorem eX1_begin_0 (a0 : Nat) (x1 : Int32) (x2 : Int32) (x3 : Int32) (x4 : Int32) (M : Mm) : run stX1_begin (0, [a0], [x1, x2, x3, x4], M) = run stX1_begin (1, [a0], [(0 : Int32)], (up2 (up2 (up2 (up2 (up2 (up2 M a0 1 (imax (2 : Int32) (imin x1 (8 : Int32)))) a0 2 x2) a0 3 x3) a0 4 x4) a0 5 ((ish (1 : Int32) ((up2 (up2 (up2 (up2 M a0 1 (imax (2 : Int32) (imin x1 (8 : Int32)))) a0 2 x2) a0 3 x3) a0 4 x4) a0 1)) - (1 : Int32))) a0 6 (0 : Int32))) := by
  rw [run_eq]
  show (bX1_begin_0 a0 x1 x2 x3 x4 M).bind _ = _
  simp only [bX1_begin_0, ite_b, gd_b, cl_b, Option.bind_some]
theorem eX1_begin_1 (a0 : Nat) (x5 : Int32) (M : Mm) : run stX1_begin (1, [a0], [x5], M) = if (8 : Int32) ≤ x5 then (some ((0 : Int32), M)) else (gd (okI x5 8) (cl (fX7_clear (a0 + 2 + 3 * ix (x5)) M) (fun r1 M1 => run stX1_begin (2, [a0], [x5, (1 : Int32)], M1)))) := by
  rw [run_eq]
  show (bX1_begin_1 a0 x5 M).bind _ = _
  simp only [bX1_begin_1, ite_b, gd_b, cl_b, Option.bind_some]
theorem eX1_begin_2 (a0 : Nat) (x5 : Int32) (x6 : Int32) (M : Mm) : run stX1_begin (2, [a0], [x5, x6], M) = if (M a0 1) ≤ x5 then (run stX1_begin (1, [a0], [(x5 + (1 : Int32))], M)) else (if (M a0 1) ≤ x6 then (run stX1_begin (1, [a0], [(x5 + (1 : Int32))], M)) else (if (M a0 2) < x6 then (run stX1_begin (1, [a0], [(x5 + (1 : Int32))], M)) else (gd (okI x5 8) (gd (decide (¬ (M a0 1) = 0)) (cl (fX7_append (a0 + 2 + 3 * ix (x5)) (irem (x5 + x6) (M a0 1)) (0 : Int32) M) (fun r1 M1 => run stX1_begin (2, [a0], [x5, (x6 + (1 : Int32))], M1))))))) := by
  rw [run_eq]
  show (bX1_begin_2 a0 x5 x6 M).bind _ = _
  simp only [bX1_begin_2, ite_b, gd_b, cl_b, Option.bind_some]
theorem eX7_placeOf_0 (a0 : Nat) (x1 : Int32) (M : Mm) : run stX7_placeOf (0, [a0], [x1], M) = run stX7_placeOf (1, [a0], [x1, (0 : Int32)], M) := by
  rw [run_eq]
  show (bX7_placeOf_0 a0 x1 M).bind _ = _
  simp only [bX7_placeOf_0, ite_b, gd_b, cl_b, Option.bind_some]
theorem eX7_placeOf_1 (a0 : Nat) (x1 : Int32) (x2 : Int32) (M : Mm) : run stX7_placeOf (1, [a0], [x1, x2], M) = if (M a0 2) ≤ x2 then (some ((-1 : Int32), M)) else (gd (okI x2 5) (if (M (a0 + 1) (ix x2)) = x1 then (some (x2, M)) else (run stX7_placeOf (1, [a0], [x1, (x2 + (1 : Int32))], M)))) := by
  rw [run_eq]
  show (bX7_placeOf_1 a0 x1 x2 M).bind _ = _
  simp only [bX7_placeOf_1, ite_b, gd_b, cl_b, Option.bind_some]
theorem eX7_strike_0 (a0 : Nat) (x1 : Int32) (M : Mm) : run stX7_strike (0, [a0], [x1], M) = if x1 < 0 then (some ((0 : Int32), M)) else (if x1 < (M a0 2) then (run stX7_strike (1, [a0], [x1], M)) else (some ((0 : Int32), M))) := by
  rw [run_eq]
  show (bX7_strike_0 a0 x1 M).bind _ = _
  simp only [bX7_strike_0, ite_b, gd_b, cl_b, Option.bind_some]
theorem eX7_strike_1 (a0 : Nat) (x2 : Int32) (M : Mm) : run stX7_strike (1, [a0], [x2], M) = if (M a0 2) ≤ (x2 + (1 : Int32)) then (some ((0 : Int32), (up2 M a0 2 ((M a0 2) - (1 : Int32))))) else (gd (okI (x2 + (1 : Int32)) 5) (gd (okI x2 5) (gd (okI (x2 + (1 : Int32)) 5) (gd (okI x2 5) (run stX7_strike (1, [a0], [(x2 + (1 : Int32))], (up2 (up2 M (a0 + 1) (ix x2) (M (a0 + 1) (ix (x2 + (1 : Int32))))) (a0 + 2) (ix x2) ((up2 M (a0 + 1) (ix x2) (M (a0 + 1) (ix (x2 + (1 : Int32))))) (a0 + 2) (ix (x2 + (1 : Int32))))))))))) := by
  rw [run_eq]
  show (bX7_strike_1 a0 x2 M).bind _ = _
  simp only [bX7_strike_1, ite_b, gd_b, cl_b, Option.bind_some]
theorem eX0_doAll_0 (a1 : Nat) (M : Mm) : run stX0_doAll (0, [a1], [], M) = run stX0_doAll (1, [a1], [(0 : Int32)], M) := by
  rw [run_eq]
  show (bX0_doAll_0 a1 M).bind _ = _
  simp only [bX0_doAll_0, ite_b, gd_b, cl_b, Option.bind_some]
theorem eX0_doAll_1 (a1 : Nat) (x2 : Int32) (M : Mm) : run stX0_doAll (1, [a1], [x2], M) = if (M 3 2) ≤ x2 then (some ((0 : Int32), M)) else (cl (fX0_doOne a1 x2 M) (fun r1 M1 => run stX0_doAll (1, [a1], [(x2 + (1 : Int32))], M1))) := by
  rw [run_eq]
  show (bX0_doAll_1 a1 x2 M).bind _ = _
  simp only [bX0_doAll_1, ite_b, gd_b, cl_b, Option.bind_some]
theorem eX7_copyFrom_0 (a0 : Nat) (a1 : Nat) (M : Mm) : run stX7_copyFrom (0, [a0, a1], [], M) = run stX7_copyFrom (1, [a0, a1], [(0 : Int32)], M) := by
  rw [run_eq]
  show (bX7_copyFrom_0 a0 a1 M).bind _ = _
  simp only [bX7_copyFrom_0, ite_b, gd_b, cl_b, Option.bind_some]
theorem eX7_copyFrom_1 (a0 : Nat) (a1 : Nat) (x2 : Int32) (M : Mm) : run stX7_copyFrom (1, [a0, a1], [x2], M) = if (5 : Int32) ≤ x2 then (some ((0 : Int32), (up2 M a0 2 (M a1 2)))) else (gd (okI x2 5) (gd (okI x2 5) (gd (okI x2 5) (gd (okI x2 5) (run stX7_copyFrom (1, [a0, a1], [(x2 + (1 : Int32))], (up2 (up2 M (a0 + 1) (ix x2) (M (a1 + 1) (ix x2))) (a0 + 2) (ix x2) ((up2 M (a0 + 1) (ix x2) (M (a1 + 1) (ix x2))) (a1 + 2) (ix x2))))))))) := by
  rw [run_eq]
  show (bX7_copyFrom_1 a0 a1 x2 M).bind _ = _
  simp only [bX7_copyFrom_1, ite_b, gd_b, cl_b, Option.bind_some]
theorem eX1_copyFrom_0 (a0 : Nat) (a1 : Nat) (M : Mm) : run stX1_copyFrom (0, [a0, a1], [], M) = run stX1_copyFrom (1, [a0, a1], [(0 : Int32)], (up2 (up2 (up2 (up2 (up2 (up2 M a0 1 (M a1 1)) a0 2 ((up2 M a0 1 (M a1 1)) a1 2)) a0 3 ((up2 (up2 M a0 1 (M a1 1)) a0 2 ((up2 M a0 1 (M a1 1)) a1 2)) a1 3)) a0 4 ((up2 (up2 (up2 M a0 1 (M a1 1)) a0 2 ((up2 M a0 1 (M a1 1)) a1 2)) a0 3 ((up2 (up2 M a0 1 (M a1 1)) a0 2 ((up2 M a0 1 (M a1 1)) a1 2)) a1 3)) a1 4)) a0 5 ((up2 (up2 (up2 (up2 M a0 1 (M a1 1)) a0 2 ((up2 M a0 1 (M a1 1)) a1 2)) a0 3 ((up2 (up2 M a0 1 (M a1 1)) a0 2 ((up2 M a0 1 (M a1 1)) a1 2)) a1 3)) a0 4 ((up2 (up2 (up2 M a0 1 (M a1 1)) a0 2 ((up2 M a0 1 (M a1 1)) a1 2)) a0 3 ((up2 (up2 M a0 1 (M a1 1)) a0 2 ((up2 M a0 1 (M a1 1)) a1 2)) a1 3)) a1 4)) a1 5)) a0 6 ((up2 (up2 (up2 (up2 (up2 M a0 1 (M a1 1)) a0 2 ((up2 M a0 1 (M a1 1)) a1 2)) a0 3 ((up2 (up2 M a0 1 (M a1 1)) a0 2 ((up2 M a0 1 (M a1 1)) a1 2)) a1 3)) a0 4 ((up2 (up2 (up2 M a0 1 (M a1 1)) a0 2 ((up2 M a0 1 (M a1 1)) a1 2)) a0 3 ((up2 (up2 M a0 1 (M a1 1)) a0 2 ((up2 M a0 1 (M a1 1)) a1 2)) a1 3)) a1 4)) a0 5 ((up2 (up2 (up2 (up2 M a0 1 (M a1 1)) a0 2 ((up2 M a0 1 (M a1 1)) a1 2)) a0 3 ((up2 (up2 M a0 1 (M a1 1)) a0 2 ((up2 M a0 1 (M a1 1)) a1 2)) a1 3)) a0 4 ((up2 (up2 (up2 M a0 1 (M a1 1)) a0 2 ((up2 M a0 1 (M a1 1)) a1 2)) a0 3 ((up2 (up2 M a0 1 (M a1 1)) a0 2 ((up2 M a0 1 (M a1 1)) a1 2)) a1 3)) a1 4)) a1 5)) a1 6))) := by
  rw [run_eq]
  show (bX1_copyFrom_0 a0 a1 M).bind _ = _
  simp only [bX1_copyFrom_0, ite_b, gd_b, cl_b, Option.bind_some]
theorem eX1_copyFrom_1 (a0 : Nat) (a1 : Nat) (x2 : Int32) (M : Mm) : run stX1_copyFrom (1, [a0, a1], [x2], M) = if (8 : Int32) ≤ x2 then (some ((0 : Int32), M)) else (gd (okI x2 8) (gd (okI x2 8) (cl (fX7_copyFrom (a0 + 2 + 3 * ix (x2)) (a1 + 2 + 3 * ix (x2)) M) (fun r1 M1 => run stX1_copyFrom (1, [a0, a1], [(x2 + (1 : Int32))], M1))))) := by
  rw [run_eq]
  show (bX1_copyFrom_1 a0 a1 x2 M).bind _ = _
  simp only [bX1_copyFrom_1, ite_b, gd_b, cl_b, Option.bind_some]
theorem eX1_entries_0 (a0 : Nat) (M : Mm) : run stX1_entries (0, [a0], [], M) = run stX1_entries (1, [a0], [(0 : Int32), (0 : Int32)], M) := by
  rw [run_eq]
  show (bX1_entries_0 a0 M).bind _ = _
  simp only [bX1_entries_0, ite_b, gd_b, cl_b, Option.bind_some]
theorem eX1_entries_1 (a0 : Nat) (x1 : Int32) (x2 : Int32) (M : Mm) : run stX1_entries (1, [a0], [x1, x2], M) = if (8 : Int32) ≤ x2 then (some (x1, M)) else (gd (okI x2 8) (run stX1_entries (1, [a0], [(x1 + (M (a0 + 2 + 3 * ix (x2)) 2)), (x2 + (1 : Int32))], M))) := by
  rw [run_eq]
  show (bX1_entries_1 a0 x1 x2 M).bind _ = _
  simp only [bX1_entries_1, ite_b, gd_b, cl_b, Option.bind_some]
theorem eX1_known_0 (a0 : Nat) (x1 : Int32) (M : Mm) : run stX1_known (0, [a0], [x1], M) = run stX1_known (1, [a0], [x1, (0 : Int32), (0 : Int32)], M) := by
  rw [run_eq]
  show (bX1_known_0 a0 x1 M).bind _ = _
  simp only [bX1_known_0, ite_b, gd_b, cl_b, Option.bind_some]
theorem eX1_known_1 (a0 : Nat) (x1 : Int32) (x2 : Int32) (x3 : Int32) (M : Mm) : run stX1_known (1, [a0], [x1, x2, x3], M) = if (8 : Int32) ≤ x3 then (some (x2, M)) else (cl (fX1_isAlive a0 x3 M) (fun r1 M1 => if r1 = 0 then (run stX1_known (1, [a0], [x1, x2, (x3 + (1 : Int32))], M1)) else (gd (okI x3 8) (cl (fX7_holds (a0 + 2 + 3 * ix (x3)) x1 M1) (fun r2 M2 => if r2 = 0 then (run stX1_known (1, [a0], [x1, x2, (x3 + (1 : Int32))], M2)) else (run stX1_known (1, [a0], [x1, (x2 + (1 : Int32)), (x3 + (1 : Int32))], M2))))))) := by
  rw [run_eq]
  show (bX1_known_1 a0 x1 x2 x3 M).bind _ = _
  simp only [bX1_known_1, ite_b, gd_b, cl_b, Option.bind_some]
theorem eX1_mostKnown_0 (a0 : Nat) (M : Mm) : run stX1_mostKnown (0, [a0], [], M) = run stX1_mostKnown (1, [a0], [(-1 : Int32), (0 : Int32)], M) := by
  rw [run_eq]
  show (bX1_mostKnown_0 a0 M).bind _ = _
  simp only [bX1_mostKnown_0, ite_b, gd_b, cl_b, Option.bind_some]
theorem eX1_mostKnown_1 (a0 : Nat) (x1 : Int32) (x2 : Int32) (M : Mm) : run stX1_mostKnown (1, [a0], [x1, x2], M) = if (8 : Int32) ≤ x2 then (some (x1, M)) else (cl (fX1_isAlive a0 x2 M) (fun r1 M1 => if r1 = 0 then (run stX1_mostKnown (1, [a0], [x1, (x2 + (1 : Int32))], M1)) else (cl (fX1_known a0 x2 M1) (fun r2 M2 => run stX1_mostKnown (1, [a0], [(imax x1 r2), (x2 + (1 : Int32))], M2))))) := by
  rw [run_eq]
  show (bX1_mostKnown_1 a0 x1 x2 M).bind _ = _
  simp only [bX1_mostKnown_1, ite_b, gd_b, cl_b, Option.bind_some]
theorem eX1_leastKnown_0 (a0 : Nat) (M : Mm) : run stX1_leastKnown (0, [a0], [], M) = run stX1_leastKnown (1, [a0], [(-1 : Int32), (0 : Int32)], M) := by
  rw [run_eq]
  show (bX1_leastKnown_0 a0 M).bind _ = _
  simp only [bX1_leastKnown_0, ite_b, gd_b, cl_b, Option.bind_some]
theorem eX1_leastKnown_1 (a0 : Nat) (x1 : Int32) (x2 : Int32) (M : Mm) : run stX1_leastKnown (1, [a0], [x1, x2], M) = if (8 : Int32) ≤ x2 then (some (x1, M)) else (cl (fX1_isAlive a0 x2 M) (fun r1 M1 => if r1 = 0 then (run stX1_leastKnown (1, [a0], [x1, (x2 + (1 : Int32))], M1)) else (if x1 = (-1 : Int32) then (cl (fX1_known a0 x2 M1) (fun r3 M3 => run stX1_leastKnown (1, [a0], [r3, (x2 + (1 : Int32))], M3))) else (cl (fX1_known a0 x2 M1) (fun r2 M2 => run stX1_leastKnown (1, [a0], [(imin x1 r2), (x2 + (1 : Int32))], M2)))))) := by
  rw [run_eq]
  show (bX1_leastKnown_1 a0 x1 x2 M).bind _ = _
  simp only [bX1_leastKnown_1, ite_b, gd_b, cl_b, Option.bind_some]
theorem eX7_bits_0 (a0 : Nat) (M : Mm) : run stX7_bits (0, [a0], [], M) = run stX7_bits (1, [a0], [(0 : Int32), (0 : Int32)], M) := by
  rw [run_eq]
  show (bX7_bits_0 a0 M).bind _ = _
  simp only [bX7_bits_0, ite_b, gd_b, cl_b, Option.bind_some]
theorem eX7_bits_1 (a0 : Nat) (x1 : Int32) (x2 : Int32) (M : Mm) : run stX7_bits (1, [a0], [x1, x2], M) = if (M a0 2) ≤ x2 then (some (x1, M)) else (gd (okI x2 5) (run stX7_bits (1, [a0], [(x1 ||| (ish (1 : Int32) (M (a0 + 1) (ix x2)))), (x2 + (1 : Int32))], M))) := by
  rw [run_eq]
  show (bX7_bits_1 a0 x1 x2 M).bind _ = _
  simp only [bX7_bits_1, ite_b, gd_b, cl_b, Option.bind_some]
theorem eX1_waysOut_0 (a0 : Nat) (x1 : Int32) (M : Mm) : run stX1_waysOut (0, [a0], [x1], M) = run stX1_waysOut (1, [a0], [x1, (0 : Int32), (0 : Int32)], M) := by
  rw [run_eq]
  show (bX1_waysOut_0 a0 x1 M).bind _ = _
  simp only [bX1_waysOut_0, ite_b, gd_b, cl_b, Option.bind_some]
theorem eX1_waysOut_1 (a0 : Nat) (x1 : Int32) (x2 : Int32) (x3 : Int32) (M : Mm) : run stX1_waysOut (1, [a0], [x1, x2, x3], M) = if (8 : Int32) ≤ x3 then (some (x2, M)) else (cl (fX1_isAlive a0 x3 M) (fun r1 M1 => if r1 = 0 then (run stX1_waysOut (1, [a0], [x1, x2, (x3 + (1 : Int32))], M1)) else (if ((isr x1 x3) &&& (1 : Int32)) = (1 : Int32) then (gd (okI x3 8) (cl (fX7_bits (a0 + 2 + 3 * ix (x3)) M1) (fun r2 M2 => run stX1_waysOut (1, [a0], [x1, (x2 ||| (r2 &&& (M2 a0 5))), (x3 + (1 : Int32))], M2)))) else (run stX1_waysOut (1, [a0], [x1, x2, (x3 + (1 : Int32))], M1))))) := by
  rw [run_eq]
  show (bX1_waysOut_1 a0 x1 x2 x3 M).bind _ = _
  simp only [bX1_waysOut_1, ite_b, gd_b, cl_b, Option.bind_some]
theorem eX1_fewestWays_0 (a0 : Nat) (x1 : Int32) (x2 : Int32) (M : Mm) : run stX1_fewestWays (0, [a0], [x1, x2], M) = run stX1_fewestWays (1, [a0], [x2, (ish (1 : Int32) x1), (1 : Int32)], M) := by
  rw [run_eq]
  show (bX1_fewestWays_0 a0 x1 x2 M).bind _ = _
  simp only [bX1_fewestWays_0, ite_b, gd_b, cl_b, Option.bind_some]
theorem eX1_fewestWays_1 (a0 : Nat) (x2 : Int32) (x3 : Int32) (x4 : Int32) (M : Mm) : run stX1_fewestWays (1, [a0], [x2, x3, x4], M) = if (8 : Int32) ≤ x4 then (some ((-1 : Int32), M)) else (cl (fX1_waysOut a0 x3 M) (fun r1 M1 => if ((isr (x3 ||| r1) x2) &&& (1 : Int32)) = (1 : Int32) then (some (x4, M1)) else (run stX1_fewestWays (1, [a0], [x2, (x3 ||| r1), (x4 + (1 : Int32))], M1)))) := by
  rw [run_eq]
  show (bX1_fewestWays_1 a0 x2 x3 x4 M).bind _ = _
  simp only [bX1_fewestWays_1, ite_b, gd_b, cl_b, Option.bind_some]
theorem eX1_waysInto_0 (a0 : Nat) (x1 : Int32) (M : Mm) : run stX1_waysInto (0, [a0], [x1], M) = run stX1_waysInto (1, [a0], [x1, (0 : Int32), (0 : Int32)], M) := by
  rw [run_eq]
  show (bX1_waysInto_0 a0 x1 M).bind _ = _
  simp only [bX1_waysInto_0, ite_b, gd_b, cl_b, Option.bind_some]
theorem eX1_waysInto_1 (a0 : Nat) (x1 : Int32) (x2 : Int32) (x3 : Int32) (M : Mm) : run stX1_waysInto (1, [a0], [x1, x2, x3], M) = if (8 : Int32) ≤ x3 then (some (x2, M)) else (cl (fX1_isAlive a0 x3 M) (fun r1 M1 => if r1 = 0 then (run stX1_waysInto (1, [a0], [x1, x2, (x3 + (1 : Int32))], M1)) else (gd (okI x3 8) (cl (fX7_bits (a0 + 2 + 3 * ix (x3)) M1) (fun r2 M2 => if ((r2 &&& (M2 a0 5)) &&& x1) = 0 then (run stX1_waysInto (1, [a0], [x1, x2, (x3 + (1 : Int32))], M2)) else (run stX1_waysInto (1, [a0], [x1, (x2 ||| (ish (1 : Int32) x3)), (x3 + (1 : Int32))], M2))))))) := by
  rw [run_eq]
  show (bX1_waysInto_1 a0 x1 x2 x3 M).bind _ = _
  simp only [bX1_waysInto_1, ite_b, gd_b, cl_b, Option.bind_some]
theorem eX1_partOf_0 (a0 : Nat) (x1 : Int32) (M : Mm) : run stX1_partOf (0, [a0], [x1], M) = run stX1_partOf (1, [a0], [(ish (1 : Int32) x1), (0 : Int32)], M) := by
  rw [run_eq]
  show (bX1_partOf_0 a0 x1 M).bind _ = _
  simp only [bX1_partOf_0, ite_b, gd_b, cl_b, Option.bind_some]
theorem eX1_partOf_1 (a0 : Nat) (x2 : Int32) (x3 : Int32) (M : Mm) : run stX1_partOf (1, [a0], [x2, x3], M) = if (8 : Int32) ≤ x3 then (some (x2, M)) else (cl (fX1_waysOut a0 x2 M) (fun r1 M1 => cl (fX1_waysInto a0 x2 M1) (fun r2 M2 => run stX1_partOf (1, [a0], [(x2 ||| (r1 ||| r2)), (x3 + (1 : Int32))], M2)))) := by
  rw [run_eq]
  show (bX1_partOf_1 a0 x2 x3 M).bind _ = _
  simp only [bX1_partOf_1, ite_b, gd_b, cl_b, Option.bind_some]
theorem eX1_parts_0 (a0 : Nat) (M : Mm) : run stX1_parts (0, [a0], [], M) = run stX1_parts (1, [a0], [(0 : Int32), (0 : Int32), (0 : Int32)], M) := by
  rw [run_eq]
  show (bX1_parts_0 a0 M).bind _ = _
  simp only [bX1_parts_0, ite_b, gd_b, cl_b, Option.bind_some]
theorem eX1_parts_1 (a0 : Nat) (x1 : Int32) (x2 : Int32) (x3 : Int32) (M : Mm) : run stX1_parts (1, [a0], [x1, x2, x3], M) = if (8 : Int32) ≤ x3 then (some (x1, M)) else (cl (fX1_isAlive a0 x3 M) (fun r1 M1 => if r1 = 0 then (run stX1_parts (1, [a0], [x1, x2, (x3 + (1 : Int32))], M1)) else (if ((isr x2 x3) &&& (1 : Int32)) = 0 then (cl (fX1_partOf a0 x3 M1) (fun r2 M2 => run stX1_parts (1, [a0], [(x1 + (1 : Int32)), (x2 ||| r2), (x3 + (1 : Int32))], M2))) else (run stX1_parts (1, [a0], [x1, x2, (x3 + (1 : Int32))], M1))))) := by
  rw [run_eq]
  show (bX1_parts_1 a0 x1 x2 x3 M).bind _ = _
  simp only [bX1_parts_1, ite_b, gd_b, cl_b, Option.bind_some]
theorem eX3_insert_0 (a0 : Nat) (x1 : Int32) (M : Mm) : run stX3_insert (0, [a0], [x1], M) = if (M a0 1) < 0 then (some ((0 : Int32), M)) else (if (M a0 1) < (8 : Int32) then (if (M a0 1) = 0 then (run stX3_insert (1, [a0], [x1, (0 : Int32), (M a0 1)], M)) else (run stX3_insert (1, [a0], [x1, ((M a0 2) + (1 : Int32)), (M a0 1)], M))) else (some ((0 : Int32), M))) := by
  rw [run_eq]
  show (bX3_insert_0 a0 x1 M).bind _ = _
  simp only [bX3_insert_0, ite_b, gd_b, cl_b, Option.bind_some]
theorem eX3_insert_1 (a0 : Nat) (x1 : Int32) (x2 : Int32) (x3 : Int32) (M : Mm) : run stX3_insert (1, [a0], [x1, x2, x3], M) = if x3 ≤ x2 then (run stX3_insert (2, [a0], [x1, x2], M)) else (if x3 ≤ 0 then (run stX3_insert (2, [a0], [x1, x2], M)) else (gd (okI (x3 - (1 : Int32)) 8) (gd (okI x3 8) (run stX3_insert (1, [a0], [x1, x2, (x3 + (-1 : Int32))], (up2 M (a0 + 1) (ix x3) (M (a0 + 1) (ix (x3 - (1 : Int32)))))))))) := by
  rw [run_eq]
  show (bX3_insert_1 a0 x1 x2 x3 M).bind _ = _
  simp only [bX3_insert_1, ite_b, gd_b, cl_b, Option.bind_some]
theorem eX3_insert_2 (a0 : Nat) (x1 : Int32) (x2 : Int32) (M : Mm) : run stX3_insert (2, [a0], [x1, x2], M) = if x2 < 0 then (some ((0 : Int32), M)) else (if (8 : Int32) ≤ x2 then (some ((0 : Int32), M)) else (gd (okI x2 8) (some ((0 : Int32), (up2 (up2 M (a0 + 1) (ix x2) x1) a0 1 (((up2 M (a0 + 1) (ix x2) x1) a0 1) + (1 : Int32))))))) := by
  rw [run_eq]
  show (bX3_insert_2 a0 x1 x2 M).bind _ = _
  simp only [bX3_insert_2, ite_b, gd_b, cl_b, Option.bind_some]
theorem eX3_removeAtHand_0 (a0 : Nat) (M : Mm) : run stX3_removeAtHand (0, [a0], [], M) = if (M a0 2) < 0 then (some ((0 : Int32), M)) else (if (M a0 2) < (M a0 1) then (run stX3_removeAtHand (1, [a0], [(M a0 2)], M)) else (some ((0 : Int32), M))) := by
  rw [run_eq]
  show (bX3_removeAtHand_0 a0 M).bind _ = _
  simp only [bX3_removeAtHand_0, ite_b, gd_b, cl_b, Option.bind_some]
theorem eX3_removeAtHand_1 (a0 : Nat) (x1 : Int32) (M : Mm) : run stX3_removeAtHand (1, [a0], [x1], M) = if (M a0 1) ≤ (x1 + (1 : Int32)) then (if ((up2 M a0 1 ((M a0 1) - (1 : Int32))) a0 2) < ((up2 M a0 1 ((M a0 1) - (1 : Int32))) a0 1) then (some ((0 : Int32), (up2 M a0 1 ((M a0 1) - (1 : Int32))))) else (some ((0 : Int32), (up2 (up2 M a0 1 ((M a0 1) - (1 : Int32))) a0 2 (0 : Int32))))) else (gd (okI (x1 + (1 : Int32)) 8) (gd (okI x1 8) (run stX3_removeAtHand (1, [a0], [(x1 + (1 : Int32))], (up2 M (a0 + 1) (ix x1) (M (a0 + 1) (ix (x1 + (1 : Int32))))))))) := by
  rw [run_eq]
  show (bX3_removeAtHand_1 a0 x1 M).bind _ = _
  simp only [bX3_removeAtHand_1, ite_b, gd_b, cl_b, Option.bind_some]
theorem eX3_countOut_0 (a0 : Nat) (x1 : Int32) (M : Mm) : run stX3_countOut (0, [a0], [x1], M) = run stX3_countOut (1, [a0], [x1, (M a0 1)], M) := by
  rw [run_eq]
  show (bX3_countOut_0 a0 x1 M).bind _ = _
  simp only [bX3_countOut_0, ite_b, gd_b, cl_b, Option.bind_some]
theorem eX3_countOut_1 (a0 : Nat) (x1 : Int32) (x2 : Int32) (M : Mm) : run stX3_countOut (1, [a0], [x1, x2], M) = if x2 ≤ (1 : Int32) then (some ((0 : Int32), M)) else (cl (fX3_moveHand a0 x1 M) (fun r1 M1 => cl (fX3_removeAtHand a0 M1) (fun r2 M2 => run stX3_countOut (1, [a0], [x1, (x2 + (-1 : Int32))], M2)))) := by
  rw [run_eq]
  show (bX3_countOut_1 a0 x1 x2 M).bind _ = _
  simp only [bX3_countOut_1, ite_b, gd_b, cl_b, Option.bind_some]
theorem eX3_total_0 (a0 : Nat) (M : Mm) : run stX3_total (0, [a0], [], M) = run stX3_total (1, [a0], [(0 : Int32), (0 : Int32)], M) := by
  rw [run_eq]
  show (bX3_total_0 a0 M).bind _ = _
  simp only [bX3_total_0, ite_b, gd_b, cl_b, Option.bind_some]
theorem eX3_total_1 (a0 : Nat) (x1 : Int32) (x2 : Int32) (M : Mm) : run stX3_total (1, [a0], [x1, x2], M) = if (M a0 1) ≤ x2 then (some (x1, M)) else (gd (okI x2 8) (run stX3_total (1, [a0], [(x1 + (M (a0 + 1) (ix x2))), (x2 + (1 : Int32))], M))) := by
  rw [run_eq]
  show (bX3_total_1 a0 x1 x2 M).bind _ = _
  simp only [bX3_total_1, ite_b, gd_b, cl_b, Option.bind_some]
theorem eX4_unsentPlace_0 (a0 : Nat) (x1 : Int32) (x2 : Int32) (M : Mm) : run stX4_unsentPlace (0, [a0], [x1, x2], M) = run stX4_unsentPlace (1, [a0], [x1, x2, (0 : Int32), (0 : Int32)], M) := by
  rw [run_eq]
  show (bX4_unsentPlace_0 a0 x1 x2 M).bind _ = _
  simp only [bX4_unsentPlace_0, ite_b, gd_b, cl_b, Option.bind_some]
theorem eX4_unsentPlace_1 (a0 : Nat) (x1 : Int32) (x2 : Int32) (x3 : Int32) (x4 : Int32) (M : Mm) : run stX4_unsentPlace (1, [a0], [x1, x2, x3, x4], M) = if (M a0 2) ≤ x4 then (some ((-1 : Int32), M)) else (if ((isr x1 x4) &&& (1 : Int32)) = 0 then (if x3 = x2 then (some (x4, M)) else (run stX4_unsentPlace (1, [a0], [x1, x2, (x3 + (1 : Int32)), (x4 + (1 : Int32))], M))) else (run stX4_unsentPlace (1, [a0], [x1, x2, x3, (x4 + (1 : Int32))], M))) := by
  rw [run_eq]
  show (bX4_unsentPlace_1 a0 x1 x2 x3 x4 M).bind _ = _
  simp only [bX4_unsentPlace_1, ite_b, gd_b, cl_b, Option.bind_some]
theorem eX4_putDrawn_0 (a0 : Nat) (a1 : Nat) (a2 : Nat) (M : Mm) : run stX4_putDrawn (0, [a0, a1, a2], [], M) = run stX4_putDrawn (1, [a0, a1, a2], [(0 : Int32), (M a2 2)], M) := by
  rw [run_eq]
  show (bX4_putDrawn_0 a0 a1 a2 M).bind _ = _
  simp only [bX4_putDrawn_0, ite_b, gd_b, cl_b, Option.bind_some]
theorem eX4_putDrawn_1 (a0 : Nat) (a1 : Nat) (a2 : Nat) (x3 : Int32) (x4 : Int32) (M : Mm) : run stX4_putDrawn (1, [a0, a1, a2], [x3, x4], M) = if x4 ≤ 0 then (some ((0 : Int32), M)) else (if (M a1 3) ≤ (M a0 3) then (some ((0 : Int32), M)) else (cl (fX1_draw a1 x4 M) (fun r1 M1 => cl (fX4_unsentPlace a2 x3 r1 M1) (fun r2 M2 => if r2 < 0 then (run stX4_putDrawn (1, [a0, a1, a2], [x3, (x4 + (-1 : Int32))], M2)) else (if (M2 a2 2) ≤ r2 then (run stX4_putDrawn (1, [a0, a1, a2], [x3, (x4 + (-1 : Int32))], M2)) else (gd (okI r2 5) (gd (okI r2 5) (cl (fX4_put a0 (M2 (a2 + 1) (ix r2)) (M2 (a2 + 2) (ix r2)) r2 M2) (fun r3 M3 => run stX4_putDrawn (1, [a0, a1, a2], [(x3 ||| (ish (1 : Int32) r2)), (x4 + (-1 : Int32))], M3)))))))))) := by
  rw [run_eq]
  show (bX4_putDrawn_1 a0 a1 a2 x3 x4 M).bind _ = _
  simp only [bX4_putDrawn_1, ite_b, gd_b, cl_b, Option.bind_some]
theorem eX4_giveUpPlace_0 (a0 : Nat) (M : Mm) : run stX4_giveUpPlace (0, [a0], [], M) = run stX4_giveUpPlace (1, [a0], [(0 : Int32)], M) := by
  rw [run_eq]
  show (bX4_giveUpPlace_0 a0 M).bind _ = _
  simp only [bX4_giveUpPlace_0, ite_b, gd_b, cl_b, Option.bind_some]
theorem eX4_giveUpPlace_1 (a0 : Nat) (x1 : Int32) (M : Mm) : run stX4_giveUpPlace (1, [a0], [x1], M) = if (M a0 3) ≤ x1 then (some ((-1 : Int32), M)) else (gd (okI x1 5) (if (M (a0 + 3) (ix x1)) = (-1 : Int32) then (run stX4_giveUpPlace (1, [a0], [(x1 + (1 : Int32))], M)) else (gd (okI x1 5) (some ((M (a0 + 3) (ix x1)), (up2 M (a0 + 3) (ix x1) (-1 : Int32))))))) := by
  rw [run_eq]
  show (bX4_giveUpPlace_1 a0 x1 M).bind _ = _
  simp only [bX4_giveUpPlace_1, ite_b, gd_b, cl_b, Option.bind_some]
theorem eX7_growOlder_0 (a0 : Nat) (M : Mm) : run stX7_growOlder (0, [a0], [], M) = run stX7_growOlder (1, [a0], [(0 : Int32)], M) := by
  rw [run_eq]
  show (bX7_growOlder_0 a0 M).bind _ = _
  simp only [bX7_growOlder_0, ite_b, gd_b, cl_b, Option.bind_some]
theorem eX7_growOlder_1 (a0 : Nat) (x1 : Int32) (M : Mm) : run stX7_growOlder (1, [a0], [x1], M) = if (M a0 2) ≤ x1 then (some ((0 : Int32), M)) else (gd (okI x1 5) (gd (okI x1 5) (run stX7_growOlder (1, [a0], [(x1 + (1 : Int32))], (up2 M (a0 + 2) (ix x1) (imin ((M (a0 + 2) (ix x1)) + (1 : Int32)) (99 : Int32))))))) := by
  rw [run_eq]
  show (bX7_growOlder_1 a0 x1 M).bind _ = _
  simp only [bX7_growOlder_1, ite_b, gd_b, cl_b, Option.bind_some]
theorem eX7_placeOfOldest_0 (a0 : Nat) (M : Mm) : run stX7_placeOfOldest (0, [a0], [], M) = run stX7_placeOfOldest (1, [a0], [(-1 : Int32), (0 : Int32)], M) := by
  rw [run_eq]
  show (bX7_placeOfOldest_0 a0 M).bind _ = _
  simp only [bX7_placeOfOldest_0, ite_b, gd_b, cl_b, Option.bind_some]
theorem eX7_placeOfOldest_1 (a0 : Nat) (x1 : Int32) (x2 : Int32) (M : Mm) : run stX7_placeOfOldest (1, [a0], [x1, x2], M) = if (M a0 2) ≤ x2 then (some (x1, M)) else (if x1 = (-1 : Int32) then (run stX7_placeOfOldest (1, [a0], [x2, (x2 + (1 : Int32))], M)) else (cl (fX7_isAskedBefore a0 x2 x1 M) (fun r1 M1 => if r1 = 0 then (run stX7_placeOfOldest (1, [a0], [x1, (x2 + (1 : Int32))], M1)) else (run stX7_placeOfOldest (1, [a0], [x2, (x2 + (1 : Int32))], M1))))) := by
  rw [run_eq]
  show (bX7_placeOfOldest_1 a0 x1 x2 M).bind _ = _
  simp only [bX7_placeOfOldest_1, ite_b, gd_b, cl_b, Option.bind_some]
theorem eX5_takeAll_0 (a0 : Nat) (x1 : Int32) (a2 : Nat) (a3 : Nat) (M : Mm) : run stX5_takeAll (0, [a0, a2, a3], [x1], M) = cl (fX1_has a0 x1 M) (fun r1 M1 => if r1 = 0 then (some ((0 : Int32), M1)) else (gd (okI x1 8) (run stX5_takeAll (1, [a0, a2, a3, (a0 + 2 + 3 * ix (x1))], [x1, (0 : Int32)], M1)))) := by
  rw [run_eq]
  show (bX5_takeAll_0 a0 x1 a2 a3 M).bind _ = _
  simp only [bX5_takeAll_0, ite_b, gd_b, cl_b, Option.bind_some]
theorem eX5_takeAll_1 (a0 : Nat) (x1 : Int32) (a2 : Nat) (a3 : Nat) (a4 : Nat) (x5 : Int32) (M : Mm) : run stX5_takeAll (1, [a0, a2, a3, a4], [x1, x5], M) = if (M a2 3) ≤ x5 then (some ((0 : Int32), M)) else (gd (okI x5 5) (if (M (a2 + 1) (ix x5)) = x1 then (run stX5_takeAll (1, [a0, a2, a3, a4], [x1, (x5 + (1 : Int32))], M)) else (cl (fX7_holds a4 (M (a2 + 1) (ix x5)) M) (fun r1 M1 => if r1 = 0 then (if (M1 a0 2) ≤ (M1 a4 2) then (cl (fX4_giveUpPlace a3 M1) (fun r2 M2 => gd (okI x5 5) (cl (fX7_replace a4 r2 (M (a2 + 1) (ix x5)) (M2 (a2 + 2) (ix x5)) M2) (fun r3 M3 => run stX5_takeAll (1, [a0, a2, a3, a4], [x1, (x5 + (1 : Int32))], M3))))) else (gd (okI x5 5) (cl (fX7_append a4 (M (a2 + 1) (ix x5)) (M1 (a2 + 2) (ix x5)) M1) (fun r4 M4 => run stX5_takeAll (1, [a0, a2, a3, a4], [x1, (x5 + (1 : Int32))], M4))))) else (run stX5_takeAll (1, [a0, a2, a3, a4], [x1, (x5 + (1 : Int32))], M1)))))) := by
  rw [run_eq]
  show (bX5_takeAll_1 a0 x1 a2 a3 a4 x5 M).bind _ = _
  simp only [bX5_takeAll_1, ite_b, gd_b, cl_b, Option.bind_some]
theorem eX5_cyclesOf_0 (a1 : Nat) (x2 : Int32) (M : Mm) : run stX5_cyclesOf (0, [a1], [x2], M) = run stX5_cyclesOf (1, [a1], [x2, (0 : Int32)], M) := by
  rw [run_eq]
  show (bX5_cyclesOf_0 a1 x2 M).bind _ = _
  simp only [bX5_cyclesOf_0, ite_b, gd_b, cl_b, Option.bind_some]
theorem eX5_cyclesOf_1 (a1 : Nat) (x2 : Int32) (x3 : Int32) (M : Mm) : run stX5_cyclesOf (1, [a1], [x2, x3], M) = if x2 ≤ x3 then (some ((0 : Int32), M)) else (run stX5_cyclesOf (2, [a1], [x2, x3, (0 : Int32)], M)) := by
  rw [run_eq]
  show (bX5_cyclesOf_1 a1 x2 x3 M).bind _ = _
  simp only [bX5_cyclesOf_1, ite_b, gd_b, cl_b, Option.bind_some]
theorem eX5_cyclesOf_2 (a1 : Nat) (x2 : Int32) (x3 : Int32) (x4 : Int32) (M : Mm) : run stX5_cyclesOf (2, [a1], [x2, x3, x4], M) = if (8 : Int32) ≤ x4 then (run stX5_cyclesOf (1, [a1], [x2, (x3 + (1 : Int32))], M)) else (cl (fX1_isAlive a1 x4 M) (fun r1 M1 => if r1 = 0 then (run stX5_cyclesOf (2, [a1], [x2, x3, (x4 + (1 : Int32))], M1)) else (cl (fX5_roundOf a1 x4 M1) (fun r2 M2 => run stX5_cyclesOf (2, [a1], [x2, x3, (x4 + (1 : Int32))], M2))))) := by
  rw [run_eq]
  show (bX5_cyclesOf_2 a1 x2 x3 x4 M).bind _ = _
  simp only [bX5_cyclesOf_2, ite_b, gd_b, cl_b, Option.bind_some]
theorem eX8_net_0  (M : Mm) : run stX8_net (0, [], [], M) = cl (fX0_read (M 26 1) M) (fun r1 M1 => if r1 = (-1 : Int32) then (cl (fX0_doAll 26 M1) (fun r2 M2 => cl (fX6_clear M2) (fun r3 M3 => cl (fX2_clear M3) (fun r4 M4 => run stX8_net (1, [], [(0 : Int32)], M4))))) else (some ((-4 : Int32), M1))) := by
  rw [run_eq]
  show (bX8_net_0  M).bind _ = _
  simp only [bX8_net_0, ite_b, gd_b, cl_b, Option.bind_some]
theorem eX8_net_1 (x1 : Int32) (M : Mm) : run stX8_net (1, [], [x1], M) = if (2 : Int32) ≤ x1 then (run stX8_net (2, [], [(0 : Int32)], M)) else (gd (okI x1 2) (run stX8_net (1, [], [(x1 + (1 : Int32))], (up2 M 18 (ix x1) (0 : Int32))))) := by
  rw [run_eq]
  show (bX8_net_1 x1 M).bind _ = _
  simp only [bX8_net_1, ite_b, gd_b, cl_b, Option.bind_some]
theorem eX8_net_2 (x1 : Int32) (M : Mm) : run stX8_net (2, [], [x1], M) = if (3 : Int32) ≤ x1 then (some ((M 3 2), M)) else (gd (okI x1 3) (cl (fX3_lose (20 + 2 * ix (x1)) M) (fun r1 M1 => run stX8_net (2, [], [(x1 + (1 : Int32))], M1)))) := by
  rw [run_eq]
  show (bX8_net_2 x1 M).bind _ = _
  simp only [bX8_net_2, ite_b, gd_b, cl_b, Option.bind_some]
theorem eX8_forgotten_0 (x1 : Int32) (M : Mm) : run stX8_forgotten (0, [], [x1], M) = cl (fX1_has 26 x1 M) (fun r1 M1 => if r1 = 0 then (some ((-2 : Int32), M1)) else (cl (fX1_isAlive 26 x1 M1) (fun r2 M2 => if r2 = 0 then (cl (fX1_copyFrom 52 26 M2) (fun r3 M3 => run stX8_forgotten (1, [], [x1, (0 : Int32)], M3))) else (some ((-4 : Int32), M2))))) := by
  rw [run_eq]
  show (bX8_forgotten_0 x1 M).bind _ = _
  simp only [bX8_forgotten_0, ite_b, gd_b, cl_b, Option.bind_some]
theorem eX8_forgotten_1 (x1 : Int32) (x2 : Int32) (M : Mm) : run stX8_forgotten (1, [], [x1, x2], M) = if (60 : Int32) < x2 then (some ((-1 : Int32), M)) else (cl (fX1_known 52 x1 M) (fun r1 M1 => if r1 = 0 then (some (x2, M1)) else (cl (fX5_cyclesOf 52 (1 : Int32) M1) (fun r2 M2 => run stX8_forgotten (1, [], [x1, (x2 + (1 : Int32))], M2))))) := by
  rw [run_eq]
  show (bX8_forgotten_1 x1 x2 M).bind _ = _
  simp only [bX8_forgotten_1, ite_b, gd_b, cl_b, Option.bind_some]
theorem eX8_ringNumbers_0  (M : Mm) : run stX8_ringNumbers (0, [], [], M) = run stX8_ringNumbers (1, [], [(0 : Int32), (0 : Int32)], M) := by
  rw [run_eq]
  show (bX8_ringNumbers_0  M).bind _ = _
  simp only [bX8_ringNumbers_0, ite_b, gd_b, cl_b, Option.bind_some]
theorem eX8_ringNumbers_1 (x1 : Int32) (x2 : Int32) (M : Mm) : run stX8_ringNumbers (1, [], [x1, x2], M) = if (3 : Int32) ≤ x2 then (some (x1, M)) else (gd (okI x2 3) (run stX8_ringNumbers (1, [], [(x1 + (M (20 + 2 * ix (x2)) 1)), (x2 + (1 : Int32))], M))) := by
  rw [run_eq]
  show (bX8_ringNumbers_1 x1 x2 M).bind _ = _
  simp only [bX8_ringNumbers_1, ite_b, gd_b, cl_b, Option.bind_some]
theorem eX9_copyRow_0 (x1 : Int32) (x2 : Int32) (M : Mm) : run stX9_copyRow (0, [], [x1, x2], M) = run stX9_copyRow (1, [], [x1, x2, (0 : Int32)], M) := by
  rw [run_eq]
  show (bX9_copyRow_0 x1 x2 M).bind _ = _
  simp only [bX9_copyRow_0, ite_b, gd_b, cl_b, Option.bind_some]
theorem eX9_copyRow_1 (x1 : Int32) (x2 : Int32) (x3 : Int32) (M : Mm) : run stX9_copyRow (1, [], [x1, x2, x3], M) = if (90 : Int32) ≤ x3 then (some ((0 : Int32), M)) else (gd (okI (x1 + x3) 1080) (gd (okI (x2 + x3) 1080) (run stX9_copyRow (1, [], [x1, x2, (x3 + (1 : Int32))], (up2 M 339 (ix (x2 + x3)) (M 339 (ix (x1 + x3)))))))) := by
  rw [run_eq]
  show (bX9_copyRow_1 x1 x2 x3 M).bind _ = _
  simp only [bX9_copyRow_1, ite_b, gd_b, cl_b, Option.bind_some]
theorem eX9_anew_0 (x1 : Int32) (x2 : Int32) (x3 : Int32) (x4 : Int32) (M : Mm) : run stX9_anew (0, [], [x1, x2, x3, x4], M) = run stX9_anew (1, [], [x1, x2, (0 : Int32)], (up2 (up2 (up2 (up2 (up2 (up2 M 338 1 x1) 338 2 x2) 338 3 x3) 338 4 (0 : Int32)) 339 (ix (0 : Int32)) x4) 339 (ix (1 : Int32)) (0 : Int32))) := by
  rw [run_eq]
  show (bX9_anew_0 x1 x2 x3 x4 M).bind _ = _
  simp only [bX9_anew_0, ite_b, gd_b, cl_b, Option.bind_some]
theorem eX9_anew_1 (x1 : Int32) (x2 : Int32) (x5 : Int32) (M : Mm) : run stX9_anew (1, [], [x1, x2, x5], M) = if (8 : Int32) ≤ x5 then (some ((0 : Int32), M)) else (gd (okI ((2 : Int32) + x5) 1080) (run stX9_anew (2, [], [x1, x2, x5, (1 : Int32)], (up2 M 339 (ix ((2 : Int32) + x5)) (0 : Int32))))) := by
  rw [run_eq]
  show (bX9_anew_1 x1 x2 x5 M).bind _ = _
  simp only [bX9_anew_1, ite_b, gd_b, cl_b, Option.bind_some]
theorem eX9_anew_2 (x1 : Int32) (x2 : Int32) (x5 : Int32) (x6 : Int32) (M : Mm) : run stX9_anew (2, [], [x1, x2, x5, x6], M) = if x1 ≤ x6 then (run stX9_anew (1, [], [x1, x2, (x5 + (1 : Int32))], M)) else (if x1 ≤ x5 then (run stX9_anew (1, [], [x1, x2, (x5 + (1 : Int32))], M)) else (gd (okI ((2 : Int32) + x5) 1080) (if x2 ≤ (M 339 (ix ((2 : Int32) + x5))) then (run stX9_anew (2, [], [x1, x2, x5, (x6 + (1 : Int32))], M)) else (gd (decide (¬ x1 = 0)) (cl (fX9_put (0 : Int32) x5 (irem (x5 + x6) x1) (0 : Int32) M) (fun r1 M1 => run stX9_anew (2, [], [x1, x2, x5, (x6 + (1 : Int32))], M1))))))) := by
  rw [run_eq]
  show (bX9_anew_2 x1 x2 x5 x6 M).bind _ = _
  simp only [bX9_anew_2, ite_b, gd_b, cl_b, Option.bind_some]
theorem eX9_placeOf_0 (x1 : Int32) (x2 : Int32) (x3 : Int32) (M : Mm) : run stX9_placeOf (0, [], [x1, x2, x3], M) = run stX9_placeOf (1, [], [x1, x2, x3, (0 : Int32)], M) := by
  rw [run_eq]
  show (bX9_placeOf_0 x1 x2 x3 M).bind _ = _
  simp only [bX9_placeOf_0, ite_b, gd_b, cl_b, Option.bind_some]
theorem eX9_placeOf_1 (x1 : Int32) (x2 : Int32) (x3 : Int32) (x4 : Int32) (M : Mm) : run stX9_placeOf (1, [], [x1, x2, x3, x4], M) = gd (okI ((x1 + (2 : Int32)) + x2) 1080) (if (M 339 (ix ((x1 + (2 : Int32)) + x2))) ≤ x4 then (some ((-1 : Int32), M)) else (gd (okI (((x1 + (10 : Int32)) + ((5 : Int32) * x2)) + x4) 1080) (if (M 339 (ix (((x1 + (10 : Int32)) + ((5 : Int32) * x2)) + x4))) = x3 then (some (x4, M)) else (run stX9_placeOf (1, [], [x1, x2, x3, (x4 + (1 : Int32))], M))))) := by
  rw [run_eq]
  show (bX9_placeOf_1 x1 x2 x3 x4 M).bind _ = _
  simp only [bX9_placeOf_1, ite_b, gd_b, cl_b, Option.bind_some]
theorem eX9_strike_0 (x1 : Int32) (x2 : Int32) (x3 : Int32) (M : Mm) : run stX9_strike (0, [], [x1, x2, x3], M) = gd (okI ((x1 + (2 : Int32)) + x2) 1080) (gd (okI ((x1 + (2 : Int32)) + x2) 1080) (run stX9_strike (1, [], [x1, x2, x3], (up2 M 339 (ix ((x1 + (2 : Int32)) + x2)) ((M 339 (ix ((x1 + (2 : Int32)) + x2))) - (1 : Int32)))))) := by
  rw [run_eq]
  show (bX9_strike_0 x1 x2 x3 M).bind _ = _
  simp only [bX9_strike_0, ite_b, gd_b, cl_b, Option.bind_some]
theorem eX9_strike_1 (x1 : Int32) (x2 : Int32) (x4 : Int32) (M : Mm) : run stX9_strike (1, [], [x1, x2, x4], M) = gd (okI ((x1 + (2 : Int32)) + x2) 1080) (if (M 339 (ix ((x1 + (2 : Int32)) + x2))) ≤ x4 then (some ((0 : Int32), M)) else (gd (okI ((((x1 + (10 : Int32)) + ((5 : Int32) * x2)) + x4) + (1 : Int32)) 1080) (gd (okI (((x1 + (10 : Int32)) + ((5 : Int32) * x2)) + x4) 1080) (gd (okI ((((x1 + (50 : Int32)) + ((5 : Int32) * x2)) + x4) + (1 : Int32)) 1080) (gd (okI (((x1 + (50 : Int32)) + ((5 : Int32) * x2)) + x4) 1080) (run stX9_strike (1, [], [x1, x2, (x4 + (1 : Int32))], (up2 (up2 M 339 (ix (((x1 + (10 : Int32)) + ((5 : Int32) * x2)) + x4)) (M 339 (ix ((((x1 + (10 : Int32)) + ((5 : Int32) * x2)) + x4) + (1 : Int32))))) 339 (ix (((x1 + (50 : Int32)) + ((5 : Int32) * x2)) + x4)) ((up2 M 339 (ix (((x1 + (10 : Int32)) + ((5 : Int32) * x2)) + x4)) (M 339 (ix ((((x1 + (10 : Int32)) + ((5 : Int32) * x2)) + x4) + (1 : Int32))))) 339 (ix ((((x1 + (50 : Int32)) + ((5 : Int32) * x2)) + x4) + (1 : Int32)))))))))))) := by
  rw [run_eq]
  show (bX9_strike_1 x1 x2 x4 M).bind _ = _
  simp only [bX9_strike_1, ite_b, gd_b, cl_b, Option.bind_some]
theorem eX9_nextToken_0  (M : Mm) : run stX9_nextToken (0, [], [], M) = run stX9_nextToken (1, [], [], (up2 M 338 11 (M 338 12))) := by
  rw [run_eq]
  show (bX9_nextToken_0  M).bind _ = _
  simp only [bX9_nextToken_0, ite_b, gd_b, cl_b, Option.bind_some]
theorem eX9_nextToken_1  (M : Mm) : run stX9_nextToken (1, [], [], M) = if (M 338 8) ≤ (M 338 11) then (run stX9_nextToken (2, [], [], M)) else (gd (okI (M 338 11) 200) (if (M 341 (ix (M 338 11))) = (32 : Int32) then (run stX9_nextToken (1, [], [], (up2 M 338 11 ((M 338 11) + (1 : Int32))))) else (run stX9_nextToken (2, [], [], M)))) := by
  rw [run_eq]
  show (bX9_nextToken_1  M).bind _ = _
  simp only [bX9_nextToken_1, ite_b, gd_b, cl_b, Option.bind_some]
theorem eX9_nextToken_2  (M : Mm) : run stX9_nextToken (2, [], [], M) = if (M 338 8) ≤ (M 338 11) then (run stX9_nextToken (3, [], [(M 338 11)], M)) else (run stX9_nextToken (3, [], [((M 338 11) + (1 : Int32))], M)) := by
  rw [run_eq]
  show (bX9_nextToken_2  M).bind _ = _
  simp only [bX9_nextToken_2, ite_b, gd_b, cl_b, Option.bind_some]
theorem eX9_nextToken_3 (s0 : Int32) (M : Mm) : run stX9_nextToken (3, [], [s0], M) = if ((up2 M 338 12 s0) 338 8) ≤ ((up2 M 338 12 s0) 338 11) then (run stX9_nextToken (5, [], [], (up2 M 338 12 s0))) else (gd (okI ((up2 M 338 12 s0) 338 11) 200) (cl (fX9_isSmall ((up2 M 338 12 s0) 341 (ix ((up2 M 338 12 s0) 338 11))) (up2 M 338 12 s0)) (fun r1 M1 => if r1 = 0 then (run stX9_nextToken (5, [], [], M1)) else (run stX9_nextToken (4, [], [], M1))))) := by
  rw [run_eq]
  show (bX9_nextToken_3 s0 M).bind _ = _
  simp only [bX9_nextToken_3, ite_b, gd_b, cl_b, Option.bind_some]
theorem eX9_nextToken_4  (M : Mm) : run stX9_nextToken (4, [], [], M) = if (M 338 8) ≤ (M 338 12) then (some ((0 : Int32), M)) else (gd (okI (M 338 12) 200) (cl (fX9_isSmall (M 341 (ix (M 338 12))) M) (fun r1 M1 => if r1 = 0 then (some ((0 : Int32), M1)) else (run stX9_nextToken (4, [], [], (up2 M1 338 12 ((M1 338 12) + (1 : Int32)))))))) := by
  rw [run_eq]
  show (bX9_nextToken_4  M).bind _ = _
  simp only [bX9_nextToken_4, ite_b, gd_b, cl_b, Option.bind_some]
theorem eX9_nextToken_5  (M : Mm) : run stX9_nextToken (5, [], [], M) = if (M 338 8) ≤ (M 338 11) then (some ((0 : Int32), M)) else (gd (okI (M 338 11) 200) (cl (fX9_isDigit (M 341 (ix (M 338 11))) M) (fun r1 M1 => if r1 = 0 then (some ((0 : Int32), M1)) else (run stX9_nextToken (6, [], [], M1))))) := by
  rw [run_eq]
  show (bX9_nextToken_5  M).bind _ = _
  simp only [bX9_nextToken_5, ite_b, gd_b, cl_b, Option.bind_some]
theorem eX9_nextToken_6  (M : Mm) : run stX9_nextToken (6, [], [], M) = if (M 338 8) ≤ (M 338 12) then (some ((0 : Int32), M)) else (gd (okI (M 338 12) 200) (cl (fX9_isDigit (M 341 (ix (M 338 12))) M) (fun r1 M1 => if r1 = 0 then (some ((0 : Int32), M1)) else (run stX9_nextToken (6, [], [], (up2 M1 338 12 ((M1 338 12) + (1 : Int32)))))))) := by
  rw [run_eq]
  show (bX9_nextToken_6  M).bind _ = _
  simp only [bX9_nextToken_6, ite_b, gd_b, cl_b, Option.bind_some]
theorem eX9_wordHere_0  (M : Mm) : run stX9_wordHere (0, [], [], M) = run stX9_wordHere (1, [], [(0 : Int32)], M) := by
  rw [run_eq]
  show (bX9_wordHere_0  M).bind _ = _
  simp only [bX9_wordHere_0, ite_b, gd_b, cl_b, Option.bind_some]
theorem eX9_wordHere_1 (x1 : Int32) (M : Mm) : run stX9_wordHere (1, [], [x1], M) = if (4 : Int32) < x1 then (some ((-1 : Int32), M)) else (if (M 338 12) ≤ (M 338 11) then (run stX9_wordHere (2, [], [x1, (0 : Int32), (0 : Int32)], M)) else (if (5 : Int32) ≤ ((M 338 12) - (M 338 11)) then (run stX9_wordHere (2, [], [x1, (0 : Int32), (0 : Int32)], M)) else (run stX9_wordHere (2, [], [x1, (1 : Int32), (0 : Int32)], M)))) := by
  rw [run_eq]
  show (bX9_wordHere_1 x1 M).bind _ = _
  simp only [bX9_wordHere_1, ite_b, gd_b, cl_b, Option.bind_some]
theorem eX9_wordHere_2 (x1 : Int32) (x2 : Int32) (x3 : Int32) (M : Mm) : run stX9_wordHere (2, [], [x1, x2, x3], M) = if (4 : Int32) ≤ x3 then (if x2 = 0 then (run stX9_wordHere (1, [], [(x1 + (1 : Int32))], M)) else (some (x1, M))) else (if x2 = 0 then (if x2 = 0 then (run stX9_wordHere (1, [], [(x1 + (1 : Int32))], M)) else (some (x1, M))) else (gd (okI (((4 : Int32) * x1) + x3) 20) (if (M 338 12) ≤ ((M 338 11) + x3) then (run stX9_wordHere (3, [], [x1, x3, (0 : Int32), (M 345 (ix (((4 : Int32) * x1) + x3)))], M)) else (gd (okI ((M 338 11) + x3) 200) (run stX9_wordHere (3, [], [x1, x3, (M 341 (ix ((M 338 11) + x3))), (M 345 (ix (((4 : Int32) * x1) + x3)))], M)))))) := by
  rw [run_eq]
  show (bX9_wordHere_2 x1 x2 x3 M).bind _ = _
  simp only [bX9_wordHere_2, ite_b, gd_b, cl_b, Option.bind_some]
theorem eX9_wordHere_3 (x1 : Int32) (x3 : Int32) (s0 : Int32) (s1 : Int32) (M : Mm) : run stX9_wordHere (3, [], [x1, x3, s0, s1], M) = if s1 = s0 then (run stX9_wordHere (2, [], [x1, (1 : Int32), (x3 + (1 : Int32))], M)) else (run stX9_wordHere (2, [], [x1, (0 : Int32), (x3 + (1 : Int32))], M)) := by
  rw [run_eq]
  show (bX9_wordHere_3 x1 x3 s0 s1 M).bind _ = _
  simp only [bX9_wordHere_3, ite_b, gd_b, cl_b, Option.bind_some]
theorem eX9_number_0 (x1 : Int32) (x2 : Int32) (x3 : Int32) (x4 : Int32) (M : Mm) : run stX9_number (0, [], [x1, x2, x3, x4], M) = if (M 338 11) = (M 338 8) then (some ((0 : Int32), M)) else (gd (okI (M 338 11) 200) (cl (fX9_isDigit (M 341 (ix (M 338 11))) M) (fun r1 M1 => if r1 = 0 then (some ((0 : Int32), M1)) else (if ((M1 338 12) - (M1 338 11)) ≤ (3 : Int32) then (run stX9_number (1, [], [x1, x2, x3, x4, (0 : Int32), (M1 338 11)], M1)) else (some ((0 : Int32), M1)))))) := by
  rw [run_eq]
  show (bX9_number_0 x1 x2 x3 x4 M).bind _ = _
  simp only [bX9_number_0, ite_b, gd_b, cl_b, Option.bind_some]
theorem eX9_number_1 (x1 : Int32) (x2 : Int32) (x3 : Int32) (x4 : Int32) (x5 : Int32) (x6 : Int32) (M : Mm) : run stX9_number (1, [], [x1, x2, x3, x4, x5, x6], M) = if (M 338 12) ≤ x6 then (cl (fX9_in (x5).toInt64 (x2).toInt64 (x3).toInt64 M) (fun r1 M1 => if r1 = 0 then (run stX9_number (2, [], [x1, x5, (0 : Int32)], M1)) else (if x5 = x4 then (run stX9_number (2, [], [x1, x5, (0 : Int32)], M1)) else (run stX9_number (2, [], [x1, x5, (1 : Int32)], M1))))) else (gd (okI x6 200) (run stX9_number (1, [], [x1, x2, x3, x4, ((((10 : Int32) * x5) + (M 341 (ix x6))) - (48 : Int32)), (x6 + (1 : Int32))], M))) := by
  rw [run_eq]
  show (bX9_number_1 x1 x2 x3 x4 x5 x6 M).bind _ = _
  simp only [bX9_number_1, ite_b, gd_b, cl_b, Option.bind_some]
theorem eX9_number_2 (x1 : Int32) (x5 : Int32) (s0 : Int32) (M : Mm) : run stX9_number (2, [], [x1, x5, s0], M) = if s0 = 0 then (gd (okZ s0) (some (s0, M))) else (gd (okI x1 4) (cl (fX9_nextToken (up2 M 344 (ix x1) x5)) (fun r1 M1 => gd (okZ s0) (some (s0, M1))))) := by
  rw [run_eq]
  show (bX9_number_2 x1 x5 s0 M).bind _ = _
  simp only [bX9_number_2, ite_b, gd_b, cl_b, Option.bind_some]
theorem eX9_reads_0 (x1 : Int32) (M : Mm) : run stX9_reads (0, [], [x1], M) = gd (okZ x1) (cl (fX9_nextToken (up2 (up2 (up2 (up2 M 338 15 x1) 338 12 (0 : Int32)) 338 14 (1 : Int32)) 338 13 ((up2 (up2 (up2 M 338 15 x1) 338 12 (0 : Int32)) 338 14 (1 : Int32)) 338 1))) (fun r1 M1 => cl (fX9_readsClause M1) (fun r2 M2 => run stX9_reads (1, [], [r2], M2)))) := by
  rw [run_eq]
  show (bX9_reads_0 x1 M).bind _ = _
  simp only [bX9_reads_0, ite_b, gd_b, cl_b, Option.bind_some]
theorem eX9_reads_1 (x2 : Int32) (M : Mm) : run stX9_reads (1, [], [x2], M) = if x2 = 0 then (gd (okZ x2) (some (x2, M))) else (if (M 338 8) ≤ (M 338 11) then (gd (okZ x2) (some (x2, M))) else (if (24 : Int32) ≤ (M 338 14) then (run stX9_reads (2, [], [(0 : Int32)], M)) else (gd (okI (M 338 11) 200) (if (M 341 (ix (M 338 11))) = (59 : Int32) then (run stX9_reads (2, [], [(1 : Int32)], M)) else (run stX9_reads (2, [], [(0 : Int32)], M)))))) := by
  rw [run_eq]
  show (bX9_reads_1 x2 M).bind _ = _
  simp only [bX9_reads_1, ite_b, gd_b, cl_b, Option.bind_some]
theorem eX9_reads_2 (s0 : Int32) (M : Mm) : run stX9_reads (2, [], [s0], M) = if s0 = 0 then (run stX9_reads (1, [], [s0], M)) else (cl (fX9_nextToken M) (fun r1 M1 => cl (fX9_readsClause M1) (fun r2 M2 => run stX9_reads (1, [], [r2], (up2 M2 338 14 ((M2 338 14) + (1 : Int32))))))) := by
  rw [run_eq]
  show (bX9_reads_2 s0 M).bind _ = _
  simp only [bX9_reads_2, ite_b, gd_b, cl_b, Option.bind_some]
theorem eX9_net_0  (M : Mm) : run stX9_net (0, [], [], M) = cl (fX9_reads (0 : Int32) M) (fun r1 M1 => if r1 = 0 then (some ((-4 : Int32), M1)) else (cl (fX9_reads (1 : Int32) M1) (fun r2 M2 => run stX9_net (1, [], [(0 : Int32)], (up2 (up2 (up2 (up2 M2 338 8 (0 : Int32)) 338 5 (0 : Int32)) 340 (ix (0 : Int32)) (0 : Int32)) 340 (ix (1 : Int32)) (0 : Int32)))))) := by
  rw [run_eq]
  show (bX9_net_0  M).bind _ = _
  simp only [bX9_net_0, ite_b, gd_b, cl_b, Option.bind_some]
theorem eX9_net_1 (x1 : Int32) (M : Mm) : run stX9_net (1, [], [x1], M) = if (3 : Int32) ≤ x1 then (some ((M 338 14), M)) else (gd (okI x1 3) (run stX9_net (1, [], [(x1 + (1 : Int32))], (up2 M 342 (ix x1) (-1 : Int32))))) := by
  rw [run_eq]
  show (bX9_net_1 x1 M).bind _ = _
  simp only [bX9_net_1, ite_b, gd_b, cl_b, Option.bind_some]
theorem eX9_isSent_0 (x1 : Int32) (x2 : Int32) (M : Mm) : run stX9_isSent (0, [], [x1, x2], M) = run stX9_isSent (1, [], [x1, x2, (0 : Int32), (0 : Int32)], M) := by
  rw [run_eq]
  show (bX9_isSent_0 x1 x2 M).bind _ = _
  simp only [bX9_isSent_0, ite_b, gd_b, cl_b, Option.bind_some]
theorem eX9_isSent_1 (x1 : Int32) (x2 : Int32) (x3 : Int32) (x4 : Int32) (M : Mm) : run stX9_isSent (1, [], [x1, x2, x3, x4], M) = gd (okI x1 2) (if (M 348 (ix x1)) ≤ x4 then (gd (okZ x3) (some (x3, M))) else (if x3 = 0 then (gd (okI (((6 : Int32) * x1) + x4) 12) (if (M 346 (ix (((6 : Int32) * x1) + x4))) = x2 then (run stX9_isSent (1, [], [x1, x2, (1 : Int32), (x4 + (1 : Int32))], M)) else (run stX9_isSent (1, [], [x1, x2, (0 : Int32), (x4 + (1 : Int32))], M)))) else (run stX9_isSent (1, [], [x1, x2, (1 : Int32), (x4 + (1 : Int32))], M)))) := by
  rw [run_eq]
  show (bX9_isSent_1 x1 x2 x3 x4 M).bind _ = _
  simp only [bX9_isSent_1, ite_b, gd_b, cl_b, Option.bind_some]
theorem eX9_sends_0 (x1 : Int32) (x2 : Int32) (x3 : Int32) (M : Mm) : run stX9_sends (0, [], [x1, x2, x3], M) = gd (okI ((x1 + (2 : Int32)) + x3) 1080) (run stX9_sends (1, [], [x1, x2, x3, (M 339 (ix ((x1 + (2 : Int32)) + x3)))], M)) := by
  rw [run_eq]
  show (bX9_sends_0 x1 x2 x3 M).bind _ = _
  simp only [bX9_sends_0, ite_b, gd_b, cl_b, Option.bind_some]
theorem eX9_sends_1 (x1 : Int32) (x2 : Int32) (x3 : Int32) (x4 : Int32) (M : Mm) : run stX9_sends (1, [], [x1, x2, x3, x4], M) = if x4 ≤ 0 then (some ((0 : Int32), M)) else (gd (okI x2 2) (if (M 338 3) ≤ (M 348 (ix x2)) then (some ((0 : Int32), M)) else (cl (fX9_draw x1 x4 M) (fun r1 M1 => run stX9_sends (2, [], [x1, x2, x3, x4, r1, (0 : Int32)], M1))))) := by
  rw [run_eq]
  show (bX9_sends_1 x1 x2 x3 x4 M).bind _ = _
  simp only [bX9_sends_1, ite_b, gd_b, cl_b, Option.bind_some]
theorem eX9_sends_2 (x1 : Int32) (x2 : Int32) (x3 : Int32) (x4 : Int32) (x5 : Int32) (x6 : Int32) (M : Mm) : run stX9_sends (2, [], [x1, x2, x3, x4, x5, x6], M) = if 0 < x5 then (run stX9_sends (3, [], [x1, x2, x3, x4, x5, x6], M)) else (gd (okI (((x1 + (10 : Int32)) + ((5 : Int32) * x3)) + x6) 1080) (cl (fX9_isSent x2 (M 339 (ix (((x1 + (10 : Int32)) + ((5 : Int32) * x3)) + x6))) M) (fun r1 M1 => if r1 = 0 then (gd (okI (((x1 + (10 : Int32)) + ((5 : Int32) * x3)) + x6) 1080) (gd (okI (((x1 + (50 : Int32)) + ((5 : Int32) * x3)) + x6) 1080) (cl (fX9_send x2 (M1 339 (ix (((x1 + (10 : Int32)) + ((5 : Int32) * x3)) + x6))) (M1 339 (ix (((x1 + (50 : Int32)) + ((5 : Int32) * x3)) + x6))) M1) (fun r2 M2 => run stX9_sends (1, [], [x1, x2, x3, (x4 + (-1 : Int32))], M2))))) else (run stX9_sends (3, [], [x1, x2, x3, x4, x5, x6], M1))))) := by
  rw [run_eq]
  show (bX9_sends_2 x1 x2 x3 x4 x5 x6 M).bind _ = _
  simp only [bX9_sends_2, ite_b, gd_b, cl_b, Option.bind_some]
theorem eX9_sends_3 (x1 : Int32) (x2 : Int32) (x3 : Int32) (x4 : Int32) (x5 : Int32) (x6 : Int32) (M : Mm) : run stX9_sends (3, [], [x1, x2, x3, x4, x5, x6], M) = gd (okI (((x1 + (10 : Int32)) + ((5 : Int32) * x3)) + x6) 1080) (cl (fX9_isSent x2 (M 339 (ix (((x1 + (10 : Int32)) + ((5 : Int32) * x3)) + x6))) M) (fun r1 M1 => if r1 = 0 then (run stX9_sends (2, [], [x1, x2, x3, x4, (x5 - (1 : Int32)), (x6 + (1 : Int32))], M1)) else (run stX9_sends (2, [], [x1, x2, x3, x4, (x5 - (0 : Int32)), (x6 + (1 : Int32))], M1)))) := by
  rw [run_eq]
  show (bX9_sends_3 x1 x2 x3 x4 x5 x6 M).bind _ = _
  simp only [bX9_sends_3, ite_b, gd_b, cl_b, Option.bind_some]
theorem eX9_giveUp_0 (x1 : Int32) (x2 : Int32) (x3 : Int32) (M : Mm) : run stX9_giveUp (0, [], [x1, x2, x3], M) = run stX9_giveUp (1, [], [x1, x2, x3, ((6 : Int32) * x2)], M) := by
  rw [run_eq]
  show (bX9_giveUp_0 x1 x2 x3 M).bind _ = _
  simp only [bX9_giveUp_0, ite_b, gd_b, cl_b, Option.bind_some]
theorem eX9_giveUp_1 (x1 : Int32) (x2 : Int32) (x3 : Int32) (x4 : Int32) (M : Mm) : run stX9_giveUp (1, [], [x1, x2, x3, x4], M) = gd (okI x2 2) (if (((6 : Int32) * x2) + (M 348 (ix x2))) ≤ x4 then (some ((-1 : Int32), M)) else (gd (okI x4 12) (cl (fX9_placeOf x1 x3 (M 346 (ix x4)) M) (fun r1 M1 => gd (okI x4 12) (if (M1 346 (ix x4)) = x3 then (run stX9_giveUp (1, [], [x1, x2, x3, (x4 + (1 : Int32))], M1)) else (gd (okI x4 12) (if (M1 349 (ix x4)) = 0 then (if r1 = (-1 : Int32) then (run stX9_giveUp (1, [], [x1, x2, x3, (x4 + (1 : Int32))], M1)) else (gd (okI x4 12) (some (r1, (up2 M1 349 (ix x4) (1 : Int32)))))) else (run stX9_giveUp (1, [], [x1, x2, x3, (x4 + (1 : Int32))], M1))))))))) := by
  rw [run_eq]
  show (bX9_giveUp_1 x1 x2 x3 x4 M).bind _ = _
  simp only [bX9_giveUp_1, ite_b, gd_b, cl_b, Option.bind_some]
theorem eX9_takes_0 (x1 : Int32) (x2 : Int32) (x3 : Int32) (M : Mm) : run stX9_takes (0, [], [x1, x2, x3], M) = run stX9_takes (1, [], [x1, x2, x3, ((6 : Int32) * ((1 : Int32) - x2)), ((6 : Int32) * ((1 : Int32) - x2))], M) := by
  rw [run_eq]
  show (bX9_takes_0 x1 x2 x3 M).bind _ = _
  simp only [bX9_takes_0, ite_b, gd_b, cl_b, Option.bind_some]
theorem eX9_takes_1 (x1 : Int32) (x2 : Int32) (x3 : Int32) (x4 : Int32) (x5 : Int32) (M : Mm) : run stX9_takes (1, [], [x1, x2, x3, x4, x5], M) = gd (okI ((1 : Int32) - x2) 2) (if (x4 + (M 348 (ix ((1 : Int32) - x2)))) ≤ x5 then (some ((0 : Int32), M)) else (gd (okI x5 12) (if (M 346 (ix x5)) = x3 then (run stX9_takes (1, [], [x1, x2, x3, x4, (x5 + (1 : Int32))], M)) else (cl (fX9_placeOf x1 x3 (M 346 (ix x5)) M) (fun r1 M1 => if r1 = (-1 : Int32) then (gd (okI ((x1 + (2 : Int32)) + x3) 1080) (if (M1 338 2) ≤ (M1 339 (ix ((x1 + (2 : Int32)) + x3))) then (cl (fX9_giveUp x1 x2 x3 M1) (fun r2 M2 => if r2 = (-1 : Int32) then (run stX9_takes (1, [], [x1, x2, x3, x4, (x5 + (1 : Int32))], M2)) else (gd (okI x5 12) (cl (fX9_replace x1 x3 r2 (M 346 (ix x5)) (M2 347 (ix x5)) M2) (fun r3 M3 => run stX9_takes (1, [], [x1, x2, x3, x4, (x5 + (1 : Int32))], M3)))))) else (gd (okI x5 12) (cl (fX9_put x1 x3 (M 346 (ix x5)) (M1 347 (ix x5)) M1) (fun r4 M4 => run stX9_takes (1, [], [x1, x2, x3, x4, (x5 + (1 : Int32))], M4)))))) else (run stX9_takes (1, [], [x1, x2, x3, x4, (x5 + (1 : Int32))], M1))))))) := by
  rw [run_eq]
  show (bX9_takes_1 x1 x2 x3 x4 x5 M).bind _ = _
  simp only [bX9_takes_1, ite_b, gd_b, cl_b, Option.bind_some]
theorem eX9_oldest_0 (x1 : Int32) (x2 : Int32) (M : Mm) : run stX9_oldest (0, [], [x1, x2], M) = run stX9_oldest (1, [], [x1, x2, (-1 : Int32), ((5 : Int32) * x2)], M) := by
  rw [run_eq]
  show (bX9_oldest_0 x1 x2 M).bind _ = _
  simp only [bX9_oldest_0, ite_b, gd_b, cl_b, Option.bind_some]
theorem eX9_oldest_1 (x1 : Int32) (x2 : Int32) (x3 : Int32) (x4 : Int32) (M : Mm) : run stX9_oldest (1, [], [x1, x2, x3, x4], M) = gd (okI ((x1 + (2 : Int32)) + x2) 1080) (if (((5 : Int32) * x2) + (M 339 (ix ((x1 + (2 : Int32)) + x2)))) ≤ x4 then (if x3 = (-1 : Int32) then (some ((-1 : Int32), M)) else (some ((x3 - ((5 : Int32) * x2)), M))) else (gd (okI ((x1 + (50 : Int32)) + x4) 1080) (if x3 = (-1 : Int32) then (run stX9_oldest (2, [], [x1, x2, x3, x4, (M 339 (ix ((x1 + (50 : Int32)) + x4))), (-1 : Int32)], M)) else (gd (okI ((x1 + (50 : Int32)) + x3) 1080) (run stX9_oldest (2, [], [x1, x2, x3, x4, (M 339 (ix ((x1 + (50 : Int32)) + x4))), (M 339 (ix ((x1 + (50 : Int32)) + x3)))], M)))))) := by
  rw [run_eq]
  show (bX9_oldest_1 x1 x2 x3 x4 M).bind _ = _
  simp only [bX9_oldest_1, ite_b, gd_b, cl_b, Option.bind_some]
theorem eX9_oldest_2 (x1 : Int32) (x2 : Int32) (x3 : Int32) (x4 : Int32) (x5 : Int32) (s0 : Int32) (M : Mm) : run stX9_oldest (2, [], [x1, x2, x3, x4, x5, s0], M) = if s0 < x5 then (run stX9_oldest (1, [], [x1, x2, x4, (x4 + (1 : Int32))], M)) else (if x5 = s0 then (gd (okI ((x1 + (10 : Int32)) + x4) 1080) (gd (okI ((x1 + (10 : Int32)) + x3) 1080) (if (M 339 (ix ((x1 + (10 : Int32)) + x3))) ≤ (M 339 (ix ((x1 + (10 : Int32)) + x4))) then (run stX9_oldest (1, [], [x1, x2, x3, (x4 + (1 : Int32))], M)) else (run stX9_oldest (1, [], [x1, x2, x4, (x4 + (1 : Int32))], M))))) else (run stX9_oldest (1, [], [x1, x2, x3, (x4 + (1 : Int32))], M))) := by
  rw [run_eq]
  show (bX9_oldest_2 x1 x2 x3 x4 x5 s0 M).bind _ = _
  simp only [bX9_oldest_2, ite_b, gd_b, cl_b, Option.bind_some]
theorem eX9_ages_0 (x1 : Int32) (x2 : Int32) (M : Mm) : run stX9_ages (0, [], [x1, x2], M) = run stX9_ages (1, [], [x1, x2, ((5 : Int32) * x2)], M) := by
  rw [run_eq]
  show (bX9_ages_0 x1 x2 M).bind _ = _
  simp only [bX9_ages_0, ite_b, gd_b, cl_b, Option.bind_some]
theorem eX9_ages_1 (x1 : Int32) (x2 : Int32) (x3 : Int32) (M : Mm) : run stX9_ages (1, [], [x1, x2, x3], M) = gd (okI ((x1 + (2 : Int32)) + x2) 1080) (if (((5 : Int32) * x2) + (M 339 (ix ((x1 + (2 : Int32)) + x2)))) ≤ x3 then (some ((0 : Int32), M)) else (gd (okI ((x1 + (50 : Int32)) + x3) 1080) (gd (okI ((x1 + (50 : Int32)) + x3) 1080) (if (99 : Int32) ≤ (M 339 (ix ((x1 + (50 : Int32)) + x3))) then (gd (okI ((x1 + (50 : Int32)) + x3) 1080) (run stX9_ages (1, [], [x1, x2, (x3 + (1 : Int32))], (up2 M 339 (ix ((x1 + (50 : Int32)) + x3)) ((M 339 (ix ((x1 + (50 : Int32)) + x3))) + (0 : Int32)))))) else (gd (okI ((x1 + (50 : Int32)) + x3) 1080) (run stX9_ages (1, [], [x1, x2, (x3 + (1 : Int32))], (up2 M 339 (ix ((x1 + (50 : Int32)) + x3)) ((M 339 (ix ((x1 + (50 : Int32)) + x3))) + (1 : Int32)))))))))) := by
  rw [run_eq]
  show (bX9_ages_1 x1 x2 x3 M).bind _ = _
  simp only [bX9_ages_1, ite_b, gd_b, cl_b, Option.bind_some]
theorem eX9_cycles_0 (x1 : Int32) (M : Mm) : run stX9_cycles (0, [], [x1], M) = run stX9_cycles (1, [], [x1, (0 : Int32)], M) := by
  rw [run_eq]
  show (bX9_cycles_0 x1 M).bind _ = _
  simp only [bX9_cycles_0, ite_b, gd_b, cl_b, Option.bind_some]
theorem eX9_cycles_1 (x1 : Int32) (x2 : Int32) (M : Mm) : run stX9_cycles (1, [], [x1, x2], M) = if (M 338 1) ≤ x2 then (some ((0 : Int32), M)) else (cl (fX9_isDead x1 x2 M) (fun r1 M1 => if r1 = 0 then (cl (fX9_rounds x1 x2 M1) (fun r2 M2 => run stX9_cycles (1, [], [x1, (x2 + (1 : Int32))], M2))) else (run stX9_cycles (1, [], [x1, (x2 + (1 : Int32))], M1)))) := by
  rw [run_eq]
  show (bX9_cycles_1 x1 x2 M).bind _ = _
  simp only [bX9_cycles_1, ite_b, gd_b, cl_b, Option.bind_some]
theorem eX9_known_0 (x1 : Int32) (x2 : Int32) (M : Mm) : run stX9_known (0, [], [x1, x2], M) = run stX9_known (1, [], [x1, x2, (0 : Int32), (0 : Int32)], M) := by
  rw [run_eq]
  show (bX9_known_0 x1 x2 M).bind _ = _
  simp only [bX9_known_0, ite_b, gd_b, cl_b, Option.bind_some]
theorem eX9_known_1 (x1 : Int32) (x2 : Int32) (x3 : Int32) (x4 : Int32) (M : Mm) : run stX9_known (1, [], [x1, x2, x3, x4], M) = if (M 338 1) ≤ x4 then (some (x3, M)) else (if x4 = x2 then (run stX9_known (1, [], [x1, x2, (x3 + (0 : Int32)), (x4 + (1 : Int32))], M)) else (cl (fX9_isDead x1 x4 M) (fun r1 M1 => if r1 = 0 then (cl (fX9_placeOf x1 x4 x2 M1) (fun r2 M2 => if r2 = (-1 : Int32) then (run stX9_known (1, [], [x1, x2, (x3 + (0 : Int32)), (x4 + (1 : Int32))], M2)) else (run stX9_known (1, [], [x1, x2, (x3 + (1 : Int32)), (x4 + (1 : Int32))], M2)))) else (run stX9_known (1, [], [x1, x2, (x3 + (0 : Int32)), (x4 + (1 : Int32))], M1))))) := by
  rw [run_eq]
  show (bX9_known_1 x1 x2 x3 x4 M).bind _ = _
  simp only [bX9_known_1, ite_b, gd_b, cl_b, Option.bind_some]
theorem eX9_viewOf_0 (x1 : Int32) (M : Mm) : run stX9_viewOf (0, [], [x1], M) = run stX9_viewOf (1, [], [x1, (0 : Int32), (0 : Int32)], M) := by
  rw [run_eq]
  show (bX9_viewOf_0 x1 M).bind _ = _
  simp only [bX9_viewOf_0, ite_b, gd_b, cl_b, Option.bind_some]
theorem eX9_viewOf_1 (x1 : Int32) (x2 : Int32) (x3 : Int32) (M : Mm) : run stX9_viewOf (1, [], [x1, x2, x3], M) = gd (okI ((2 : Int32) + x1) 1080) (if (M 339 (ix ((2 : Int32) + x1))) ≤ x3 then (some (x2, M)) else (gd (okI (((10 : Int32) + ((5 : Int32) * x1)) + x3) 1080) (run stX9_viewOf (1, [], [x1, (x2 ||| (ish (1 : Int32) (M 339 (ix (((10 : Int32) + ((5 : Int32) * x1)) + x3))))), (x3 + (1 : Int32))], M)))) := by
  rw [run_eq]
  show (bX9_viewOf_1 x1 x2 x3 M).bind _ = _
  simp only [bX9_viewOf_1, ite_b, gd_b, cl_b, Option.bind_some]
theorem eX9_keepPast_0  (M : Mm) : run stX9_keepPast (0, [], [], M) = run stX9_keepPast (1, [], [(0 : Int32)], M) := by
  rw [run_eq]
  show (bX9_keepPast_0  M).bind _ = _
  simp only [bX9_keepPast_0, ite_b, gd_b, cl_b, Option.bind_some]
theorem eX9_keepPast_1 (x1 : Int32) (M : Mm) : run stX9_keepPast (1, [], [x1], M) = if (630 : Int32) ≤ x1 then (run stX9_keepPast (2, [], [], M)) else (if (M 338 5) = (8 : Int32) then (gd (okI ((180 : Int32) + x1) 1080) (gd (okI ((90 : Int32) + x1) 1080) (run stX9_keepPast (1, [], [(x1 + (1 : Int32))], (up2 M 339 (ix ((90 : Int32) + x1)) (M 339 (ix ((180 : Int32) + x1)))))))) else (run stX9_keepPast (2, [], [], M))) := by
  rw [run_eq]
  show (bX9_keepPast_1 x1 M).bind _ = _
  simp only [bX9_keepPast_1, ite_b, gd_b, cl_b, Option.bind_some]
theorem eX9_keepPast_2  (M : Mm) : run stX9_keepPast (2, [], [], M) = if (M 338 5) = (8 : Int32) then (run stX9_keepPast (3, [], [(1 : Int32), (M 338 5)], M)) else (run stX9_keepPast (3, [], [(0 : Int32), (M 338 5)], M)) := by
  rw [run_eq]
  show (bX9_keepPast_2  M).bind _ = _
  simp only [bX9_keepPast_2, ite_b, gd_b, cl_b, Option.bind_some]
theorem eX9_keepPast_3 (s0 : Int32) (s1 : Int32) (M : Mm) : run stX9_keepPast (3, [], [s0, s1], M) = cl (fX9_copyRow (0 : Int32) ((90 : Int32) + ((90 : Int32) * ((up2 M 338 5 (s1 - s0)) 338 5))) (up2 M 338 5 (s1 - s0))) (fun r1 M1 => some ((0 : Int32), (up2 M1 338 5 ((M1 338 5) + (1 : Int32))))) := by
  rw [run_eq]
  show (bX9_keepPast_3 s0 s1 M).bind _ = _
  simp only [bX9_keepPast_3, ite_b, gd_b, cl_b, Option.bind_some]
theorem eX9_entries_0  (M : Mm) : run stX9_entries (0, [], [], M) = run stX9_entries (1, [], [(0 : Int32), (0 : Int32)], M) := by
  rw [run_eq]
  show (bX9_entries_0  M).bind _ = _
  simp only [bX9_entries_0, ite_b, gd_b, cl_b, Option.bind_some]
theorem eX9_entries_1 (x1 : Int32) (x2 : Int32) (M : Mm) : run stX9_entries (1, [], [x1, x2], M) = if (M 338 1) ≤ x2 then (some (x1, M)) else (gd (okI ((2 : Int32) + x2) 1080) (run stX9_entries (1, [], [(x1 + (M 339 (ix ((2 : Int32) + x2)))), (x2 + (1 : Int32))], M))) := by
  rw [run_eq]
  show (bX9_entries_1 x1 x2 M).bind _ = _
  simp only [bX9_entries_1, ite_b, gd_b, cl_b, Option.bind_some]
theorem eX9_cycle_0 (x1 : Int32) (M : Mm) : run stX9_cycle (0, [], [x1], M) = cl (fX9_in (x1).toInt64 (1 : Int64) (20 : Int64) M) (fun r1 M1 => if r1 = 0 then (some ((-3 : Int32), M1)) else (cl (fX9_keepPast M1) (fun r2 M2 => run stX9_cycle (1, [], [x1, (0 : Int32)], M2)))) := by
  rw [run_eq]
  show (bX9_cycle_0 x1 M).bind _ = _
  simp only [bX9_cycle_0, ite_b, gd_b, cl_b, Option.bind_some]
theorem eX9_cycle_1 (x1 : Int32) (x2 : Int32) (M : Mm) : run stX9_cycle (1, [], [x1, x2], M) = if x1 ≤ x2 then (cl (fX9_entries M) (fun r1 M1 => some (r1, M1))) else (cl (fX9_cycles (0 : Int32) M) (fun r2 M2 => run stX9_cycle (1, [], [x1, (x2 + (1 : Int32))], M2))) := by
  rw [run_eq]
  show (bX9_cycle_1 x1 x2 M).bind _ = _
  simp only [bX9_cycle_1, ite_b, gd_b, cl_b, Option.bind_some]
theorem eX9_ones_0 (x0 : Int32) (M : Mm) : run stX9_ones (0, [], [x0], M) = run stX9_ones (1, [], [x0, (0 : Int32), (0 : Int32)], M) := by
  rw [run_eq]
  show (bX9_ones_0 x0 M).bind _ = _
  simp only [bX9_ones_0, ite_b, gd_b, cl_b, Option.bind_some]
theorem eX9_ones_1 (x0 : Int32) (x1 : Int32) (x2 : Int32) (M : Mm) : run stX9_ones (1, [], [x0, x1, x2], M) = if (8 : Int32) ≤ x2 then (some (x1, M)) else (run stX9_ones (1, [], [x0, (x1 + ((isr x0 x2) &&& (1 : Int32))), (x2 + (1 : Int32))], M)) := by
  rw [run_eq]
  show (bX9_ones_1 x0 x1 x2 M).bind _ = _
  simp only [bX9_ones_1, ite_b, gd_b, cl_b, Option.bind_some]
theorem eX9_forgotten_0 (x1 : Int32) (M : Mm) : run stX9_forgotten (0, [], [x1], M) = cl (fX9_isNode x1 M) (fun r1 M1 => if r1 = 0 then (some ((-2 : Int32), M1)) else (cl (fX9_isDead (0 : Int32) x1 M1) (fun r2 M2 => if r2 = 0 then (some ((-4 : Int32), M2)) else (cl (fX9_copyRow (0 : Int32) (990 : Int32) M2) (fun r3 M3 => run stX9_forgotten (1, [], [x1, (0 : Int32)], M3)))))) := by
  rw [run_eq]
  show (bX9_forgotten_0 x1 M).bind _ = _
  simp only [bX9_forgotten_0, ite_b, gd_b, cl_b, Option.bind_some]
theorem eX9_forgotten_1 (x1 : Int32) (x2 : Int32) (M : Mm) : run stX9_forgotten (1, [], [x1, x2], M) = if (60 : Int32) ≤ x2 then (run stX9_forgotten (2, [], [x1, x2], M)) else (cl (fX9_known (990 : Int32) x1 M) (fun r1 M1 => if r1 ≤ 0 then (run stX9_forgotten (2, [], [x1, x2], M1)) else (cl (fX9_cycles (990 : Int32) M1) (fun r2 M2 => run stX9_forgotten (1, [], [x1, (x2 + (1 : Int32))], M2))))) := by
  rw [run_eq]
  show (bX9_forgotten_1 x1 x2 M).bind _ = _
  simp only [bX9_forgotten_1, ite_b, gd_b, cl_b, Option.bind_some]
theorem eX9_forgotten_2 (x1 : Int32) (x2 : Int32) (M : Mm) : run stX9_forgotten (2, [], [x1, x2], M) = cl (fX9_known (990 : Int32) x1 M) (fun r1 M1 => if r1 = 0 then (some (x2, M1)) else (some ((-1 : Int32), M1))) := by
  rw [run_eq]
  show (bX9_forgotten_2 x1 x2 M).bind _ = _
  simp only [bX9_forgotten_2, ite_b, gd_b, cl_b, Option.bind_some]
theorem eX9_extreme_0 (x1 : Int32) (x2 : Int32) (M : Mm) : run stX9_extreme (0, [], [x1, x2], M) = run stX9_extreme (1, [], [x1, x2, (-1 : Int32), (0 : Int32)], M) := by
  rw [run_eq]
  show (bX9_extreme_0 x1 x2 M).bind _ = _
  simp only [bX9_extreme_0, ite_b, gd_b, cl_b, Option.bind_some]
theorem eX9_extreme_1 (x1 : Int32) (x2 : Int32) (x3 : Int32) (x4 : Int32) (M : Mm) : run stX9_extreme (1, [], [x1, x2, x3, x4], M) = if (M 338 1) ≤ x4 then (some (x3, M)) else (cl (fX9_isDead x1 x4 M) (fun r1 M1 => if r1 = 0 then (cl (fX9_known x1 x4 M1) (fun r2 M2 => if x3 = (-1 : Int32) then (run stX9_extreme (1, [], [x1, x2, r2, (x4 + (1 : Int32))], M2)) else (if x2 = 0 then (if x3 ≤ r2 then (run stX9_extreme (1, [], [x1, x2, x3, (x4 + (1 : Int32))], M2)) else (run stX9_extreme (1, [], [x1, x2, r2, (x4 + (1 : Int32))], M2))) else (if r2 ≤ x3 then (run stX9_extreme (1, [], [x1, x2, x3, (x4 + (1 : Int32))], M2)) else (run stX9_extreme (1, [], [x1, x2, r2, (x4 + (1 : Int32))], M2)))))) else (run stX9_extreme (1, [], [x1, x2, x3, (x4 + (1 : Int32))], M1)))) := by
  rw [run_eq]
  show (bX9_extreme_1 x1 x2 x3 x4 M).bind _ = _
  simp only [bX9_extreme_1, ite_b, gd_b, cl_b, Option.bind_some]
theorem eX9_spread_0 (x1 : Int32) (M : Mm) : run stX9_spread (0, [], [x1], M) = cl (fX9_in (x1).toInt64 (0 : Int64) (60 : Int64) M) (fun r1 M1 => if r1 = 0 then (some ((-3 : Int32), M1)) else (cl (fX9_alive (0 : Int32) M1) (fun r2 M2 => if r2 = 0 then (some ((-4 : Int32), M2)) else (cl (fX9_copyRow (0 : Int32) (990 : Int32) M2) (fun r3 M3 => run stX9_spread (1, [], [x1, (0 : Int32)], M3)))))) := by
  rw [run_eq]
  show (bX9_spread_0 x1 M).bind _ = _
  simp only [bX9_spread_0, ite_b, gd_b, cl_b, Option.bind_some]
theorem eX9_spread_1 (x1 : Int32) (x2 : Int32) (M : Mm) : run stX9_spread (1, [], [x1, x2], M) = if x1 ≤ x2 then (cl (fX9_extreme (990 : Int32) (1 : Int32) M) (fun r1 M1 => cl (fX9_extreme (990 : Int32) (0 : Int32) M1) (fun r2 M2 => some ((r1 - r2), M2)))) else (cl (fX9_cycles (990 : Int32) M) (fun r3 M3 => run stX9_spread (1, [], [x1, (x2 + (1 : Int32))], M3))) := by
  rw [run_eq]
  show (bX9_spread_1 x1 x2 M).bind _ = _
  simp only [bX9_spread_1, ite_b, gd_b, cl_b, Option.bind_some]
theorem eX9_far_0 (x1 : Int32) (x2 : Int32) (M : Mm) : run stX9_far (0, [], [x1, x2], M) = cl (fX9_isNode x1 M) (fun r1 M1 => if r1 = 0 then (some ((-2 : Int32), M1)) else (cl (fX9_isNode x2 M1) (fun r2 M2 => if r2 = 0 then (some ((-2 : Int32), M2)) else (if x1 = x2 then (some ((-2 : Int32), M2)) else (cl (fX9_isDead (0 : Int32) x1 M2) (fun r3 M3 => if r3 = 0 then (cl (fX9_isDead (0 : Int32) x2 M3) (fun r4 M4 => if r4 = 0 then (run stX9_far (1, [], [x2, (ish (1 : Int32) x1), (1 : Int32)], M4)) else (some ((-4 : Int32), M4)))) else (some ((-4 : Int32), M3)))))))) := by
  rw [run_eq]
  show (bX9_far_0 x1 x2 M).bind _ = _
  simp only [bX9_far_0, ite_b, gd_b, cl_b, Option.bind_some]
theorem eX9_far_1 (x2 : Int32) (x3 : Int32) (x4 : Int32) (M : Mm) : run stX9_far (1, [], [x2, x3, x4], M) = if (M 338 1) ≤ x4 then (some ((-1 : Int32), M)) else (run stX9_far (2, [], [x2, x3, x4, x3, (0 : Int32)], M)) := by
  rw [run_eq]
  show (bX9_far_1 x2 x3 x4 M).bind _ = _
  simp only [bX9_far_1, ite_b, gd_b, cl_b, Option.bind_some]
theorem eX9_far_2 (x2 : Int32) (x3 : Int32) (x4 : Int32) (x5 : Int32) (x6 : Int32) (M : Mm) : run stX9_far (2, [], [x2, x3, x4, x5, x6], M) = if (M 338 1) ≤ x6 then (cl (fX9_has x5 x2 M) (fun r1 M1 => if r1 = 0 then (run stX9_far (1, [], [x2, x5, (x4 + (1 : Int32))], M1)) else (some (x4, M1)))) else (cl (fX9_has x3 x6 M) (fun r2 M2 => if r2 = 0 then (run stX9_far (2, [], [x2, x3, x4, (x5 ||| (0 : Int32)), (x6 + (1 : Int32))], M2)) else (cl (fX9_viewOf x6 M2) (fun r3 M3 => cl (fX9_alive (0 : Int32) M3) (fun r4 M4 => run stX9_far (2, [], [x2, x3, x4, (x5 ||| (r3 &&& r4)), (x6 + (1 : Int32))], M4)))))) := by
  rw [run_eq]
  show (bX9_far_2 x2 x3 x4 x5 x6 M).bind _ = _
  simp only [bX9_far_2, ite_b, gd_b, cl_b, Option.bind_some]
theorem eX9_parts_0  (M : Mm) : run stX9_parts (0, [], [], M) = cl (fX9_alive (0 : Int32) M) (fun r1 M1 => run stX9_parts (1, [], [r1, (0 : Int32)], M1)) := by
  rw [run_eq]
  show (bX9_parts_0  M).bind _ = _
  simp only [bX9_parts_0, ite_b, gd_b, cl_b, Option.bind_some]
theorem eX9_parts_1 (x1 : Int32) (x2 : Int32) (M : Mm) : run stX9_parts (1, [], [x1, x2], M) = if x1 = 0 then (some (x2, M)) else (run stX9_parts (2, [], [x1, x2, (x1 &&& (-x1)), (0 : Int32)], M)) := by
  rw [run_eq]
  show (bX9_parts_1 x1 x2 M).bind _ = _
  simp only [bX9_parts_1, ite_b, gd_b, cl_b, Option.bind_some]
theorem eX9_parts_2 (x1 : Int32) (x2 : Int32) (x3 : Int32) (x4 : Int32) (M : Mm) : run stX9_parts (2, [], [x1, x2, x3, x4], M) = if (M 338 1) ≤ x4 then (run stX9_parts (1, [], [(x1 &&& (x3 ^^^ (-1 : Int32))), (x2 + (1 : Int32))], M)) else (run stX9_parts (3, [], [x1, x2, x3, x4, (0 : Int32)], M)) := by
  rw [run_eq]
  show (bX9_parts_2 x1 x2 x3 x4 M).bind _ = _
  simp only [bX9_parts_2, ite_b, gd_b, cl_b, Option.bind_some]
theorem eX9_parts_3 (x1 : Int32) (x2 : Int32) (x3 : Int32) (x4 : Int32) (x5 : Int32) (M : Mm) : run stX9_parts (3, [], [x1, x2, x3, x4, x5], M) = if (M 338 1) ≤ x5 then (run stX9_parts (2, [], [x1, x2, x3, (x4 + (1 : Int32))], M)) else (cl (fX9_viewOf x5 M) (fun r1 M1 => cl (fX9_alive (0 : Int32) M1) (fun r2 M2 => cl (fX9_has x3 x5 M2) (fun r3 M3 => if r3 = 0 then (run stX9_parts (4, [], [x1, x2, x4, x5, (r1 &&& r2), (0 : Int32), x3], M3)) else (run stX9_parts (4, [], [x1, x2, x4, x5, (r1 &&& r2), (r1 &&& r2), x3], M3)))))) := by
  rw [run_eq]
  show (bX9_parts_3 x1 x2 x3 x4 x5 M).bind _ = _
  simp only [bX9_parts_3, ite_b, gd_b, cl_b, Option.bind_some]
theorem eX9_parts_4 (x1 : Int32) (x2 : Int32) (x4 : Int32) (x5 : Int32) (x6 : Int32) (s0 : Int32) (s1 : Int32) (M : Mm) : run stX9_parts (4, [], [x1, x2, x4, x5, x6, s0, s1], M) = cl (fX9_alive (0 : Int32) M) (fun r1 M1 => cl (fX9_has r1 x5 M1) (fun r2 M2 => if r2 = 0 then (run stX9_parts (3, [], [x1, x2, ((s1 ||| s0) ||| (0 : Int32)), x4, (x5 + (1 : Int32))], M2)) else (if (x6 &&& (s1 ||| s0)) = 0 then (run stX9_parts (3, [], [x1, x2, ((s1 ||| s0) ||| (0 : Int32)), x4, (x5 + (1 : Int32))], M2)) else (run stX9_parts (3, [], [x1, x2, ((s1 ||| s0) ||| (ish (1 : Int32) x5)), x4, (x5 + (1 : Int32))], M2))))) := by
  rw [run_eq]
  show (bX9_parts_4 x1 x2 x4 x5 x6 s0 s1 M).bind _ = _
  simp only [bX9_parts_4, ite_b, gd_b, cl_b, Option.bind_some]
theorem eX9_add_0 (x1 : Int32) (x2 : Int32) (M : Mm) : run stX9_add (0, [], [x1, x2], M) = cl (fX9_isRing x1 M) (fun r1 M1 => if r1 = 0 then (some ((-2 : Int32), M1)) else (cl (fX9_in (x2).toInt64 (-999 : Int64) (999 : Int64) M1) (fun r2 M2 => if r2 = 0 then (some ((-3 : Int32), M2)) else (gd (okI x1 3) (if 0 ≤ (M2 342 (ix x1)) then (gd (okI x1 3) (if (M2 342 (ix x1)) = (8 : Int32) then (some ((-13 : Int32), M2)) else (gd (okI x1 3) (run stX9_add (1, [], [x1, x2, (M2 342 (ix x1))], M2))))) else (some ((-11 : Int32), M2))))))) := by
  rw [run_eq]
  show (bX9_add_0 x1 x2 M).bind _ = _
  simp only [bX9_add_0, ite_b, gd_b, cl_b, Option.bind_some]
theorem eX9_add_1 (x1 : Int32) (x2 : Int32) (x3 : Int32) (M : Mm) : run stX9_add (1, [], [x1, x2, x3], M) = if x3 ≤ (1 : Int32) then (gd (okI x1 3) (if (M 342 (ix x1)) ≤ 0 then (run stX9_add (2, [], [x1, x2, (0 : Int32), ((8 : Int32) * x1)], M)) else (run stX9_add (2, [], [x1, x2, (1 : Int32), ((8 : Int32) * x1)], M)))) else (gd (okI ((((8 : Int32) * x1) + x3) - (1 : Int32)) 24) (gd (okI (((8 : Int32) * x1) + x3) 24) (run stX9_add (1, [], [x1, x2, (x3 + (-1 : Int32))], (up2 M 343 (ix (((8 : Int32) * x1) + x3)) (M 343 (ix ((((8 : Int32) * x1) + x3) - (1 : Int32))))))))) := by
  rw [run_eq]
  show (bX9_add_1 x1 x2 x3 M).bind _ = _
  simp only [bX9_add_1, ite_b, gd_b, cl_b, Option.bind_some]
theorem eX9_add_2 (x1 : Int32) (x2 : Int32) (s0 : Int32) (s1 : Int32) (M : Mm) : run stX9_add (2, [], [x1, x2, s0, s1], M) = gd (okI (s1 + s0) 24) (gd (okI x1 3) (gd (okI x1 3) (gd (okI x1 3) (some (((up2 (up2 M 343 (ix (s1 + s0)) x2) 342 (ix x1) (((up2 M 343 (ix (s1 + s0)) x2) 342 (ix x1)) + (1 : Int32))) 342 (ix x1)), (up2 (up2 M 343 (ix (s1 + s0)) x2) 342 (ix x1) (((up2 M 343 (ix (s1 + s0)) x2) 342 (ix x1)) + (1 : Int32)))))))) := by
  rw [run_eq]
  show (bX9_add_2 x1 x2 s0 s1 M).bind _ = _
  simp only [bX9_add_2, ite_b, gd_b, cl_b, Option.bind_some]
theorem eX9_goesOn_0 (x1 : Int32) (M : Mm) : run stX9_goesOn (0, [], [x1], M) = gd (okI ((8 : Int32) * x1) 24) (run stX9_goesOn (1, [], [x1, (M 343 (ix ((8 : Int32) * x1))), (1 : Int32)], M)) := by
  rw [run_eq]
  show (bX9_goesOn_0 x1 M).bind _ = _
  simp only [bX9_goesOn_0, ite_b, gd_b, cl_b, Option.bind_some]
theorem eX9_goesOn_1 (x1 : Int32) (x2 : Int32) (x3 : Int32) (M : Mm) : run stX9_goesOn (1, [], [x1, x2, x3], M) = gd (okI x1 3) (if (M 342 (ix x1)) ≤ x3 then (gd (okI x1 3) (gd (okI ((((8 : Int32) * x1) + (M 342 (ix x1))) - (1 : Int32)) 24) (some ((0 : Int32), (up2 M 343 (ix ((((8 : Int32) * x1) + (M 342 (ix x1))) - (1 : Int32))) x2))))) else (gd (okI (((8 : Int32) * x1) + x3) 24) (gd (okI ((((8 : Int32) * x1) + x3) - (1 : Int32)) 24) (run stX9_goesOn (1, [], [x1, x2, (x3 + (1 : Int32))], (up2 M 343 (ix ((((8 : Int32) * x1) + x3) - (1 : Int32))) (M 343 (ix (((8 : Int32) * x1) + x3))))))))) := by
  rw [run_eq]
  show (bX9_goesOn_1 x1 x2 x3 M).bind _ = _
  simp only [bX9_goesOn_1, ite_b, gd_b, cl_b, Option.bind_some]
theorem eX9_step_0 (x1 : Int32) (x2 : Int32) (M : Mm) : run stX9_step (0, [], [x1, x2], M) = cl (fX9_isRing x1 M) (fun r1 M1 => if r1 = 0 then (some ((-2 : Int32), M1)) else (cl (fX9_in (x2).toInt64 (0 : Int64) (99 : Int64) M1) (fun r2 M2 => if r2 = 0 then (some ((-3 : Int32), M2)) else (gd (okI x1 3) (if (1 : Int32) ≤ (M2 342 (ix x1)) then (run stX9_step (1, [], [x1, x2, (0 : Int32)], M2)) else (gd (okI x1 3) (if 0 ≤ (M2 342 (ix x1)) then (some ((-12 : Int32), M2)) else (some ((-11 : Int32), M2))))))))) := by
  rw [run_eq]
  show (bX9_step_0 x1 x2 M).bind _ = _
  simp only [bX9_step_0, ite_b, gd_b, cl_b, Option.bind_some]
theorem eX9_step_1 (x1 : Int32) (x2 : Int32) (x3 : Int32) (M : Mm) : run stX9_step (1, [], [x1, x2, x3], M) = if x2 ≤ x3 then (gd (okI ((8 : Int32) * x1) 24) (some (((M 343 (ix ((8 : Int32) * x1))) + (5000 : Int32)), M))) else (cl (fX9_goesOn x1 M) (fun r1 M1 => run stX9_step (1, [], [x1, x2, (x3 + (1 : Int32))], M1))) := by
  rw [run_eq]
  show (bX9_step_1 x1 x2 x3 M).bind _ = _
  simp only [bX9_step_1, ite_b, gd_b, cl_b, Option.bind_some]
theorem eX9_count_0 (x1 : Int32) (x2 : Int32) (M : Mm) : run stX9_count (0, [], [x1, x2], M) = cl (fX9_isRing x1 M) (fun r1 M1 => if r1 = 0 then (some ((-2 : Int32), M1)) else (cl (fX9_in (x2).toInt64 (1 : Int64) (9 : Int64) M1) (fun r2 M2 => if r2 = 0 then (some ((-3 : Int32), M2)) else (gd (okI x1 3) (if (1 : Int32) ≤ (M2 342 (ix x1)) then (run stX9_count (1, [], [x1, x2], M2)) else (gd (okI x1 3) (if 0 ≤ (M2 342 (ix x1)) then (some ((-12 : Int32), M2)) else (some ((-11 : Int32), M2))))))))) := by
  rw [run_eq]
  show (bX9_count_0 x1 x2 M).bind _ = _
  simp only [bX9_count_0, ite_b, gd_b, cl_b, Option.bind_some]
theorem eX9_count_1 (x1 : Int32) (x2 : Int32) (M : Mm) : run stX9_count (1, [], [x1, x2], M) = gd (okI x1 3) (if (M 342 (ix x1)) ≤ (1 : Int32) then (gd (okI ((8 : Int32) * x1) 24) (some (((M 343 (ix ((8 : Int32) * x1))) + (5000 : Int32)), M))) else (run stX9_count (2, [], [x1, x2, (0 : Int32)], M))) := by
  rw [run_eq]
  show (bX9_count_1 x1 x2 M).bind _ = _
  simp only [bX9_count_1, ite_b, gd_b, cl_b, Option.bind_some]
theorem eX9_count_2 (x1 : Int32) (x2 : Int32) (x3 : Int32) (M : Mm) : run stX9_count (2, [], [x1, x2, x3], M) = if x2 ≤ x3 then (cl (fX9_takesOne x1 M) (fun r1 M1 => run stX9_count (1, [], [x1, x2], M1))) else (cl (fX9_goesOn x1 M) (fun r2 M2 => run stX9_count (2, [], [x1, x2, (x3 + (1 : Int32))], M2))) := by
  rw [run_eq]
  show (bX9_count_2 x1 x2 x3 M).bind _ = _
  simp only [bX9_count_2, ite_b, gd_b, cl_b, Option.bind_some]
theorem eX9_sum_0 (x1 : Int32) (M : Mm) : run stX9_sum (0, [], [x1], M) = cl (fX9_isRing x1 M) (fun r1 M1 => if r1 = 0 then (some ((-2 : Int32), M1)) else (gd (okI x1 3) (if 0 ≤ (M1 342 (ix x1)) then (run stX9_sum (1, [], [x1, (50000 : Int32), (0 : Int32)], M1)) else (some ((-11 : Int32), M1))))) := by
  rw [run_eq]
  show (bX9_sum_0 x1 M).bind _ = _
  simp only [bX9_sum_0, ite_b, gd_b, cl_b, Option.bind_some]
theorem eX9_sum_1 (x1 : Int32) (x2 : Int32) (x3 : Int32) (M : Mm) : run stX9_sum (1, [], [x1, x2, x3], M) = gd (okI x1 3) (if (M 342 (ix x1)) ≤ x3 then (some (x2, M)) else (gd (okI (((8 : Int32) * x1) + x3) 24) (run stX9_sum (1, [], [x1, (x2 + (M 343 (ix (((8 : Int32) * x1) + x3)))), (x3 + (1 : Int32))], M)))) := by
  rw [run_eq]
  show (bX9_sum_1 x1 x2 x3 M).bind _ = _
  simp only [bX9_sum_1, ite_b, gd_b, cl_b, Option.bind_some]
theorem eX9_allNumbers_0  (M : Mm) : run stX9_allNumbers (0, [], [], M) = run stX9_allNumbers (1, [], [(0 : Int32), (0 : Int32)], M) := by
  rw [run_eq]
  show (bX9_allNumbers_0  M).bind _ = _
  simp only [bX9_allNumbers_0, ite_b, gd_b, cl_b, Option.bind_some]
theorem eX9_allNumbers_1 (x1 : Int32) (x2 : Int32) (M : Mm) : run stX9_allNumbers (1, [], [x1, x2], M) = if (3 : Int32) ≤ x2 then (some (x1, M)) else (gd (okI x2 3) (if 0 ≤ (M 342 (ix x2)) then (gd (okI x2 3) (run stX9_allNumbers (1, [], [(x1 + (M 342 (ix x2))), (x2 + (1 : Int32))], M))) else (run stX9_allNumbers (1, [], [(x1 + (0 : Int32)), (x2 + (1 : Int32))], M)))) := by
  rw [run_eq]
  show (bX9_allNumbers_1 x1 x2 M).bind _ = _
  simp only [bX9_allNumbers_1, ite_b, gd_b, cl_b, Option.bind_some]
