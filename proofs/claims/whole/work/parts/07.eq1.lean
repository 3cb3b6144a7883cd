/-! EQUATIONS of the runs, by program: from a method's entry, or a cut, to the next cuts -/
set_option maxRecDepth 100000 in
theorem e_Integer_bitCount (x0 : Int32) (μ : jm) : cj 0 [jI x0] μ = (some (some (jI ((((((((x0 - ((((x0 : Int32).toUInt32 >>> (((1 : Int32) : Int32).toUInt32 &&& Int32.toUInt32 31)).toInt32) &&& (1431655765 : Int32))) &&& (858993459 : Int32)) + ((((x0 - ((((x0 : Int32).toUInt32 >>> (((1 : Int32) : Int32).toUInt32 &&& Int32.toUInt32 31)).toInt32) &&& (1431655765 : Int32)) : Int32).toUInt32 >>> (((2 : Int32) : Int32).toUInt32 &&& Int32.toUInt32 31)).toInt32) &&& (858993459 : Int32))) + (((((x0 - ((((x0 : Int32).toUInt32 >>> (((1 : Int32) : Int32).toUInt32 &&& Int32.toUInt32 31)).toInt32) &&& (1431655765 : Int32))) &&& (858993459 : Int32)) + ((((x0 - ((((x0 : Int32).toUInt32 >>> (((1 : Int32) : Int32).toUInt32 &&& Int32.toUInt32 31)).toInt32) &&& (1431655765 : Int32)) : Int32).toUInt32 >>> (((2 : Int32) : Int32).toUInt32 &&& Int32.toUInt32 31)).toInt32) &&& (858993459 : Int32)) : Int32).toUInt32 >>> (((4 : Int32) : Int32).toUInt32 &&& Int32.toUInt32 31)).toInt32)) &&& (252645135 : Int32)) + (((((((x0 - ((((x0 : Int32).toUInt32 >>> (((1 : Int32) : Int32).toUInt32 &&& Int32.toUInt32 31)).toInt32) &&& (1431655765 : Int32))) &&& (858993459 : Int32)) + ((((x0 - ((((x0 : Int32).toUInt32 >>> (((1 : Int32) : Int32).toUInt32 &&& Int32.toUInt32 31)).toInt32) &&& (1431655765 : Int32)) : Int32).toUInt32 >>> (((2 : Int32) : Int32).toUInt32 &&& Int32.toUInt32 31)).toInt32) &&& (858993459 : Int32))) + (((((x0 - ((((x0 : Int32).toUInt32 >>> (((1 : Int32) : Int32).toUInt32 &&& Int32.toUInt32 31)).toInt32) &&& (1431655765 : Int32))) &&& (858993459 : Int32)) + ((((x0 - ((((x0 : Int32).toUInt32 >>> (((1 : Int32) : Int32).toUInt32 &&& Int32.toUInt32 31)).toInt32) &&& (1431655765 : Int32)) : Int32).toUInt32 >>> (((2 : Int32) : Int32).toUInt32 &&& Int32.toUInt32 31)).toInt32) &&& (858993459 : Int32)) : Int32).toUInt32 >>> (((4 : Int32) : Int32).toUInt32 &&& Int32.toUInt32 31)).toInt32)) &&& (252645135 : Int32) : Int32).toUInt32 >>> (((8 : Int32) : Int32).toUInt32 &&& Int32.toUInt32 31)).toInt32)) + ((((((((x0 - ((((x0 : Int32).toUInt32 >>> (((1 : Int32) : Int32).toUInt32 &&& Int32.toUInt32 31)).toInt32) &&& (1431655765 : Int32))) &&& (858993459 : Int32)) + ((((x0 - ((((x0 : Int32).toUInt32 >>> (((1 : Int32) : Int32).toUInt32 &&& Int32.toUInt32 31)).toInt32) &&& (1431655765 : Int32)) : Int32).toUInt32 >>> (((2 : Int32) : Int32).toUInt32 &&& Int32.toUInt32 31)).toInt32) &&& (858993459 : Int32))) + (((((x0 - ((((x0 : Int32).toUInt32 >>> (((1 : Int32) : Int32).toUInt32 &&& Int32.toUInt32 31)).toInt32) &&& (1431655765 : Int32))) &&& (858993459 : Int32)) + ((((x0 - ((((x0 : Int32).toUInt32 >>> (((1 : Int32) : Int32).toUInt32 &&& Int32.toUInt32 31)).toInt32) &&& (1431655765 : Int32)) : Int32).toUInt32 >>> (((2 : Int32) : Int32).toUInt32 &&& Int32.toUInt32 31)).toInt32) &&& (858993459 : Int32)) : Int32).toUInt32 >>> (((4 : Int32) : Int32).toUInt32 &&& Int32.toUInt32 31)).toInt32)) &&& (252645135 : Int32)) + (((((((x0 - ((((x0 : Int32).toUInt32 >>> (((1 : Int32) : Int32).toUInt32 &&& Int32.toUInt32 31)).toInt32) &&& (1431655765 : Int32))) &&& (858993459 : Int32)) + ((((x0 - ((((x0 : Int32).toUInt32 >>> (((1 : Int32) : Int32).toUInt32 &&& Int32.toUInt32 31)).toInt32) &&& (1431655765 : Int32)) : Int32).toUInt32 >>> (((2 : Int32) : Int32).toUInt32 &&& Int32.toUInt32 31)).toInt32) &&& (858993459 : Int32))) + (((((x0 - ((((x0 : Int32).toUInt32 >>> (((1 : Int32) : Int32).toUInt32 &&& Int32.toUInt32 31)).toInt32) &&& (1431655765 : Int32))) &&& (858993459 : Int32)) + ((((x0 - ((((x0 : Int32).toUInt32 >>> (((1 : Int32) : Int32).toUInt32 &&& Int32.toUInt32 31)).toInt32) &&& (1431655765 : Int32)) : Int32).toUInt32 >>> (((2 : Int32) : Int32).toUInt32 &&& Int32.toUInt32 31)).toInt32) &&& (858993459 : Int32)) : Int32).toUInt32 >>> (((4 : Int32) : Int32).toUInt32 &&& Int32.toUInt32 31)).toInt32)) &&& (252645135 : Int32) : Int32).toUInt32 >>> (((8 : Int32) : Int32).toUInt32 &&& Int32.toUInt32 31)).toInt32) : Int32).toUInt32 >>> (((16 : Int32) : Int32).toUInt32 &&& Int32.toUInt32 31)).toInt32)) &&& (63 : Int32))), μ)) :=
  (cj_it (F := K0) rfl [] 43 _ _).trans rfl
set_option maxRecDepth 100000 in
theorem e_Arrays_fill_IIV (k1 : Nat) (x1 : Int32) (μ : jm) : cj 1 [jR 1006 k1, jI x1] μ = (evj 1 5 [jR 1006 k1, jI x1, jI (0 : Int32), jI (nI 6)] [] μ) :=
  (cj_it (F := K1) rfl [5] 6 _ _).trans rfl
set_option maxRecDepth 100000 in
theorem e_Arrays_fill_IIV_5 (k1 : Nat) (x1 : Int32) (x2 : Int32) (x3 : Int32) (μ : jm) : evj 1 5 [jR 1006 k1, jI x1, jI x2, jI x3] [] μ = (jbr (decide (x3 ≤ x2)) (some (none, μ)) (jgd (inB x2 6) (evj 1 5 [jR 1006 k1, jI x1, jI (x2 + 1), jI x3] [] (sI μ k1 (ix x2) x1)))) :=
  (evj_s (F := K1) rfl [5] 10 rfl).trans rfl
set_option maxRecDepth 100000 in
theorem e_Arrays_fill_JJV (k1 : Nat) (x1 : Int64) (μ : jm) : cj 2 [jR 2008 k1, jL x1] μ = (evj 2 6 [jR 2008 k1, jL x1, jU, jI (0 : Int32), jI (nI 8)] [] μ) :=
  (cj_it (F := K2) rfl [6] 6 _ _).trans rfl
set_option maxRecDepth 100000 in
theorem e_Arrays_fill_JJV_6 (k1 : Nat) (y1 : Int64) (x2 : Int32) (x3 : Int32) (μ : jm) : evj 2 6 [jR 2008 k1, jL y1, jU, jI x2, jI x3] [] μ = (jbr (decide (x3 ≤ x2)) (some (none, μ)) (jgd (inB x2 8) (evj 2 6 [jR 2008 k1, jL y1, jU, jI (x2 + 1), jI x3] [] (sL μ k1 (ix x2) y1)))) :=
  (evj_s (F := K2) rfl [6] 10 rfl).trans rfl
set_option maxRecDepth 100000 in
theorem e_Preconditions_checkIndex (x0 : Int32) (x1 : Int32) (μ : jm) : cj 3 [jI x0, jI x1, jR 94 0] μ = (jbr (decide (x0 < 0)) (none) (jbr (decide (x0 < x1)) (some (some (jI x0), μ)) (none))) :=
  (cj_it (F := K3) rfl [] 8 _ _).trans rfl
set_option maxRecDepth 100000 in
theorem e_String_length (k1 : Nat) (μ : jm) : cj 4 [jR 98 k1] μ = (bI (cj 5 [jR 98 k1] μ) (fun r1 m1 => some (some (jI ((nI (jwl k1)) >>> (r1 &&& 31))), m1))) :=
  (cj_it (F := K4) rfl [] 8 _ _).trans rfl
set_option maxRecDepth 100000 in
theorem e_String_coder (k1 : Nat) (μ : jm) : cj 5 [jR 98 k1] μ = (jbr (decide ((1 : Int32) = 0)) (some (some (jI (((1 : Int32) : Int32).toInt8.toInt32)), μ)) (some (some (jI (((0 : Int32) : Int32).toInt8.toInt32)), μ))) :=
  (cj_it (F := K5) rfl [] 7 _ _).trans rfl
set_option maxRecDepth 100000 in
theorem e_String_charAt (k1 : Nat) (x1 : Int32) (μ : jm) : cj 6 [jR 98 k1, jI x1] μ = (bI (cj 7 [jR 98 k1] μ) (fun r1 m1 => jbr (decide (r1 = 0)) (none) (bI (cj 9 [jR 95 k1, jI x1] m1) (fun r2 m2 => some (some (jI (((r2 : Int32).toUInt32 % 65536).toInt32)), m2))))) :=
  (cj_it (F := K6) rfl [] 9 _ _).trans rfl
set_option maxRecDepth 100000 in
theorem e_String_isLatin1 (k1 : Nat) (μ : jm) : cj 7 [jR 98 k1] μ = (jbr (decide ((1 : Int32) = 0)) (some (some (jI ((0 : Int32) &&& 1)), μ)) (jbr (decide (¬ (0 : Int32) = 0)) (some (some (jI ((0 : Int32) &&& 1)), μ)) (some (some (jI ((1 : Int32) &&& 1)), μ)))) :=
  (cj_it (F := K7) rfl [] 9 _ _).trans rfl
set_option maxRecDepth 100000 in
theorem e_String_checkIndex (x0 : Int32) (x1 : Int32) (μ : jm) : cj 8 [jI x0, jI x1] μ = (bI (cj 3 [jI x0, jI x1, jR 94 0] μ) (fun r1 m1 => some (none, m1))) :=
  (cj_it (F := K8) rfl [] 7 _ _).trans rfl
set_option maxRecDepth 100000 in
theorem e_StringLatin1_charAt (k1 : Nat) (x1 : Int32) (μ : jm) : cj 9 [jR 95 k1, jI x1] μ = (bV (cj 8 [jI x1, jI (nI (jwl k1))] μ) (fun m1 => jgd (inB x1 (jwl k1)) (some (some (jI ((((((jwb k1 (ix x1)) &&& (255 : Int32) : Int32).toUInt32 % 65536).toInt32 : Int32).toUInt32 % 65536).toInt32)), m1)))) :=
  (cj_it (F := K9) rfl [] 12 _ _).trans rfl
set_option maxRecDepth 100000 in
theorem e_Ring_isNote (x0 : Int32) (μ : jm) : cj 10 [jI x0] μ = (jbr (decide (x0 < 0)) (some (some (jI ((0 : Int32) &&& 1)), μ)) (jbr (decide ((12 : Int32) ≤ x0)) (some (some (jI ((0 : Int32) &&& 1)), μ)) (some (some (jI ((1 : Int32) &&& 1)), μ)))) :=
  (cj_it (F := K10) rfl [] 9 _ _).trans rfl
set_option maxRecDepth 100000 in
theorem e_Ring_raised (x0 : Int32) (x1 : Int32) (μ : jm) : cj 11 [jI x0, jI x1] μ = (some (some (jI (((x0 <<< (x1 &&& 31)) ||| (x0 >>> (((12 : Int32) - x1) &&& 31))) &&& (4095 : Int32))), μ)) :=
  (cj_it (F := K11) rfl [] 13 _ _).trans rfl
set_option maxRecDepth 100000 in
theorem e_Ring_near (x0 : Int32) (x1 : Int32) (μ : jm) : cj 12 [jI x0, jI x1] μ = (evj 12 4 [jI x0, jI x1, jI x0, jI (1 : Int32)] [] μ) :=
  (cj_it (F := K12) rfl [4] 5 _ _).trans rfl
set_option maxRecDepth 100000 in
theorem e_Ring_near_4 (x0 : Int32) (x1 : Int32) (x2 : Int32) (x3 : Int32) (μ : jm) : evj 12 4 [jI x0, jI x1, jI x2, jI x3] [] μ = (jbr (decide (x1 < x3)) (some (some (jI x2), μ)) (bI (cj 11 [jI x0, jI x3] μ) (fun r1 m1 => bI (cj 11 [jI x0, jI ((12 : Int32) - x3)] m1) (fun r2 m2 => evj 12 4 [jI x0, jI x1, jI (x2 ||| (r1 ||| r2)), jI (x3 + 1)] [] m2)))) :=
  (evj_s (F := K12) rfl [4] 18 rfl).trans rfl
set_option maxRecDepth 100000 in
theorem e_Ring_filledByOneMore (x0 : Int32) (x1 : Int32) (x2 : Int32) (μ : jm) : cj 13 [jI x0, jI x1, jI x2] μ = (jbr (decide ((x1 &&& (x2 &&& (-x2))) = 0)) (evj 13 49 [jI x0, jI x1, jU, jU, jU, jI ((x2 &&& ((x2 &&& (-x2)) ^^^ (-1 : Int32))) &&& (-(x2 &&& ((x2 &&& (-x2)) ^^^ (-1 : Int32))))), jI ((x2 &&& ((x2 &&& (-x2)) ^^^ (-1 : Int32))) &&& (((x2 &&& ((x2 &&& (-x2)) ^^^ (-1 : Int32))) &&& (-(x2 &&& ((x2 &&& (-x2)) ^^^ (-1 : Int32))))) ^^^ (-1 : Int32))), jI (0 : Int32)] [] μ) (evj 13 49 [jI x0, jI x1, jU, jU, jU, jI ((x2 &&& ((x2 &&& (-x2)) ^^^ (-1 : Int32))) &&& (-(x2 &&& ((x2 &&& (-x2)) ^^^ (-1 : Int32))))), jI ((x2 &&& ((x2 &&& (-x2)) ^^^ (-1 : Int32))) &&& (((x2 &&& ((x2 &&& (-x2)) ^^^ (-1 : Int32))) &&& (-(x2 &&& ((x2 &&& (-x2)) ^^^ (-1 : Int32))))) ^^^ (-1 : Int32))), jI ((0 : Int32) ||| ((x0 &&& (85 : Int32)) <<< ((1 : Int32) &&& 31)))] [] μ)) :=
  (cj_it (F := K13) rfl [49] 37 _ _).trans rfl
set_option maxRecDepth 100000 in
theorem e_Ring_filledByOneMore_49 (x0 : Int32) (x1 : Int32) (x2 : Int32) (x3 : Int32) (x4 : Int32) (μ : jm) : evj 13 49 [jI x0, jI x1, jU, jU, jU, jI x2, jI x3, jI x4] [] μ = (jbr (decide ((x1 &&& x2) = 0)) (jbr (decide ((x1 &&& x3) = 0)) (some (some (jI x4), μ)) (some (some (jI (x4 ||| ((x0 &&& (15 : Int32)) <<< ((4 : Int32) &&& 31)))), μ))) (jbr (decide ((x1 &&& x3) = 0)) (some (some (jI (x4 ||| ((x0 &&& (51 : Int32)) <<< ((2 : Int32) &&& 31)))), μ)) (some (some (jI ((x4 ||| ((x0 &&& (51 : Int32)) <<< ((2 : Int32) &&& 31))) ||| ((x0 &&& (15 : Int32)) <<< ((4 : Int32) &&& 31)))), μ)))) :=
  (evj_s (F := K13) rfl [49] 27 rfl).trans rfl
set_option maxRecDepth 100000 in
theorem e_Ring_isWholeChord (x0 : Int32) (μ : jm) : cj 14 [jI x0] μ = (jbr (decide (((x0 >>> ((7 : Int32) &&& 31)) &&& (1 : Int32)) = 0)) (some (some (jI ((0 : Int32) &&& 1)), μ)) (some (some (jI ((1 : Int32) &&& 1)), μ))) :=
  (cj_it (F := K14) rfl [] 10 _ _).trans rfl
set_option maxRecDepth 100000 in
theorem e_Valley_addDoor (k1 : Nat) (x1 : Int32) (x2 : Int32) (μ : jm) : cj 15 [jR 8 k1, jI x1, jI x2] μ = (bI (cj 16 [jR 1006 (k1 + 1), jI x1, jI x2] μ) (fun r1 m1 => some (some (jI r1), m1))) :=
  (cj_it (F := K15) rfl [] 7 _ _).trans rfl
set_option maxRecDepth 100000 in
theorem e_Valley_join (k1 : Nat) (x1 : Int32) (x2 : Int32) (μ : jm) : cj 16 [jR 1006 k1, jI x1, jI x2] μ = (bI (cj 95 [jI x1] μ) (fun r1 m1 => jbr (decide (r1 = 0)) (some (some (jI (-2 : Int32)), m1)) (bI (cj 95 [jI x2] m1) (fun r2 m2 => jbr (decide (r2 = 0)) (some (some (jI (-2 : Int32)), m2)) (jbr (decide (¬ x1 = x2)) (jgd (inB x1 6) (jbr (decide ((((gI m2 k1 (ix x1)) >>> (x2 &&& 31)) &&& (1 : Int32)) = 0)) (jgd (inB x1 6) (jgd (inB x1 6) (jgd (inB x2 6) (jgd (inB x2 6) (some (some (jI (1 : Int32)), sI (sI m2 k1 (ix x1) ((gI m2 k1 (ix x1)) ||| ((1 : Int32) <<< (x2 &&& 31)))) k1 (ix x2) ((gI (sI m2 k1 (ix x1) ((gI m2 k1 (ix x1)) ||| ((1 : Int32) <<< (x2 &&& 31)))) k1 (ix x2)) ||| ((1 : Int32) <<< (x1 &&& 31))))))))) (some (some (jI (-3 : Int32)), m2)))) (some (some (jI (-2 : Int32)), m2))))))) :=
  (cj_it (F := K16) rfl [] 38 _ _).trans rfl
set_option maxRecDepth 100000 in
theorem e_Valley_addHearing (k1 : Nat) (x1 : Int32) (x2 : Int32) (μ : jm) : cj 17 [jR 8 k1, jI x1, jI x2] μ = (bI (cj 16 [jR 1006 (k1 + 2), jI x1, jI x2] μ) (fun r1 m1 => some (some (jI r1), m1))) :=
  (cj_it (F := K17) rfl [] 7 _ _).trans rfl
set_option maxRecDepth 100000 in
theorem e_Valley_addPerson (k1 : Nat) (x1 : Int32) (x2 : Int32) (x3 : Int32) (μ : jm) : cj 18 [jR 8 k1, jI x1, jI x2, jI x3] μ = (jbr (decide (x1 < 0)) (evj 18 23 [jU, jU, jU, jU] [] μ) (jbr (decide ((5 : Int32) < x1)) (evj 18 23 [jU, jU, jU, jU] [] μ) (bI (cj 10 [jI x2] μ) (fun r1 m1 => jbr (decide (r1 = 0)) (evj 18 23 [jU, jU, jU, jU] [] m1) (bI (cj 95 [jI x3] m1) (fun r2 m2 => jbr (decide (¬ r2 = 0)) (jbr (decide ((gI m2 k1 6) < (7 : Int32))) (jgd (inB (gI m2 k1 6) 7) (jgd (inB (gI (sI m2 (k1 + 3) (ix (gI m2 k1 6)) x1) k1 6) 7) (jgd (inB (gI (sI (sI m2 (k1 + 3) (ix (gI m2 k1 6)) x1) (k1 + 4) (ix (gI (sI m2 (k1 + 3) (ix (gI m2 k1 6)) x1) k1 6)) x2) k1 6) 7) (jgd (inB (gI (sI (sI (sI m2 (k1 + 3) (ix (gI m2 k1 6)) x1) (k1 + 4) (ix (gI (sI m2 (k1 + 3) (ix (gI m2 k1 6)) x1) k1 6)) x2) (k1 + 5) (ix (gI (sI (sI m2 (k1 + 3) (ix (gI m2 k1 6)) x1) (k1 + 4) (ix (gI (sI m2 (k1 + 3) (ix (gI m2 k1 6)) x1) k1 6)) x2) k1 6)) x3) k1 6) 7) (some (some (jI ((gI (sI (sI (sI (sI (sI m2 (k1 + 3) (ix (gI m2 k1 6)) x1) (k1 + 4) (ix (gI (sI m2 (k1 + 3) (ix (gI m2 k1 6)) x1) k1 6)) x2) (k1 + 5) (ix (gI (sI (sI m2 (k1 + 3) (ix (gI m2 k1 6)) x1) (k1 + 4) (ix (gI (sI m2 (k1 + 3) (ix (gI m2 k1 6)) x1) k1 6)) x2) k1 6)) x3) (k1 + 6) (ix (gI (sI (sI (sI m2 (k1 + 3) (ix (gI m2 k1 6)) x1) (k1 + 4) (ix (gI (sI m2 (k1 + 3) (ix (gI m2 k1 6)) x1) k1 6)) x2) (k1 + 5) (ix (gI (sI (sI m2 (k1 + 3) (ix (gI m2 k1 6)) x1) (k1 + 4) (ix (gI (sI m2 (k1 + 3) (ix (gI m2 k1 6)) x1) k1 6)) x2) k1 6)) x3) k1 6)) (-1 : Int32)) k1 6 ((gI (sI (sI (sI (sI m2 (k1 + 3) (ix (gI m2 k1 6)) x1) (k1 + 4) (ix (gI (sI m2 (k1 + 3) (ix (gI m2 k1 6)) x1) k1 6)) x2) (k1 + 5) (ix (gI (sI (sI m2 (k1 + 3) (ix (gI m2 k1 6)) x1) (k1 + 4) (ix (gI (sI m2 (k1 + 3) (ix (gI m2 k1 6)) x1) k1 6)) x2) k1 6)) x3) (k1 + 6) (ix (gI (sI (sI (sI m2 (k1 + 3) (ix (gI m2 k1 6)) x1) (k1 + 4) (ix (gI (sI m2 (k1 + 3) (ix (gI m2 k1 6)) x1) k1 6)) x2) (k1 + 5) (ix (gI (sI (sI m2 (k1 + 3) (ix (gI m2 k1 6)) x1) (k1 + 4) (ix (gI (sI m2 (k1 + 3) (ix (gI m2 k1 6)) x1) k1 6)) x2) k1 6)) x3) k1 6)) (-1 : Int32)) k1 6) + (1 : Int32))) k1 6) - (1 : Int32))), sI (sI (sI (sI (sI m2 (k1 + 3) (ix (gI m2 k1 6)) x1) (k1 + 4) (ix (gI (sI m2 (k1 + 3) (ix (gI m2 k1 6)) x1) k1 6)) x2) (k1 + 5) (ix (gI (sI (sI m2 (k1 + 3) (ix (gI m2 k1 6)) x1) (k1 + 4) (ix (gI (sI m2 (k1 + 3) (ix (gI m2 k1 6)) x1) k1 6)) x2) k1 6)) x3) (k1 + 6) (ix (gI (sI (sI (sI m2 (k1 + 3) (ix (gI m2 k1 6)) x1) (k1 + 4) (ix (gI (sI m2 (k1 + 3) (ix (gI m2 k1 6)) x1) k1 6)) x2) (k1 + 5) (ix (gI (sI (sI m2 (k1 + 3) (ix (gI m2 k1 6)) x1) (k1 + 4) (ix (gI (sI m2 (k1 + 3) (ix (gI m2 k1 6)) x1) k1 6)) x2) k1 6)) x3) k1 6)) (-1 : Int32)) k1 6 ((gI (sI (sI (sI (sI m2 (k1 + 3) (ix (gI m2 k1 6)) x1) (k1 + 4) (ix (gI (sI m2 (k1 + 3) (ix (gI m2 k1 6)) x1) k1 6)) x2) (k1 + 5) (ix (gI (sI (sI m2 (k1 + 3) (ix (gI m2 k1 6)) x1) (k1 + 4) (ix (gI (sI m2 (k1 + 3) (ix (gI m2 k1 6)) x1) k1 6)) x2) k1 6)) x3) (k1 + 6) (ix (gI (sI (sI (sI m2 (k1 + 3) (ix (gI m2 k1 6)) x1) (k1 + 4) (ix (gI (sI m2 (k1 + 3) (ix (gI m2 k1 6)) x1) k1 6)) x2) (k1 + 5) (ix (gI (sI (sI m2 (k1 + 3) (ix (gI m2 k1 6)) x1) (k1 + 4) (ix (gI (sI m2 (k1 + 3) (ix (gI m2 k1 6)) x1) k1 6)) x2) k1 6)) x3) k1 6)) (-1 : Int32)) k1 6) + (1 : Int32)))))))) (some (some (jI (-4 : Int32)), m2))) (evj 18 23 [jU, jU, jU, jU] [] m2))))))) :=
  (cj_it (F := K18) rfl [23] 51 _ _).trans rfl
set_option maxRecDepth 100000 in
theorem e_Valley_addPerson_23  (μ : jm) : evj 18 23 [jU, jU, jU, jU] [] μ = (some (some (jI (-2 : Int32)), μ)) :=
  (evj_s (F := K18) rfl [23] 3 rfl).trans rfl
set_option maxRecDepth 100000 in
theorem e_Valley_addMates (k1 : Nat) (x1 : Int32) (x2 : Int32) (μ : jm) : cj 19 [jR 8 k1, jI x1, jI x2] μ = (bI (cj 20 [jR 8 k1, jI x1] μ) (fun r1 m1 => jbr (decide (r1 = 0)) (evj 19 21 [jU, jU, jU] [] m1) (bI (cj 20 [jR 8 k1, jI x2] m1) (fun r2 m2 => jbr (decide (r2 = 0)) (evj 19 21 [jU, jU, jU] [] m2) (jbr (decide (¬ x1 = x2)) (jgd (inB x1 7) (jbr (decide (¬ (gI m2 (k1 + 6) (ix x1)) = (-1 : Int32))) (evj 19 44 [jU, jU, jU] [] m2) (jgd (inB x2 7) (jbr (decide ((gI m2 (k1 + 6) (ix x2)) = (-1 : Int32))) (jgd (inB x1 7) (jgd (inB x2 7) (some (some (jI (1 : Int32)), sI (sI m2 (k1 + 6) (ix x1) x2) (k1 + 6) (ix x2) x1)))) (evj 19 44 [jU, jU, jU] [] m2))))) (evj 19 21 [jU, jU, jU] [] m2)))))) :=
  (cj_it (F := K19) rfl [21, 44] 36 _ _).trans rfl
set_option maxRecDepth 100000 in
theorem e_Valley_addMates_21  (μ : jm) : evj 19 21 [jU, jU, jU] [] μ = (some (some (jI (-2 : Int32)), μ)) :=
  (evj_s (F := K19) rfl [21, 44] 3 rfl).trans rfl
set_option maxRecDepth 100000 in
theorem e_Valley_addMates_44  (μ : jm) : evj 19 44 [jU, jU, jU] [] μ = (some (some (jI (-3 : Int32)), μ)) :=
  (evj_s (F := K19) rfl [21, 44] 3 rfl).trans rfl
set_option maxRecDepth 100000 in
theorem e_Valley_isPerson (k1 : Nat) (x1 : Int32) (μ : jm) : cj 20 [jR 8 k1, jI x1] μ = (jbr (decide (x1 < 0)) (some (some (jI ((0 : Int32) &&& 1)), μ)) (jbr (decide ((gI μ k1 6) ≤ x1)) (some (some (jI ((0 : Int32) &&& 1)), μ)) (some (some (jI ((1 : Int32) &&& 1)), μ)))) :=
  (cj_it (F := K20) rfl [] 10 _ _).trans rfl
set_option maxRecDepth 100000 in
theorem e_Valley_move (k1 : Nat) (x1 : Int32) (x2 : Int32) (μ : jm) : cj 21 [jR 8 k1, jI x1, jI x2] μ = (bI (cj 20 [jR 8 k1, jI x1] μ) (fun r1 m1 => jbr (decide (r1 = 0)) (some (some (jI (-2 : Int32)), m1)) (bI (cj 95 [jI x2] m1) (fun r2 m2 => jbr (decide (¬ r2 = 0)) (jgd (inB x1 7) (jgd (inB x1 7) (some (some (jI (gI m2 (k1 + 5) (ix x1))), sI m2 (k1 + 5) (ix x1) x2)))) (some (some (jI (-2 : Int32)), m2)))))) :=
  (cj_it (F := K21) rfl [] 20 _ _).trans rfl
set_option maxRecDepth 100000 in
theorem e_Valley_addChord (k1 : Nat) (x1 : Int32) (x2 : Int32) (x3 : Int32) (x4 : Int32) (μ : jm) : cj 22 [jR 8 k1, jI x1, jI x2, jI x3, jI x4] μ = (bI (cj 10 [jI x1] μ) (fun r1 m1 => jbr (decide (r1 = 0)) (evj 22 35 [jR 8 k1, jI x1, jI x2, jI x3, jI x4, jU, jU] [] m1) (bI (cj 10 [jI x2] m1) (fun r2 m2 => jbr (decide (r2 = 0)) (evj 22 35 [jR 8 k1, jI x1, jI x2, jI x3, jI x4, jU, jU] [] m2) (bI (cj 10 [jI x3] m2) (fun r3 m3 => jbr (decide (r3 = 0)) (evj 22 35 [jR 8 k1, jI x1, jI x2, jI x3, jI x4, jU, jU] [] m3) (jbr (decide (x2 ≤ x1)) (evj 22 35 [jR 8 k1, jI x1, jI x2, jI x3, jI x4, jU, jU] [] m3) (jbr (decide (x3 ≤ x2)) (evj 22 35 [jR 8 k1, jI x1, jI x2, jI x3, jI x4, jU, jU] [] m3) (evj 22 36 [jR 8 k1, jI x1, jI x2, jI x3, jI x4, jU, jU] [jI (1 : Int32)] m3))))))))) :=
  (cj_it (F := K22) rfl [35, 36] 18 _ _).trans rfl
set_option maxRecDepth 100000 in
theorem e_Valley_addChord_35 (k1 : Nat) (x1 : Int32) (x2 : Int32) (x3 : Int32) (x4 : Int32) (μ : jm) : evj 22 35 [jR 8 k1, jI x1, jI x2, jI x3, jI x4, jU, jU] [] μ = (evj 22 36 [jR 8 k1, jI x1, jI x2, jI x3, jI x4, jU, jU] [jI (0 : Int32)] μ) :=
  (evj_s (F := K22) rfl [35, 36] 2 rfl).trans rfl
set_option maxRecDepth 100000 in
theorem e_Valley_addChord_36 (k1 : Nat) (x1 : Int32) (x2 : Int32) (x3 : Int32) (x4 : Int32) (x5 : Int32) (μ : jm) : evj 22 36 [jR 8 k1, jI x1, jI x2, jI x3, jI x4, jU, jU] [jI x5] μ = (jbr (decide (x5 = 0)) (some (some (jI (-2 : Int32)), μ)) (jbr (decide (x4 < (1 : Int32))) (some (some (jI (-2 : Int32)), μ)) (jbr (decide (x4 ≤ (9 : Int32))) (bI (cj 23 [jR 8 k1, jI ((((1 : Int32) <<< (x1 &&& 31)) ||| ((1 : Int32) <<< (x2 &&& 31))) ||| ((1 : Int32) <<< (x3 &&& 31)))] μ) (fun r1 m1 => jbr (decide (r1 = 0)) (jbr (decide ((gI m1 k1 9) < (8 : Int32))) (jgd (inB (gI m1 k1 9) 8) (jgd (inB (gI (sI m1 (k1 + 7) (ix (gI m1 k1 9)) ((((1 : Int32) <<< (x1 &&& 31)) ||| ((1 : Int32) <<< (x2 &&& 31))) ||| ((1 : Int32) <<< (x3 &&& 31)))) k1 9) 8) (some (some (jI ((gI (sI (sI (sI m1 (k1 + 7) (ix (gI m1 k1 9)) ((((1 : Int32) <<< (x1 &&& 31)) ||| ((1 : Int32) <<< (x2 &&& 31))) ||| ((1 : Int32) <<< (x3 &&& 31)))) (k1 + 8) (ix (gI (sI m1 (k1 + 7) (ix (gI m1 k1 9)) ((((1 : Int32) <<< (x1 &&& 31)) ||| ((1 : Int32) <<< (x2 &&& 31))) ||| ((1 : Int32) <<< (x3 &&& 31)))) k1 9)) x4) k1 9 ((gI (sI (sI m1 (k1 + 7) (ix (gI m1 k1 9)) ((((1 : Int32) <<< (x1 &&& 31)) ||| ((1 : Int32) <<< (x2 &&& 31))) ||| ((1 : Int32) <<< (x3 &&& 31)))) (k1 + 8) (ix (gI (sI m1 (k1 + 7) (ix (gI m1 k1 9)) ((((1 : Int32) <<< (x1 &&& 31)) ||| ((1 : Int32) <<< (x2 &&& 31))) ||| ((1 : Int32) <<< (x3 &&& 31)))) k1 9)) x4) k1 9) + (1 : Int32))) k1 9) - (1 : Int32))), sI (sI (sI m1 (k1 + 7) (ix (gI m1 k1 9)) ((((1 : Int32) <<< (x1 &&& 31)) ||| ((1 : Int32) <<< (x2 &&& 31))) ||| ((1 : Int32) <<< (x3 &&& 31)))) (k1 + 8) (ix (gI (sI m1 (k1 + 7) (ix (gI m1 k1 9)) ((((1 : Int32) <<< (x1 &&& 31)) ||| ((1 : Int32) <<< (x2 &&& 31))) ||| ((1 : Int32) <<< (x3 &&& 31)))) k1 9)) x4) k1 9 ((gI (sI (sI m1 (k1 + 7) (ix (gI m1 k1 9)) ((((1 : Int32) <<< (x1 &&& 31)) ||| ((1 : Int32) <<< (x2 &&& 31))) ||| ((1 : Int32) <<< (x3 &&& 31)))) (k1 + 8) (ix (gI (sI m1 (k1 + 7) (ix (gI m1 k1 9)) ((((1 : Int32) <<< (x1 &&& 31)) ||| ((1 : Int32) <<< (x2 &&& 31))) ||| ((1 : Int32) <<< (x3 &&& 31)))) k1 9)) x4) k1 9) + (1 : Int32)))))) (some (some (jI (-4 : Int32)), m1))) (some (some (jI (-2 : Int32)), m1)))) (some (some (jI (-2 : Int32)), μ))))) :=
  (evj_s (F := K22) rfl [35, 36] 53 rfl).trans rfl
set_option maxRecDepth 100000 in
theorem e_Valley_hasChordOf (k1 : Nat) (x1 : Int32) (μ : jm) : cj 23 [jR 8 k1, jI x1] μ = (evj 23 2 [jR 8 k1, jI x1, jI (0 : Int32)] [] μ) :=
  (cj_it (F := K23) rfl [2] 3 _ _).trans rfl
set_option maxRecDepth 100000 in
theorem e_Valley_hasChordOf_2 (k1 : Nat) (x1 : Int32) (x2 : Int32) (μ : jm) : evj 23 2 [jR 8 k1, jI x1, jI x2] [] μ = (jbr (decide ((gI μ k1 9) ≤ x2)) (some (some (jI ((0 : Int32) &&& 1)), μ)) (jgd (inB x2 8) (jbr (decide (¬ (gI μ (k1 + 7) (ix x2)) = x1)) (evj 23 2 [jR 8 k1, jI x1, jI (x2 + 1)] [] μ) (some (some (jI ((1 : Int32) &&& 1)), μ))))) :=
  (evj_s (F := K23) rfl [2] 13 rfl).trans rfl
set_option maxRecDepth 100000 in
theorem e_Valley_changeSlack (k1 : Nat) (x1 : Int32) (μ : jm) : cj 24 [jR 8 k1, jI x1] μ = (jbr (decide (x1 < 0)) (some (some (jI (-2 : Int32)), μ)) (jbr (decide (x1 ≤ (2 : Int32))) (some (some (jI (gI μ k1 10)), sI μ k1 10 x1)) (some (some (jI (-2 : Int32)), μ)))) :=
  (cj_it (F := K24) rfl [] 14 _ _).trans rfl
set_option maxRecDepth 100000 in
theorem e_Valley_isMember (k1 : Nat) (x1 : Int32) (x2 : Int32) (μ : jm) : cj 25 [jR 8 k1, jI x1, jI x2] μ = (bI (cj 26 [jR 8 k1, jI x2] μ) (fun r1 m1 => jbr (decide (r1 = 0)) (some (some (jI ((0 : Int32) &&& 1)), m1)) (bI (cj 20 [jR 8 k1, jI x1] m1) (fun r2 m2 => jbr (decide (r2 = 0)) (some (some (jI ((0 : Int32) &&& 1)), m2)) (jbr (decide (((x2 >>> (x1 &&& 31)) &&& (1 : Int32)) = 0)) (some (some (jI ((0 : Int32) &&& 1)), m2)) (some (some (jI ((1 : Int32) &&& 1)), m2))))))) :=
  (cj_it (F := K25) rfl [] 18 _ _).trans rfl
set_option maxRecDepth 100000 in
theorem e_Valley_isSet (k1 : Nat) (x1 : Int32) (μ : jm) : cj 26 [jR 8 k1, jI x1] μ = (jbr (decide (x1 < 0)) (some (some (jI ((0 : Int32) &&& 1)), μ)) (jbr (decide (((1 : Int32) <<< ((gI μ k1 6) &&& 31)) ≤ x1)) (some (some (jI ((0 : Int32) &&& 1)), μ)) (some (some (jI ((1 : Int32) &&& 1)), μ)))) :=
  (cj_it (F := K26) rfl [] 12 _ _).trans rfl
set_option maxRecDepth 100000 in
theorem e_Valley_becomeEmpty (k1 : Nat) (μ : jm) : cj 27 [jR 8 k1] μ = (bV (cj 1 [jR 1006 (k1 + 1), jI (0 : Int32)] μ) (fun m1 => bV (cj 1 [jR 1006 (k1 + 2), jI (0 : Int32)] m1) (fun m2 => some (none, sI (sI (sI (sI (sI m2 k1 6 (0 : Int32)) k1 9 (0 : Int32)) k1 10 (0 : Int32)) k1 12 (0 : Int32)) k1 14 (0 : Int32))))) :=
  (cj_it (F := K27) rfl [] 25 _ _).trans rfl
set_option maxRecDepth 100000 in
theorem e_Valley_copyAll (k1 : Nat) (k2 : Nat) (μ : jm) : cj 28 [jR 8 k1, jR 8 k2] μ = (jgd (jcg (0 : Int32) (0 : Int32) (6 : Int32) 6 6) (jgd (jcg (0 : Int32) (0 : Int32) (6 : Int32) 6 6) (bV (cj 29 [jR 8 k1, jR 8 k2] (cpI (cpI μ (k2 + 1) (ix (0 : Int32)) (k1 + 1) (ix (0 : Int32)) (ix (6 : Int32))) (k2 + 2) (ix (0 : Int32)) (k1 + 2) (ix (0 : Int32)) (ix (6 : Int32)))) (fun m1 => jgd (jcg (0 : Int32) (0 : Int32) (8 : Int32) 8 8) (jgd (jcg (0 : Int32) (0 : Int32) (8 : Int32) 8 8) (jgd (jcg (0 : Int32) (0 : Int32) (6 : Int32) 6 6) (jgd (jcg (0 : Int32) (0 : Int32) (6 : Int32) 6 6) (some (none, sI (cpI (sI (cpI (sI (sI (cpI (cpI m1 (k2 + 7) (ix (0 : Int32)) (k1 + 7) (ix (0 : Int32)) (ix (8 : Int32))) (k2 + 8) (ix (0 : Int32)) (k1 + 8) (ix (0 : Int32)) (ix (8 : Int32))) k1 9 (gI (cpI (cpI m1 (k2 + 7) (ix (0 : Int32)) (k1 + 7) (ix (0 : Int32)) (ix (8 : Int32))) (k2 + 8) (ix (0 : Int32)) (k1 + 8) (ix (0 : Int32)) (ix (8 : Int32))) k2 9)) k1 10 (gI (sI (cpI (cpI m1 (k2 + 7) (ix (0 : Int32)) (k1 + 7) (ix (0 : Int32)) (ix (8 : Int32))) (k2 + 8) (ix (0 : Int32)) (k1 + 8) (ix (0 : Int32)) (ix (8 : Int32))) k1 9 (gI (cpI (cpI m1 (k2 + 7) (ix (0 : Int32)) (k1 + 7) (ix (0 : Int32)) (ix (8 : Int32))) (k2 + 8) (ix (0 : Int32)) (k1 + 8) (ix (0 : Int32)) (ix (8 : Int32))) k2 9)) k2 10)) (k2 + 9) (ix (0 : Int32)) (k1 + 9) (ix (0 : Int32)) (ix (6 : Int32))) k1 12 (gI (cpI (sI (sI (cpI (cpI m1 (k2 + 7) (ix (0 : Int32)) (k1 + 7) (ix (0 : Int32)) (ix (8 : Int32))) (k2 + 8) (ix (0 : Int32)) (k1 + 8) (ix (0 : Int32)) (ix (8 : Int32))) k1 9 (gI (cpI (cpI m1 (k2 + 7) (ix (0 : Int32)) (k1 + 7) (ix (0 : Int32)) (ix (8 : Int32))) (k2 + 8) (ix (0 : Int32)) (k1 + 8) (ix (0 : Int32)) (ix (8 : Int32))) k2 9)) k1 10 (gI (sI (cpI (cpI m1 (k2 + 7) (ix (0 : Int32)) (k1 + 7) (ix (0 : Int32)) (ix (8 : Int32))) (k2 + 8) (ix (0 : Int32)) (k1 + 8) (ix (0 : Int32)) (ix (8 : Int32))) k1 9 (gI (cpI (cpI m1 (k2 + 7) (ix (0 : Int32)) (k1 + 7) (ix (0 : Int32)) (ix (8 : Int32))) (k2 + 8) (ix (0 : Int32)) (k1 + 8) (ix (0 : Int32)) (ix (8 : Int32))) k2 9)) k2 10)) (k2 + 9) (ix (0 : Int32)) (k1 + 9) (ix (0 : Int32)) (ix (6 : Int32))) k2 12)) (k2 + 10) (ix (0 : Int32)) (k1 + 10) (ix (0 : Int32)) (ix (6 : Int32))) k1 14 (gI (cpI (sI (cpI (sI (sI (cpI (cpI m1 (k2 + 7) (ix (0 : Int32)) (k1 + 7) (ix (0 : Int32)) (ix (8 : Int32))) (k2 + 8) (ix (0 : Int32)) (k1 + 8) (ix (0 : Int32)) (ix (8 : Int32))) k1 9 (gI (cpI (cpI m1 (k2 + 7) (ix (0 : Int32)) (k1 + 7) (ix (0 : Int32)) (ix (8 : Int32))) (k2 + 8) (ix (0 : Int32)) (k1 + 8) (ix (0 : Int32)) (ix (8 : Int32))) k2 9)) k1 10 (gI (sI (cpI (cpI m1 (k2 + 7) (ix (0 : Int32)) (k1 + 7) (ix (0 : Int32)) (ix (8 : Int32))) (k2 + 8) (ix (0 : Int32)) (k1 + 8) (ix (0 : Int32)) (ix (8 : Int32))) k1 9 (gI (cpI (cpI m1 (k2 + 7) (ix (0 : Int32)) (k1 + 7) (ix (0 : Int32)) (ix (8 : Int32))) (k2 + 8) (ix (0 : Int32)) (k1 + 8) (ix (0 : Int32)) (ix (8 : Int32))) k2 9)) k2 10)) (k2 + 9) (ix (0 : Int32)) (k1 + 9) (ix (0 : Int32)) (ix (6 : Int32))) k1 12 (gI (cpI (sI (sI (cpI (cpI m1 (k2 + 7) (ix (0 : Int32)) (k1 + 7) (ix (0 : Int32)) (ix (8 : Int32))) (k2 + 8) (ix (0 : Int32)) (k1 + 8) (ix (0 : Int32)) (ix (8 : Int32))) k1 9 (gI (cpI (cpI m1 (k2 + 7) (ix (0 : Int32)) (k1 + 7) (ix (0 : Int32)) (ix (8 : Int32))) (k2 + 8) (ix (0 : Int32)) (k1 + 8) (ix (0 : Int32)) (ix (8 : Int32))) k2 9)) k1 10 (gI (sI (cpI (cpI m1 (k2 + 7) (ix (0 : Int32)) (k1 + 7) (ix (0 : Int32)) (ix (8 : Int32))) (k2 + 8) (ix (0 : Int32)) (k1 + 8) (ix (0 : Int32)) (ix (8 : Int32))) k1 9 (gI (cpI (cpI m1 (k2 + 7) (ix (0 : Int32)) (k1 + 7) (ix (0 : Int32)) (ix (8 : Int32))) (k2 + 8) (ix (0 : Int32)) (k1 + 8) (ix (0 : Int32)) (ix (8 : Int32))) k2 9)) k2 10)) (k2 + 9) (ix (0 : Int32)) (k1 + 9) (ix (0 : Int32)) (ix (6 : Int32))) k2 12)) (k2 + 10) (ix (0 : Int32)) (k1 + 10) (ix (0 : Int32)) (ix (6 : Int32))) k2 14)))))))))) :=
  (cj_it (F := K28) rfl [] 69 _ _).trans rfl
set_option maxRecDepth 100000 in
theorem e_Valley_copyPeople (k1 : Nat) (k2 : Nat) (μ : jm) : cj 29 [jR 8 k1, jR 8 k2] μ = (jgd (jcg (0 : Int32) (0 : Int32) (7 : Int32) 7 7) (jgd (jcg (0 : Int32) (0 : Int32) (7 : Int32) 7 7) (jgd (jcg (0 : Int32) (0 : Int32) (7 : Int32) 7 7) (jgd (jcg (0 : Int32) (0 : Int32) (7 : Int32) 7 7) (some (none, sI (cpI (cpI (cpI (cpI μ (k2 + 3) (ix (0 : Int32)) (k1 + 3) (ix (0 : Int32)) (ix (7 : Int32))) (k2 + 4) (ix (0 : Int32)) (k1 + 4) (ix (0 : Int32)) (ix (7 : Int32))) (k2 + 5) (ix (0 : Int32)) (k1 + 5) (ix (0 : Int32)) (ix (7 : Int32))) (k2 + 6) (ix (0 : Int32)) (k1 + 6) (ix (0 : Int32)) (ix (7 : Int32))) k1 6 (gI (cpI (cpI (cpI (cpI μ (k2 + 3) (ix (0 : Int32)) (k1 + 3) (ix (0 : Int32)) (ix (7 : Int32))) (k2 + 4) (ix (0 : Int32)) (k1 + 4) (ix (0 : Int32)) (ix (7 : Int32))) (k2 + 5) (ix (0 : Int32)) (k1 + 5) (ix (0 : Int32)) (ix (7 : Int32))) (k2 + 6) (ix (0 : Int32)) (k1 + 6) (ix (0 : Int32)) (ix (7 : Int32))) k2 6))))))) :=
  (cj_it (F := K29) rfl [] 38 _ _).trans rfl
set_option maxRecDepth 100000 in
theorem e_Valley_isChord (k1 : Nat) (x1 : Int32) (μ : jm) : cj 30 [jR 8 k1, jI x1] μ = (jbr (decide (x1 < 0)) (some (some (jI ((0 : Int32) &&& 1)), μ)) (jbr (decide ((gI μ k1 9) ≤ x1)) (some (some (jI ((0 : Int32) &&& 1)), μ)) (some (some (jI ((1 : Int32) &&& 1)), μ)))) :=
  (cj_it (F := K30) rfl [] 10 _ _).trans rfl
set_option maxRecDepth 100000 in
theorem e_Valley_peopleIn (k1 : Nat) (x1 : Int32) (μ : jm) : cj 31 [jR 8 k1, jI x1] μ = (evj 31 4 [jR 8 k1, jI x1, jI (0 : Int32), jI (0 : Int32)] [] μ) :=
  (cj_it (F := K31) rfl [4] 5 _ _).trans rfl
set_option maxRecDepth 100000 in
theorem e_Valley_peopleIn_4 (k1 : Nat) (x1 : Int32) (x2 : Int32) (x3 : Int32) (μ : jm) : evj 31 4 [jR 8 k1, jI x1, jI x2, jI x3] [] μ = (jbr (decide ((gI μ k1 6) ≤ x3)) (some (some (jI x2), μ)) (jgd (inB x3 7) (jbr (decide (((x1 >>> ((gI μ (k1 + 5) (ix x3)) &&& 31)) &&& (1 : Int32)) = 0)) (evj 31 4 [jR 8 k1, jI x1, jI x2, jI (x3 + 1)] [] μ) (evj 31 4 [jR 8 k1, jI x1, jI (x2 ||| ((1 : Int32) <<< (x3 &&& 31))), jI (x3 + 1)] [] μ)))) :=
  (evj_s (F := K31) rfl [4] 22 rfl).trans rfl
set_option maxRecDepth 100000 in
theorem e_Valley_hasDoor (k1 : Nat) (x1 : Int32) (x2 : Int32) (μ : jm) : cj 32 [jR 8 k1, jI x1, jI x2] μ = (jgd (inB x1 6) (jbr (decide ((((gI μ (k1 + 1) (ix x1)) >>> (x2 &&& 31)) &&& (1 : Int32)) = 0)) (some (some (jI ((0 : Int32) &&& 1)), μ)) (some (some (jI ((1 : Int32) &&& 1)), μ)))) :=
  (cj_it (F := K32) rfl [] 13 _ _).trans rfl
set_option maxRecDepth 100000 in
theorem e_Valley_addToSpeech (k1 : Nat) (x1 : Int32) (μ : jm) : cj 33 [jR 8 k1, jI x1] μ = (bI (cj 30 [jR 8 k1, jI x1] μ) (fun r1 m1 => jbr (decide (¬ r1 = 0)) (jbr (decide ((gI m1 k1 12) < (6 : Int32))) (jgd (inB (gI m1 k1 12) 6) (some (some (jI (gI (sI (sI m1 (k1 + 9) (ix (gI m1 k1 12)) x1) k1 12 ((gI (sI m1 (k1 + 9) (ix (gI m1 k1 12)) x1) k1 12) + (1 : Int32))) k1 12)), sI (sI m1 (k1 + 9) (ix (gI m1 k1 12)) x1) k1 12 ((gI (sI m1 (k1 + 9) (ix (gI m1 k1 12)) x1) k1 12) + (1 : Int32))))) (some (some (jI (-4 : Int32)), m1))) (some (some (jI (-2 : Int32)), m1)))) :=
  (cj_it (F := K33) rfl [] 24 _ _).trans rfl
set_option maxRecDepth 100000 in
theorem e_Valley_endSpeech (k1 : Nat) (μ : jm) : cj 34 [jR 8 k1] μ = (some (some (jI (gI μ k1 12)), sI μ k1 12 (0 : Int32))) :=
  (cj_it (F := K34) rfl [] 9 _ _).trans rfl
set_option maxRecDepth 100000 in
theorem e_Valley_chordsOfSpeech (k1 : Nat) (μ : jm) : cj 35 [jR 8 k1] μ = (evj 35 4 [jR 8 k1, jI (0 : Int32), jI (0 : Int32)] [] μ) :=
  (cj_it (F := K35) rfl [4] 5 _ _).trans rfl
set_option maxRecDepth 100000 in
theorem e_Valley_chordsOfSpeech_4 (k1 : Nat) (x1 : Int32) (x2 : Int32) (μ : jm) : evj 35 4 [jR 8 k1, jI x1, jI x2] [] μ = (jbr (decide ((gI μ k1 12) ≤ x2)) (some (some (jI x1), μ)) (jgd (inB x2 6) (evj 35 4 [jR 8 k1, jI (x1 ||| ((1 : Int32) <<< ((gI μ (k1 + 9) (ix x2)) &&& 31))), jI (x2 + 1)] [] μ))) :=
  (evj_s (F := K35) rfl [4] 16 rfl).trans rfl
set_option maxRecDepth 100000 in
theorem e_Valley_addHole (k1 : Nat) (x1 : Int32) (μ : jm) : cj 36 [jR 8 k1, jI x1] μ = (jbr (decide (x1 < 0)) (some (some (jI (-2 : Int32)), μ)) (jbr (decide ((4095 : Int32) < x1)) (some (some (jI (-2 : Int32)), μ)) (bI (cj 0 [jI x1] μ) (fun r1 m1 => jbr (decide (r1 ≤ (3 : Int32))) (jbr (decide ((gI m1 k1 14) < (6 : Int32))) (jgd (inB (gI m1 k1 14) 6) (some (some (jI ((gI (sI (sI m1 (k1 + 10) (ix (gI m1 k1 14)) x1) k1 14 ((gI (sI m1 (k1 + 10) (ix (gI m1 k1 14)) x1) k1 14) + (1 : Int32))) k1 14) - (1 : Int32))), sI (sI m1 (k1 + 10) (ix (gI m1 k1 14)) x1) k1 14 ((gI (sI m1 (k1 + 10) (ix (gI m1 k1 14)) x1) k1 14) + (1 : Int32))))) (some (some (jI (-4 : Int32)), m1))) (some (some (jI (-2 : Int32)), m1)))))) :=
  (cj_it (F := K36) rfl [] 31 _ _).trans rfl
set_option maxRecDepth 100000 in
theorem e_Valley_endHoles (k1 : Nat) (μ : jm) : cj 37 [jR 8 k1] μ = (some (some (jI (gI μ k1 14)), sI μ k1 14 (0 : Int32))) :=
  (cj_it (F := K37) rfl [] 9 _ _).trans rfl
set_option maxRecDepth 100000 in
theorem e_Valley_isHole (k1 : Nat) (x1 : Int32) (μ : jm) : cj 38 [jR 8 k1, jI x1] μ = (jbr (decide (x1 < 0)) (some (some (jI ((0 : Int32) &&& 1)), μ)) (jbr (decide ((gI μ k1 14) ≤ x1)) (some (some (jI ((0 : Int32) &&& 1)), μ)) (some (some (jI ((1 : Int32) &&& 1)), μ)))) :=
  (cj_it (F := K38) rfl [] 10 _ _).trans rfl
set_option maxRecDepth 100000 in
theorem e_Valley_chordsWith (k1 : Nat) (x1 : Int32) (μ : jm) : cj 39 [jR 8 k1, jI x1] μ = (evj 39 4 [jR 8 k1, jI x1, jI (0 : Int32), jI (0 : Int32)] [] μ) :=
  (cj_it (F := K39) rfl [4] 5 _ _).trans rfl
set_option maxRecDepth 100000 in
theorem e_Valley_chordsWith_4 (k1 : Nat) (x1 : Int32) (x2 : Int32) (x3 : Int32) (μ : jm) : evj 39 4 [jR 8 k1, jI x1, jI x2, jI x3] [] μ = (jbr (decide ((gI μ k1 9) ≤ x3)) (some (some (jI x2), μ)) (jgd (inB x3 8) (jbr (decide (¬ (x1 &&& ((gI μ (k1 + 7) (ix x3)) ^^^ (-1 : Int32))) = 0)) (evj 39 4 [jR 8 k1, jI x1, jI x2, jI (x3 + 1)] [] μ) (evj 39 4 [jR 8 k1, jI x1, jI (x2 ||| ((1 : Int32) <<< (x3 &&& 31))), jI (x3 + 1)] [] μ)))) :=
  (evj_s (F := K39) rfl [4] 22 rfl).trans rfl
set_option maxRecDepth 100000 in
theorem e_Valley_wed (k1 : Nat) (x1 : Int32) (x2 : Int32) (μ : jm) : cj 40 [jR 8 k1, jI x1, jI x2] μ = (bV (cj 41 [jR 8 k1, jI x1] μ) (fun m1 => bV (cj 41 [jR 8 k1, jI x2] m1) (fun m2 => jgd (inB x1 7) (jgd (inB x2 7) (jgd (inB x1 7) (jgd (inB x2 7) (some (none, sI (sI (sI (sI m2 (k1 + 3) (ix x1) (2 : Int32)) (k1 + 3) (ix x2) (2 : Int32)) (k1 + 6) (ix x1) x2) (k1 + 6) (ix x2) x1)))))))) :=
  (cj_it (F := K40) rfl [] 28 _ _).trans rfl
set_option maxRecDepth 100000 in
theorem e_Valley_freeSpouseOf (k1 : Nat) (x1 : Int32) (μ : jm) : cj 41 [jR 8 k1, jI x1] μ = (jgd (inB x1 7) (bI (cj 20 [jR 8 k1, jI (gI μ (k1 + 6) (ix x1))] μ) (fun r1 m1 => jbr (decide (r1 = 0)) (some (none, m1)) (jgd (inB (gI μ (k1 + 6) (ix x1)) 7) (some (none, sI m1 (k1 + 6) (ix (gI μ (k1 + 6) (ix x1))) (-1 : Int32))))))) :=
  (cj_it (F := K41) rfl [] 16 _ _).trans rfl
set_option maxRecDepth 100000 in
theorem e_Valley_digestOn (k1 : Nat) (x1 : Int64) (μ : jm) : cj 42 [jR 8 k1, jL x1] μ = (bL (cj 43 [jR 8 k1, jL x1] μ) (fun r1 m1 => evj 42 9 [jR 8 k1, jU, jU, jL r1, jU, jI (0 : Int32)] [] m1)) :=
  (cj_it (F := K42) rfl [9, 87, 147, 180] 7 _ _).trans rfl
set_option maxRecDepth 100000 in
theorem e_Valley_digestOn_9 (k1 : Nat) (y1 : Int64) (x2 : Int32) (μ : jm) : evj 42 9 [jR 8 k1, jU, jU, jL y1, jU, jI x2] [] μ = (jbr (decide ((gI μ k1 6) ≤ x2)) (evj 42 87 [jR 8 k1, jU, jU, jL y1, jU, jI (0 : Int32)] [] μ) (jgd (inB x2 7) (jgd (inB x2 7) (jgd (inB x2 7) (jgd (inB x2 7) (evj 42 9 [jR 8 k1, jU, jU, jL (((31 : Int64) * (((31 : Int64) * (((31 : Int64) * (((31 : Int64) * y1) + ((gI μ (k1 + 3) (ix x2) : Int32).toInt64))) + ((gI μ (k1 + 4) (ix x2) : Int32).toInt64))) + ((gI μ (k1 + 5) (ix x2) : Int32).toInt64))) + ((gI μ (k1 + 6) (ix x2) : Int32).toInt64)), jU, jI (x2 + 1)] [] μ)))))) :=
  (evj_s (F := K42) rfl [9, 87, 147, 180] 47 rfl).trans rfl
set_option maxRecDepth 100000 in
theorem e_Valley_digestOn_87 (k1 : Nat) (y1 : Int64) (x2 : Int32) (μ : jm) : evj 42 87 [jR 8 k1, jU, jU, jL y1, jU, jI x2] [] μ = (jbr (decide ((gI μ k1 9) ≤ x2)) (evj 42 147 [jR 8 k1, jU, jU, jL (((31 : Int64) * y1) + ((gI μ k1 10 : Int32).toInt64)), jU, jI (0 : Int32)] [] μ) (jgd (inB x2 8) (jgd (inB x2 8) (evj 42 87 [jR 8 k1, jU, jU, jL (((31 : Int64) * (((31 : Int64) * y1) + ((gI μ (k1 + 7) (ix x2) : Int32).toInt64))) + ((gI μ (k1 + 8) (ix x2) : Int32).toInt64)), jU, jI (x2 + 1)] [] μ)))) :=
  (evj_s (F := K42) rfl [9, 87, 147, 180] 27 rfl).trans rfl
set_option maxRecDepth 100000 in
theorem e_Valley_digestOn_147 (k1 : Nat) (y1 : Int64) (x2 : Int32) (μ : jm) : evj 42 147 [jR 8 k1, jU, jU, jL y1, jU, jI x2] [] μ = (jbr (decide ((gI μ k1 12) ≤ x2)) (evj 42 180 [jR 8 k1, jU, jU, jL y1, jU, jI (0 : Int32)] [] μ) (jgd (inB x2 6) (evj 42 147 [jR 8 k1, jU, jU, jL (((31 : Int64) * y1) + ((gI μ (k1 + 9) (ix x2) : Int32).toInt64)), jU, jI (x2 + 1)] [] μ))) :=
  (evj_s (F := K42) rfl [9, 87, 147, 180] 17 rfl).trans rfl
set_option maxRecDepth 100000 in
theorem e_Valley_digestOn_180 (k1 : Nat) (y1 : Int64) (x2 : Int32) (μ : jm) : evj 42 180 [jR 8 k1, jU, jU, jL y1, jU, jI x2] [] μ = (jbr (decide ((gI μ k1 14) ≤ x2)) (some (some (jL y1), μ)) (jgd (inB x2 6) (evj 42 180 [jR 8 k1, jU, jU, jL (((31 : Int64) * y1) + ((gI μ (k1 + 10) (ix x2) : Int32).toInt64)), jU, jI (x2 + 1)] [] μ))) :=
  (evj_s (F := K42) rfl [9, 87, 147, 180] 17 rfl).trans rfl
set_option maxRecDepth 100000 in
theorem e_Valley_digestOfRooms (k1 : Nat) (x1 : Int64) (μ : jm) : cj 43 [jR 8 k1, jL x1] μ = (evj 43 5 [jR 8 k1, jU, jU, jL x1, jU, jI (0 : Int32), jU] [] μ) :=
  (cj_it (F := K43) rfl [5, 15] 5 _ _).trans rfl
set_option maxRecDepth 100000 in
theorem e_Valley_digestOfRooms_5 (k1 : Nat) (y1 : Int64) (x2 : Int32) (μ : jm) : evj 43 5 [jR 8 k1, jU, jU, jL y1, jU, jI x2, jU] [] μ = (jbr (decide ((6 : Int32) ≤ x2)) (some (some (jL y1), μ)) (evj 43 15 [jR 8 k1, jU, jU, jL y1, jU, jI x2, jI (0 : Int32)] [] μ)) :=
  (evj_s (F := K43) rfl [5, 15] 6 rfl).trans rfl
set_option maxRecDepth 100000 in
theorem e_Valley_digestOfRooms_15 (k1 : Nat) (y1 : Int64) (x2 : Int32) (x3 : Int32) (μ : jm) : evj 43 15 [jR 8 k1, jU, jU, jL y1, jU, jI x2, jI x3] [] μ = (jbr (decide (x2 ≤ x3)) (evj 43 5 [jR 8 k1, jU, jU, jL y1, jU, jI (x2 + 1), jU] [] μ) (jgd (inB x2 6) (jgd (inB x2 6) (evj 43 15 [jR 8 k1, jU, jU, jL (((31 : Int64) * (((31 : Int64) * y1) + ((((gI μ (k1 + 1) (ix x2)) >>> (x3 &&& 31)) &&& (1 : Int32) : Int32).toInt64))) + ((((gI μ (k1 + 2) (ix x2)) >>> (x3 &&& 31)) &&& (1 : Int32) : Int32).toInt64)), jU, jI x2, jI (x3 + 1)] [] μ)))) :=
  (evj_s (F := K43) rfl [5, 15] 34 rfl).trans rfl
set_option maxRecDepth 100000 in
theorem e_Fraction_become (x1 : Int64) (x2 : Int64) (μ : jm) : cj 44 [jR 4 49, jL x1, jL x2] μ = (bL (cj 45 [jL x1, jL x2] μ) (fun r1 m1 => jbr (decide ((lg_cmp r1 (0 : Int64)) ≤ 0)) (some (none, m1)) (jgd (decide (¬ r1 = 0)) (jgd (decide (¬ r1 = 0)) (some (none, sL (sL m1 49 0 (x1 / r1)) 49 1 (x2 / r1))))))) :=
  (cj_it (F := K44) rfl [] 20 _ _).trans rfl
set_option maxRecDepth 100000 in
theorem e_Fraction_commonDivisor (x0 : Int64) (x1 : Int64) (μ : jm) : cj 45 [jL x0, jL x1] μ = (evj 45 9 [jU, jU, jU, jU, jL x0, jU, jL x1, jU, jI (0 : Int32), jU, jU] [] μ) :=
  (cj_it (F := K45) rfl [9] 7 _ _).trans rfl
set_option maxRecDepth 100000 in
theorem e_Fraction_commonDivisor_9 (y0 : Int64) (y1 : Int64) (x2 : Int32) (μ : jm) : evj 45 9 [jU, jU, jU, jU, jL y0, jU, jL y1, jU, jI x2, jU, jU] [] μ = (jbr (decide ((1000 : Int32) ≤ x2)) (some (some (jL y0), μ)) (jbr (decide ((lg_cmp y1 (0 : Int64)) = 0)) (some (some (jL y0), μ)) (jgd (decide (¬ y1 = 0)) (evj 45 9 [jU, jU, jU, jU, jL y1, jU, jL (y0 - y0 / y1 * y1), jU, jI (x2 + 1), jU, jU] [] μ)))) :=
  (evj_s (F := K45) rfl [9] 18 rfl).trans rfl
