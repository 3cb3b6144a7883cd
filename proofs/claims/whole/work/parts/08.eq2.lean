/-! EQUATIONS of the runs, by program: from a method's entry, or a cut, to the next cuts -/
set_option maxRecDepth 100000 in
theorem e_Choir_notesOf (k1 : Nat) (x1 : Int32) (x2 : Int32) (μ : jm) : cj 46 [jR 8 k1, jI x1, jI x2] μ = (jgd (inB x1 7) (jgd (inB x1 7) (jbr (decide ((gI μ (k1 + 3) (ix x1)) = 1)) (jbr (decide (¬ x2 = ((1 : Int32) <<< (x1 &&& 31)))) (bI (cj 11 [jI ((1 : Int32) <<< ((gI μ (k1 + 4) (ix x1)) &&& 31)), jI (1 : Int32)] μ) (fun r1 m1 => evj 46 64 [jU, jU, jU, jU] [jI r1] m1)) (evj 46 64 [jU, jU, jU, jU] [jI ((1 : Int32) <<< ((gI μ (k1 + 4) (ix x1)) &&& 31))] μ)) (jbr (decide ((gI μ (k1 + 3) (ix x1)) = 2)) (jgd (inB x1 7) (bI (cj 47 [jI (gI μ (k1 + 6) (ix x1)), jI x2] μ) (fun r2 m2 => jbr (decide (r2 = 0)) (evj 46 90 [jU, jU, jU, jU] [jI ((1 : Int32) <<< ((gI μ (k1 + 4) (ix x1)) &&& 31))] m2) (bI (cj 11 [jI ((1 : Int32) <<< ((gI μ (k1 + 4) (ix x1)) &&& 31)), jI (7 : Int32)] m2) (fun r3 m3 => evj 46 90 [jU, jU, jU, jU] [jI (((1 : Int32) <<< ((gI μ (k1 + 4) (ix x1)) &&& 31)) ||| r3)] m3))))) (jbr (decide ((gI μ (k1 + 3) (ix x1)) = 3)) (evj 46 91 [jU, jU, jU, jI ((1 : Int32) <<< ((gI μ (k1 + 4) (ix x1)) &&& 31))] [] μ) (jbr (decide ((gI μ (k1 + 3) (ix x1)) = 4)) (evj 46 91 [jU, jU, jU, jI ((1 : Int32) <<< ((gI μ (k1 + 4) (ix x1)) &&& 31))] [] μ) (jbr (decide ((gI μ (k1 + 3) (ix x1)) = 5)) (bI (cj 11 [jI ((1 : Int32) <<< ((gI μ (k1 + 4) (ix x1)) &&& 31)), jI (1 : Int32)] μ) (fun r4 m4 => bI (cj 11 [jI ((1 : Int32) <<< ((gI μ (k1 + 4) (ix x1)) &&& 31)), jI (6 : Int32)] m4) (fun r5 m5 => some (some (jI ((((1 : Int32) <<< ((gI μ (k1 + 4) (ix x1)) &&& 31)) ||| r4) ||| r5)), m5)))) (some (some (jI ((1 : Int32) <<< ((gI μ (k1 + 4) (ix x1)) &&& 31))), μ))))))))) :=
  (cj_it (F := K46) rfl [64, 90, 91] 26 _ _).trans rfl
set_option maxRecDepth 100000 in
theorem e_Choir_notesOf_64 (x0 : Int32) (μ : jm) : evj 46 64 [jU, jU, jU, jU] [jI x0] μ = (some (some (jI x0), μ)) :=
  (evj_s (F := K46) rfl [64, 90, 91] 2 rfl).trans rfl
set_option maxRecDepth 100000 in
theorem e_Choir_notesOf_90 (x0 : Int32) (μ : jm) : evj 46 90 [jU, jU, jU, jU] [jI x0] μ = (some (some (jI x0), μ)) :=
  (evj_s (F := K46) rfl [64, 90, 91] 2 rfl).trans rfl
set_option maxRecDepth 100000 in
theorem e_Choir_notesOf_91 (x0 : Int32) (μ : jm) : evj 46 91 [jU, jU, jU, jI x0] [] μ = (bI (cj 11 [jI x0, jI (1 : Int32)] μ) (fun r1 m1 => some (some (jI (x0 ||| r1)), m1))) :=
  (evj_s (F := K46) rfl [64, 90, 91] 7 rfl).trans rfl
set_option maxRecDepth 100000 in
theorem e_Choir_isMateIn (x0 : Int32) (x1 : Int32) (μ : jm) : cj 47 [jI x0, jI x1] μ = (jbr (decide (x0 < 0)) (some (some (jI ((0 : Int32) &&& 1)), μ)) (jbr (decide ((7 : Int32) ≤ x0)) (some (some (jI ((0 : Int32) &&& 1)), μ)) (jbr (decide (((x1 >>> (x0 &&& 31)) &&& (1 : Int32)) = 0)) (some (some (jI ((0 : Int32) &&& 1)), μ)) (some (some (jI ((1 : Int32) &&& 1)), μ))))) :=
  (cj_it (F := K47) rfl [] 15 _ _).trans rfl
set_option maxRecDepth 100000 in
theorem e_Choir_canSay (k1 : Nat) (x2 : Int32) (x3 : Int32) (μ : jm) : cj 48 [jR 1 50, jR 8 k1, jI x2, jI x3] μ = (bV (cj 49 [jR 1 50, jR 8 k1, jI x2] μ) (fun m1 => bI (cj 30 [jR 8 k1, jI x3] m1) (fun r2 m2 => jbr (decide (r2 = 0)) (some (some (jI ((0 : Int32) &&& 1)), m2)) (jgd (inB x3 8) (bI (cj 50 [jR 1 50, jI (gI m2 (k1 + 7) (ix x3))] m2) (fun r3 m3 => jbr (decide (r3 = 0)) (some (some (jI ((0 : Int32) &&& 1)), m3)) (some (some (jI ((1 : Int32) &&& 1)), m3)))))))) :=
  (cj_it (F := K48) rfl [] 19 _ _).trans rfl
set_option maxRecDepth 100000 in
theorem e_Choir_gather (k1 : Nat) (x2 : Int32) (μ : jm) : cj 49 [jR 1 50, jR 8 k1, jI x2] μ = (evj 49 2 [jR 1 50, jR 8 k1, jI x2, jI (0 : Int32)] [] μ) :=
  (cj_it (F := K49) rfl [2] 3 _ _).trans rfl
set_option maxRecDepth 100000 in
theorem e_Choir_gather_2 (k1 : Nat) (x1 : Int32) (x2 : Int32) (μ : jm) : evj 49 2 [jR 1 50, jR 8 k1, jI x1, jI x2] [] μ = (jbr (decide ((7 : Int32) ≤ x2)) (some (none, μ)) (jgd (inB x2 7) (bI (cj 25 [jR 8 k1, jI x2, jI x1] (sI μ 51 (ix x2) (0 : Int32))) (fun r1 m1 => jbr (decide (r1 = 0)) (evj 49 2 [jR 1 50, jR 8 k1, jI x1, jI (x2 + 1)] [] m1) (bI (cj 46 [jR 8 k1, jI x2, jI x1] m1) (fun r2 m2 => bI (cj 12 [jI r2, jI (gI m2 k1 10)] m2) (fun r3 m3 => jgd (inB x2 7) (jgd (inB x2 7) (jbr (decide ((gI (sI m3 51 (ix x2) r3) (k1 + 3) (ix x2)) < (4 : Int32))) (jgd (inB x2 7) (evj 49 2 [jR 1 50, jR 8 k1, jI x1, jI (x2 + 1)] [] (sI (sI m3 51 (ix x2) r3) 52 (ix x2) (1 : Int32)))) (jgd (inB x2 7) (evj 49 2 [jR 1 50, jR 8 k1, jI x1, jI (x2 + 1)] [] (sI (sI m3 51 (ix x2) r3) 52 (ix x2) (2 : Int32))))))))))))) :=
  (evj_s (F := K49) rfl [2] 39 rfl).trans rfl
set_option maxRecDepth 100000 in
theorem e_Choir_fillsAll (x1 : Int32) (μ : jm) : cj 50 [jR 1 50, jI x1] μ = (evj 50 4 [jR 1 50, jI x1, jI (1 : Int32), jI (0 : Int32), jU] [] μ) :=
  (cj_it (F := K50) rfl [4, 24] 5 _ _).trans rfl
set_option maxRecDepth 100000 in
theorem e_Choir_fillsAll_4 (x0 : Int32) (x1 : Int32) (x2 : Int32) (μ : jm) : evj 50 4 [jR 1 50, jI x0, jI x1, jI x2, jU] [] μ = (jbr (decide ((7 : Int32) ≤ x2)) (bI (cj 14 [jI x1] μ) (fun r1 m1 => some (some (jI (r1 &&& 1)), m1))) (jgd (inB x2 7) (jbr (decide (((gI μ 51 (ix x2)) &&& x0) = 0)) (evj 50 4 [jR 1 50, jI x0, jI x1, jI (x2 + 1), jU] [] μ) (evj 50 24 [jR 1 50, jI x0, jI x1, jI x2, jI (0 : Int32)] [] μ)))) :=
  (evj_s (F := K50) rfl [4, 24] 13 rfl).trans rfl
set_option maxRecDepth 100000 in
theorem e_Choir_fillsAll_24 (x0 : Int32) (x1 : Int32) (x2 : Int32) (x3 : Int32) (μ : jm) : evj 50 24 [jR 1 50, jI x0, jI x1, jI x2, jI x3] [] μ = (jgd (inB x2 7) (jbr (decide ((gI μ 52 (ix x2)) ≤ x3)) (evj 50 4 [jR 1 50, jI x0, jI x1, jI (x2 + 1), jU] [] μ) (jgd (inB x2 7) (bI (cj 13 [jI x1, jI (gI μ 51 (ix x2)), jI x0] μ) (fun r1 m1 => evj 50 24 [jR 1 50, jI x0, jI (x1 ||| r1), jI x2, jI (x3 + 1)] [] m1))))) :=
  (evj_s (F := K50) rfl [4, 24] 19 rfl).trans rfl
set_option maxRecDepth 100000 in
theorem e_Choir_chordsOf (k1 : Nat) (x2 : Int32) (μ : jm) : cj 51 [jR 1 50, jR 8 k1, jI x2] μ = (bV (cj 49 [jR 1 50, jR 8 k1, jI x2] μ) (fun m1 => evj 51 11 [jR 1 50, jR 8 k1, jU, jI (0 : Int32), jI (0 : Int32)] [] m1)) :=
  (cj_it (F := K51) rfl [11] 9 _ _).trans rfl
set_option maxRecDepth 100000 in
theorem e_Choir_chordsOf_11 (k1 : Nat) (x1 : Int32) (x2 : Int32) (μ : jm) : evj 51 11 [jR 1 50, jR 8 k1, jU, jI x1, jI x2] [] μ = (jbr (decide ((gI μ k1 9) ≤ x2)) (some (some (jI x1), μ)) (jgd (inB x2 8) (bI (cj 50 [jR 1 50, jI (gI μ (k1 + 7) (ix x2))] μ) (fun r1 m1 => jbr (decide (r1 = 0)) (evj 51 11 [jR 1 50, jR 8 k1, jU, jI x1, jI (x2 + 1)] [] m1) (evj 51 11 [jR 1 50, jR 8 k1, jU, jI (x1 ||| ((1 : Int32) <<< (x2 &&& 31))), jI (x2 + 1)] [] m1))))) :=
  (evj_s (F := K51) rfl [11] 20 rfl).trans rfl
set_option maxRecDepth 100000 in
theorem e_Choir_smallestSet (k1 : Nat) (x2 : Int32) (x3 : Int32) (μ : jm) : cj 52 [jR 1 50, jR 8 k1, jI x2, jI x3] μ = (evj 52 10 [jR 1 50, jR 8 k1, jI x2, jI x3, jI (-1 : Int32), jI (8 : Int32), jI (0 : Int32), jU] [] μ) :=
  (cj_it (F := K52) rfl [10, 39, 40] 7 _ _).trans rfl
set_option maxRecDepth 100000 in
theorem e_Choir_smallestSet_10 (k1 : Nat) (x1 : Int32) (x2 : Int32) (x3 : Int32) (x4 : Int32) (x5 : Int32) (μ : jm) : evj 52 10 [jR 1 50, jR 8 k1, jI x1, jI x2, jI x3, jI x4, jI x5, jU] [] μ = (jbr (decide (x1 < x5)) (some (some (jI x3), μ)) (jbr (decide (¬ (x5 &&& (x1 ^^^ (-1 : Int32))) = 0)) (evj 52 39 [jR 1 50, jR 8 k1, jI x1, jI x2, jI x3, jI x4, jI x5, jU] [] μ) (bI (cj 0 [jI x5] μ) (fun r1 m1 => jbr (decide (x4 ≤ r1)) (evj 52 39 [jR 1 50, jR 8 k1, jI x1, jI x2, jI x3, jI x4, jI x5, jU] [] m1) (evj 52 40 [jR 1 50, jR 8 k1, jI x1, jI x2, jI x3, jI x4, jI x5, jU] [jI (1 : Int32)] m1))))) :=
  (evj_s (F := K52) rfl [10, 39, 40] 16 rfl).trans rfl
set_option maxRecDepth 100000 in
theorem e_Choir_smallestSet_39 (k1 : Nat) (x1 : Int32) (x2 : Int32) (x3 : Int32) (x4 : Int32) (x5 : Int32) (μ : jm) : evj 52 39 [jR 1 50, jR 8 k1, jI x1, jI x2, jI x3, jI x4, jI x5, jU] [] μ = (evj 52 40 [jR 1 50, jR 8 k1, jI x1, jI x2, jI x3, jI x4, jI x5, jU] [jI (0 : Int32)] μ) :=
  (evj_s (F := K52) rfl [10, 39, 40] 2 rfl).trans rfl
set_option maxRecDepth 100000 in
theorem e_Choir_smallestSet_40 (k1 : Nat) (x1 : Int32) (x2 : Int32) (x3 : Int32) (x4 : Int32) (x5 : Int32) (x6 : Int32) (μ : jm) : evj 52 40 [jR 1 50, jR 8 k1, jI x1, jI x2, jI x3, jI x4, jI x5, jU] [jI x6] μ = (jbr (decide (x6 = 0)) (evj 52 10 [jR 1 50, jR 8 k1, jI x1, jI x2, jI x3, jI x4, jI (x5 + 1), jU] [] μ) (bI (cj 48 [jR 1 50, jR 8 k1, jI x5, jI x2] μ) (fun r1 m1 => jbr (decide (r1 = 0)) (evj 52 10 [jR 1 50, jR 8 k1, jI x1, jI x2, jI x3, jI x4, jI (x5 + 1), jU] [] m1) (bI (cj 0 [jI x5] m1) (fun r2 m2 => evj 52 10 [jR 1 50, jR 8 k1, jI x1, jI x2, jI x5, jI r2, jI (x5 + 1), jU] [] m2))))) :=
  (evj_s (F := K52) rfl [10, 39, 40] 17 rfl).trans rfl
set_option maxRecDepth 100000 in
theorem e_Choir_canSayAll (k1 : Nat) (x2 : Int32) (x3 : Int32) (μ : jm) : cj 53 [jR 1 50, jR 8 k1, jI x2, jI x3] μ = (bV (cj 49 [jR 1 50, jR 8 k1, jI x2] μ) (fun m1 => evj 53 9 [jR 1 50, jR 8 k1, jU, jI x3, jI (0 : Int32)] [] m1)) :=
  (cj_it (F := K53) rfl [9] 7 _ _).trans rfl
set_option maxRecDepth 100000 in
theorem e_Choir_canSayAll_9 (k1 : Nat) (x1 : Int32) (x2 : Int32) (μ : jm) : evj 53 9 [jR 1 50, jR 8 k1, jU, jI x1, jI x2] [] μ = (jbr (decide ((gI μ k1 9) ≤ x2)) (some (some (jI ((1 : Int32) &&& 1)), μ)) (jbr (decide (((x1 >>> (x2 &&& 31)) &&& (1 : Int32)) = 0)) (evj 53 9 [jR 1 50, jR 8 k1, jU, jI x1, jI (x2 + 1)] [] μ) (jgd (inB x2 8) (bI (cj 50 [jR 1 50, jI (gI μ (k1 + 7) (ix x2))] μ) (fun r1 m1 => jbr (decide (¬ r1 = 0)) (evj 53 9 [jR 1 50, jR 8 k1, jU, jI x1, jI (x2 + 1)] [] m1) (some (some (jI ((0 : Int32) &&& 1)), m1))))))) :=
  (evj_s (F := K53) rfl [9] 20 rfl).trans rfl
set_option maxRecDepth 100000 in
theorem e_Choir_blockers (k1 : Nat) (x2 : Int32) (x3 : Int32) (μ : jm) : cj 54 [jR 1 50, jR 8 k1, jI x2, jI x3] μ = (evj 54 6 [jR 1 50, jR 8 k1, jI x2, jI x3, jI (0 : Int32), jI (0 : Int32), jU] [] μ) :=
  (cj_it (F := K54) rfl [6] 5 _ _).trans rfl
set_option maxRecDepth 100000 in
theorem e_Choir_blockers_6 (k1 : Nat) (x1 : Int32) (x2 : Int32) (x3 : Int32) (x4 : Int32) (μ : jm) : evj 54 6 [jR 1 50, jR 8 k1, jI x1, jI x2, jI x3, jI x4, jU] [] μ = (jbr (decide ((7 : Int32) ≤ x4)) (some (some (jI x3), μ)) (jbr (decide ((x1 &&& ((1 : Int32) <<< (x4 &&& 31))) = 0)) (evj 54 6 [jR 1 50, jR 8 k1, jI x1, jI x2, jI x3, jI (x4 + 1), jU] [] μ) (bI (cj 48 [jR 1 50, jR 8 k1, jI (x1 &&& ((x1 &&& ((1 : Int32) <<< (x4 &&& 31))) ^^^ (-1 : Int32))), jI x2] μ) (fun r1 m1 => jbr (decide (¬ r1 = 0)) (evj 54 6 [jR 1 50, jR 8 k1, jI x1, jI x2, jI x3, jI (x4 + 1), jU] [] m1) (evj 54 6 [jR 1 50, jR 8 k1, jI x1, jI x2, jI (x3 ||| (x1 &&& ((1 : Int32) <<< (x4 &&& 31)))), jI (x4 + 1), jU] [] m1))))) :=
  (evj_s (F := K54) rfl [6] 28 rfl).trans rfl
set_option maxRecDepth 100000 in
theorem e_Choir_setsSwungBy (k1 : Nat) (x2 : Int32) (x3 : Int32) (x4 : Int32) (μ : jm) : cj 55 [jR 1 50, jR 8 k1, jI x2, jI x3, jI x4] μ = (evj 55 19 [jR 1 50, jR 8 k1, jU, jU, jI x4, jI ((1 : Int32) <<< (x3 &&& 31)), jI (x2 &&& (((1 : Int32) <<< (x3 &&& 31)) ^^^ (-1 : Int32))), jI (0 : Int32), jI (0 : Int32), jU] [] μ) :=
  (cj_it (F := K55) rfl [19, 41] 15 _ _).trans rfl
set_option maxRecDepth 100000 in
theorem e_Choir_setsSwungBy_19 (k1 : Nat) (x1 : Int32) (x2 : Int32) (x3 : Int32) (x4 : Int32) (x5 : Int32) (μ : jm) : evj 55 19 [jR 1 50, jR 8 k1, jU, jU, jI x1, jI x2, jI x3, jI x4, jI x5, jU] [] μ = (jbr (decide (x3 < x5)) (some (some (jI x4), μ)) (jbr (decide (¬ (x5 &&& (x3 ^^^ (-1 : Int32))) = 0)) (evj 55 41 [jR 1 50, jR 8 k1, jU, jU, jI x1, jI x2, jI x3, jI x4, jI x5, jU] [jI (0 : Int32)] μ) (evj 55 41 [jR 1 50, jR 8 k1, jU, jU, jI x1, jI x2, jI x3, jI x4, jI x5, jU] [jI (1 : Int32)] μ))) :=
  (evj_s (F := K55) rfl [19, 41] 12 rfl).trans rfl
set_option maxRecDepth 100000 in
theorem e_Choir_setsSwungBy_41 (k1 : Nat) (x1 : Int32) (x2 : Int32) (x3 : Int32) (x4 : Int32) (x5 : Int32) (x6 : Int32) (μ : jm) : evj 55 41 [jR 1 50, jR 8 k1, jU, jU, jI x1, jI x2, jI x3, jI x4, jI x5, jU] [jI x6] μ = (jbr (decide (x6 = 0)) (evj 55 19 [jR 1 50, jR 8 k1, jU, jU, jI x1, jI x2, jI x3, jI x4, jI (x5 + 1), jU] [] μ) (bI (cj 48 [jR 1 50, jR 8 k1, jI x5, jI x1] μ) (fun r1 m1 => jbr (decide (¬ r1 = 0)) (evj 55 19 [jR 1 50, jR 8 k1, jU, jU, jI x1, jI x2, jI x3, jI x4, jI (x5 + 1), jU] [] m1) (bI (cj 48 [jR 1 50, jR 8 k1, jI (x5 ||| x2), jI x1] m1) (fun r2 m2 => jbr (decide (r2 = 0)) (evj 55 19 [jR 1 50, jR 8 k1, jU, jU, jI x1, jI x2, jI x3, jI x4, jI (x5 + 1), jU] [] m2) (evj 55 19 [jR 1 50, jR 8 k1, jU, jU, jI x1, jI x2, jI x3, jI (x4 + 1), jI (x5 + 1), jU] [] m2)))))) :=
  (evj_s (F := K55) rfl [19, 41] 21 rfl).trans rfl
set_option maxRecDepth 100000 in
theorem e_Choir_bestCouple (k1 : Nat) (k2 : Nat) (x3 : Int32) (μ : jm) : cj 56 [jR 1 50, jR 8 k1, jR 8 k2, jI x3] μ = (bV (cj 28 [jR 8 k2, jR 8 k1] μ) (fun m1 => evj 56 14 [jR 1 50, jR 8 k1, jR 8 k2, jI x3, jI (-1 : Int32), jI (-1 : Int32), jI (0 : Int32), jU, jU, jU] [] m1)) :=
  (cj_it (F := K56) rfl [14, 27, 58, 59] 10 _ _).trans rfl
set_option maxRecDepth 100000 in
theorem e_Choir_bestCouple_14 (k1 : Nat) (k2 : Nat) (x2 : Int32) (x3 : Int32) (x4 : Int32) (x5 : Int32) (μ : jm) : evj 56 14 [jR 1 50, jR 8 k1, jR 8 k2, jI x2, jI x3, jI x4, jI x5, jU, jU, jU] [] μ = (jbr (decide ((7 : Int32) ≤ x5)) (some (some (jI x3), μ)) (evj 56 27 [jR 1 50, jR 8 k1, jR 8 k2, jI x2, jI x3, jI x4, jI x5, jI (x5 + (1 : Int32)), jU, jU] [] μ)) :=
  (evj_s (F := K56) rfl [14, 27, 58, 59] 8 rfl).trans rfl
set_option maxRecDepth 100000 in
theorem e_Choir_bestCouple_27 (k1 : Nat) (k2 : Nat) (x2 : Int32) (x3 : Int32) (x4 : Int32) (x5 : Int32) (x6 : Int32) (μ : jm) : evj 56 27 [jR 1 50, jR 8 k1, jR 8 k2, jI x2, jI x3, jI x4, jI x5, jI x6, jU, jU] [] μ = (jbr (decide ((7 : Int32) ≤ x6)) (evj 56 14 [jR 1 50, jR 8 k1, jR 8 k2, jI x2, jI x3, jI x4, jI (x5 + 1), jU, jU, jU] [] μ) (bI (cj 25 [jR 8 k1, jI x5, jI x2] μ) (fun r1 m1 => jbr (decide (r1 = 0)) (evj 56 58 [jR 1 50, jR 8 k1, jR 8 k2, jI x2, jI x3, jI x4, jI x5, jI x6, jU, jU] [] m1) (bI (cj 25 [jR 8 k1, jI x6, jI x2] m1) (fun r2 m2 => jbr (decide (r2 = 0)) (evj 56 58 [jR 1 50, jR 8 k1, jR 8 k2, jI x2, jI x3, jI x4, jI x5, jI x6, jU, jU] [] m2) (evj 56 59 [jR 1 50, jR 8 k1, jR 8 k2, jI x2, jI x3, jI x4, jI x5, jI x6, jU, jU] [jI (1 : Int32)] m2)))))) :=
  (evj_s (F := K56) rfl [14, 27, 58, 59] 16 rfl).trans rfl
set_option maxRecDepth 100000 in
theorem e_Choir_bestCouple_58 (k1 : Nat) (k2 : Nat) (x2 : Int32) (x3 : Int32) (x4 : Int32) (x5 : Int32) (x6 : Int32) (μ : jm) : evj 56 58 [jR 1 50, jR 8 k1, jR 8 k2, jI x2, jI x3, jI x4, jI x5, jI x6, jU, jU] [] μ = (evj 56 59 [jR 1 50, jR 8 k1, jR 8 k2, jI x2, jI x3, jI x4, jI x5, jI x6, jU, jU] [jI (0 : Int32)] μ) :=
  (evj_s (F := K56) rfl [14, 27, 58, 59] 2 rfl).trans rfl
set_option maxRecDepth 100000 in
theorem e_Choir_bestCouple_59 (k1 : Nat) (k2 : Nat) (x2 : Int32) (x3 : Int32) (x4 : Int32) (x5 : Int32) (x6 : Int32) (x7 : Int32) (μ : jm) : evj 56 59 [jR 1 50, jR 8 k1, jR 8 k2, jI x2, jI x3, jI x4, jI x5, jI x6, jU, jU] [jI x7] μ = (jbr (decide (x7 = 0)) (evj 56 27 [jR 1 50, jR 8 k1, jR 8 k2, jI x2, jI x3, jI x4, jI x5, jI (x6 + 1), jU, jU] [] μ) (jgd (inB x5 7) (jbr (decide (¬ (gI μ (k1 + 6) (ix x5)) = x6)) (bV (cj 29 [jR 8 k2, jR 8 k1] μ) (fun m1 => bV (cj 40 [jR 8 k2, jI x5, jI x6] m1) (fun m2 => bI (cj 51 [jR 1 50, jR 8 k2, jI x2] m2) (fun r3 m3 => bI (cj 0 [jI r3] m3) (fun r4 m4 => jbr (decide (r4 ≤ x4)) (evj 56 27 [jR 1 50, jR 8 k1, jR 8 k2, jI x2, jI x3, jI x4, jI x5, jI (x6 + 1), jU, jU] [] m4) (evj 56 27 [jR 1 50, jR 8 k1, jR 8 k2, jI x2, jI (((10 : Int32) * x5) + x6), jI r4, jI x5, jI (x6 + 1), jU, jU] [] m4)))))) (evj 56 27 [jR 1 50, jR 8 k1, jR 8 k2, jI x2, jI x3, jI x4, jI x5, jI (x6 + 1), jU, jU] [] μ)))) :=
  (evj_s (F := K56) rfl [14, 27, 58, 59] 36 rfl).trans rfl
set_option maxRecDepth 100000 in
theorem e_Errand_seek (k1 : Nat) (x3 : Int32) (μ : jm) : cj 57 [jR 2 53, jR 8 k1, jR 1 50, jI x3] μ = (bV (cj 58 [jR 2 53, jR 8 k1] μ) (fun m1 => bI (cj 35 [jR 8 k1] (sI m1 53 1 (-1 : Int32))) (fun r2 m2 => evj 57 27 [jR 2 53, jR 8 k1, jR 1 50, jI x3, jI r2, jI ((1 : Int32) <<< ((gI m2 k1 6) &&& 31)), jI (0 : Int32), jU, jU] [] m2))) :=
  (cj_it (F := K57) rfl [27, 108, 127] 17 _ _).trans rfl
set_option maxRecDepth 100000 in
theorem e_Errand_seek_27 (k1 : Nat) (x1 : Int32) (x2 : Int32) (x3 : Int32) (x4 : Int32) (μ : jm) : evj 57 27 [jR 2 53, jR 8 k1, jR 1 50, jI x1, jI x2, jI x3, jI x4, jU, jU] [] μ = (jbr (decide (x3 ≤ x4)) (jbr (decide ((gI μ 53 1) = (-1 : Int32))) (evj 57 127 [jU, jU, jU, jU, jU, jU, jU, jU, jU] [jI (0 : Int32)] μ) (evj 57 127 [jU, jU, jU, jU, jU, jU, jU, jU, jU] [jI (1 : Int32)] μ)) (bI (cj 60 [jR 2 53, jR 8 k1, jI x4, jI x1] μ) (fun r1 m1 => jbr (decide (¬ r1 = (-1 : Int32))) (bI (cj 61 [jR 2 53, jR 8 k1, jI r1, jI x4, jI x1] m1) (fun r2 m2 => bI (cj 62 [jR 2 53, jI r2, jI r1, jI x4] m2) (fun r3 m3 => jbr (decide (r3 = 0)) (evj 57 108 [jR 2 53, jR 8 k1, jR 1 50, jI x1, jI x2, jI x3, jI x4, jU, jU] [] m3) (bI (cj 53 [jR 1 50, jR 8 k1, jI x4, jI x2] m3) (fun r4 m4 => jbr (decide (r4 = 0)) (evj 57 108 [jR 2 53, jR 8 k1, jR 1 50, jI x1, jI x2, jI x3, jI x4, jU, jU] [] m4) (evj 57 108 [jR 2 53, jR 8 k1, jR 1 50, jI x1, jI x2, jI x3, jI x4, jU, jU] [] (sI (sI (sI m4 53 1 r2) 53 2 r1) 53 3 x4))))))) (evj 57 108 [jR 2 53, jR 8 k1, jR 1 50, jI x1, jI x2, jI x3, jI x4, jU, jU] [] m1)))) :=
  (evj_s (F := K57) rfl [27, 108, 127] 41 rfl).trans rfl
set_option maxRecDepth 100000 in
theorem e_Errand_seek_108 (k1 : Nat) (x1 : Int32) (x2 : Int32) (x3 : Int32) (x4 : Int32) (μ : jm) : evj 57 108 [jR 2 53, jR 8 k1, jR 1 50, jI x1, jI x2, jI x3, jI x4, jU, jU] [] μ = (evj 57 27 [jR 2 53, jR 8 k1, jR 1 50, jI x1, jI x2, jI x3, jI (x4 + 1), jU, jU] [] μ) :=
  (evj_s (F := K57) rfl [27, 108, 127] 3 rfl).trans rfl
set_option maxRecDepth 100000 in
theorem e_Errand_seek_127 (x0 : Int32) (μ : jm) : evj 57 127 [jU, jU, jU, jU, jU, jU, jU, jU, jU] [jI x0] μ = (some (some (jI (x0 &&& 1)), μ)) :=
  (evj_s (F := K57) rfl [27, 108, 127] 2 rfl).trans rfl
set_option maxRecDepth 100000 in
theorem e_Errand_measure (k1 : Nat) (μ : jm) : cj 58 [jR 2 53, jR 8 k1] μ = (evj 58 2 [jR 2 53, jR 8 k1, jI (0 : Int32), jU, jU] [] μ) :=
  (cj_it (F := K58) rfl [2, 10, 41] 3 _ _).trans rfl
set_option maxRecDepth 100000 in
theorem e_Errand_measure_2 (k1 : Nat) (x1 : Int32) (μ : jm) : evj 58 2 [jR 2 53, jR 8 k1, jI x1, jU, jU] [] μ = (jbr (decide ((6 : Int32) ≤ x1)) (some (none, μ)) (evj 58 10 [jR 2 53, jR 8 k1, jI x1, jI (0 : Int32), jU] [] μ)) :=
  (evj_s (F := K58) rfl [2, 10, 41] 6 rfl).trans rfl
set_option maxRecDepth 100000 in
theorem e_Errand_measure_10 (k1 : Nat) (x1 : Int32) (x2 : Int32) (μ : jm) : evj 58 10 [jR 2 53, jR 8 k1, jI x1, jI x2, jU] [] μ = (jbr (decide ((6 : Int32) ≤ x2)) (evj 58 41 [jR 2 53, jR 8 k1, jI x1, jI ((1 : Int32) <<< (x1 &&& 31)), jI (0 : Int32)] [] μ) (jgd (inB ((x1 * (6 : Int32)) + x2) 36) (evj 58 10 [jR 2 53, jR 8 k1, jI x1, jI (x2 + 1), jU] [] (sI μ 54 (ix ((x1 * (6 : Int32)) + x2)) (-1 : Int32))))) :=
  (evj_s (F := K58) rfl [2, 10, 41] 15 rfl).trans rfl
set_option maxRecDepth 100000 in
theorem e_Errand_measure_41 (k1 : Nat) (x1 : Int32) (x2 : Int32) (x3 : Int32) (μ : jm) : evj 58 41 [jR 2 53, jR 8 k1, jI x1, jI x2, jI x3] [] μ = (jbr (decide ((6 : Int32) ≤ x3)) (evj 58 2 [jR 2 53, jR 8 k1, jI (x1 + 1), jU, jU] [] μ) (bI (cj 59 [jR 2 53, jR 8 k1, jI x1, jI x2, jI x3] μ) (fun r1 m1 => evj 58 41 [jR 2 53, jR 8 k1, jI x1, jI r1, jI (x3 + 1)] [] m1))) :=
  (evj_s (F := K58) rfl [2, 10, 41] 13 rfl).trans rfl
set_option maxRecDepth 100000 in
theorem e_Errand_spreadOnce (k1 : Nat) (x2 : Int32) (x3 : Int32) (x4 : Int32) (μ : jm) : cj 59 [jR 2 53, jR 8 k1, jI x2, jI x3, jI x4] μ = (evj 59 6 [jR 2 53, jR 8 k1, jI x2, jI x3, jI x4, jI x3, jI (0 : Int32), jU] [] μ) :=
  (cj_it (F := K59) rfl [6] 5 _ _).trans rfl
set_option maxRecDepth 100000 in
theorem e_Errand_spreadOnce_6 (k1 : Nat) (x1 : Int32) (x2 : Int32) (x3 : Int32) (x4 : Int32) (x5 : Int32) (μ : jm) : evj 59 6 [jR 2 53, jR 8 k1, jI x1, jI x2, jI x3, jI x4, jI x5, jU] [] μ = (jbr (decide ((6 : Int32) ≤ x5)) (some (some (jI x4), μ)) (jbr (decide (((x2 >>> (x5 &&& 31)) &&& (1 : Int32)) = 0)) (evj 59 6 [jR 2 53, jR 8 k1, jI x1, jI x2, jI x3, jI x4, jI (x5 + 1), jU] [] μ) (jgd (inB ((x1 * (6 : Int32)) + x5) 36) (jbr (decide (¬ (gI μ 54 (ix ((x1 * (6 : Int32)) + x5))) = (-1 : Int32))) (evj 59 6 [jR 2 53, jR 8 k1, jI x1, jI x2, jI x3, jI x4, jI (x5 + 1), jU] [] μ) (jgd (inB ((x1 * (6 : Int32)) + x5) 36) (jgd (inB x5 6) (evj 59 6 [jR 2 53, jR 8 k1, jI x1, jI x2, jI x3, jI (x4 ||| (gI (sI μ 54 (ix ((x1 * (6 : Int32)) + x5)) x3) (k1 + 1) (ix x5))), jI (x5 + 1), jU] [] (sI μ 54 (ix ((x1 * (6 : Int32)) + x5)) x3)))))))) :=
  (evj_s (F := K59) rfl [6] 36 rfl).trans rfl
set_option maxRecDepth 100000 in
theorem e_Errand_nearestRoom (k1 : Nat) (x2 : Int32) (x3 : Int32) (μ : jm) : cj 60 [jR 2 53, jR 8 k1, jI x2, jI x3] μ = (evj 60 9 [jR 2 53, jR 8 k1, jI x2, jI x3, jI (-1 : Int32), jI (0 : Int32), jI (0 : Int32), jU] [] μ) :=
  (cj_it (F := K60) rfl [9] 7 _ _).trans rfl
set_option maxRecDepth 100000 in
theorem e_Errand_nearestRoom_9 (k1 : Nat) (x1 : Int32) (x2 : Int32) (x3 : Int32) (x4 : Int32) (x5 : Int32) (μ : jm) : evj 60 9 [jR 2 53, jR 8 k1, jI x1, jI x2, jI x3, jI x4, jI x5, jU] [] μ = (jbr (decide ((6 : Int32) ≤ x5)) (some (some (jI x3), μ)) (bI (cj 61 [jR 2 53, jR 8 k1, jI x5, jI x1, jI x2] μ) (fun r1 m1 => jbr (decide (r1 = (-1 : Int32))) (evj 60 9 [jR 2 53, jR 8 k1, jI x1, jI x2, jI x3, jI x4, jI (x5 + 1), jU] [] m1) (jbr (decide (x3 = (-1 : Int32))) (evj 60 9 [jR 2 53, jR 8 k1, jI x1, jI x2, jI x5, jI r1, jI (x5 + 1), jU] [] m1) (jbr (decide (x4 ≤ r1)) (evj 60 9 [jR 2 53, jR 8 k1, jI x1, jI x2, jI x3, jI x4, jI (x5 + 1), jU] [] m1) (evj 60 9 [jR 2 53, jR 8 k1, jI x1, jI x2, jI x5, jI r1, jI (x5 + 1), jU] [] m1)))))) :=
  (evj_s (F := K60) rfl [9] 26 rfl).trans rfl
set_option maxRecDepth 100000 in
theorem e_Errand_stepsTo (k1 : Nat) (x2 : Int32) (x3 : Int32) (x4 : Int32) (μ : jm) : cj 61 [jR 2 53, jR 8 k1, jI x2, jI x3, jI x4] μ = (evj 61 6 [jR 2 53, jR 8 k1, jI x2, jI x3, jI x4, jI (0 : Int32), jI (0 : Int32), jU] [] μ) :=
  (cj_it (F := K61) rfl [6] 5 _ _).trans rfl
set_option maxRecDepth 100000 in
theorem e_Errand_stepsTo_6 (k1 : Nat) (x1 : Int32) (x2 : Int32) (x3 : Int32) (x4 : Int32) (x5 : Int32) (μ : jm) : evj 61 6 [jR 2 53, jR 8 k1, jI x1, jI x2, jI x3, jI x4, jI x5, jU] [] μ = (jbr (decide ((gI μ k1 6) ≤ x5)) (some (some (jI x4), μ)) (jbr (decide (((x2 >>> (x5 &&& 31)) &&& (1 : Int32)) = 0)) (evj 61 6 [jR 2 53, jR 8 k1, jI x1, jI x2, jI x3, jI x4, jI (x5 + 1), jU] [] μ) (jgd (inB x5 7) (jgd (inB (((gI μ (k1 + 5) (ix x5)) * (6 : Int32)) + x1) 36) (jbr (decide ((gI μ 54 (ix (((gI μ (k1 + 5) (ix x5)) * (6 : Int32)) + x1))) = (-1 : Int32))) (some (some (jI (-1 : Int32)), μ)) (jbr (decide ((gI μ 54 (ix (((gI μ (k1 + 5) (ix x5)) * (6 : Int32)) + x1))) ≤ x3)) (evj 61 6 [jR 2 53, jR 8 k1, jI x1, jI x2, jI x3, jI (x4 + (gI μ 54 (ix (((gI μ (k1 + 5) (ix x5)) * (6 : Int32)) + x1)))), jI (x5 + 1), jU] [] μ) (some (some (jI (-1 : Int32)), μ)))))))) :=
  (evj_s (F := K61) rfl [6] 35 rfl).trans rfl
set_option maxRecDepth 100000 in
theorem e_Errand_isBetter (x1 : Int32) (x2 : Int32) (x3 : Int32) (μ : jm) : cj 62 [jR 2 53, jI x1, jI x2, jI x3] μ = (jbr (decide ((gI μ 53 1) = (-1 : Int32))) (evj 62 16 [jR 2 53, jI x1, jU, jU] [] μ) (jbr (decide (x1 = (gI μ 53 1))) (jbr (decide (x2 = (gI μ 53 2))) (bI (cj 0 [jI x3] μ) (fun r1 m1 => bI (cj 0 [jI (gI m1 53 3)] m1) (fun r2 m2 => jbr (decide (r2 ≤ r1)) (evj 62 79 [jU, jU, jU, jU] [jI (0 : Int32)] m2) (evj 62 79 [jU, jU, jU, jU] [jI (1 : Int32)] m2)))) (jbr (decide ((gI μ 53 2) ≤ x2)) (evj 62 59 [jU, jU, jU, jU] [jI (0 : Int32)] μ) (evj 62 59 [jU, jU, jU, jU] [jI (1 : Int32)] μ))) (evj 62 16 [jR 2 53, jI x1, jU, jU] [] μ))) :=
  (cj_it (F := K62) rfl [16, 59, 79] 21 _ _).trans rfl
set_option maxRecDepth 100000 in
theorem e_Errand_isBetter_16 (x0 : Int32) (μ : jm) : evj 62 16 [jR 2 53, jI x0, jU, jU] [] μ = (jbr (decide ((gI μ 53 1) = (-1 : Int32))) (some (some (jI ((1 : Int32) &&& 1)), μ)) (jbr (decide ((gI μ 53 1) ≤ x0)) (some (some (jI ((0 : Int32) &&& 1)), μ)) (some (some (jI ((1 : Int32) &&& 1)), μ)))) :=
  (evj_s (F := K62) rfl [16, 59, 79] 12 rfl).trans rfl
set_option maxRecDepth 100000 in
theorem e_Errand_isBetter_59 (x0 : Int32) (μ : jm) : evj 62 59 [jU, jU, jU, jU] [jI x0] μ = (some (some (jI (x0 &&& 1)), μ)) :=
  (evj_s (F := K62) rfl [16, 59, 79] 2 rfl).trans rfl
set_option maxRecDepth 100000 in
theorem e_Errand_isBetter_79 (x0 : Int32) (μ : jm) : evj 62 79 [jU, jU, jU, jU] [jI x0] μ = (some (some (jI (x0 &&& 1)), μ)) :=
  (evj_s (F := K62) rfl [16, 59, 79] 2 rfl).trans rfl
set_option maxRecDepth 100000 in
theorem e_Fog_confuses (x0 : Int32) (x1 : Int32) (x2 : Int32) (μ : jm) : cj 63 [jI x0, jI x1, jI x2] μ = (evj 63 5 [jI x0, jI x1, jI x2, jI (1 : Int32), jI (0 : Int32), jU] [] μ) :=
  (cj_it (F := K63) rfl [5] 5 _ _).trans rfl
set_option maxRecDepth 100000 in
theorem e_Fog_confuses_5 (x0 : Int32) (x1 : Int32) (x2 : Int32) (x3 : Int32) (x4 : Int32) (μ : jm) : evj 63 5 [jI x0, jI x1, jI x2, jI x3, jI x4, jU] [] μ = (jbr (decide ((12 : Int32) ≤ x4)) (bI (cj 14 [jI x3] μ) (fun r1 m1 => some (some (jI (r1 &&& 1)), m1))) (jbr (decide ((x0 &&& ((1 : Int32) <<< (x4 &&& 31))) = 0)) (evj 63 5 [jI x0, jI x1, jI x2, jI x3, jI (x4 + 1), jU] [] μ) (bI (cj 12 [jI (x0 &&& ((1 : Int32) <<< (x4 &&& 31))), jI x2] μ) (fun r2 m2 => bI (cj 13 [jI x3, jI r2, jI x1] m2) (fun r3 m3 => evj 63 5 [jI x0, jI x1, jI x2, jI r3, jI (x4 + 1), jU] [] m3))))) :=
  (evj_s (F := K63) rfl [5] 21 rfl).trans rfl
set_option maxRecDepth 100000 in
theorem e_Fog_leastToGo (k1 : Nat) (x2 : Int32) (μ : jm) : cj 64 [jR 3 55, jR 8 k1, jI x2] μ = (bV (cj 65 [jR 3 55, jR 8 k1, jI x2] μ) (fun m1 => evj 64 21 [jR 3 55, jU, jU, jI (((1 : Int32) <<< ((gI m1 k1 9) &&& 31)) - (1 : Int32)), jI (((1 : Int32) <<< ((gI m1 k1 9) &&& 31)) - (1 : Int32)), jI (0 : Int32)] [] m1)) :=
  (cj_it (F := K64) rfl [21] 16 _ _).trans rfl
set_option maxRecDepth 100000 in
theorem e_Fog_leastToGo_21 (x0 : Int32) (x1 : Int32) (x2 : Int32) (μ : jm) : evj 64 21 [jR 3 55, jU, jU, jI x0, jI x1, jI x2] [] μ = (jbr (decide (x0 < x2)) (some (some (jI x1), μ)) (bI (cj 0 [jI x2] μ) (fun r1 m1 => bI (cj 0 [jI x1] m1) (fun r2 m2 => jbr (decide (r2 ≤ r1)) (evj 64 21 [jR 3 55, jU, jU, jI x0, jI x1, jI (x2 + 1)] [] m2) (bI (cj 66 [jR 3 55, jI (x0 &&& (x2 ^^^ (-1 : Int32)))] m2) (fun r3 m3 => jbr (decide (r3 = 0)) (evj 64 21 [jR 3 55, jU, jU, jI x0, jI x1, jI (x2 + 1)] [] m3) (evj 64 21 [jR 3 55, jU, jU, jI x0, jI x2, jI (x2 + 1)] [] m3))))))) :=
  (evj_s (F := K64) rfl [21] 21 rfl).trans rfl
set_option maxRecDepth 100000 in
theorem e_Fog_findRivals (k1 : Nat) (x2 : Int32) (μ : jm) : cj 65 [jR 3 55, jR 8 k1, jI x2] μ = (evj 65 2 [jR 3 55, jR 8 k1, jI x2, jI (0 : Int32), jU] [] μ) :=
  (cj_it (F := K65) rfl [2, 20] 3 _ _).trans rfl
set_option maxRecDepth 100000 in
theorem e_Fog_findRivals_2 (k1 : Nat) (x1 : Int32) (x2 : Int32) (μ : jm) : evj 65 2 [jR 3 55, jR 8 k1, jI x1, jI x2, jU] [] μ = (jbr (decide ((gI μ k1 9) ≤ x2)) (some (none, μ)) (jgd (inB x2 8) (evj 65 20 [jR 3 55, jR 8 k1, jI x1, jI x2, jI (0 : Int32)] [] (sI μ 56 (ix x2) (0 : Int32))))) :=
  (evj_s (F := K65) rfl [2, 20] 12 rfl).trans rfl
set_option maxRecDepth 100000 in
theorem e_Fog_findRivals_20 (k1 : Nat) (x1 : Int32) (x2 : Int32) (x3 : Int32) (μ : jm) : evj 65 20 [jR 3 55, jR 8 k1, jI x1, jI x2, jI x3] [] μ = (jbr (decide ((gI μ k1 9) ≤ x3)) (evj 65 2 [jR 3 55, jR 8 k1, jI x1, jI (x2 + 1), jU] [] μ) (jbr (decide (x2 = x3)) (evj 65 20 [jR 3 55, jR 8 k1, jI x1, jI x2, jI (x3 + 1)] [] μ) (jgd (inB x2 8) (jgd (inB x3 8) (bI (cj 63 [jI (gI μ (k1 + 7) (ix x2)), jI (gI μ (k1 + 7) (ix x3)), jI x1] μ) (fun r1 m1 => jbr (decide (r1 = 0)) (evj 65 20 [jR 3 55, jR 8 k1, jI x1, jI x2, jI (x3 + 1)] [] m1) (jgd (inB x2 8) (jgd (inB x2 8) (evj 65 20 [jR 3 55, jR 8 k1, jI x1, jI x2, jI (x3 + 1)] [] (sI m1 56 (ix x2) ((gI m1 56 (ix x2)) ||| ((1 : Int32) <<< (x3 &&& 31))))))))))))) :=
  (evj_s (F := K65) rfl [2, 20] 31 rfl).trans rfl
set_option maxRecDepth 100000 in
theorem e_Fog_isClear (x1 : Int32) (μ : jm) : cj 66 [jR 3 55, jI x1] μ = (evj 66 2 [jR 3 55, jI x1, jI (0 : Int32)] [] μ) :=
  (cj_it (F := K66) rfl [2] 3 _ _).trans rfl
set_option maxRecDepth 100000 in
theorem e_Fog_isClear_2 (x0 : Int32) (x1 : Int32) (μ : jm) : evj 66 2 [jR 3 55, jI x0, jI x1] [] μ = (jbr (decide ((8 : Int32) ≤ x1)) (some (some (jI ((1 : Int32) &&& 1)), μ)) (jbr (decide (((x0 >>> (x1 &&& 31)) &&& (1 : Int32)) = 0)) (evj 66 2 [jR 3 55, jI x0, jI (x1 + 1)] [] μ) (jgd (inB x1 8) (jbr (decide (((gI μ 56 (ix x1)) &&& x0) = 0)) (evj 66 2 [jR 3 55, jI x0, jI (x1 + 1)] [] μ) (some (some (jI ((0 : Int32) &&& 1)), μ)))))) :=
  (evj_s (F := K66) rfl [2] 19 rfl).trans rfl
set_option maxRecDepth 100000 in
theorem e_Rumour_spread (k1 : Nat) (x2 : Int32) (μ : jm) : cj 67 [jR 6 57, jR 8 k1, jI x2] μ = (evj 67 12 [jR 6 57, jR 8 k1, jU, jI (0 : Int32), jU, jU] [] (sI (sI μ 57 2 x2) 57 1 (0 : Int32))) :=
  (cj_it (F := K67) rfl [12, 45, 80, 89] 9 _ _).trans rfl
set_option maxRecDepth 100000 in
theorem e_Rumour_spread_12 (k1 : Nat) (x1 : Int32) (μ : jm) : evj 67 12 [jR 6 57, jR 8 k1, jU, jI x1, jU, jU] [] μ = (jbr (decide ((gI μ k1 6) ≤ x1)) (evj 67 45 [jR 6 57, jR 8 k1, jU, jI (0 : Int32), jU, jU] [] μ) (jgd (inB x1 7) (evj 67 12 [jR 6 57, jR 8 k1, jU, jI (x1 + 1), jU, jU] [] (sI μ 57 1 ((gI μ 57 1) ||| ((1 : Int32) <<< ((gI μ (k1 + 5) (ix x1)) &&& 31))))))) :=
  (evj_s (F := K67) rfl [12, 45, 80, 89] 18 rfl).trans rfl
set_option maxRecDepth 100000 in
theorem e_Rumour_spread_45 (k1 : Nat) (x1 : Int32) (μ : jm) : evj 67 45 [jR 6 57, jR 8 k1, jU, jI x1, jU, jU] [] μ = (jbr (decide ((6 : Int32) ≤ x1)) (evj 67 80 [jR 6 57, jR 8 k1, jU, jI (0 : Int32), jU, jU] [] μ) (jbr (decide (¬ x1 = (gI μ 57 2))) (jgd (inB x1 6) (evj 67 45 [jR 6 57, jR 8 k1, jU, jI (x1 + 1), jU, jU] [] (sI μ 58 (ix x1) (1000 : Int32)))) (jgd (inB x1 6) (evj 67 45 [jR 6 57, jR 8 k1, jU, jI (x1 + 1), jU, jU] [] (sI μ 58 (ix x1) (0 : Int32)))))) :=
  (evj_s (F := K67) rfl [12, 45, 80, 89] 16 rfl).trans rfl
set_option maxRecDepth 100000 in
theorem e_Rumour_spread_80 (k1 : Nat) (x1 : Int32) (μ : jm) : evj 67 80 [jR 6 57, jR 8 k1, jU, jI x1, jU, jU] [] μ = (jbr (decide ((6 : Int32) ≤ x1)) (some (none, μ)) (evj 67 89 [jR 6 57, jR 8 k1, jU, jI x1, jI (0 : Int32), jU] [] μ)) :=
  (evj_s (F := K67) rfl [12, 45, 80, 89] 6 rfl).trans rfl
set_option maxRecDepth 100000 in
theorem e_Rumour_spread_89 (k1 : Nat) (x1 : Int32) (x2 : Int32) (μ : jm) : evj 67 89 [jR 6 57, jR 8 k1, jU, jI x1, jI x2, jU] [] μ = (jbr (decide ((6 : Int32) ≤ x2)) (evj 67 80 [jR 6 57, jR 8 k1, jU, jI (x1 + 1), jU, jU] [] μ) (bI (cj 68 [jR 6 57, jR 8 k1, jI x2] μ) (fun r1 m1 => jbr (decide (r1 = (-1 : Int32))) (evj 67 89 [jR 6 57, jR 8 k1, jU, jI x1, jI (x2 + 1), jU] [] m1) (jgd (inB x2 6) (bI (cj 69 [jR 6 57, jI r1] m1) (fun r2 m2 => jgd (inB x2 6) (evj 67 89 [jR 6 57, jR 8 k1, jU, jI x1, jI (x2 + 1), jU] [] (sI m2 58 (ix x2) (if r2 < (gI m1 58 (ix x2)) then r2 else (gI m1 58 (ix x2))))))))))) :=
  (evj_s (F := K67) rfl [12, 45, 80, 89] 26 rfl).trans rfl
set_option maxRecDepth 100000 in
theorem e_Rumour_nextRoom (k1 : Nat) (x2 : Int32) (μ : jm) : cj 68 [jR 6 57, jR 8 k1, jI x2] μ = (evj 68 5 [jR 6 57, jR 8 k1, jI x2, jI (-1 : Int32), jI (0 : Int32), jU] [] μ) :=
  (cj_it (F := K68) rfl [5, 43, 44] 5 _ _).trans rfl
set_option maxRecDepth 100000 in
theorem e_Rumour_nextRoom_5 (k1 : Nat) (x1 : Int32) (x2 : Int32) (x3 : Int32) (μ : jm) : evj 68 5 [jR 6 57, jR 8 k1, jI x1, jI x2, jI x3, jU] [] μ = (jbr (decide ((6 : Int32) ≤ x3)) (some (some (jI x2), μ)) (jgd (inB x1 6) (jbr (decide ((((gI μ (k1 + 2) (ix x1)) >>> (x3 &&& 31)) &&& (1 : Int32)) = 0)) (evj 68 43 [jR 6 57, jR 8 k1, jI x1, jI x2, jI x3, jU] [] μ) (jgd (inB x3 6) (jbr (decide ((1000 : Int32) ≤ (gI μ 58 (ix x3)))) (evj 68 43 [jR 6 57, jR 8 k1, jI x1, jI x2, jI x3, jU] [] μ) (evj 68 44 [jR 6 57, jR 8 k1, jI x1, jI x2, jI x3, jU] [jI (1 : Int32)] μ)))))) :=
  (evj_s (F := K68) rfl [5, 43, 44] 21 rfl).trans rfl
set_option maxRecDepth 100000 in
theorem e_Rumour_nextRoom_43 (k1 : Nat) (x1 : Int32) (x2 : Int32) (x3 : Int32) (μ : jm) : evj 68 43 [jR 6 57, jR 8 k1, jI x1, jI x2, jI x3, jU] [] μ = (evj 68 44 [jR 6 57, jR 8 k1, jI x1, jI x2, jI x3, jU] [jI (0 : Int32)] μ) :=
  (evj_s (F := K68) rfl [5, 43, 44] 2 rfl).trans rfl
set_option maxRecDepth 100000 in
theorem e_Rumour_nextRoom_44 (k1 : Nat) (x1 : Int32) (x2 : Int32) (x3 : Int32) (x4 : Int32) (μ : jm) : evj 68 44 [jR 6 57, jR 8 k1, jI x1, jI x2, jI x3, jU] [jI x4] μ = (jbr (decide (x4 = 0)) (evj 68 5 [jR 6 57, jR 8 k1, jI x1, jI x2, jI (x3 + 1), jU] [] μ) (jbr (decide (x2 = (-1 : Int32))) (evj 68 5 [jR 6 57, jR 8 k1, jI x1, jI x3, jI (x3 + 1), jU] [] μ) (bI (cj 69 [jR 6 57, jI x3] μ) (fun r1 m1 => bI (cj 69 [jR 6 57, jI x2] m1) (fun r2 m2 => jbr (decide (r2 ≤ r1)) (evj 68 5 [jR 6 57, jR 8 k1, jI x1, jI x2, jI (x3 + 1), jU] [] m2) (evj 68 5 [jR 6 57, jR 8 k1, jI x1, jI x3, jI (x3 + 1), jU] [] m2)))))) :=
  (evj_s (F := K68) rfl [5, 43, 44] 18 rfl).trans rfl
set_option maxRecDepth 100000 in
theorem e_Rumour_costBy (x1 : Int32) (μ : jm) : cj 69 [jR 6 57, jI x1] μ = (jbr (decide (x1 = (gI μ 57 2))) (evj 69 19 [jR 6 57, jI x1, jU] [] μ) (jbr (decide ((((gI μ 57 1) >>> (x1 &&& 31)) &&& (1 : Int32)) = 0)) (jgd (inB x1 6) (jbr (decide ((0 : Int32) = 0)) (some (some (jI ((gI μ 58 (ix x1)) + (17 : Int32))), μ)) (some (some (jI ((gI μ 58 (ix x1)) + (1 : Int32))), μ)))) (evj 69 19 [jR 6 57, jI x1, jU] [] μ))) :=
  (cj_it (F := K69) rfl [19] 24 _ _).trans rfl
set_option maxRecDepth 100000 in
theorem e_Rumour_costBy_19 (x0 : Int32) (μ : jm) : evj 69 19 [jR 6 57, jI x0, jU] [] μ = (jgd (inB x0 6) (jbr (decide ((1 : Int32) = 0)) (some (some (jI ((gI μ 58 (ix x0)) + (17 : Int32))), μ)) (some (some (jI ((gI μ 58 (ix x0)) + (1 : Int32))), μ)))) :=
  (evj_s (F := K69) rfl [19] 14 rfl).trans rfl
set_option maxRecDepth 100000 in
theorem e_Rumour_sentFrom (x1 : Int32) (μ : jm) : cj 70 [jR 6 57, jI x1] μ = (jgd (inB x1 6) (jbr (decide ((gI μ 58 (ix x1)) < (1000 : Int32))) (jgd (inB x1 6) (jgd (decide (¬ (16 : Int32) = 0)) (some (some (jI ((gI μ 58 (ix x1)) / (16 : Int32))), μ)))) (some (some (jI (-1 : Int32)), μ)))) :=
  (cj_it (F := K70) rfl [] 14 _ _).trans rfl
set_option maxRecDepth 100000 in
theorem e_Rumour_roomOfRow (k1 : Nat) (x2 : Int32) (x3 : Int32) (μ : jm) : cj 71 [jR 6 57, jR 8 k1, jI x2, jI x3] μ = (jgd (inB x2 6) (jbr (decide ((gI μ 58 (ix x2)) < (1000 : Int32))) (jgd (inB x2 6) (jgd (decide (¬ (16 : Int32) = 0)) (jbr (decide (x3 ≤ ((gI μ 58 (ix x2)) - (gI μ 58 (ix x2)) / (16 : Int32) * (16 : Int32)))) (evj 71 36 [jR 6 57, jR 8 k1, jU, jI x3, jI x2, jI (0 : Int32)] [] μ) (some (some (jI (-5 : Int32)), μ))))) (some (some (jI (-1 : Int32)), μ)))) :=
  (cj_it (F := K71) rfl [36] 19 _ _).trans rfl
set_option maxRecDepth 100000 in
theorem e_Rumour_roomOfRow_36 (k1 : Nat) (x1 : Int32) (x2 : Int32) (x3 : Int32) (μ : jm) : evj 71 36 [jR 6 57, jR 8 k1, jU, jI x1, jI x2, jI x3] [] μ = (jbr (decide (x1 ≤ x3)) (some (some (jI x2), μ)) (jbr (decide (x2 = (-1 : Int32))) (some (some (jI x2), μ)) (bI (cj 68 [jR 6 57, jR 8 k1, jI x2] μ) (fun r1 m1 => evj 71 36 [jR 6 57, jR 8 k1, jU, jI x1, jI r1, jI (x3 + 1)] [] m1)))) :=
  (evj_s (F := K71) rfl [36] 14 rfl).trans rfl
set_option maxRecDepth 100000 in
theorem e_Guess_countRows (k1 : Nat) (μ : jm) : cj 72 [jR 5 59, jR 8 k1] μ = (bL (cj 73 [jR 5 59, jR 8 k1, jI (0 : Int32), jI (-1 : Int32), jI (-1 : Int32)] μ) (fun r1 m1 => some (some (jI ((r1 : Int64).toInt32)), m1))) :=
  (cj_it (F := K72) rfl [] 9 _ _).trans rfl
set_option maxRecDepth 100000 in
theorem e_Guess_sumRows (k1 : Nat) (x2 : Int32) (x3 : Int32) (x4 : Int32) (μ : jm) : cj 73 [jR 5 59, jR 8 k1, jI x2, jI x3, jI x4] μ = (bV (cj 2 [jR 2008 60, jL (0 : Int64)] μ) (fun m1 => evj 73 14 [jR 5 59, jR 8 k1, jI x2, jI x3, jI x4, jL (1 : Int64), jU, jI (0 : Int32), jU, jU, jU, jU, jU, jU] [] m1)) :=
  (cj_it (F := K73) rfl [14, 61] 9 _ _).trans rfl
set_option maxRecDepth 100000 in
theorem e_Guess_sumRows_14 (k1 : Nat) (x1 : Int32) (x2 : Int32) (x3 : Int32) (y4 : Int64) (x5 : Int32) (μ : jm) : evj 73 14 [jR 5 59, jR 8 k1, jI x1, jI x2, jI x3, jL y4, jU, jI x5, jU, jU, jU, jU, jU, jU] [] μ = (jbr (decide ((gI μ k1 14) ≤ x5)) (some (some (jL y4), μ)) (jgd (inB x5 6) (bI (cj 39 [jR 8 k1, jI (gI μ (k1 + 10) (ix x5))] μ) (fun r1 m1 => jbr (decide (¬ x5 = x2)) (evj 73 61 [jR 5 59, jR 8 k1, jI x1, jI x2, jI x3, jL (0 : Int64), jU, jI x5, jI r1, jL y4, jU, jI (0 : Int32), jU, jU] [] m1) (evj 73 61 [jR 5 59, jR 8 k1, jI x1, jI x2, jI x3, jL (0 : Int64), jU, jI x5, jI (r1 &&& ((1 : Int32) <<< (x3 &&& 31))), jL y4, jU, jI (0 : Int32), jU, jU] [] m1))))) :=
  (evj_s (F := K73) rfl [14, 61] 27 rfl).trans rfl
set_option maxRecDepth 100000 in
theorem e_Guess_sumRows_61 (k1 : Nat) (x1 : Int32) (x2 : Int32) (x3 : Int32) (y4 : Int64) (x5 : Int32) (x6 : Int32) (y7 : Int64) (x8 : Int32) (μ : jm) : evj 73 61 [jR 5 59, jR 8 k1, jI x1, jI x2, jI x3, jL y4, jU, jI x5, jI x6, jL y7, jU, jI x8, jU, jU] [] μ = (jbr (decide ((gI μ k1 9) ≤ x8)) (evj 73 14 [jR 5 59, jR 8 k1, jI x1, jI x2, jI x3, jL y4, jU, jI (x5 + 1), jU, jU, jU, jU, jU, jU] [] μ) (jbr (decide (((x6 >>> (x8 &&& 31)) &&& (1 : Int32)) = 0)) (jbr (decide (x1 = 0)) (jgd (inB x8 8) (jgd (inB x8 8) (evj 73 61 [jR 5 59, jR 8 k1, jI x1, jI x2, jI x3, jL (y4 + (gL (sL μ 60 (ix x8) (0 : Int64)) 60 (ix x8))), jU, jI x5, jI x6, jL y7, jU, jI (x8 + 1), jU, jU] [] (sL μ 60 (ix x8) (0 : Int64))))) (jgd (inB x8 8) (jgd (inB x8 8) (jgd (inB x8 8) (evj 73 61 [jR 5 59, jR 8 k1, jI x1, jI x2, jI x3, jL (y4 + (gL (sL μ 60 (ix x8) ((0 : Int64) * ((gI μ (k1 + 8) (ix x8) : Int32).toInt64))) 60 (ix x8))), jU, jI x5, jI x6, jL y7, jU, jI (x8 + 1), jU, jU] [] (sL μ 60 (ix x8) ((0 : Int64) * ((gI μ (k1 + 8) (ix x8) : Int32).toInt64)))))))) (jgd (inB x8 8) (jbr (decide (x1 = 0)) (jgd (inB x8 8) (jgd (inB x8 8) (evj 73 61 [jR 5 59, jR 8 k1, jI x1, jI x2, jI x3, jL (y4 + (gL (sL μ 60 (ix x8) (y7 - (gL μ 60 (ix x8)))) 60 (ix x8))), jU, jI x5, jI x6, jL y7, jU, jI (x8 + 1), jU, jU] [] (sL μ 60 (ix x8) (y7 - (gL μ 60 (ix x8))))))) (jgd (inB x8 8) (jgd (inB x8 8) (jgd (inB x8 8) (evj 73 61 [jR 5 59, jR 8 k1, jI x1, jI x2, jI x3, jL (y4 + (gL (sL μ 60 (ix x8) ((y7 - (gL μ 60 (ix x8))) * ((gI μ (k1 + 8) (ix x8) : Int32).toInt64))) 60 (ix x8))), jU, jI x5, jI x6, jL y7, jU, jI (x8 + 1), jU, jU] [] (sL μ 60 (ix x8) ((y7 - (gL μ 60 (ix x8))) * ((gI μ (k1 + 8) (ix x8) : Int32).toInt64))))))))))) :=
  (evj_s (F := K73) rfl [14, 61] 42 rfl).trans rfl
set_option maxRecDepth 100000 in
theorem e_Guess_weighRows (k1 : Nat) (x2 : Int32) (x3 : Int32) (μ : jm) : cj 74 [jR 5 59, jR 8 k1, jI x2, jI x3] μ = (bL (cj 73 [jR 5 59, jR 8 k1, jI (1 : Int32), jI x2, jI x3] μ) (fun r1 m1 => some (some (jL r1), m1))) :=
  (cj_it (F := K74) rfl [] 8 _ _).trans rfl
set_option maxRecDepth 100000 in
theorem e_Chant_learn (k1 : Nat) (x2 : Int32) (x3 : Int32) (μ : jm) : cj 75 [jR 0 61, jR 8 k1, jI x2, jI x3] μ = (bV (cj 76 [jR 0 61, jR 8 k1, jI x3] (sI μ 61 2 x2)) (fun m1 => evj 75 14 [jR 0 61, jU, jI x2, jU, jI (1 : Int32), jU] [] m1)) :=
  (cj_it (F := K75) rfl [14, 32] 10 _ _).trans rfl
set_option maxRecDepth 100000 in
theorem e_Chant_learn_14 (x0 : Int32) (x1 : Int32) (μ : jm) : evj 75 14 [jR 0 61, jU, jI x0, jU, jI x1, jU] [] μ = (jbr (decide (x0 < x1)) (some (none, μ)) (jbr (decide (¬ (x1 &&& (x0 ^^^ (-1 : Int32))) = 0)) (evj 75 14 [jR 0 61, jU, jI x0, jU, jI (x1 + 1), jU] [] μ) (evj 75 32 [jR 0 61, jU, jI x0, jU, jI x1, jI (0 : Int32)] [] μ))) :=
  (evj_s (F := K75) rfl [14, 32] 12 rfl).trans rfl
set_option maxRecDepth 100000 in
theorem e_Chant_learn_32 (x0 : Int32) (x1 : Int32) (x2 : Int32) (μ : jm) : evj 75 32 [jR 0 61, jU, jI x0, jU, jI x1, jI x2] [] μ = (jbr (decide ((7 : Int32) ≤ x2)) (evj 75 14 [jR 0 61, jU, jI x0, jU, jI (x1 + 1), jU] [] μ) (bI (cj 77 [jR 0 61, jI x1, jI x2] μ) (fun r1 m1 => jgd (inB ((x1 * (7 : Int32)) + x2) 896) (evj 75 32 [jR 0 61, jU, jI x0, jU, jI x1, jI (x2 + 1)] [] (sI m1 62 (ix ((x1 * (7 : Int32)) + x2)) r1))))) :=
  (evj_s (F := K75) rfl [14, 32] 18 rfl).trans rfl
set_option maxRecDepth 100000 in
theorem e_Chant_findNeighbours (k1 : Nat) (x2 : Int32) (μ : jm) : cj 76 [jR 0 61, jR 8 k1, jI x2] μ = (evj 76 2 [jR 0 61, jR 8 k1, jI x2, jI (0 : Int32), jU, jU] [] μ) :=
  (cj_it (F := K76) rfl [2, 18] 3 _ _).trans rfl
set_option maxRecDepth 100000 in
theorem e_Chant_findNeighbours_2 (k1 : Nat) (x1 : Int32) (x2 : Int32) (μ : jm) : evj 76 2 [jR 0 61, jR 8 k1, jI x1, jI x2, jU, jU] [] μ = (jbr (decide ((7 : Int32) ≤ x2)) (some (none, μ)) (jgd (inB x2 7) (evj 76 18 [jR 0 61, jR 8 k1, jI x1, jI x2, jI (0 : Int32), jU] [] (sI μ 63 (ix x2) (0 : Int32))))) :=
  (evj_s (F := K76) rfl [2, 18] 11 rfl).trans rfl
set_option maxRecDepth 100000 in
theorem e_Chant_findNeighbours_18 (k1 : Nat) (x1 : Int32) (x2 : Int32) (x3 : Int32) (μ : jm) : evj 76 18 [jR 0 61, jR 8 k1, jI x1, jI x2, jI x3, jU] [] μ = (jbr (decide ((gI μ k1 6) ≤ x2)) (evj 76 2 [jR 0 61, jR 8 k1, jI x1, jI (x2 + 1), jU, jU] [] μ) (jbr (decide ((gI μ k1 6) ≤ x3)) (evj 76 2 [jR 0 61, jR 8 k1, jI x1, jI (x2 + 1), jU, jU] [] μ) (jgd (inB x2 7) (bI (cj 12 [jI ((1 : Int32) <<< ((gI μ (k1 + 4) (ix x2)) &&& 31)), jI x1] μ) (fun r1 m1 => jgd (inB x3 7) (jbr (decide (((r1 >>> ((gI m1 (k1 + 4) (ix x3)) &&& 31)) &&& (1 : Int32)) = 0)) (evj 76 18 [jR 0 61, jR 8 k1, jI x1, jI x2, jI (x3 + 1), jU] [] m1) (jgd (inB x2 7) (jgd (inB x2 7) (evj 76 18 [jR 0 61, jR 8 k1, jI x1, jI x2, jI (x3 + 1), jU] [] (sI m1 63 (ix x2) ((gI m1 63 (ix x2)) ||| ((1 : Int32) <<< (x3 &&& 31))))))))))))) :=
  (evj_s (F := K76) rfl [2, 18] 39 rfl).trans rfl
set_option maxRecDepth 100000 in
theorem e_Chant_ordersFrom (x1 : Int32) (x2 : Int32) (μ : jm) : cj 77 [jR 0 61, jI x1, jI x2] μ = (jbr (decide (¬ ((x1 >>> (x2 &&& 31)) &&& (1 : Int32)) = 0)) (jbr (decide (¬ (x1 &&& (((1 : Int32) <<< (x2 &&& 31)) ^^^ (-1 : Int32))) = 0)) (jgd (inB x2 7) (bI (cj 78 [jR 0 61, jI (x1 &&& (((1 : Int32) <<< (x2 &&& 31)) ^^^ (-1 : Int32))), jI ((x1 &&& (((1 : Int32) <<< (x2 &&& 31)) ^^^ (-1 : Int32))) &&& (gI μ 63 (ix x2)))] μ) (fun r1 m1 => some (some (jI r1), m1)))) (some (some (jI (1 : Int32)), μ))) (some (some (jI (0 : Int32)), μ))) :=
  (cj_it (F := K77) rfl [] 27 _ _).trans rfl
set_option maxRecDepth 100000 in
theorem e_Chant_ordersAmong (x1 : Int32) (x2 : Int32) (μ : jm) : cj 78 [jR 0 61, jI x1, jI x2] μ = (evj 78 5 [jR 0 61, jI x1, jI x2, jI (0 : Int32), jI (0 : Int32)] [] μ) :=
  (cj_it (F := K78) rfl [5] 5 _ _).trans rfl
set_option maxRecDepth 100000 in
theorem e_Chant_ordersAmong_5 (x0 : Int32) (x1 : Int32) (x2 : Int32) (x3 : Int32) (μ : jm) : evj 78 5 [jR 0 61, jI x0, jI x1, jI x2, jI x3] [] μ = (jbr (decide ((7 : Int32) ≤ x3)) (some (some (jI x2), μ)) (jbr (decide (((x1 >>> (x3 &&& 31)) &&& (1 : Int32)) = 0)) (evj 78 5 [jR 0 61, jI x0, jI x1, jI x2, jI (x3 + 1)] [] μ) (jgd (inB ((x0 * (7 : Int32)) + x3) 896) (evj 78 5 [jR 0 61, jI x0, jI x1, jI (x2 + (gI μ 62 (ix ((x0 * (7 : Int32)) + x3)))), jI (x3 + 1)] [] μ)))) :=
  (evj_s (F := K78) rfl [5] 23 rfl).trans rfl
set_option maxRecDepth 100000 in
theorem e_Chant_orders  (μ : jm) : cj 79 [jR 0 61] μ = (jbr (decide (¬ (gI μ 61 2) = 0)) (bI (cj 78 [jR 0 61, jI (gI μ 61 2), jI (gI μ 61 2)] μ) (fun r1 m1 => some (some (jI r1), m1))) (some (some (jI (1 : Int32)), μ))) :=
  (cj_it (F := K79) rfl [] 11 _ _).trans rfl
set_option maxRecDepth 100000 in
theorem e_Chant_placeInFirst (x1 : Int32) (μ : jm) : cj 80 [jR 0 61, jI x1] μ = (bI (cj 0 [jI (gI μ 61 2)] μ) (fun r1 m1 => jbr (decide (r1 ≤ x1)) (some (some (jI (-5 : Int32)), m1)) (bI (cj 79 [jR 0 61] m1) (fun r2 m2 => jbr (decide (¬ r2 = 0)) (evj 80 37 [jR 0 61, jI x1, jI (gI m2 61 2), jI (gI m2 61 2), jI (-1 : Int32), jI (0 : Int32)] [] m2) (some (some (jI (-5 : Int32)), m2)))))) :=
  (cj_it (F := K80) rfl [37] 19 _ _).trans rfl
set_option maxRecDepth 100000 in
theorem e_Chant_placeInFirst_37 (x0 : Int32) (x1 : Int32) (x2 : Int32) (x3 : Int32) (x4 : Int32) (μ : jm) : evj 80 37 [jR 0 61, jI x0, jI x1, jI x2, jI x3, jI x4] [] μ = (jbr (decide (x0 < x4)) (some (some (jI x3), μ)) (bI (cj 81 [jR 0 61, jI x1, jI x2] μ) (fun r1 m1 => jbr (decide (¬ r1 = (-1 : Int32))) (jgd (inB r1 7) (evj 80 37 [jR 0 61, jI x0, jI (x1 &&& (((1 : Int32) <<< (r1 &&& 31)) ^^^ (-1 : Int32))), jI ((x1 &&& (((1 : Int32) <<< (r1 &&& 31)) ^^^ (-1 : Int32))) &&& (gI m1 63 (ix r1))), jI r1, jI (x4 + 1)] [] m1)) (some (some (jI (-5 : Int32)), m1))))) :=
  (evj_s (F := K80) rfl [37] 29 rfl).trans rfl
set_option maxRecDepth 100000 in
theorem e_Chant_leastBeginning (x1 : Int32) (x2 : Int32) (μ : jm) : cj 81 [jR 0 61, jI x1, jI x2] μ = (evj 81 2 [jR 0 61, jI x1, jI x2, jI (0 : Int32)] [] μ) :=
  (cj_it (F := K81) rfl [2] 3 _ _).trans rfl
set_option maxRecDepth 100000 in
theorem e_Chant_leastBeginning_2 (x0 : Int32) (x1 : Int32) (x2 : Int32) (μ : jm) : evj 81 2 [jR 0 61, jI x0, jI x1, jI x2] [] μ = (jbr (decide ((7 : Int32) ≤ x2)) (some (some (jI (-1 : Int32)), μ)) (jbr (decide (((x1 >>> (x2 &&& 31)) &&& (1 : Int32)) = 0)) (evj 81 2 [jR 0 61, jI x0, jI x1, jI (x2 + 1)] [] μ) (jgd (inB ((x0 * (7 : Int32)) + x2) 896) (jbr (decide ((gI μ 62 (ix ((x0 * (7 : Int32)) + x2))) ≤ 0)) (evj 81 2 [jR 0 61, jI x0, jI x1, jI (x2 + 1)] [] μ) (some (some (jI x2), μ)))))) :=
  (evj_s (F := K81) rfl [2] 21 rfl).trans rfl
set_option maxRecDepth 100000 in
theorem e_Text_append (x1 : Int64) (x2 : Int32) (μ : jm) : cj 82 [jR 7 46, jL x1, jI x2] μ = (jbr (decide (x2 < (1 : Int32))) (some (some (jI (-2 : Int32)), μ)) (jbr (decide (x2 ≤ (8 : Int32))) (jbr (decide (((gI μ 46 1) + x2) ≤ (200 : Int32))) (evj 82 34 [jR 7 46, jL x1, jU, jU, jI (x2 - (1 : Int32))] [] μ) (some (some (jI (-4 : Int32)), μ))) (some (some (jI (-2 : Int32)), μ)))) :=
  (cj_it (F := K82) rfl [34] 17 _ _).trans rfl
set_option maxRecDepth 100000 in
theorem e_Text_append_34 (y0 : Int64) (x1 : Int32) (μ : jm) : evj 82 34 [jR 7 46, jL y0, jU, jU, jI x1] [] μ = (jbr (decide (x1 < 0)) (some (some (jI (gI μ 46 1)), μ)) (jgd (inB (gI μ 46 1) 200) (evj 82 34 [jR 7 46, jL y0, jU, jU, jI (x1 + (-1))] [] (sI (sI μ 47 (ix (gI μ 46 1)) ((((y0 >>> (((8 : Int32) * x1 : Int32).toInt64 &&& 63) : Int64).toInt32 : Int32).toInt8.toInt32 : Int32).toInt8.toInt32)) 46 1 ((gI (sI μ 47 (ix (gI μ 46 1)) ((((y0 >>> (((8 : Int32) * x1 : Int32).toInt64 &&& 63) : Int64).toInt32 : Int32).toInt8.toInt32 : Int32).toInt8.toInt32)) 46 1) + (1 : Int32)))))) :=
  (evj_s (F := K82) rfl [34] 23 rfl).trans rfl
set_option maxRecDepth 100000 in
theorem e_Text_erase  (μ : jm) : cj 83 [jR 7 46] μ = (some (some (jI (gI μ 46 1)), sI μ 46 1 (0 : Int32))) :=
  (cj_it (F := K83) rfl [] 9 _ _).trans rfl
set_option maxRecDepth 100000 in
theorem e_Text_tellTo (k1 : Nat) (μ : jm) : cj 84 [jR 7 46, jR 8 k1] μ = (bV (cj 27 [jR 8 k1] μ) (fun m1 => bV (cj 85 [jR 7 46] (sI m1 46 2 (0 : Int32))) (fun m2 => evj 84 17 [jR 7 46, jR 8 k1, jI (0 : Int32), jI (-1 : Int32)] [] m2))) :=
  (cj_it (F := K84) rfl [17, 61, 71] 12 _ _).trans rfl
set_option maxRecDepth 100000 in
theorem e_Text_tellTo_17 (k1 : Nat) (x1 : Int32) (x2 : Int32) (μ : jm) : evj 84 17 [jR 7 46, jR 8 k1, jI x1, jI x2] [] μ = (jbr (decide ((gI μ 46 3) = 0)) (evj 84 71 [jU, jU, jI x1, jI x2] [] μ) (jbr (decide ((200 : Int32) < x1)) (evj 84 71 [jU, jU, jI x1, jI x2] [] μ) (bI (cj 92 [jR 7 46] μ) (fun r1 m1 => jbr (decide (¬ r1 = 0)) (jbr (decide (¬ x2 = (-1 : Int32))) (evj 84 61 [jR 7 46, jR 8 k1, jI x1, jI x2] [] m1) (bI (cj 93 [jR 7 46, jR 8 k1] m1) (fun r2 m2 => jbr (decide (0 ≤ r2)) (evj 84 61 [jR 7 46, jR 8 k1, jI x1, jI x2] [] m2) (evj 84 61 [jR 7 46, jR 8 k1, jI x1, jI x1] [] m2)))) (some (some (jI ((-10 : Int32) - (gI m1 46 4))), m1)))))) :=
  (evj_s (F := K84) rfl [17, 61, 71] 19 rfl).trans rfl
set_option maxRecDepth 100000 in
theorem e_Text_tellTo_61 (k1 : Nat) (x1 : Int32) (x2 : Int32) (μ : jm) : evj 84 61 [jR 7 46, jR 8 k1, jI x1, jI x2] [] μ = (bV (cj 85 [jR 7 46] μ) (fun m1 => evj 84 17 [jR 7 46, jR 8 k1, jI (x1 + 1), jI x2] [] m1)) :=
  (evj_s (F := K84) rfl [17, 61, 71] 5 rfl).trans rfl
set_option maxRecDepth 100000 in
theorem e_Text_tellTo_71 (x0 : Int32) (x1 : Int32) (μ : jm) : evj 84 71 [jU, jU, jI x0, jI x1] [] μ = (jbr (decide (¬ x1 = (-1 : Int32))) (some (some (jI ((-1000 : Int32) - x1)), μ)) (some (some (jI x0), μ))) :=
  (evj_s (F := K84) rfl [17, 61, 71] 8 rfl).trans rfl
set_option maxRecDepth 100000 in
theorem e_Text_readToken  (μ : jm) : cj 85 [jR 7 46] μ = (jbr (decide ((gI μ 46 1) ≤ (gI μ 46 2))) (evj 85 38 [jR 7 46] [] μ) (jgd (inB (gI μ 46 2) 200) (jbr (decide (¬ (gI μ 47 (ix (gI μ 46 2))) = (32 : Int32))) (evj 85 38 [jR 7 46] [] μ) (evj 85 0 [jR 7 46] [] (sI μ 46 2 ((gI μ 46 2) + (1 : Int32))))))) :=
  (cj_it (F := K85) rfl [0, 38] 20 _ _).trans rfl
set_option maxRecDepth 100000 in
theorem e_Text_readToken_0  (μ : jm) : evj 85 0 [jR 7 46] [] μ = (jbr (decide ((gI μ 46 1) ≤ (gI μ 46 2))) (evj 85 38 [jR 7 46] [] μ) (jgd (inB (gI μ 46 2) 200) (jbr (decide (¬ (gI μ 47 (ix (gI μ 46 2))) = (32 : Int32))) (evj 85 38 [jR 7 46] [] μ) (evj 85 0 [jR 7 46] [] (sI μ 46 2 ((gI μ 46 2) + (1 : Int32))))))) :=
  (evj_s (F := K85) rfl [0, 38] 20 rfl).trans rfl
set_option maxRecDepth 100000 in
theorem e_Text_readToken_38  (μ : jm) : evj 85 38 [jR 7 46] [] μ = (jbr (decide ((gI (sI μ 46 4 (gI μ 46 2)) 46 2) < (gI (sI μ 46 4 (gI μ 46 2)) 46 1))) (jgd (inB (gI (sI μ 46 4 (gI μ 46 2)) 46 2) 200) (bI (cj 86 [jI (gI (sI μ 46 4 (gI μ 46 2)) 47 (ix (gI (sI μ 46 4 (gI μ 46 2)) 46 2)))] (sI μ 46 4 (gI μ 46 2))) (fun r1 m1 => jbr (decide (r1 = 0)) (jgd (inB (gI m1 46 2) 200) (bI (cj 90 [jI (gI m1 47 (ix (gI m1 46 2)))] m1) (fun r2 m2 => jbr (decide (r2 = 0)) (jgd (inB (gI m2 46 2) 200) (jbr (decide (¬ (gI m2 47 (ix (gI m2 46 2))) = (59 : Int32))) (some (none, sI (sI m2 46 3 (4 : Int32)) 46 2 ((gI (sI m2 46 3 (4 : Int32)) 46 2) + (1 : Int32)))) (some (none, sI (sI m2 46 3 (3 : Int32)) 46 2 ((gI (sI m2 46 3 (3 : Int32)) 46 2) + (1 : Int32)))))) (bV (cj 91 [jR 7 46] m2) (fun m3 => some (none, m3)))))) (bV (cj 87 [jR 7 46] m1) (fun m4 => some (none, m4)))))) (some (none, sI (sI μ 46 4 (gI μ 46 2)) 46 3 (0 : Int32)))) :=
  (evj_s (F := K85) rfl [0, 38] 42 rfl).trans rfl
set_option maxRecDepth 100000 in
theorem e_Text_isLetter (x0 : Int32) (μ : jm) : cj 86 [jI x0] μ = (jbr (decide (x0 < (97 : Int32))) (some (some (jI ((0 : Int32) &&& 1)), μ)) (jbr (decide ((122 : Int32) < x0)) (some (some (jI ((0 : Int32) &&& 1)), μ)) (some (some (jI ((1 : Int32) &&& 1)), μ)))) :=
  (cj_it (F := K86) rfl [] 10 _ _).trans rfl
set_option maxRecDepth 100000 in
theorem e_Text_readWord  (μ : jm) : cj 87 [jR 7 46] μ = (jbr (decide ((gI μ 46 1) ≤ (gI μ 46 2))) (evj 87 46 [jR 7 46, jI (0 : Int32)] [] (sI μ 46 3 (4 : Int32))) (jgd (inB (gI μ 46 2) 200) (bI (cj 86 [jI (gI μ 47 (ix (gI μ 46 2)))] μ) (fun r1 m1 => jbr (decide (r1 = 0)) (evj 87 46 [jR 7 46, jI (0 : Int32)] [] (sI m1 46 3 (4 : Int32))) (evj 87 0 [jR 7 46, jU] [] (sI m1 46 2 ((gI m1 46 2) + (1 : Int32)))))))) :=
  (cj_it (F := K87) rfl [0, 46] 20 _ _).trans rfl
set_option maxRecDepth 100000 in
theorem e_Text_readWord_0  (μ : jm) : evj 87 0 [jR 7 46, jU] [] μ = (jbr (decide ((gI μ 46 1) ≤ (gI μ 46 2))) (evj 87 46 [jR 7 46, jI (0 : Int32)] [] (sI μ 46 3 (4 : Int32))) (jgd (inB (gI μ 46 2) 200) (bI (cj 86 [jI (gI μ 47 (ix (gI μ 46 2)))] μ) (fun r1 m1 => jbr (decide (r1 = 0)) (evj 87 46 [jR 7 46, jI (0 : Int32)] [] (sI m1 46 3 (4 : Int32))) (evj 87 0 [jR 7 46, jU] [] (sI m1 46 2 ((gI m1 46 2) + (1 : Int32)))))))) :=
  (evj_s (F := K87) rfl [0, 46] 20 rfl).trans rfl
set_option maxRecDepth 100000 in
theorem e_Text_readWord_46 (x0 : Int32) (μ : jm) : evj 87 46 [jR 7 46, jI x0] [] μ = (jbr (decide ((6 : Int32) ≤ x0)) (some (none, μ)) (bR (cj 88 [jI x0] μ) (fun r1 m1 => bI (cj 89 [jR 7 46, .inr (.inr (.inl r1))] m1) (fun r2 m2 => jbr (decide (r2 = 0)) (evj 87 46 [jR 7 46, jI (x0 + 1)] [] m2) (evj 87 46 [jR 7 46, jI (x0 + 1)] [] (sI (sI m2 46 3 (1 : Int32)) 46 5 x0)))))) :=
  (evj_s (F := K87) rfl [0, 46] 17 rfl).trans rfl
set_option maxRecDepth 100000 in
theorem e_Text_wordOf (x0 : Int32) (μ : jm) : cj 88 [jI x0] μ = (jbr (decide (x0 = 0)) (some (some (jR 98 0), μ)) (jbr (decide (x0 = 1)) (some (some (jR 98 1), μ)) (jbr (decide (x0 = 2)) (some (some (jR 98 2), μ)) (jbr (decide (x0 = 3)) (some (some (jR 98 3), μ)) (jbr (decide (x0 = 4)) (some (some (jR 98 4), μ)) (some (some (jR 98 5), μ))))))) :=
  (cj_it (F := K88) rfl [] 5 _ _).trans rfl
set_option maxRecDepth 100000 in
theorem e_Text_isTokenWord (k1 : Nat) (μ : jm) : cj 89 [jR 7 46, jR 98 k1] μ = (bI (cj 4 [jR 98 k1] μ) (fun r1 m1 => jbr (decide (((gI μ 46 2) - (gI μ 46 4)) = r1)) (evj 89 20 [jR 7 46, jR 98 k1, jI (0 : Int32)] [] m1) (some (some (jI ((0 : Int32) &&& 1)), m1)))) :=
  (cj_it (F := K89) rfl [20] 11 _ _).trans rfl
set_option maxRecDepth 100000 in
theorem e_Text_isTokenWord_20 (k1 : Nat) (x1 : Int32) (μ : jm) : evj 89 20 [jR 7 46, jR 98 k1, jI x1] [] μ = (bI (cj 4 [jR 98 k1] μ) (fun r1 m1 => jbr (decide (r1 ≤ x1)) (some (some (jI ((1 : Int32) &&& 1)), m1)) (jgd (inB ((gI m1 46 4) + x1) 200) (bI (cj 6 [jR 98 k1, jI x1] m1) (fun r2 m2 => jbr (decide ((gI m1 47 (ix ((gI m1 46 4) + x1))) = r2)) (evj 89 20 [jR 7 46, jR 98 k1, jI (x1 + 1)] [] m2) (some (some (jI ((0 : Int32) &&& 1)), m2))))))) :=
  (evj_s (F := K89) rfl [20] 18 rfl).trans rfl
set_option maxRecDepth 100000 in
theorem e_Text_isFigure (x0 : Int32) (μ : jm) : cj 90 [jI x0] μ = (jbr (decide (x0 < (48 : Int32))) (some (some (jI ((0 : Int32) &&& 1)), μ)) (jbr (decide ((57 : Int32) < x0)) (some (some (jI ((0 : Int32) &&& 1)), μ)) (some (some (jI ((1 : Int32) &&& 1)), μ)))) :=
  (cj_it (F := K90) rfl [] 10 _ _).trans rfl
set_option maxRecDepth 100000 in
theorem e_Text_readNumber  (μ : jm) : cj 91 [jR 7 46] μ = (evj 91 5 [jR 7 46] [] (sI μ 46 5 (0 : Int32))) :=
  (cj_it (F := K91) rfl [5] 4 _ _).trans rfl
set_option maxRecDepth 100000 in
theorem e_Text_readNumber_5  (μ : jm) : evj 91 5 [jR 7 46] [] μ = (jbr (decide ((gI μ 46 1) ≤ (gI μ 46 2))) (jbr (decide ((2 : Int32) < ((gI μ 46 2) - (gI μ 46 4)))) (some (none, sI μ 46 3 (4 : Int32))) (some (none, sI μ 46 3 (2 : Int32)))) (jgd (inB (gI μ 46 2) 200) (bI (cj 90 [jI (gI μ 47 (ix (gI μ 46 2)))] μ) (fun r1 m1 => jbr (decide (r1 = 0)) (jbr (decide ((2 : Int32) < ((gI m1 46 2) - (gI m1 46 4)))) (some (none, sI m1 46 3 (4 : Int32))) (some (none, sI m1 46 3 (2 : Int32)))) (jgd (inB (gI m1 46 2) 200) (evj 91 5 [jR 7 46] [] (sI (sI m1 46 5 ((((10 : Int32) * (gI m1 46 5)) + (gI m1 47 (ix (gI m1 46 2)))) - (48 : Int32))) 46 2 ((gI (sI m1 46 5 ((((10 : Int32) * (gI m1 46 5)) + (gI m1 47 (ix (gI m1 46 2)))) - (48 : Int32))) 46 2) + (1 : Int32))))))))) :=
  (evj_s (F := K91) rfl [5] 34 rfl).trans rfl
set_option maxRecDepth 100000 in
theorem e_Text_readItem  (μ : jm) : cj 92 [jR 7 46] μ = (jbr (decide ((gI μ 46 3) = (1 : Int32))) (evj 92 20 [jR 7 46, jI (0 : Int32)] [] (sI μ 46 6 (gI μ 46 5))) (some (some (jI ((0 : Int32) &&& 1)), μ))) :=
  (cj_it (F := K92) rfl [20] 11 _ _).trans rfl
set_option maxRecDepth 100000 in
theorem e_Text_readItem_20 (x0 : Int32) (μ : jm) : evj 92 20 [jR 7 46, jI x0] [] μ = (jgd (inB (gI μ 46 6) 6) (jbr (decide ((jnum (ix (gI μ 46 6))) ≤ x0)) (bV (cj 85 [jR 7 46] μ) (fun m1 => jbr (decide (¬ (gI m1 46 3) = (3 : Int32))) (some (some (jI ((0 : Int32) &&& 1)), m1)) (some (some (jI ((1 : Int32) &&& 1)), m1)))) (bV (cj 85 [jR 7 46] μ) (fun m2 => jbr (decide ((gI m2 46 3) = (2 : Int32))) (jgd (inB x0 4) (evj 92 20 [jR 7 46, jI (x0 + 1)] [] (sI m2 48 (ix x0) (gI m2 46 5)))) (some (some (jI ((0 : Int32) &&& 1)), m2)))))) :=
  (evj_s (F := K92) rfl [20] 21 rfl).trans rfl
set_option maxRecDepth 100000 in
theorem e_Text_tellItem (k1 : Nat) (μ : jm) : cj 93 [jR 7 46, jR 8 k1] μ = (jbr (decide ((gI μ 46 6) = 0)) (jgd (inB (0 : Int32) 4) (jgd (inB (1 : Int32) 4) (bI (cj 15 [jR 8 k1, jI (gI μ 48 (ix (0 : Int32))), jI (gI μ 48 (ix (1 : Int32)))] μ) (fun r1 m1 => some (some (jI r1), m1))))) (jbr (decide ((gI μ 46 6) = 1)) (jgd (inB (0 : Int32) 4) (jgd (inB (1 : Int32) 4) (bI (cj 17 [jR 8 k1, jI (gI μ 48 (ix (0 : Int32))), jI (gI μ 48 (ix (1 : Int32)))] μ) (fun r2 m2 => some (some (jI r2), m2))))) (jbr (decide ((gI μ 46 6) = 2)) (jgd (inB (0 : Int32) 4) (jgd (inB (1 : Int32) 4) (jgd (inB (2 : Int32) 4) (bI (cj 18 [jR 8 k1, jI (gI μ 48 (ix (0 : Int32))), jI (gI μ 48 (ix (1 : Int32))), jI (gI μ 48 (ix (2 : Int32)))] μ) (fun r3 m3 => some (some (jI r3), m3)))))) (jbr (decide ((gI μ 46 6) = 3)) (jgd (inB (0 : Int32) 4) (jgd (inB (1 : Int32) 4) (bI (cj 19 [jR 8 k1, jI (gI μ 48 (ix (0 : Int32))), jI (gI μ 48 (ix (1 : Int32)))] μ) (fun r4 m4 => some (some (jI r4), m4))))) (jbr (decide ((gI μ 46 6) = 4)) (jgd (inB (0 : Int32) 4) (jgd (inB (1 : Int32) 4) (jgd (inB (2 : Int32) 4) (jgd (inB (3 : Int32) 4) (bI (cj 22 [jR 8 k1, jI (gI μ 48 (ix (0 : Int32))), jI (gI μ 48 (ix (1 : Int32))), jI (gI μ 48 (ix (2 : Int32))), jI (gI μ 48 (ix (3 : Int32)))] μ) (fun r5 m5 => some (some (jI r5), m5))))))) (jgd (inB (0 : Int32) 4) (bI (cj 24 [jR 8 k1, jI (gI μ 48 (ix (0 : Int32)))] μ) (fun r6 m6 => some (some (jI r6), m6))))))))) :=
  (cj_it (F := K93) rfl [] 23 _ _).trans rfl
