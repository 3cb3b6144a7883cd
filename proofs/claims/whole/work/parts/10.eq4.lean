/-! EQUATIONS of the runs, by program: from a method's entry, or a cut, to the next cuts -/
set_option maxRecDepth 100000 in
theorem e_M_door (x1 : Int32) (x2 : Int32) (μ : jm) : cj 137 [jR 10 64, jI x1, jI x2] μ = (bI (cj 138 [jR 10 64, jI (0 : Int32), jI (0 : Int32), jI x1, jI x2] μ) (fun r1 m1 => bI (cj 141 [jR 10 64, jI r1] m1) (fun r2 m2 => some (some (jI r2), m2)))) :=
  (cj_it (F := K137) rfl [] 10 _ _).trans rfl
set_option maxRecDepth 100000 in
theorem e_M_tie (x1 : Int32) (x2 : Int32) (x3 : Int32) (x4 : Int32) (μ : jm) : cj 138 [jR 10 64, jI x1, jI x2, jI x3, jI x4] μ = (bI (cj 139 [jI x3] μ) (fun r1 m1 => jbr (decide (r1 = 0)) (some (some (jI (-2 : Int32)), m1)) (bI (cj 139 [jI x4] m1) (fun r2 m2 => jbr (decide (r2 = 0)) (some (some (jI (-2 : Int32)), m2)) (jbr (decide (¬ x3 = x4)) (jgd (inB (((x1 + x2) + ((6 : Int32) * x3)) + x4) 560) (jbr (decide (¬ (gI m2 65 (ix (((x1 + x2) + ((6 : Int32) * x3)) + x4))) = (1 : Int32))) (jgd (inB (((x1 + x2) + ((6 : Int32) * x3)) + x4) 560) (jgd (inB (((x1 + x2) + ((6 : Int32) * x4)) + x3) 560) (some (some (jI (1 : Int32)), sI (sI m2 65 (ix (((x1 + x2) + ((6 : Int32) * x3)) + x4)) (1 : Int32)) 65 (ix (((x1 + x2) + ((6 : Int32) * x4)) + x3)) (1 : Int32))))) (some (some (jI (-3 : Int32)), m2)))) (some (some (jI (-2 : Int32)), m2))))))) :=
  (cj_it (F := K138) rfl [] 52 _ _).trans rfl
set_option maxRecDepth 100000 in
theorem e_M_isRoom (x0 : Int32) (μ : jm) : cj 139 [jI x0] μ = (bI (cj 140 [jL ((x0 : Int32).toInt64), jL (0 : Int64), jL (5 : Int64)] μ) (fun r1 m1 => some (some (jI (r1 &&& 1)), m1))) :=
  (cj_it (F := K139) rfl [] 7 _ _).trans rfl
set_option maxRecDepth 100000 in
theorem e_M_in (x0 : Int64) (x1 : Int64) (x2 : Int64) (μ : jm) : cj 140 [jL x0, jL x1, jL x2] μ = (jbr (decide ((lg_cmp x0 x1) < 0)) (some (some (jI ((0 : Int32) &&& 1)), μ)) (jbr (decide (0 < (lg_cmp x0 x2))) (some (some (jI ((0 : Int32) &&& 1)), μ)) (some (some (jI ((1 : Int32) &&& 1)), μ)))) :=
  (cj_it (F := K140) rfl [] 12 _ _).trans rfl
set_option maxRecDepth 100000 in
theorem e_M_told (x1 : Int32) (μ : jm) : cj 141 [jR 10 64, jI x1] μ = (jbr (decide (x1 = (-2 : Int32))) (jgd (inB ((-2 : Int32) - x1) 3) (jgd (inB ((-2 : Int32) - x1) 3) (some (some (jI x1), sI μ 68 (ix ((-2 : Int32) - x1)) ((gI μ 68 (ix ((-2 : Int32) - x1))) + (1 : Int32)))))) (jbr (decide (x1 = (-3 : Int32))) (jgd (inB ((-2 : Int32) - x1) 3) (jgd (inB ((-2 : Int32) - x1) 3) (some (some (jI x1), sI μ 68 (ix ((-2 : Int32) - x1)) ((gI μ 68 (ix ((-2 : Int32) - x1))) + (1 : Int32)))))) (jbr (decide (¬ x1 = (-4 : Int32))) (some (some (jI x1), μ)) (jgd (inB ((-2 : Int32) - x1) 3) (jgd (inB ((-2 : Int32) - x1) 3) (some (some (jI x1), sI μ 68 (ix ((-2 : Int32) - x1)) ((gI μ 68 (ix ((-2 : Int32) - x1))) + (1 : Int32))))))))) :=
  (cj_it (F := K141) rfl [] 22 _ _).trans rfl
set_option maxRecDepth 100000 in
theorem e_M_hears (x1 : Int32) (x2 : Int32) (μ : jm) : cj 142 [jR 10 64, jI x1, jI x2] μ = (bI (cj 138 [jR 10 64, jI (0 : Int32), jI (36 : Int32), jI x1, jI x2] μ) (fun r1 m1 => bI (cj 141 [jR 10 64, jI r1] m1) (fun r2 m2 => some (some (jI r2), m2)))) :=
  (cj_it (F := K142) rfl [] 10 _ _).trans rfl
set_option maxRecDepth 100000 in
theorem e_M_one (x1 : Int32) (x2 : Int32) (x3 : Int32) (μ : jm) : cj 143 [jR 10 64, jI x1, jI x2, jI x3] μ = (bI (cj 144 [jR 10 64, jI (0 : Int32), jI x1, jI x2, jI x3] μ) (fun r1 m1 => bI (cj 141 [jR 10 64, jI r1] m1) (fun r2 m2 => some (some (jI r2), m2)))) :=
  (cj_it (F := K143) rfl [] 10 _ _).trans rfl
set_option maxRecDepth 100000 in
theorem e_M_addOne (x1 : Int32) (x2 : Int32) (x3 : Int32) (x4 : Int32) (μ : jm) : cj 144 [jR 10 64, jI x1, jI x2, jI x3, jI x4] μ = (bI (cj 140 [jL ((x2 : Int32).toInt64), jL (0 : Int64), jL (5 : Int64)] μ) (fun r1 m1 => jbr (decide (r1 = 0)) (some (some (jI (-2 : Int32)), m1)) (bI (cj 140 [jL ((x3 : Int32).toInt64), jL (0 : Int64), jL (11 : Int64)] m1) (fun r2 m2 => jbr (decide (r2 = 0)) (some (some (jI (-2 : Int32)), m2)) (bI (cj 139 [jI x4] m2) (fun r3 m3 => jbr (decide (¬ r3 = 0)) (jgd (inB (x1 + (72 : Int32)) 560) (jbr (decide (¬ (gI m3 65 (ix (x1 + (72 : Int32)))) = (7 : Int32))) (jgd (inB ((x1 + (73 : Int32)) + (gI m3 65 (ix (x1 + (72 : Int32))))) 560) (jgd (inB ((x1 + (80 : Int32)) + (gI m3 65 (ix (x1 + (72 : Int32))))) 560) (jgd (inB ((x1 + (87 : Int32)) + (gI m3 65 (ix (x1 + (72 : Int32))))) 560) (jgd (inB ((x1 + (94 : Int32)) + (gI m3 65 (ix (x1 + (72 : Int32))))) 560) (jgd (inB (x1 + (72 : Int32)) 560) (jgd (inB (x1 + (72 : Int32)) 560) (some (some (jI (gI m3 65 (ix (x1 + (72 : Int32))))), sI (sI (sI (sI (sI m3 65 (ix ((x1 + (73 : Int32)) + (gI m3 65 (ix (x1 + (72 : Int32)))))) x2) 65 (ix ((x1 + (80 : Int32)) + (gI m3 65 (ix (x1 + (72 : Int32)))))) x3) 65 (ix ((x1 + (87 : Int32)) + (gI m3 65 (ix (x1 + (72 : Int32)))))) x4) 65 (ix ((x1 + (94 : Int32)) + (gI m3 65 (ix (x1 + (72 : Int32)))))) (-1 : Int32)) 65 (ix (x1 + (72 : Int32))) ((gI (sI (sI (sI (sI m3 65 (ix ((x1 + (73 : Int32)) + (gI m3 65 (ix (x1 + (72 : Int32)))))) x2) 65 (ix ((x1 + (80 : Int32)) + (gI m3 65 (ix (x1 + (72 : Int32)))))) x3) 65 (ix ((x1 + (87 : Int32)) + (gI m3 65 (ix (x1 + (72 : Int32)))))) x4) 65 (ix ((x1 + (94 : Int32)) + (gI m3 65 (ix (x1 + (72 : Int32)))))) (-1 : Int32)) 65 (ix (x1 + (72 : Int32)))) + (1 : Int32)))))))))) (some (some (jI (-4 : Int32)), m3)))) (some (some (jI (-2 : Int32)), m3)))))))) :=
  (cj_it (F := K144) rfl [] 74 _ _).trans rfl
set_option maxRecDepth 100000 in
theorem e_M_mates (x1 : Int32) (x2 : Int32) (μ : jm) : cj 145 [jR 10 64, jI x1, jI x2] μ = (bI (cj 146 [jR 10 64, jI (0 : Int32), jI x1, jI x2] μ) (fun r1 m1 => bI (cj 141 [jR 10 64, jI r1] m1) (fun r2 m2 => some (some (jI r2), m2)))) :=
  (cj_it (F := K145) rfl [] 9 _ _).trans rfl
set_option maxRecDepth 100000 in
theorem e_M_addMates (x1 : Int32) (x2 : Int32) (x3 : Int32) (μ : jm) : cj 146 [jR 10 64, jI x1, jI x2, jI x3] μ = (bI (cj 147 [jR 10 64, jI x1, jI x2] μ) (fun r1 m1 => jbr (decide (r1 = 0)) (evj 146 23 [jU, jU, jU, jU] [] m1) (bI (cj 147 [jR 10 64, jI x1, jI x3] m1) (fun r2 m2 => jbr (decide (r2 = 0)) (evj 146 23 [jU, jU, jU, jU] [] m2) (jbr (decide (¬ x2 = x3)) (jgd (inB ((x1 + (94 : Int32)) + x2) 560) (jbr (decide (¬ (gI m2 65 (ix ((x1 + (94 : Int32)) + x2))) = (-1 : Int32))) (evj 146 56 [jU, jU, jU, jU] [] m2) (jgd (inB ((x1 + (94 : Int32)) + x3) 560) (jbr (decide ((gI m2 65 (ix ((x1 + (94 : Int32)) + x3))) = (-1 : Int32))) (jgd (inB ((x1 + (94 : Int32)) + x2) 560) (jgd (inB ((x1 + (94 : Int32)) + x3) 560) (some (some (jI (1 : Int32)), sI (sI m2 65 (ix ((x1 + (94 : Int32)) + x2)) x3) 65 (ix ((x1 + (94 : Int32)) + x3)) x2)))) (evj 146 56 [jU, jU, jU, jU] [] m2))))) (evj 146 23 [jU, jU, jU, jU] [] m2)))))) :=
  (cj_it (F := K146) rfl [23, 56] 54 _ _).trans rfl
set_option maxRecDepth 100000 in
theorem e_M_addMates_23  (μ : jm) : evj 146 23 [jU, jU, jU, jU] [] μ = (some (some (jI (-2 : Int32)), μ)) :=
  (evj_s (F := K146) rfl [23, 56] 3 rfl).trans rfl
set_option maxRecDepth 100000 in
theorem e_M_addMates_56  (μ : jm) : evj 146 56 [jU, jU, jU, jU] [] μ = (some (some (jI (-3 : Int32)), μ)) :=
  (evj_s (F := K146) rfl [23, 56] 3 rfl).trans rfl
set_option maxRecDepth 100000 in
theorem e_M_isOne (x1 : Int32) (x2 : Int32) (μ : jm) : cj 147 [jR 10 64, jI x1, jI x2] μ = (jgd (inB (x1 + (72 : Int32)) 560) (bI (cj 140 [jL ((x2 : Int32).toInt64), jL (0 : Int64), jL (((gI μ 65 (ix (x1 + (72 : Int32)))) - (1 : Int32) : Int32).toInt64)] μ) (fun r1 m1 => some (some (jI (r1 &&& 1)), m1)))) :=
  (cj_it (F := K147) rfl [] 15 _ _).trans rfl
set_option maxRecDepth 100000 in
theorem e_M_goes (x1 : Int32) (x2 : Int32) (μ : jm) : cj 148 [jR 10 64, jI x1, jI x2] μ = (bI (cj 147 [jR 10 64, jI (0 : Int32), jI x1] μ) (fun r1 m1 => jbr (decide (r1 = 0)) (bI (cj 141 [jR 10 64, jI (-2 : Int32)] m1) (fun r2 m2 => some (some (jI r2), m2))) (bI (cj 139 [jI x2] m1) (fun r3 m3 => jbr (decide (¬ r3 = 0)) (jgd (inB ((87 : Int32) + x1) 560) (jgd (inB ((87 : Int32) + x1) 560) (some (some (jI (gI m3 65 (ix ((87 : Int32) + x1)))), sI m3 65 (ix ((87 : Int32) + x1)) x2)))) (bI (cj 141 [jR 10 64, jI (-2 : Int32)] m3) (fun r4 m4 => some (some (jI r4), m4))))))) :=
  (cj_it (F := K148) rfl [] 25 _ _).trans rfl
set_option maxRecDepth 100000 in
theorem e_M_chord (x1 : Int32) (x2 : Int32) (x3 : Int32) (x4 : Int32) (μ : jm) : cj 149 [jR 10 64, jI x1, jI x2, jI x3, jI x4] μ = (bI (cj 150 [jR 10 64, jI (0 : Int32), jI x1, jI x2, jI x3, jI x4] μ) (fun r1 m1 => bI (cj 141 [jR 10 64, jI r1] m1) (fun r2 m2 => some (some (jI r2), m2)))) :=
  (cj_it (F := K149) rfl [] 11 _ _).trans rfl
set_option maxRecDepth 100000 in
theorem e_M_addChord (x1 : Int32) (x2 : Int32) (x3 : Int32) (x4 : Int32) (x5 : Int32) (μ : jm) : cj 150 [jR 10 64, jI x1, jI x2, jI x3, jI x4, jI x5] μ = (jbr (decide (x2 < 0)) (evj 150 35 [jU, jU, jU, jU, jU, jU, jU, jU, jU] [] μ) (jbr (decide (x3 ≤ x2)) (evj 150 35 [jU, jU, jU, jU, jU, jU, jU, jU, jU] [] μ) (jbr (decide (x4 ≤ x3)) (evj 150 35 [jU, jU, jU, jU, jU, jU, jU, jU, jU] [] μ) (jbr (decide ((12 : Int32) ≤ x4)) (evj 150 35 [jU, jU, jU, jU, jU, jU, jU, jU, jU] [] μ) (bI (cj 140 [jL ((x5 : Int32).toInt64), jL (1 : Int64), jL (9 : Int64)] μ) (fun r1 m1 => jbr (decide (¬ r1 = 0)) (jgd (inB (x1 + (101 : Int32)) 560) (evj 150 66 [jR 10 64, jI x1, jU, jU, jU, jI x5, jI ((((1 : Int32) <<< (x2 &&& 31)) ||| ((1 : Int32) <<< (x3 &&& 31))) ||| ((1 : Int32) <<< (x4 &&& 31))), jI (gI m1 65 (ix (x1 + (101 : Int32)))), jI (0 : Int32)] [] m1)) (evj 150 35 [jU, jU, jU, jU, jU, jU, jU, jU, jU] [] m1))))))) :=
  (cj_it (F := K150) rfl [35, 66] 39 _ _).trans rfl
set_option maxRecDepth 100000 in
theorem e_M_addChord_35  (μ : jm) : evj 150 35 [jU, jU, jU, jU, jU, jU, jU, jU, jU] [] μ = (some (some (jI (-2 : Int32)), μ)) :=
  (evj_s (F := K150) rfl [35, 66] 3 rfl).trans rfl
set_option maxRecDepth 100000 in
theorem e_M_addChord_66 (x0 : Int32) (x1 : Int32) (x2 : Int32) (x3 : Int32) (x4 : Int32) (μ : jm) : evj 150 66 [jR 10 64, jI x0, jU, jU, jU, jI x1, jI x2, jI x3, jI x4] [] μ = (jbr (decide (x3 ≤ x4)) (jbr (decide (¬ x3 = (8 : Int32))) (jgd (inB ((x0 + (102 : Int32)) + x3) 560) (jgd (inB ((x0 + (110 : Int32)) + x3) 560) (jgd (inB (x0 + (101 : Int32)) 560) (jgd (inB (x0 + (101 : Int32)) 560) (some (some (jI x3), sI (sI (sI μ 65 (ix ((x0 + (102 : Int32)) + x3)) x2) 65 (ix ((x0 + (110 : Int32)) + x3)) x1) 65 (ix (x0 + (101 : Int32))) ((gI (sI (sI μ 65 (ix ((x0 + (102 : Int32)) + x3)) x2) 65 (ix ((x0 + (110 : Int32)) + x3)) x1) 65 (ix (x0 + (101 : Int32)))) + (1 : Int32)))))))) (some (some (jI (-4 : Int32)), μ))) (jgd (inB ((x0 + (102 : Int32)) + x4) 560) (jbr (decide (¬ (gI μ 65 (ix ((x0 + (102 : Int32)) + x4))) = x2)) (evj 150 66 [jR 10 64, jI x0, jU, jU, jU, jI x1, jI x2, jI x3, jI (x4 + 1)] [] μ) (some (some (jI (-2 : Int32)), μ))))) :=
  (evj_s (F := K150) rfl [35, 66] 37 rfl).trans rfl
set_option maxRecDepth 100000 in
theorem e_M_slack (x1 : Int32) (μ : jm) : cj 151 [jR 10 64, jI x1] μ = (bI (cj 152 [jR 10 64, jI (0 : Int32), jI x1] μ) (fun r1 m1 => bI (cj 141 [jR 10 64, jI r1] m1) (fun r2 m2 => some (some (jI r2), m2)))) :=
  (cj_it (F := K151) rfl [] 8 _ _).trans rfl
set_option maxRecDepth 100000 in
theorem e_M_setSlack (x1 : Int32) (x2 : Int32) (μ : jm) : cj 152 [jR 10 64, jI x1, jI x2] μ = (bI (cj 140 [jL ((x2 : Int32).toInt64), jL (0 : Int64), jL (2 : Int64)] μ) (fun r1 m1 => jbr (decide (¬ r1 = 0)) (jgd (inB (x1 + (118 : Int32)) 560) (jgd (inB (x1 + (118 : Int32)) 560) (some (some (jI (gI m1 65 (ix (x1 + (118 : Int32))))), sI m1 65 (ix (x1 + (118 : Int32))) x2)))) (some (some (jI (-2 : Int32)), m1)))) :=
  (cj_it (F := K152) rfl [] 23 _ _).trans rfl
set_option maxRecDepth 100000 in
theorem e_M_sounds (x1 : Int32) (x2 : Int32) (μ : jm) : cj 153 [jR 10 64, jI x1, jI x2] μ = (bI (cj 154 [jR 10 64, jI x2] μ) (fun r1 m1 => jbr (decide (r1 = 0)) (bI (cj 141 [jR 10 64, jI (-2 : Int32)] m1) (fun r2 m2 => some (some (jI r2), m2))) (bI (cj 147 [jR 10 64, jI (0 : Int32), jI x1] m1) (fun r3 m3 => jbr (decide (r3 = 0)) (bI (cj 141 [jR 10 64, jI (-2 : Int32)] m3) (fun r4 m4 => some (some (jI r4), m4))) (bI (cj 155 [jI x2, jI x1] m3) (fun r5 m5 => jbr (decide (¬ r5 = 0)) (bI (cj 156 [jR 10 64, jI (0 : Int32), jI x1, jI x2] m5) (fun r6 m6 => some (some (jI r6), m6))) (bI (cj 141 [jR 10 64, jI (-2 : Int32)] m5) (fun r7 m7 => some (some (jI r7), m7))))))))) :=
  (cj_it (F := K153) rfl [] 20 _ _).trans rfl
set_option maxRecDepth 100000 in
theorem e_M_isSet (x1 : Int32) (μ : jm) : cj 154 [jR 10 64, jI x1] μ = (jgd (inB (72 : Int32) 560) (bI (cj 140 [jL ((x1 : Int32).toInt64), jL (0 : Int64), jL ((((1 : Int32) <<< ((gI μ 65 (ix (72 : Int32))) &&& 31)) - (1 : Int32) : Int32).toInt64)] μ) (fun r1 m1 => some (some (jI (r1 &&& 1)), m1)))) :=
  (cj_it (F := K154) rfl [] 15 _ _).trans rfl
set_option maxRecDepth 100000 in
theorem e_M_has (x0 : Int32) (x1 : Int32) (μ : jm) : cj 155 [jI x0, jI x1] μ = (jbr (decide (¬ ((x0 >>> (x1 &&& 31)) &&& (1 : Int32)) = (1 : Int32))) (some (some (jI ((0 : Int32) &&& 1)), μ)) (some (some (jI ((1 : Int32) &&& 1)), μ))) :=
  (cj_it (F := K155) rfl [] 11 _ _).trans rfl
set_option maxRecDepth 100000 in
theorem e_M_soundsOf (x1 : Int32) (x2 : Int32) (x3 : Int32) (μ : jm) : cj 156 [jR 10 64, jI x1, jI x2, jI x3] μ = (jgd (inB ((x1 + (80 : Int32)) + x2) 560) (jgd (inB ((x1 + (73 : Int32)) + x2) 560) (jbr (decide (¬ (gI μ 65 (ix ((x1 + (73 : Int32)) + x2))) = (1 : Int32))) (jbr (decide (¬ (gI μ 65 (ix ((x1 + (73 : Int32)) + x2))) = (2 : Int32))) (jbr (decide ((2 : Int32) ≤ (gI μ 65 (ix ((x1 + (73 : Int32)) + x2))))) (bI (cj 157 [jI ((1 : Int32) <<< ((gI μ 65 (ix ((x1 + (80 : Int32)) + x2))) &&& 31)), jI (1 : Int32)] μ) (fun r1 m1 => jbr (decide (¬ (gI μ 65 (ix ((x1 + (73 : Int32)) + x2))) = (5 : Int32))) (evj 156 138 [jU, jU, jU, jU, jU, jU, jU] [jI (0 : Int32), jI (((1 : Int32) <<< ((gI μ 65 (ix ((x1 + (80 : Int32)) + x2))) &&& 31)) ||| r1)] m1) (bI (cj 157 [jI ((1 : Int32) <<< ((gI μ 65 (ix ((x1 + (80 : Int32)) + x2))) &&& 31)), jI (6 : Int32)] m1) (fun r2 m2 => evj 156 138 [jU, jU, jU, jU, jU, jU, jU] [jI r2, jI (((1 : Int32) <<< ((gI μ 65 (ix ((x1 + (80 : Int32)) + x2))) &&& 31)) ||| r1)] m2)))) (some (some (jI ((1 : Int32) <<< ((gI μ 65 (ix ((x1 + (80 : Int32)) + x2))) &&& 31))), μ))) (jgd (inB ((x1 + (94 : Int32)) + x2) 560) (jbr (decide ((gI μ 65 (ix ((x1 + (94 : Int32)) + x2))) = (-1 : Int32))) (evj 156 100 [jU, jU, jU, jU, jI ((1 : Int32) <<< ((gI μ 65 (ix ((x1 + (80 : Int32)) + x2))) &&& 31)), jU, jU] [] μ) (bI (cj 155 [jI x3, jI (gI μ 65 (ix ((x1 + (94 : Int32)) + x2)))] μ) (fun r3 m3 => jbr (decide (r3 = 0)) (evj 156 100 [jU, jU, jU, jU, jI ((1 : Int32) <<< ((gI μ 65 (ix ((x1 + (80 : Int32)) + x2))) &&& 31)), jU, jU] [] m3) (bI (cj 157 [jI ((1 : Int32) <<< ((gI μ 65 (ix ((x1 + (80 : Int32)) + x2))) &&& 31)), jI (7 : Int32)] m3) (fun r4 m4 => evj 156 102 [jU, jU, jU, jU, jU, jU, jU] [jI (((1 : Int32) <<< ((gI μ 65 (ix ((x1 + (80 : Int32)) + x2))) &&& 31)) ||| r4)] m4))))))) (jbr (decide (¬ x3 = ((1 : Int32) <<< (x2 &&& 31)))) (bI (cj 157 [jI ((1 : Int32) <<< ((gI μ 65 (ix ((x1 + (80 : Int32)) + x2))) &&& 31)), jI (1 : Int32)] μ) (fun r5 m5 => evj 156 52 [jU, jU, jU, jU, jU, jU, jU] [jI r5] m5)) (evj 156 52 [jU, jU, jU, jU, jU, jU, jU] [jI ((1 : Int32) <<< ((gI μ 65 (ix ((x1 + (80 : Int32)) + x2))) &&& 31))] μ))))) :=
  (cj_it (F := K156) rfl [52, 100, 102, 138] 49 _ _).trans rfl
set_option maxRecDepth 100000 in
theorem e_M_soundsOf_52 (x0 : Int32) (μ : jm) : evj 156 52 [jU, jU, jU, jU, jU, jU, jU] [jI x0] μ = (some (some (jI x0), μ)) :=
  (evj_s (F := K156) rfl [52, 100, 102, 138] 2 rfl).trans rfl
set_option maxRecDepth 100000 in
theorem e_M_soundsOf_100 (x0 : Int32) (μ : jm) : evj 156 100 [jU, jU, jU, jU, jI x0, jU, jU] [] μ = (evj 156 102 [jU, jU, jU, jU, jU, jU, jU] [jI x0] μ) :=
  (evj_s (F := K156) rfl [52, 100, 102, 138] 2 rfl).trans rfl
set_option maxRecDepth 100000 in
theorem e_M_soundsOf_102 (x0 : Int32) (μ : jm) : evj 156 102 [jU, jU, jU, jU, jU, jU, jU] [jI x0] μ = (some (some (jI x0), μ)) :=
  (evj_s (F := K156) rfl [52, 100, 102, 138] 2 rfl).trans rfl
set_option maxRecDepth 100000 in
theorem e_M_soundsOf_138 (x0 : Int32) (x1 : Int32) (μ : jm) : evj 156 138 [jU, jU, jU, jU, jU, jU, jU] [jI x0, jI x1] μ = (some (some (jI (x1 ||| x0)), μ)) :=
  (evj_s (F := K156) rfl [52, 100, 102, 138] 3 rfl).trans rfl
set_option maxRecDepth 100000 in
theorem e_M_turned (x0 : Int32) (x1 : Int32) (μ : jm) : cj 157 [jI x0, jI x1] μ = (some (some (jI (((x0 <<< (x1 &&& 31)) ||| ((x0 <<< (x1 &&& 31)) >>> ((12 : Int32) &&& 31))) &&& (4095 : Int32))), μ)) :=
  (cj_it (F := K157) rfl [] 13 _ _).trans rfl
set_option maxRecDepth 100000 in
theorem e_M_type (x1 : Int64) (x2 : Int32) (μ : jm) : cj 158 [jR 10 64, jL x1, jI x2] μ = (bI (cj 140 [jL ((x2 : Int32).toInt64), jL (1 : Int64), jL (8 : Int64)] μ) (fun r1 m1 => jbr (decide (¬ r1 = 0)) (jbr (decide (((gI m1 64 3) + x2) ≤ (200 : Int32))) (evj 158 43 [jR 10 64, jL x1, jU, jU, jI (x2 - (1 : Int32))] [] m1) (bI (cj 141 [jR 10 64, jI (-4 : Int32)] m1) (fun r2 m2 => some (some (jI r2), m2)))) (bI (cj 141 [jR 10 64, jI (-2 : Int32)] m1) (fun r3 m3 => some (some (jI r3), m3))))) :=
  (cj_it (F := K158) rfl [43] 17 _ _).trans rfl
set_option maxRecDepth 100000 in
theorem e_M_type_43 (y0 : Int64) (x1 : Int32) (μ : jm) : evj 158 43 [jR 10 64, jL y0, jU, jU, jI x1] [] μ = (jbr (decide (x1 < 0)) (some (some (jI (gI μ 64 3)), μ)) (jgd (inB (gI μ 64 3) 200) (evj 158 43 [jR 10 64, jL y0, jU, jU, jI (x1 + (-1))] [] (sI (sI μ 67 (ix (gI μ 64 3)) (((y0 >>> (((8 : Int32) * x1 : Int32).toInt64 &&& 63)) &&& (255 : Int64) : Int64).toInt32)) 64 3 ((gI (sI μ 67 (ix (gI μ 64 3)) (((y0 >>> (((8 : Int32) * x1 : Int32).toInt64 &&& 63)) &&& (255 : Int64) : Int64).toInt32)) 64 3) + (1 : Int32)))))) :=
  (evj_s (F := K158) rfl [43] 24 rfl).trans rfl
set_option maxRecDepth 100000 in
theorem e_M_clear  (μ : jm) : cj 159 [jR 10 64] μ = (some (some (jI (gI μ 64 3)), sI μ 64 3 (0 : Int32))) :=
  (cj_it (F := K159) rfl [] 9 _ _).trans rfl
set_option maxRecDepth 100000 in
theorem e_M_read  (μ : jm) : cj 160 [jR 10 64] μ = (evj 160 15 [jR 10 64, jU] [] (sI (sI (sI μ 64 10 (0 : Int32)) 64 9 (0 : Int32)) 64 11 (-1 : Int32))) :=
  (cj_it (F := K160) rfl [15, 55, 81] 10 _ _).trans rfl
set_option maxRecDepth 100000 in
theorem e_M_read_15  (μ : jm) : evj 160 15 [jR 10 64, jU] [] μ = (jbr (decide (¬ (gI μ 64 11) = (-1 : Int32))) (jbr (decide ((gI μ 64 11) = (-1 : Int32))) (evj 160 55 [jR 10 64, jI (0 : Int32)] [] μ) (some (some (jI ((-10 : Int32) - (gI μ 64 11))), μ))) (bI (cj 161 [jR 10 64] μ) (fun r1 m1 => jbr (decide (¬ r1 = 0)) (jbr (decide ((gI m1 64 11) = (-1 : Int32))) (evj 160 55 [jR 10 64, jI (0 : Int32)] [] m1) (some (some (jI ((-10 : Int32) - (gI m1 64 11))), m1))) (bV (cj 162 [jR 10 64] m1) (fun m2 => evj 160 15 [jR 10 64, jU] [] m2))))) :=
  (evj_s (F := K160) rfl [15, 55, 81] 17 rfl).trans rfl
set_option maxRecDepth 100000 in
theorem e_M_read_55 (x0 : Int32) (μ : jm) : evj 160 55 [jR 10 64, jI x0] [] μ = (jbr (decide ((140 : Int32) ≤ x0)) (evj 160 81 [jR 10 64, jI (0 : Int32)] [] μ) (jgd (inB ((420 : Int32) + x0) 560) (evj 160 55 [jR 10 64, jI (x0 + 1)] [] (sI μ 65 (ix ((420 : Int32) + x0)) (0 : Int32))))) :=
  (evj_s (F := K160) rfl [15, 55, 81] 13 rfl).trans rfl
set_option maxRecDepth 100000 in
theorem e_M_read_81 (x0 : Int32) (μ : jm) : evj 160 81 [jR 10 64, jI x0] [] μ = (jbr (decide ((gI μ 64 9) ≤ x0)) (bV (cj 168 [jR 10 64, jI (420 : Int32), jI (0 : Int32)] μ) (fun m1 => some (some (jI (gI m1 64 9)), m1))) (bI (cj 167 [jR 10 64, jI x0] μ) (fun r2 m2 => jbr (decide (0 ≤ r2)) (evj 160 81 [jR 10 64, jI (x0 + 1)] [] m2) (some (some (jI ((-1000 : Int32) - x0)), m2))))) :=
  (evj_s (F := K160) rfl [15, 55, 81] 13 rfl).trans rfl
set_option maxRecDepth 100000 in
theorem e_M_isEnd  (μ : jm) : cj 161 [jR 10 64] μ = (jbr (decide ((gI μ 64 3) ≤ (gI μ 64 10))) (jbr (decide (¬ (gI μ 64 10) = (gI μ 64 3))) (some (some (jI ((0 : Int32) &&& 1)), μ)) (some (some (jI ((1 : Int32) &&& 1)), μ))) (jgd (inB (gI μ 64 10) 200) (jbr (decide (¬ (gI μ 67 (ix (gI μ 64 10))) = (32 : Int32))) (jbr (decide (¬ (gI μ 64 10) = (gI μ 64 3))) (some (some (jI ((0 : Int32) &&& 1)), μ)) (some (some (jI ((1 : Int32) &&& 1)), μ))) (evj 161 0 [jR 10 64] [] (sI μ 64 10 ((gI μ 64 10) + (1 : Int32))))))) :=
  (cj_it (F := K161) rfl [0] 21 _ _).trans rfl
set_option maxRecDepth 100000 in
theorem e_M_isEnd_0  (μ : jm) : evj 161 0 [jR 10 64] [] μ = (jbr (decide ((gI μ 64 3) ≤ (gI μ 64 10))) (jbr (decide (¬ (gI μ 64 10) = (gI μ 64 3))) (some (some (jI ((0 : Int32) &&& 1)), μ)) (some (some (jI ((1 : Int32) &&& 1)), μ))) (jgd (inB (gI μ 64 10) 200) (jbr (decide (¬ (gI μ 67 (ix (gI μ 64 10))) = (32 : Int32))) (jbr (decide (¬ (gI μ 64 10) = (gI μ 64 3))) (some (some (jI ((0 : Int32) &&& 1)), μ)) (some (some (jI ((1 : Int32) &&& 1)), μ))) (evj 161 0 [jR 10 64] [] (sI μ 64 10 ((gI μ 64 10) + (1 : Int32))))))) :=
  (evj_s (F := K161) rfl [0] 21 rfl).trans rfl
set_option maxRecDepth 100000 in
theorem e_M_takeItem  (μ : jm) : cj 162 [jR 10 64] μ = (bI (cj 163 [jR 10 64] μ) (fun r1 m1 => jgd (inB (gI m1 64 9) 40) (evj 162 17 [jR 10 64, jI r1, jI (0 : Int32)] [] (sI m1 69 (ix (gI m1 64 9)) r1)))) :=
  (cj_it (F := K162) rfl [17, 56] 12 _ _).trans rfl
set_option maxRecDepth 100000 in
theorem e_M_takeItem_17 (x0 : Int32) (x1 : Int32) (μ : jm) : evj 162 17 [jR 10 64, jI x0, jI x1] [] μ = (bI (cj 165 [jI x0] μ) (fun r1 m1 => jbr (decide (r1 ≤ x1)) (evj 162 56 [jR 10 64, jU, jU] [] m1) (jbr (decide (¬ (gI m1 64 11) = (-1 : Int32))) (evj 162 56 [jR 10 64, jU, jU] [] m1) (bI (cj 166 [jR 10 64] m1) (fun r2 m2 => jgd (inB (((4 : Int32) * (gI m1 64 9)) + x1) 160) (evj 162 17 [jR 10 64, jI x0, jI (x1 + 1)] [] (sI m2 70 (ix (((4 : Int32) * (gI m1 64 9)) + x1)) r2))))))) :=
  (evj_s (F := K162) rfl [17, 56] 22 rfl).trans rfl
set_option maxRecDepth 100000 in
theorem e_M_takeItem_56  (μ : jm) : evj 162 56 [jR 10 64, jU, jU] [] μ = (jbr (decide (¬ (gI μ 64 11) = (-1 : Int32))) (some (none, sI (sI μ 64 10 ((gI μ 64 10) + (1 : Int32))) 64 9 ((gI (sI μ 64 10 ((gI μ 64 10) + (1 : Int32))) 64 9) + (1 : Int32)))) (bI (cj 161 [jR 10 64] μ) (fun r1 m1 => jbr (decide (¬ r1 = 0)) (some (none, sI (sI (sI m1 64 11 (gI m1 64 10)) 64 10 ((gI (sI m1 64 11 (gI m1 64 10)) 64 10) + (1 : Int32))) 64 9 ((gI (sI (sI m1 64 11 (gI m1 64 10)) 64 10 ((gI (sI m1 64 11 (gI m1 64 10)) 64 10) + (1 : Int32))) 64 9) + (1 : Int32)))) (jgd (inB (gI m1 64 10) 200) (jbr (decide ((gI m1 67 (ix (gI m1 64 10))) = (59 : Int32))) (some (none, sI (sI m1 64 10 ((gI m1 64 10) + (1 : Int32))) 64 9 ((gI (sI m1 64 10 ((gI m1 64 10) + (1 : Int32))) 64 9) + (1 : Int32)))) (some (none, sI (sI (sI m1 64 11 (gI m1 64 10)) 64 10 ((gI (sI m1 64 11 (gI m1 64 10)) 64 10) + (1 : Int32))) 64 9 ((gI (sI (sI m1 64 11 (gI m1 64 10)) 64 10 ((gI (sI m1 64 11 (gI m1 64 10)) 64 10) + (1 : Int32))) 64 9) + (1 : Int32))))))))) :=
  (evj_s (F := K162) rfl [17, 56] 32 rfl).trans rfl
set_option maxRecDepth 100000 in
theorem e_M_takeWord  (μ : jm) : cj 163 [jR 10 64] μ = (evj 163 7 [jR 10 64, jI (gI μ 64 10), jL (0 : Int64), jU, jU] [] μ) :=
  (cj_it (F := K163) rfl [7, 75, 89] 6 _ _).trans rfl
set_option maxRecDepth 100000 in
theorem e_M_takeWord_7 (x0 : Int32) (y1 : Int64) (μ : jm) : evj 163 7 [jR 10 64, jI x0, jL y1, jU, jU] [] μ = (jbr (decide ((gI μ 64 3) ≤ (gI μ 64 10))) (evj 163 89 [jR 10 64, jI x0, jL y1, jU, jU] [] μ) (jgd (inB (gI μ 64 10) 200) (bI (cj 140 [jL ((gI μ 67 (ix (gI μ 64 10)) : Int32).toInt64), jL (97 : Int64), jL (122 : Int64)] μ) (fun r1 m1 => jbr (decide (r1 = 0)) (evj 163 89 [jR 10 64, jI x0, jL y1, jU, jU] [] m1) (jbr (decide ((6 : Int32) ≤ ((gI m1 64 10) - x0))) (evj 163 75 [jR 10 64, jI x0, jU, jU, jU] [jL y1] m1) (jgd (inB (gI m1 64 10) 200) (evj 163 75 [jR 10 64, jI x0, jU, jU, jU] [jL ((((32 : Int64) * y1) + ((gI m1 67 (ix (gI m1 64 10)) : Int32).toInt64)) - (96 : Int64))] m1))))))) :=
  (evj_s (F := K163) rfl [7, 75, 89] 35 rfl).trans rfl
set_option maxRecDepth 100000 in
theorem e_M_takeWord_75 (x0 : Int32) (y1 : Int64) (μ : jm) : evj 163 75 [jR 10 64, jI x0, jU, jU, jU] [jL y1] μ = (evj 163 7 [jR 10 64, jI x0, jL y1, jU, jU] [] (sI μ 64 10 ((gI μ 64 10) + (1 : Int32)))) :=
  (evj_s (F := K163) rfl [7, 75, 89] 9 rfl).trans rfl
set_option maxRecDepth 100000 in
theorem e_M_takeWord_89 (x0 : Int32) (y1 : Int64) (μ : jm) : evj 163 89 [jR 10 64, jI x0, jL y1, jU, jU] [] μ = (bI (cj 164 [jL y1] μ) (fun r1 m1 => jbr (decide (¬ r1 = (-1 : Int32))) (some (some (jI r1), sI m1 64 11 (gI m1 64 11))) (some (some (jI r1), sI m1 64 11 x0)))) :=
  (evj_s (F := K163) rfl [7, 75, 89] 13 rfl).trans rfl
set_option maxRecDepth 100000 in
theorem e_M_wordOf (x0 : Int64) (μ : jm) : cj 164 [jL x0] μ = (jbr (decide (¬ (lg_cmp x0 (146930 : Int64)) = 0)) (jbr (decide (¬ (lg_cmp x0 (8554067 : Int64)) = 0)) (jbr (decide (¬ (lg_cmp x0 (15813 : Int64)) = 0)) (jbr (decide (¬ (lg_cmp x0 (13684915 : Int64)) = 0)) (jbr (decide (¬ (lg_cmp x0 (3423812 : Int64)) = 0)) (jbr (decide (¬ (lg_cmp x0 (20317291 : Int64)) = 0)) (evj 164 73 [jU, jU] [jI (-1 : Int32)] μ) (evj 164 73 [jU, jU] [jI (5 : Int32)] μ)) (evj 164 73 [jU, jU] [jI (4 : Int32)] μ)) (evj 164 73 [jU, jU] [jI (3 : Int32)] μ)) (evj 164 73 [jU, jU] [jI (2 : Int32)] μ)) (evj 164 73 [jU, jU] [jI (1 : Int32)] μ)) (evj 164 73 [jU, jU] [jI (0 : Int32)] μ)) :=
  (cj_it (F := K164) rfl [73] 27 _ _).trans rfl
set_option maxRecDepth 100000 in
theorem e_M_wordOf_73 (x0 : Int32) (μ : jm) : evj 164 73 [jU, jU] [jI x0] μ = (some (some (jI x0), μ)) :=
  (evj_s (F := K164) rfl [73] 2 rfl).trans rfl
set_option maxRecDepth 100000 in
theorem e_M_numbersOf (x0 : Int32) (μ : jm) : cj 165 [jI x0] μ = (jbr (decide (¬ x0 = (4 : Int32))) (jbr (decide (¬ x0 = (2 : Int32))) (jbr (decide (¬ x0 = (5 : Int32))) (some (some (jI (2 : Int32)), μ)) (some (some (jI (1 : Int32)), μ))) (some (some (jI (3 : Int32)), μ))) (some (some (jI (4 : Int32)), μ))) :=
  (cj_it (F := K165) rfl [] 13 _ _).trans rfl
set_option maxRecDepth 100000 in
theorem e_M_takeNumber  (μ : jm) : cj 166 [jR 10 64] μ = (bI (cj 161 [jR 10 64] μ) (fun r1 m1 => jbr (decide (r1 = 0)) (evj 166 24 [jR 10 64, jI (gI m1 64 10), jI (0 : Int32)] [] m1) (some (some (jI (-1 : Int32)), sI m1 64 11 (gI m1 64 3))))) :=
  (cj_it (F := K166) rfl [24, 88, 102] 10 _ _).trans rfl
set_option maxRecDepth 100000 in
theorem e_M_takeNumber_24 (x0 : Int32) (x1 : Int32) (μ : jm) : evj 166 24 [jR 10 64, jI x0, jI x1] [] μ = (jbr (decide ((gI μ 64 3) ≤ (gI μ 64 10))) (evj 166 102 [jR 10 64, jI x0, jI x1] [] μ) (jgd (inB (gI μ 64 10) 200) (bI (cj 140 [jL ((gI μ 67 (ix (gI μ 64 10)) : Int32).toInt64), jL (48 : Int64), jL (57 : Int64)] μ) (fun r1 m1 => jbr (decide (r1 = 0)) (evj 166 102 [jR 10 64, jI x0, jI x1] [] m1) (jbr (decide ((2 : Int32) ≤ ((gI m1 64 10) - x0))) (evj 166 88 [jR 10 64, jI x0, jU] [jI x1] m1) (jgd (inB (gI m1 64 10) 200) (evj 166 88 [jR 10 64, jI x0, jU] [jI ((((10 : Int32) * x1) + (gI m1 67 (ix (gI m1 64 10)))) - (48 : Int32))] m1))))))) :=
  (evj_s (F := K166) rfl [24, 88, 102] 34 rfl).trans rfl
set_option maxRecDepth 100000 in
theorem e_M_takeNumber_88 (x0 : Int32) (x1 : Int32) (μ : jm) : evj 166 88 [jR 10 64, jI x0, jU] [jI x1] μ = (evj 166 24 [jR 10 64, jI x0, jI x1] [] (sI μ 64 10 ((gI μ 64 10) + (1 : Int32)))) :=
  (evj_s (F := K166) rfl [24, 88, 102] 9 rfl).trans rfl
set_option maxRecDepth 100000 in
theorem e_M_takeNumber_102 (x0 : Int32) (x1 : Int32) (μ : jm) : evj 166 102 [jR 10 64, jI x0, jI x1] [] μ = (jbr (decide ((gI μ 64 10) = x0)) (some (some (jI x1), sI μ 64 11 x0)) (jbr (decide (((gI μ 64 10) - x0) ≤ (2 : Int32))) (some (some (jI x1), sI μ 64 11 (gI μ 64 11))) (some (some (jI x1), sI μ 64 11 x0)))) :=
  (evj_s (F := K166) rfl [24, 88, 102] 17 rfl).trans rfl
set_option maxRecDepth 100000 in
theorem e_M_tellItem (x1 : Int32) (μ : jm) : cj 167 [jR 10 64, jI x1] μ = (jgd (inB ((4 : Int32) * x1) 160) (jgd (inB (((4 : Int32) * x1) + (1 : Int32)) 160) (jgd (inB (((4 : Int32) * x1) + (2 : Int32)) 160) (jgd (inB x1 40) (jbr (decide ((gI μ 69 (ix x1)) = 0)) (bI (cj 138 [jR 10 64, jI (420 : Int32), jI (0 : Int32), jI (gI μ 70 (ix ((4 : Int32) * x1))), jI (gI μ 70 (ix (((4 : Int32) * x1) + (1 : Int32))))] μ) (fun r1 m1 => some (some (jI r1), m1))) (jbr (decide ((gI μ 69 (ix x1)) = 1)) (bI (cj 138 [jR 10 64, jI (420 : Int32), jI (36 : Int32), jI (gI μ 70 (ix ((4 : Int32) * x1))), jI (gI μ 70 (ix (((4 : Int32) * x1) + (1 : Int32))))] μ) (fun r2 m2 => some (some (jI r2), m2))) (jbr (decide ((gI μ 69 (ix x1)) = 2)) (bI (cj 144 [jR 10 64, jI (420 : Int32), jI (gI μ 70 (ix ((4 : Int32) * x1))), jI (gI μ 70 (ix (((4 : Int32) * x1) + (1 : Int32)))), jI (gI μ 70 (ix (((4 : Int32) * x1) + (2 : Int32))))] μ) (fun r3 m3 => some (some (jI r3), m3))) (jbr (decide ((gI μ 69 (ix x1)) = 3)) (bI (cj 146 [jR 10 64, jI (420 : Int32), jI (gI μ 70 (ix ((4 : Int32) * x1))), jI (gI μ 70 (ix (((4 : Int32) * x1) + (1 : Int32))))] μ) (fun r4 m4 => some (some (jI r4), m4))) (jbr (decide ((gI μ 69 (ix x1)) = 4)) (jgd (inB (((4 : Int32) * x1) + (3 : Int32)) 160) (bI (cj 150 [jR 10 64, jI (420 : Int32), jI (gI μ 70 (ix ((4 : Int32) * x1))), jI (gI μ 70 (ix (((4 : Int32) * x1) + (1 : Int32)))), jI (gI μ 70 (ix (((4 : Int32) * x1) + (2 : Int32)))), jI (gI μ 70 (ix (((4 : Int32) * x1) + (3 : Int32))))] μ) (fun r5 m5 => some (some (jI r5), m5)))) (bI (cj 152 [jR 10 64, jI (420 : Int32), jI (gI μ 70 (ix ((4 : Int32) * x1)))] μ) (fun r6 m6 => some (some (jI r6), m6)))))))))))) :=
  (cj_it (F := K167) rfl [] 46 _ _).trans rfl
set_option maxRecDepth 100000 in
theorem e_M_copy (x1 : Int32) (x2 : Int32) (μ : jm) : cj 168 [jR 10 64, jI x1, jI x2] μ = (evj 168 2 [jR 10 64, jI x1, jI x2, jI (0 : Int32)] [] μ) :=
  (cj_it (F := K168) rfl [2] 3 _ _).trans rfl
set_option maxRecDepth 100000 in
theorem e_M_copy_2 (x0 : Int32) (x1 : Int32) (x2 : Int32) (μ : jm) : evj 168 2 [jR 10 64, jI x0, jI x1, jI x2] [] μ = (jbr (decide ((140 : Int32) ≤ x2)) (some (none, μ)) (jgd (inB (x0 + x2) 560) (jgd (inB (x1 + x2) 560) (evj 168 2 [jR 10 64, jI x0, jI x1, jI (x2 + 1)] [] (sI μ 65 (ix (x1 + x2)) (gI μ 65 (ix (x0 + x2)))))))) :=
  (evj_s (F := K168) rfl [2] 18 rfl).trans rfl
set_option maxRecDepth 100000 in
theorem e_M_says (x1 : Int32) (x2 : Int32) (μ : jm) : cj 169 [jR 10 64, jI x1, jI x2] μ = (bI (cj 154 [jR 10 64, jI x1] μ) (fun r1 m1 => jbr (decide (r1 = 0)) (bI (cj 141 [jR 10 64, jI (-2 : Int32)] m1) (fun r2 m2 => some (some (jI r2), m2))) (bI (cj 170 [jR 10 64, jI x2] m1) (fun r3 m3 => jbr (decide (¬ r3 = 0)) (bI (cj 171 [jR 10 64, jI (0 : Int32), jI x1, jI x2] m3) (fun r4 m4 => jbr (decide (r4 = 0)) (some (some (jI (0 : Int32)), m4)) (some (some (jI (1 : Int32)), m4)))) (bI (cj 141 [jR 10 64, jI (-2 : Int32)] m3) (fun r5 m5 => some (some (jI r5), m5))))))) :=
  (cj_it (F := K169) rfl [] 18 _ _).trans rfl
set_option maxRecDepth 100000 in
theorem e_M_isChord (x1 : Int32) (μ : jm) : cj 170 [jR 10 64, jI x1] μ = (jgd (inB (101 : Int32) 560) (bI (cj 140 [jL ((x1 : Int32).toInt64), jL (0 : Int64), jL (((gI μ 65 (ix (101 : Int32))) - (1 : Int32) : Int32).toInt64)] μ) (fun r1 m1 => some (some (jI (r1 &&& 1)), m1)))) :=
  (cj_it (F := K170) rfl [] 13 _ _).trans rfl
set_option maxRecDepth 100000 in
theorem e_M_doesSay (x1 : Int32) (x2 : Int32) (x3 : Int32) (μ : jm) : cj 171 [jR 10 64, jI x1, jI x2, jI x3] μ = (evj 171 3 [jR 10 64, jI x1, jI x2, jI x3, jI (0 : Int32), jU, jU] [] μ) :=
  (cj_it (F := K171) rfl [3, 65, 78] 3 _ _).trans rfl
set_option maxRecDepth 100000 in
theorem e_M_doesSay_3 (x0 : Int32) (x1 : Int32) (x2 : Int32) (x3 : Int32) (μ : jm) : evj 171 3 [jR 10 64, jI x0, jI x1, jI x2, jI x3, jU, jU] [] μ = (jgd (inB (x0 + (72 : Int32)) 560) (jbr (decide ((gI μ 65 (ix (x0 + (72 : Int32)))) ≤ x3)) (evj 171 65 [jR 10 64, jI x0, jU, jU, jI (1 : Int32), jU, jU] [] μ) (bI (cj 155 [jI x1, jI x3] μ) (fun r1 m1 => jbr (decide (r1 = 0)) (jgd (inB x3 7) (evj 171 3 [jR 10 64, jI x0, jI x1, jI x2, jI (x3 + 1), jU, jU] [] (sI m1 71 (ix x3) (0 : Int32)))) (jgd (inB ((x0 + (102 : Int32)) + x2) 560) (bI (cj 172 [jR 10 64, jI x0, jI x3, jI x1, jI (gI m1 65 (ix ((x0 + (102 : Int32)) + x2)))] m1) (fun r2 m2 => jgd (inB x3 7) (evj 171 3 [jR 10 64, jI x0, jI x1, jI x2, jI (x3 + 1), jU, jU] [] (sI m2 71 (ix x3) r2))))))))) :=
  (evj_s (F := K171) rfl [3, 65, 78] 33 rfl).trans rfl
set_option maxRecDepth 100000 in
theorem e_M_doesSay_65 (x0 : Int32) (x1 : Int32) (μ : jm) : evj 171 65 [jR 10 64, jI x0, jU, jU, jI x1, jU, jU] [] μ = (jbr (decide ((8 : Int32) ≤ x1)) (some (some (jI ((1 : Int32) &&& 1)), μ)) (evj 171 78 [jR 10 64, jI x0, jU, jU, jI x1, jI (0 : Int32), jI (0 : Int32)] [] μ)) :=
  (evj_s (F := K171) rfl [3, 65, 78] 8 rfl).trans rfl
set_option maxRecDepth 100000 in
theorem e_M_doesSay_78 (x0 : Int32) (x1 : Int32) (x2 : Int32) (x3 : Int32) (μ : jm) : evj 171 78 [jR 10 64, jI x0, jU, jU, jI x1, jI x2, jI x3] [] μ = (jgd (inB (x0 + (72 : Int32)) 560) (jbr (decide ((gI μ 65 (ix (x0 + (72 : Int32)))) ≤ x3)) (bI (cj 173 [jI x1] μ) (fun r1 m1 => jbr (decide (r1 ≤ x2)) (evj 171 65 [jR 10 64, jI x0, jU, jU, jI (x1 + 1), jU, jU] [] m1) (some (some (jI ((0 : Int32) &&& 1)), m1)))) (jgd (inB x3 7) (jbr (decide (¬ ((gI μ 71 (ix x3)) &&& x1) = 0)) (jgd (inB ((x0 + (73 : Int32)) + x3) 560) (jbr (decide ((gI μ 65 (ix ((x0 + (73 : Int32)) + x3))) < (4 : Int32))) (evj 171 78 [jR 10 64, jI x0, jU, jU, jI x1, jI (x2 + (1 : Int32)), jI (x3 + 1)] [] μ) (evj 171 78 [jR 10 64, jI x0, jU, jU, jI x1, jI (x2 + (2 : Int32)), jI (x3 + 1)] [] μ))) (evj 171 78 [jR 10 64, jI x0, jU, jU, jI x1, jI (x2 + (0 : Int32)), jI (x3 + 1)] [] μ))))) :=
  (evj_s (F := K171) rfl [3, 65, 78] 33 rfl).trans rfl
set_option maxRecDepth 100000 in
theorem e_M_reachOf (x1 : Int32) (x2 : Int32) (x3 : Int32) (x4 : Int32) (μ : jm) : cj 172 [jR 10 64, jI x1, jI x2, jI x3, jI x4] μ = (bI (cj 156 [jR 10 64, jI x1, jI x2, jI x3] μ) (fun r1 m1 => evj 172 16 [jR 10 64, jI x1, jU, jU, jI x4, jI r1, jI r1, jI (1 : Int32), jU, jU] [] m1)) :=
  (cj_it (F := K172) rfl [16, 68] 11 _ _).trans rfl
set_option maxRecDepth 100000 in
theorem e_M_reachOf_16 (x0 : Int32) (x1 : Int32) (x2 : Int32) (x3 : Int32) (x4 : Int32) (μ : jm) : evj 172 16 [jR 10 64, jI x0, jU, jU, jI x1, jI x2, jI x3, jI x4, jU, jU] [] μ = (jgd (inB (x0 + (118 : Int32)) 560) (jbr (decide ((gI μ 65 (ix (x0 + (118 : Int32)))) < x4)) (evj 172 68 [jU, jU, jU, jU, jI x1, jU, jI x3, jI (0 : Int32), jI (0 : Int32), jI (0 : Int32)] [] μ) (bI (cj 157 [jI x2, jI x4] μ) (fun r1 m1 => bI (cj 157 [jI x2, jI ((12 : Int32) - x4)] m1) (fun r2 m2 => evj 172 16 [jR 10 64, jI x0, jU, jU, jI x1, jI x2, jI (x3 ||| (r1 ||| r2)), jI (x4 + 1), jU, jU] [] m2))))) :=
  (evj_s (F := K172) rfl [16, 68] 23 rfl).trans rfl
set_option maxRecDepth 100000 in
theorem e_M_reachOf_68 (x0 : Int32) (x1 : Int32) (x2 : Int32) (x3 : Int32) (x4 : Int32) (μ : jm) : evj 172 68 [jU, jU, jU, jU, jI x0, jU, jI x1, jI x2, jI x3, jI x4] [] μ = (jbr (decide ((12 : Int32) ≤ x4)) (some (some (jI x2), μ)) (bI (cj 155 [jI x0, jI x4] μ) (fun r1 m1 => jbr (decide (r1 = 0)) (evj 172 68 [jU, jU, jU, jU, jI x0, jU, jI x1, jI x2, jI x3, jI (x4 + 1)] [] m1) (bI (cj 155 [jI x1, jI x4] m1) (fun r2 m2 => jbr (decide (r2 = 0)) (evj 172 68 [jU, jU, jU, jU, jI x0, jU, jI x1, jI (x2 ||| (0 : Int32)), jI (x3 + 1), jI (x4 + 1)] [] m2) (evj 172 68 [jU, jU, jU, jU, jI x0, jU, jI x1, jI (x2 ||| ((1 : Int32) <<< (x3 &&& 31))), jI (x3 + 1), jI (x4 + 1)] [] m2)))))) :=
  (evj_s (F := K172) rfl [16, 68] 22 rfl).trans rfl
set_option maxRecDepth 100000 in
theorem e_M_ones (x0 : Int32) (μ : jm) : cj 173 [jI x0] μ = (evj 173 4 [jI x0, jI (0 : Int32), jI (0 : Int32)] [] μ) :=
  (cj_it (F := K173) rfl [4] 5 _ _).trans rfl
set_option maxRecDepth 100000 in
theorem e_M_ones_4 (x0 : Int32) (x1 : Int32) (x2 : Int32) (μ : jm) : evj 173 4 [jI x0, jI x1, jI x2] [] μ = (jbr (decide ((31 : Int32) ≤ x2)) (some (some (jI x1), μ)) (evj 173 4 [jI x0, jI (x1 + ((x0 >>> (x2 &&& 31)) &&& (1 : Int32))), jI (x2 + 1)] [] μ)) :=
  (evj_s (F := K173) rfl [4] 14 rfl).trans rfl
set_option maxRecDepth 100000 in
theorem e_M_said (x1 : Int32) (μ : jm) : cj 174 [jR 10 64, jI x1] μ = (bI (cj 139 [jI x1] μ) (fun r1 m1 => jbr (decide (r1 = 0)) (bI (cj 141 [jR 10 64, jI (-2 : Int32)] m1) (fun r2 m2 => some (some (jI r2), m2))) (bI (cj 175 [jR 10 64, jI x1] m1) (fun r3 m3 => bI (cj 176 [jR 10 64, jI (0 : Int32), jI r3] m3) (fun r4 m4 => some (some (jI r4), m4)))))) :=
  (cj_it (F := K174) rfl [] 12 _ _).trans rfl
set_option maxRecDepth 100000 in
theorem e_M_setIn (x1 : Int32) (μ : jm) : cj 175 [jR 10 64, jI x1] μ = (evj 175 4 [jR 10 64, jI x1, jI (0 : Int32), jI (0 : Int32)] [] μ) :=
  (cj_it (F := K175) rfl [4] 5 _ _).trans rfl
set_option maxRecDepth 100000 in
theorem e_M_setIn_4 (x0 : Int32) (x1 : Int32) (x2 : Int32) (μ : jm) : evj 175 4 [jR 10 64, jI x0, jI x1, jI x2] [] μ = (jgd (inB (72 : Int32) 560) (jbr (decide ((gI μ 65 (ix (72 : Int32))) ≤ x2)) (some (some (jI x1), μ)) (jgd (inB ((87 : Int32) + x2) 560) (jbr (decide (¬ (gI μ 65 (ix ((87 : Int32) + x2))) = x0)) (evj 175 4 [jR 10 64, jI x0, jI (x1 ||| (0 : Int32)), jI (x2 + 1)] [] μ) (evj 175 4 [jR 10 64, jI x0, jI (x1 ||| ((1 : Int32) <<< (x2 &&& 31))), jI (x2 + 1)] [] μ))))) :=
  (evj_s (F := K175) rfl [4] 24 rfl).trans rfl
set_option maxRecDepth 100000 in
theorem e_M_saidBy (x1 : Int32) (x2 : Int32) (μ : jm) : cj 176 [jR 10 64, jI x1, jI x2] μ = (evj 176 5 [jR 10 64, jI x1, jI x2, jI (0 : Int32), jI (0 : Int32)] [] μ) :=
  (cj_it (F := K176) rfl [5] 5 _ _).trans rfl
set_option maxRecDepth 100000 in
theorem e_M_saidBy_5 (x0 : Int32) (x1 : Int32) (x2 : Int32) (x3 : Int32) (μ : jm) : evj 176 5 [jR 10 64, jI x0, jI x1, jI x2, jI x3] [] μ = (jgd (inB (x0 + (101 : Int32)) 560) (jbr (decide ((gI μ 65 (ix (x0 + (101 : Int32)))) ≤ x3)) (some (some (jI x2), μ)) (bI (cj 171 [jR 10 64, jI x0, jI x1, jI x3] μ) (fun r1 m1 => jbr (decide (r1 = 0)) (evj 176 5 [jR 10 64, jI x0, jI x1, jI (x2 ||| (0 : Int32)), jI (x3 + 1)] [] m1) (evj 176 5 [jR 10 64, jI x0, jI x1, jI (x2 ||| ((1 : Int32) <<< (x3 &&& 31))), jI (x3 + 1)] [] m1))))) :=
  (evj_s (F := K176) rfl [5] 24 rfl).trans rfl
set_option maxRecDepth 100000 in
theorem e_M_byDoor (x1 : Int32) (x2 : Int32) (μ : jm) : cj 177 [jR 10 64, jI x1, jI x2] μ = (bI (cj 139 [jI x1] μ) (fun r1 m1 => jbr (decide (r1 = 0)) (bI (cj 141 [jR 10 64, jI (-2 : Int32)] m1) (fun r2 m2 => some (some (jI r2), m2))) (bI (cj 139 [jI x2] m1) (fun r3 m3 => jbr (decide (¬ r3 = 0)) (jgd (inB (((6 : Int32) * x1) + x2) 560) (jbr (decide (¬ (gI m3 65 (ix (((6 : Int32) * x1) + x2))) = (1 : Int32))) (bI (cj 141 [jR 10 64, jI (-3 : Int32)] m3) (fun r4 m4 => some (some (jI r4), m4))) (bI (cj 175 [jR 10 64, jI x1] m3) (fun r5 m5 => bI (cj 175 [jR 10 64, jI x2] m5) (fun r6 m6 => bI (cj 176 [jR 10 64, jI (0 : Int32), jI (r5 ||| r6)] m6) (fun r7 m7 => some (some (jI r7), m7))))))) (bI (cj 141 [jR 10 64, jI (-2 : Int32)] m3) (fun r8 m8 => some (some (jI r8), m8))))))) :=
  (cj_it (F := K177) rfl [] 29 _ _).trans rfl
set_option maxRecDepth 100000 in
theorem e_M_fewest (x1 : Int32) (x2 : Int32) (μ : jm) : cj 178 [jR 10 64, jI x1, jI x2] μ = (bI (cj 154 [jR 10 64, jI x1] μ) (fun r1 m1 => jbr (decide (r1 = 0)) (bI (cj 141 [jR 10 64, jI (-2 : Int32)] m1) (fun r2 m2 => some (some (jI r2), m2))) (bI (cj 170 [jR 10 64, jI x2] m1) (fun r3 m3 => jbr (decide (¬ r3 = 0)) (evj 178 28 [jR 10 64, jI x1, jI x2, jI (-1 : Int32), jI (0 : Int32)] [] m3) (bI (cj 141 [jR 10 64, jI (-2 : Int32)] m3) (fun r4 m4 => some (some (jI r4), m4))))))) :=
  (cj_it (F := K178) rfl [28, 60] 13 _ _).trans rfl
set_option maxRecDepth 100000 in
theorem e_M_fewest_28 (x0 : Int32) (x1 : Int32) (x2 : Int32) (x3 : Int32) (μ : jm) : evj 178 28 [jR 10 64, jI x0, jI x1, jI x2, jI x3] [] μ = (jbr (decide (x0 < x3)) (some (some (jI x2), μ)) (jbr (decide (¬ (x3 &&& (x0 ^^^ (-1 : Int32))) = 0)) (evj 178 28 [jR 10 64, jI x0, jI x1, jI x2, jI (x3 + 1)] [] μ) (jbr (decide (x2 = (-1 : Int32))) (evj 178 60 [jR 10 64, jI x0, jI x1, jI x2, jI x3] [] μ) (bI (cj 173 [jI x3] μ) (fun r1 m1 => bI (cj 173 [jI x2] m1) (fun r2 m2 => jbr (decide (r2 ≤ r1)) (evj 178 28 [jR 10 64, jI x0, jI x1, jI x2, jI (x3 + 1)] [] m2) (evj 178 60 [jR 10 64, jI x0, jI x1, jI x2, jI x3] [] m2))))))) :=
  (evj_s (F := K178) rfl [28, 60] 20 rfl).trans rfl
set_option maxRecDepth 100000 in
theorem e_M_fewest_60 (x0 : Int32) (x1 : Int32) (x2 : Int32) (x3 : Int32) (μ : jm) : evj 178 60 [jR 10 64, jI x0, jI x1, jI x2, jI x3] [] μ = (bI (cj 171 [jR 10 64, jI (0 : Int32), jI x3, jI x1] μ) (fun r1 m1 => jbr (decide (r1 = 0)) (evj 178 28 [jR 10 64, jI x0, jI x1, jI x2, jI (x3 + 1)] [] m1) (evj 178 28 [jR 10 64, jI x0, jI x1, jI x3, jI (x3 + 1)] [] m1))) :=
  (evj_s (F := K178) rfl [28, 60] 11 rfl).trans rfl
set_option maxRecDepth 100000 in
theorem e_M_speak (x1 : Int32) (μ : jm) : cj 179 [jR 10 64, jI x1] μ = (bI (cj 170 [jR 10 64, jI x1] μ) (fun r1 m1 => jbr (decide (¬ r1 = 0)) (jgd (inB (119 : Int32) 560) (jbr (decide (¬ (gI m1 65 (ix (119 : Int32))) = (6 : Int32))) (jgd (inB ((120 : Int32) + (gI m1 65 (ix (119 : Int32)))) 560) (jgd (inB (119 : Int32) 560) (jgd (inB (119 : Int32) 560) (some (some (jI ((gI m1 65 (ix (119 : Int32))) + (1 : Int32))), sI (sI m1 65 (ix ((120 : Int32) + (gI m1 65 (ix (119 : Int32))))) x1) 65 (ix (119 : Int32)) ((gI (sI m1 65 (ix ((120 : Int32) + (gI m1 65 (ix (119 : Int32))))) x1) 65 (ix (119 : Int32))) + (1 : Int32))))))) (bI (cj 141 [jR 10 64, jI (-4 : Int32)] m1) (fun r2 m2 => some (some (jI r2), m2))))) (bI (cj 141 [jR 10 64, jI (-2 : Int32)] m1) (fun r3 m3 => some (some (jI r3), m3))))) :=
  (cj_it (F := K179) rfl [] 32 _ _).trans rfl
set_option maxRecDepth 100000 in
theorem e_M_hush  (μ : jm) : cj 180 [jR 10 64] μ = (jgd (inB (119 : Int32) 560) (jgd (inB (119 : Int32) 560) (some (some (jI (gI μ 65 (ix (119 : Int32)))), sI μ 65 (ix (119 : Int32)) (0 : Int32))))) :=
  (cj_it (F := K180) rfl [] 13 _ _).trans rfl
set_option maxRecDepth 100000 in
theorem e_M_fetch (x1 : Int32) (μ : jm) : cj 181 [jR 10 64, jI x1] μ = (bI (cj 140 [jL ((x1 : Int32).toInt64), jL (0 : Int64), jL (2 : Int64)] μ) (fun r1 m1 => jbr (decide (¬ r1 = 0)) (bV (cj 182 [jR 10 64, jI (9 : Int32)] m1) (fun m2 => jbr (decide (¬ (gI m2 64 16) = (-1 : Int32))) (jbr (decide (¬ x1 = 0)) (jbr (decide (¬ x1 = (1 : Int32))) (some (some (jI (gI m2 64 16)), m2)) (some (some (jI (gI m2 64 15)), m2))) (some (some (jI (gI m2 64 14)), m2))) (some (some (jI (-1 : Int32)), m2)))) (bI (cj 141 [jR 10 64, jI (-2 : Int32)] m1) (fun r3 m3 => some (some (jI r3), m3))))) :=
  (cj_it (F := K181) rfl [] 23 _ _).trans rfl
set_option maxRecDepth 100000 in
theorem e_M_fetchBy (x1 : Int32) (μ : jm) : cj 182 [jR 10 64, jI x1] μ = (evj 182 4 [jR 10 64, jI x1, jI (0 : Int32), jI (0 : Int32), jU, jU, jU] [] μ) :=
  (cj_it (F := K182) rfl [4, 58, 89, 164, 168, 199] 5 _ _).trans rfl
set_option maxRecDepth 100000 in
theorem e_M_fetchBy_4 (x0 : Int32) (x1 : Int32) (x2 : Int32) (μ : jm) : evj 182 4 [jR 10 64, jI x0, jI x1, jI x2, jU, jU, jU] [] μ = (jgd (inB (119 : Int32) 560) (jbr (decide ((gI μ 65 (ix (119 : Int32))) ≤ x2)) (bV (cj 183 [jR 10 64] μ) (fun m1 => evj 182 58 [jR 10 64, jI x0, jI x1, jI (0 : Int32), jU, jU, jU] [] (sI (sI (sI m1 64 14 (1000 : Int32)) 64 15 (-1 : Int32)) 64 16 (-1 : Int32)))) (jgd (inB ((120 : Int32) + x2) 560) (evj 182 4 [jR 10 64, jI x0, jI (x1 ||| ((1 : Int32) <<< ((gI μ 65 (ix ((120 : Int32) + x2))) &&& 31))), jI (x2 + 1), jU, jU, jU] [] μ)))) :=
  (evj_s (F := K182) rfl [4, 58, 89, 164, 168, 199] 20 rfl).trans rfl
set_option maxRecDepth 100000 in
theorem e_M_fetchBy_58 (x0 : Int32) (x1 : Int32) (x2 : Int32) (μ : jm) : evj 182 58 [jR 10 64, jI x0, jI x1, jI x2, jU, jU, jU] [] μ = (jgd (inB (72 : Int32) 560) (jbr (decide (((1 : Int32) <<< ((gI μ 65 (ix (72 : Int32))) &&& 31)) ≤ x2)) (some (none, μ)) (bI (cj 176 [jR 10 64, jI (0 : Int32), jI x2] μ) (fun r1 m1 => jbr (decide ((r1 &&& x1) = x1)) (evj 182 89 [jR 10 64, jI x0, jI x1, jI x2, jI (0 : Int32), jU, jU] [] m1) (evj 182 199 [jR 10 64, jI x0, jI x1, jI x2, jU, jU, jU] [] m1))))) :=
  (evj_s (F := K182) rfl [4, 58, 89, 164, 168, 199] 19 rfl).trans rfl
set_option maxRecDepth 100000 in
theorem e_M_fetchBy_89 (x0 : Int32) (x1 : Int32) (x2 : Int32) (x3 : Int32) (μ : jm) : evj 182 89 [jR 10 64, jI x0, jI x1, jI x2, jI x3, jU, jU] [] μ = (jbr (decide ((6 : Int32) ≤ x3)) (evj 182 199 [jR 10 64, jI x0, jI x1, jI x2, jU, jU, jU] [] μ) (bI (cj 184 [jR 10 64, jI x2, jI x3, jI x0] μ) (fun r1 m1 => jbr (decide (r1 < (gI m1 64 14))) (evj 182 164 [jR 10 64, jI x0, jI x1, jI x2, jI x3, jI r1, jU] [] m1) (jbr (decide (¬ r1 = (gI m1 64 14))) (evj 182 168 [jR 10 64, jI x0, jI x1, jI x2, jI x3, jI r1, jU] [] m1) (jbr (decide ((1000 : Int32) ≤ r1)) (evj 182 168 [jR 10 64, jI x0, jI x1, jI x2, jI x3, jI r1, jU] [] m1) (jbr (decide (x3 < (gI m1 64 15))) (evj 182 164 [jR 10 64, jI x0, jI x1, jI x2, jI x3, jI r1, jU] [] m1) (jbr (decide (¬ x3 = (gI m1 64 15))) (evj 182 168 [jR 10 64, jI x0, jI x1, jI x2, jI x3, jI r1, jU] [] m1) (bI (cj 173 [jI x2] m1) (fun r2 m2 => bI (cj 173 [jI (gI m2 64 16)] m2) (fun r3 m3 => jbr (decide (r3 ≤ r2)) (evj 182 168 [jR 10 64, jI x0, jI x1, jI x2, jI x3, jI r1, jU] [] m3) (evj 182 164 [jR 10 64, jI x0, jI x1, jI x2, jI x3, jI r1, jU] [] m3))))))))))) :=
  (evj_s (F := K182) rfl [4, 58, 89, 164, 168, 199] 35 rfl).trans rfl
set_option maxRecDepth 100000 in
theorem e_M_fetchBy_164 (x0 : Int32) (x1 : Int32) (x2 : Int32) (x3 : Int32) (x4 : Int32) (μ : jm) : evj 182 164 [jR 10 64, jI x0, jI x1, jI x2, jI x3, jI x4, jU] [] μ = (jbr (decide ((1 : Int32) = 0)) (evj 182 89 [jR 10 64, jI x0, jI x1, jI x2, jI (x3 + 1), jU, jU] [] μ) (evj 182 89 [jR 10 64, jI x0, jI x1, jI x2, jI (x3 + 1), jU, jU] [] (sI (sI (sI μ 64 14 x4) 64 15 x3) 64 16 x2))) :=
  (evj_s (F := K182) rfl [4, 58, 89, 164, 168, 199] 17 rfl).trans rfl
set_option maxRecDepth 100000 in
theorem e_M_fetchBy_168 (x0 : Int32) (x1 : Int32) (x2 : Int32) (x3 : Int32) (x4 : Int32) (μ : jm) : evj 182 168 [jR 10 64, jI x0, jI x1, jI x2, jI x3, jI x4, jU] [] μ = (jbr (decide ((0 : Int32) = 0)) (evj 182 89 [jR 10 64, jI x0, jI x1, jI x2, jI (x3 + 1), jU, jU] [] μ) (evj 182 89 [jR 10 64, jI x0, jI x1, jI x2, jI (x3 + 1), jU, jU] [] (sI (sI (sI μ 64 14 x4) 64 15 x3) 64 16 x2))) :=
  (evj_s (F := K182) rfl [4, 58, 89, 164, 168, 199] 16 rfl).trans rfl
set_option maxRecDepth 100000 in
theorem e_M_fetchBy_199 (x0 : Int32) (x1 : Int32) (x2 : Int32) (μ : jm) : evj 182 199 [jR 10 64, jI x0, jI x1, jI x2, jU, jU, jU] [] μ = (evj 182 58 [jR 10 64, jI x0, jI x1, jI (x2 + 1), jU, jU, jU] [] μ) :=
  (evj_s (F := K182) rfl [4, 58, 89, 164, 168, 199] 3 rfl).trans rfl
set_option maxRecDepth 100000 in
theorem e_M_measure  (μ : jm) : cj 183 [jR 10 64] μ = (evj 183 2 [jR 10 64, jI (0 : Int32), jU, jU] [] μ) :=
  (cj_it (F := K183) rfl [2, 49, 57] 3 _ _).trans rfl
set_option maxRecDepth 100000 in
theorem e_M_measure_2 (x0 : Int32) (μ : jm) : evj 183 2 [jR 10 64, jI x0, jU, jU] [] μ = (jbr (decide ((36 : Int32) ≤ x0)) (evj 183 49 [jR 10 64, jI (0 : Int32), jU, jU] [] μ) (jgd (decide (¬ (7 : Int32) = 0)) (jbr (decide (¬ (x0 - x0 / (7 : Int32) * (7 : Int32)) = 0)) (jgd (inB x0 560) (jbr (decide (¬ (gI μ 65 (ix x0)) = (1 : Int32))) (jgd (inB x0 36) (evj 183 2 [jR 10 64, jI (x0 + 1), jU, jU] [] (sI μ 72 (ix x0) (100 : Int32)))) (jgd (inB x0 36) (evj 183 2 [jR 10 64, jI (x0 + 1), jU, jU] [] (sI μ 72 (ix x0) (1 : Int32)))))) (jgd (inB x0 36) (evj 183 2 [jR 10 64, jI (x0 + 1), jU, jU] [] (sI μ 72 (ix x0) (0 : Int32))))))) :=
  (evj_s (F := K183) rfl [2, 49, 57] 22 rfl).trans rfl
set_option maxRecDepth 100000 in
theorem e_M_measure_49 (x0 : Int32) (μ : jm) : evj 183 49 [jR 10 64, jI x0, jU, jU] [] μ = (jbr (decide ((6 : Int32) ≤ x0)) (some (none, μ)) (evj 183 57 [jR 10 64, jI x0, jI (0 : Int32), jU] [] μ)) :=
  (evj_s (F := K183) rfl [2, 49, 57] 6 rfl).trans rfl
set_option maxRecDepth 100000 in
theorem e_M_measure_57 (x0 : Int32) (x1 : Int32) (μ : jm) : evj 183 57 [jR 10 64, jI x0, jI x1, jU] [] μ = (jbr (decide ((36 : Int32) ≤ x1)) (evj 183 49 [jR 10 64, jI (x0 + 1), jU, jU] [] μ) (jgd (decide (¬ (6 : Int32) = 0)) (jgd (inB (((x1 / (6 : Int32)) * (6 : Int32)) + x0) 36) (jgd (decide (¬ (6 : Int32) = 0)) (jgd (inB (((6 : Int32) * x0) + (x1 - x1 / (6 : Int32) * (6 : Int32))) 36) (jgd (inB x1 36) (jbr (decide ((gI μ 72 (ix x1)) ≤ ((gI μ 72 (ix (((x1 / (6 : Int32)) * (6 : Int32)) + x0))) + (gI μ 72 (ix (((6 : Int32) * x0) + (x1 - x1 / (6 : Int32) * (6 : Int32)))))))) (jgd (inB x1 36) (jgd (inB x1 36) (evj 183 57 [jR 10 64, jI x0, jI (x1 + 1), jU] [] (sI μ 72 (ix x1) (gI μ 72 (ix x1)))))) (jgd (inB x1 36) (evj 183 57 [jR 10 64, jI x0, jI (x1 + 1), jU] [] (sI μ 72 (ix x1) ((gI μ 72 (ix (((x1 / (6 : Int32)) * (6 : Int32)) + x0))) + (gI μ 72 (ix (((6 : Int32) * x0) + (x1 - x1 / (6 : Int32) * (6 : Int32)))))))))))))))) :=
  (evj_s (F := K183) rfl [2, 49, 57] 42 rfl).trans rfl
set_option maxRecDepth 100000 in
theorem e_M_stepsOf (x1 : Int32) (x2 : Int32) (x3 : Int32) (μ : jm) : cj 184 [jR 10 64, jI x1, jI x2, jI x3] μ = (evj 184 6 [jR 10 64, jI x1, jI x2, jI x3, jI (0 : Int32), jI (0 : Int32), jU] [] μ) :=
  (cj_it (F := K184) rfl [6] 5 _ _).trans rfl
set_option maxRecDepth 100000 in
theorem e_M_stepsOf_6 (x0 : Int32) (x1 : Int32) (x2 : Int32) (x3 : Int32) (x4 : Int32) (μ : jm) : evj 184 6 [jR 10 64, jI x0, jI x1, jI x2, jI x3, jI x4, jU] [] μ = (jgd (inB (72 : Int32) 560) (jbr (decide ((gI μ 65 (ix (72 : Int32))) ≤ x4)) (some (some (jI x3), μ)) (bI (cj 155 [jI x0, jI x4] μ) (fun r1 m1 => jbr (decide (r1 = 0)) (jbr (decide ((0 : Int32) ≤ x2)) (evj 184 6 [jR 10 64, jI x0, jI x1, jI x2, jI (x3 + (0 : Int32)), jI (x4 + 1), jU] [] m1) (evj 184 6 [jR 10 64, jI x0, jI x1, jI x2, jI (x3 + (1000 : Int32)), jI (x4 + 1), jU] [] m1)) (jgd (inB ((87 : Int32) + x4) 560) (jgd (inB (((6 : Int32) * (gI m1 65 (ix ((87 : Int32) + x4)))) + x1) 36) (jbr (decide ((gI m1 72 (ix (((6 : Int32) * (gI m1 65 (ix ((87 : Int32) + x4)))) + x1))) ≤ x2)) (evj 184 6 [jR 10 64, jI x0, jI x1, jI x2, jI (x3 + (gI m1 72 (ix (((6 : Int32) * (gI m1 65 (ix ((87 : Int32) + x4)))) + x1)))), jI (x4 + 1), jU] [] m1) (evj 184 6 [jR 10 64, jI x0, jI x1, jI x2, jI (x3 + (1000 : Int32)), jI (x4 + 1), jU] [] m1)))))))) :=
  (evj_s (F := K184) rfl [6] 36 rfl).trans rfl
set_option maxRecDepth 100000 in
theorem e_M_inTime (x1 : Int32) (μ : jm) : cj 185 [jR 10 64, jI x1] μ = (bI (cj 140 [jL ((x1 : Int32).toInt64), jL (0 : Int64), jL (9 : Int64)] μ) (fun r1 m1 => jbr (decide (¬ r1 = 0)) (bV (cj 182 [jR 10 64, jI x1] m1) (fun m2 => jbr (decide (¬ (gI m2 64 16) = (-1 : Int32))) (some (some (jI (gI m2 64 14)), m2)) (some (some (jI (-1 : Int32)), m2)))) (bI (cj 141 [jR 10 64, jI (-2 : Int32)] m1) (fun r3 m3 => some (some (jI r3), m3))))) :=
  (cj_it (F := K185) rfl [] 17 _ _).trans rfl
set_option maxRecDepth 100000 in
theorem e_M_taken (x1 : Int32) (x2 : Int32) (x3 : Int32) (μ : jm) : cj 186 [jR 10 64, jI x1, jI x2, jI x3] μ = (bI (cj 170 [jR 10 64, jI x1] μ) (fun r1 m1 => jbr (decide (r1 = 0)) (evj 186 33 [jR 10 64, jU, jU, jU] [] m1) (bI (cj 170 [jR 10 64, jI x2] m1) (fun r2 m2 => jbr (decide (r2 = 0)) (evj 186 33 [jR 10 64, jU, jU, jU] [] m2) (jbr (decide (x1 = x2)) (evj 186 33 [jR 10 64, jU, jU, jU] [] m2) (bI (cj 140 [jL ((x3 : Int32).toInt64), jL (0 : Int64), jL (3 : Int64)] m2) (fun r3 m3 => jbr (decide (¬ r3 = 0)) (bI (cj 187 [jR 10 64, jI x1, jI x2, jI x3] m3) (fun r4 m4 => jbr (decide (r4 = 0)) (evj 186 55 [jU, jU, jU, jU] [jI (0 : Int32)] m4) (evj 186 55 [jU, jU, jU, jU] [jI (1 : Int32)] m4))) (evj 186 33 [jR 10 64, jU, jU, jU] [] m3)))))))) :=
  (cj_it (F := K186) rfl [33, 55] 26 _ _).trans rfl
set_option maxRecDepth 100000 in
theorem e_M_taken_33  (μ : jm) : evj 186 33 [jR 10 64, jU, jU, jU] [] μ = (bI (cj 141 [jR 10 64, jI (-2 : Int32)] μ) (fun r1 m1 => some (some (jI r1), m1))) :=
  (evj_s (F := K186) rfl [33, 55] 5 rfl).trans rfl
set_option maxRecDepth 100000 in
theorem e_M_taken_55 (x0 : Int32) (μ : jm) : evj 186 55 [jU, jU, jU, jU] [jI x0] μ = (some (some (jI x0), μ)) :=
  (evj_s (F := K186) rfl [33, 55] 2 rfl).trans rfl
set_option maxRecDepth 100000 in
theorem e_M_areTaken (x1 : Int32) (x2 : Int32) (x3 : Int32) (μ : jm) : cj 187 [jR 10 64, jI x1, jI x2, jI x3] μ = (evj 187 3 [jR 10 64, jI x1, jI x2, jI x3, jI (0 : Int32), jU, jU, jU] [] μ) :=
  (cj_it (F := K187) rfl [3, 12, 24] 3 _ _).trans rfl
set_option maxRecDepth 100000 in
theorem e_M_areTaken_3 (x0 : Int32) (x1 : Int32) (x2 : Int32) (x3 : Int32) (μ : jm) : evj 187 3 [jR 10 64, jI x0, jI x1, jI x2, jI x3, jU, jU, jU] [] μ = (jbr (decide ((3 : Int32) ≤ x3)) (some (some (jI ((0 : Int32) &&& 1)), μ)) (evj 187 12 [jR 10 64, jI x0, jI x1, jI x2, jI x3, jI (1 : Int32), jU, jU] [] μ)) :=
  (evj_s (F := K187) rfl [3, 12, 24] 6 rfl).trans rfl
set_option maxRecDepth 100000 in
theorem e_M_areTaken_12 (x0 : Int32) (x1 : Int32) (x2 : Int32) (x3 : Int32) (x4 : Int32) (μ : jm) : evj 187 12 [jR 10 64, jI x0, jI x1, jI x2, jI x3, jI x4, jU, jU] [] μ = (jbr (decide ((3 : Int32) ≤ x4)) (evj 187 3 [jR 10 64, jI x0, jI x1, jI x2, jI (x3 + 1), jU, jU, jU] [] μ) (evj 187 24 [jR 10 64, jI x0, jI x1, jI x2, jI x3, jI x4, jI (1 : Int32), jI (0 : Int32)] [] μ)) :=
  (evj_s (F := K187) rfl [3, 12, 24] 8 rfl).trans rfl
set_option maxRecDepth 100000 in
theorem e_M_areTaken_24 (x0 : Int32) (x1 : Int32) (x2 : Int32) (x3 : Int32) (x4 : Int32) (x5 : Int32) (x6 : Int32) (μ : jm) : evj 187 24 [jR 10 64, jI x0, jI x1, jI x2, jI x3, jI x4, jI x5, jI x6] [] μ = (jbr (decide ((3 : Int32) ≤ x6)) (jbr (decide (x5 = 0)) (evj 187 12 [jR 10 64, jI x0, jI x1, jI x2, jI x3, jI (x4 + 1), jU, jU] [] μ) (some (some (jI ((1 : Int32) &&& 1)), μ))) (jbr (decide (x5 = 0)) (evj 187 24 [jR 10 64, jI x0, jI x1, jI x2, jI x3, jI x4, jI (0 : Int32), jI (x6 + 1)] [] μ) (bI (cj 188 [jR 10 64, jI x0, jI x6] μ) (fun r1 m1 => jgd (decide (¬ (3 : Int32) = 0)) (bI (cj 188 [jR 10 64, jI x1, jI ((x3 + (x4 * x6)) - (x3 + (x4 * x6)) / (3 : Int32) * (3 : Int32))] m1) (fun r2 m2 => bI (cj 189 [jI r1, jI r2, jI x2] m2) (fun r3 m3 => jbr (decide (r3 = 0)) (evj 187 24 [jR 10 64, jI x0, jI x1, jI x2, jI x3, jI x4, jI (0 : Int32), jI (x6 + 1)] [] m3) (evj 187 24 [jR 10 64, jI x0, jI x1, jI x2, jI x3, jI x4, jI (1 : Int32), jI (x6 + 1)] [] m3)))))))) :=
  (evj_s (F := K187) rfl [3, 12, 24] 28 rfl).trans rfl
set_option maxRecDepth 100000 in
theorem e_M_noteOf (x1 : Int32) (x2 : Int32) (μ : jm) : cj 188 [jR 10 64, jI x1, jI x2] μ = (evj 188 5 [jR 10 64, jI x1, jU, jI x2, jI (0 : Int32)] [] μ) :=
  (cj_it (F := K188) rfl [5] 5 _ _).trans rfl
set_option maxRecDepth 100000 in
theorem e_M_noteOf_5 (x0 : Int32) (x1 : Int32) (x2 : Int32) (μ : jm) : evj 188 5 [jR 10 64, jI x0, jU, jI x1, jI x2] [] μ = (jbr (decide ((12 : Int32) ≤ x2)) (some (some (jI (-1 : Int32)), μ)) (jgd (inB ((102 : Int32) + x0) 560) (bI (cj 155 [jI (gI μ 65 (ix ((102 : Int32) + x0))), jI x2] μ) (fun r1 m1 => jbr (decide (r1 = 0)) (evj 188 5 [jR 10 64, jI x0, jU, jI x1, jI (x2 + 1)] [] m1) (jbr (decide (¬ x1 = 0)) (evj 188 5 [jR 10 64, jI x0, jU, jI (x1 + (-1)), jI (x2 + 1)] [] m1) (some (some (jI x2), m1))))))) :=
  (evj_s (F := K188) rfl [5] 18 rfl).trans rfl
set_option maxRecDepth 100000 in
theorem e_M_areNear (x0 : Int32) (x1 : Int32) (x2 : Int32) (μ : jm) : cj 189 [jI x0, jI x1, jI x2] μ = (jbr (decide (x1 ≤ x0)) (evj 189 14 [jU, jU, jI x2, jU] [jI (x0 - x1)] μ) (evj 189 14 [jU, jU, jI x2, jU] [jI (x1 - x0)] μ)) :=
  (cj_it (F := K189) rfl [14] 8 _ _).trans rfl
set_option maxRecDepth 100000 in
theorem e_M_areNear_14 (x0 : Int32) (x1 : Int32) (μ : jm) : evj 189 14 [jU, jU, jI x0, jU] [jI x1] μ = (jbr (decide (x1 ≤ x0)) (some (some (jI ((1 : Int32) &&& 1)), μ)) (jbr (decide (x0 < ((12 : Int32) - x1))) (some (some (jI ((0 : Int32) &&& 1)), μ)) (some (some (jI ((1 : Int32) &&& 1)), μ)))) :=
  (evj_s (F := K189) rfl [14] 13 rfl).trans rfl
set_option maxRecDepth 100000 in
theorem e_M_drop (x1 : Int32) (μ : jm) : cj 190 [jR 10 64, jI x1] μ = (bI (cj 140 [jL ((x1 : Int32).toInt64), jL (0 : Int64), jL (3 : Int64)] μ) (fun r1 m1 => jbr (decide (¬ r1 = 0)) (jgd (inB (101 : Int32) 560) (evj 190 29 [jR 10 64, jI x1, jI (gI m1 65 (ix (101 : Int32))), jI (0 : Int32), jU, jU, jU] [] m1)) (bI (cj 141 [jR 10 64, jI (-2 : Int32)] m1) (fun r2 m2 => some (some (jI r2), m2))))) :=
  (cj_it (F := K190) rfl [29, 44, 101, 136, 172, 177, 185] 14 _ _).trans rfl
set_option maxRecDepth 100000 in
theorem e_M_drop_29 (x0 : Int32) (x1 : Int32) (x2 : Int32) (μ : jm) : evj 190 29 [jR 10 64, jI x0, jI x1, jI x2, jU, jU, jU] [] μ = (jbr (decide (x1 ≤ x2)) (evj 190 101 [jR 10 64, jU, jI x1, jI (-1 : Int32), jI (0 : Int32), jU, jU] [] μ) (jgd (inB x2 8) (evj 190 44 [jR 10 64, jI x0, jI x1, jI x2, jI (0 : Int32), jU, jU] [] (sI μ 73 (ix x2) (0 : Int32))))) :=
  (evj_s (F := K190) rfl [29, 44, 101, 136, 172, 177, 185] 11 rfl).trans rfl
set_option maxRecDepth 100000 in
theorem e_M_drop_44 (x0 : Int32) (x1 : Int32) (x2 : Int32) (x3 : Int32) (μ : jm) : evj 190 44 [jR 10 64, jI x0, jI x1, jI x2, jI x3, jU, jU] [] μ = (jbr (decide (x1 ≤ x3)) (evj 190 29 [jR 10 64, jI x0, jI x1, jI (x2 + 1), jU, jU, jU] [] μ) (jgd (inB x2 8) (jbr (decide (x2 = x3)) (jgd (inB x2 8) (evj 190 44 [jR 10 64, jI x0, jI x1, jI x2, jI (x3 + 1), jU, jU] [] (sI μ 73 (ix x2) ((gI μ 73 (ix x2)) ||| (0 : Int32))))) (bI (cj 187 [jR 10 64, jI x2, jI x3, jI x0] μ) (fun r1 m1 => jbr (decide (r1 = 0)) (jgd (inB x2 8) (evj 190 44 [jR 10 64, jI x0, jI x1, jI x2, jI (x3 + 1), jU, jU] [] (sI m1 73 (ix x2) ((gI μ 73 (ix x2)) ||| (0 : Int32))))) (jgd (inB x2 8) (evj 190 44 [jR 10 64, jI x0, jI x1, jI x2, jI (x3 + 1), jU, jU] [] (sI m1 73 (ix x2) ((gI μ 73 (ix x2)) ||| ((1 : Int32) <<< (x3 &&& 31))))))))))) :=
  (evj_s (F := K190) rfl [29, 44, 101, 136, 172, 177, 185] 26 rfl).trans rfl
set_option maxRecDepth 100000 in
theorem e_M_drop_101 (x0 : Int32) (x1 : Int32) (x2 : Int32) (μ : jm) : evj 190 101 [jR 10 64, jU, jI x0, jI x1, jI x2, jU, jU] [] μ = (jbr (decide (((1 : Int32) <<< (x0 &&& 31)) ≤ x2)) (some (some (jI x1), μ)) (jbr (decide (x1 = (-1 : Int32))) (evj 190 136 [jR 10 64, jU, jI x0, jI x1, jI x2, jI (1 : Int32), jI (0 : Int32)] [] μ) (bI (cj 173 [jI x2] μ) (fun r1 m1 => bI (cj 173 [jI x1] m1) (fun r2 m2 => jbr (decide (r2 ≤ r1)) (evj 190 136 [jR 10 64, jU, jI x0, jI x1, jI x2, jI (0 : Int32), jI (0 : Int32)] [] m2) (evj 190 136 [jR 10 64, jU, jI x0, jI x1, jI x2, jI (1 : Int32), jI (0 : Int32)] [] m2)))))) :=
  (evj_s (F := K190) rfl [29, 44, 101, 136, 172, 177, 185] 19 rfl).trans rfl
set_option maxRecDepth 100000 in
theorem e_M_drop_136 (x0 : Int32) (x1 : Int32) (x2 : Int32) (x3 : Int32) (x4 : Int32) (μ : jm) : evj 190 136 [jR 10 64, jU, jI x0, jI x1, jI x2, jI x3, jI x4] [] μ = (jbr (decide (x0 ≤ x4)) (evj 190 185 [jR 10 64, jU, jI x0, jI x1, jI x2, jI x3, jU] [] μ) (jbr (decide (x3 = 0)) (evj 190 185 [jR 10 64, jU, jI x0, jI x1, jI x2, jI x3, jU] [] μ) (bI (cj 155 [jI x2, jI x4] μ) (fun r1 m1 => jbr (decide (¬ r1 = 0)) (evj 190 172 [jR 10 64, jU, jI x0, jI x1, jI x2, jU, jI x4] [] m1) (jgd (inB x4 8) (jbr (decide (¬ ((gI m1 73 (ix x4)) &&& (x2 ^^^ (-1 : Int32))) = 0)) (evj 190 177 [jR 10 64, jU, jI x0, jI x1, jI x2, jU, jI x4] [jI (0 : Int32)] m1) (evj 190 172 [jR 10 64, jU, jI x0, jI x1, jI x2, jU, jI x4] [] m1))))))) :=
  (evj_s (F := K190) rfl [29, 44, 101, 136, 172, 177, 185] 20 rfl).trans rfl
set_option maxRecDepth 100000 in
theorem e_M_drop_172 (x0 : Int32) (x1 : Int32) (x2 : Int32) (x3 : Int32) (μ : jm) : evj 190 172 [jR 10 64, jU, jI x0, jI x1, jI x2, jU, jI x3] [] μ = (evj 190 177 [jR 10 64, jU, jI x0, jI x1, jI x2, jU, jI x3] [jI (1 : Int32)] μ) :=
  (evj_s (F := K190) rfl [29, 44, 101, 136, 172, 177, 185] 3 rfl).trans rfl
set_option maxRecDepth 100000 in
theorem e_M_drop_177 (x0 : Int32) (x1 : Int32) (x2 : Int32) (x3 : Int32) (x4 : Int32) (μ : jm) : evj 190 177 [jR 10 64, jU, jI x0, jI x1, jI x2, jU, jI x3] [jI x4] μ = (evj 190 136 [jR 10 64, jU, jI x0, jI x1, jI x2, jI x4, jI (x3 + 1)] [] μ) :=
  (evj_s (F := K190) rfl [29, 44, 101, 136, 172, 177, 185] 4 rfl).trans rfl
set_option maxRecDepth 100000 in
theorem e_M_drop_185 (x0 : Int32) (x1 : Int32) (x2 : Int32) (x3 : Int32) (μ : jm) : evj 190 185 [jR 10 64, jU, jI x0, jI x1, jI x2, jI x3, jU] [] μ = (jbr (decide (x3 = 0)) (evj 190 101 [jR 10 64, jU, jI x0, jI x1, jI (x2 + 1), jU, jU] [] μ) (evj 190 101 [jR 10 64, jU, jI x0, jI x2, jI (x2 + 1), jU, jU] [] μ)) :=
  (evj_s (F := K190) rfl [29, 44, 101, 136, 172, 177, 185] 8 rfl).trans rfl
set_option maxRecDepth 100000 in
theorem e_M_news (x1 : Int32) (x2 : Int32) (x3 : Int32) (μ : jm) : cj 191 [jR 10 64, jI x1, jI x2, jI x3] μ = (bI (cj 139 [jI x1] μ) (fun r1 m1 => jbr (decide (r1 = 0)) (evj 191 19 [jR 10 64, jU, jU, jU, jU, jU, jU] [] m1) (bI (cj 139 [jI x2] m1) (fun r2 m2 => jbr (decide (r2 = 0)) (evj 191 19 [jR 10 64, jU, jU, jU, jU, jU, jU] [] m2) (jbr (decide ((-1 : Int32) ≤ x3)) (bV (cj 192 [jR 10 64, jI x2] m2) (fun m3 => jgd (inB x1 6) (jbr (decide (0 ≤ (gI m3 74 (ix x1)))) (jbr (decide (¬ x3 = (-1 : Int32))) (evj 191 69 [jR 10 64, jU, jI x2, jI x3, jI x1, jI (0 : Int32), jU] [] m3) (jgd (inB x1 6) (jgd (decide (¬ (100 : Int32) = 0)) (some (some (jI ((gI m3 74 (ix x1)) / (100 : Int32))), m3))))) (some (some (jI (-1 : Int32)), m3))))) (evj 191 19 [jR 10 64, jU, jU, jU, jU, jU, jU] [] m2)))))) :=
  (cj_it (F := K191) rfl [19, 69, 87] 28 _ _).trans rfl
set_option maxRecDepth 100000 in
theorem e_M_news_19  (μ : jm) : evj 191 19 [jR 10 64, jU, jU, jU, jU, jU, jU] [] μ = (jgd (inB (0 : Int32) 3) (jgd (inB (0 : Int32) 3) (some (some (jI (-10 : Int32)), sI μ 68 (ix (0 : Int32)) ((gI μ 68 (ix (0 : Int32))) + (1 : Int32)))))) :=
  (evj_s (F := K191) rfl [19, 69, 87] 11 rfl).trans rfl
set_option maxRecDepth 100000 in
theorem e_M_news_69 (x0 : Int32) (x1 : Int32) (x2 : Int32) (x3 : Int32) (μ : jm) : evj 191 69 [jR 10 64, jU, jI x0, jI x1, jI x2, jI x3, jU] [] μ = (jbr (decide (x1 ≤ x3)) (some (some (jI x2), μ)) (jbr (decide (¬ x2 = x0)) (evj 191 87 [jR 10 64, jU, jI x0, jI x1, jI x2, jI x3, jI (0 : Int32)] [] μ) (some (some (jI (-5 : Int32)), μ)))) :=
  (evj_s (F := K191) rfl [19, 69, 87] 9 rfl).trans rfl
set_option maxRecDepth 100000 in
theorem e_M_news_87 (x0 : Int32) (x1 : Int32) (x2 : Int32) (x3 : Int32) (x4 : Int32) (μ : jm) : evj 191 87 [jR 10 64, jU, jI x0, jI x1, jI x2, jI x3, jI x4] [] μ = (bI (cj 193 [jR 10 64, jI x2, jI x4, jI x0] μ) (fun r1 m1 => jgd (inB x2 6) (jbr (decide (r1 = (gI m1 74 (ix x2)))) (evj 191 69 [jR 10 64, jU, jI x0, jI x1, jI x4, jI (x3 + 1), jU] [] m1) (evj 191 87 [jR 10 64, jU, jI x0, jI x1, jI x2, jI x3, jI (x4 + 1)] [] m1)))) :=
  (evj_s (F := K191) rfl [19, 69, 87] 15 rfl).trans rfl
set_option maxRecDepth 100000 in
theorem e_M_findCosts (x1 : Int32) (μ : jm) : cj 192 [jR 10 64, jI x1] μ = (evj 192 2 [jR 10 64, jI x1, jI (0 : Int32), jU, jU, jU] [] μ) :=
  (cj_it (F := K192) rfl [2, 32, 40, 49, 73] 3 _ _).trans rfl
set_option maxRecDepth 100000 in
theorem e_M_findCosts_2 (x0 : Int32) (x1 : Int32) (μ : jm) : evj 192 2 [jR 10 64, jI x0, jI x1, jU, jU, jU] [] μ = (jbr (decide ((6 : Int32) ≤ x1)) (evj 192 32 [jR 10 64, jI x0, jI (0 : Int32), jU, jU, jU] [] μ) (jbr (decide (¬ x1 = x0)) (jgd (inB x1 6) (evj 192 2 [jR 10 64, jI x0, jI (x1 + 1), jU, jU, jU] [] (sI μ 74 (ix x1) (-1 : Int32)))) (jgd (inB x1 6) (evj 192 2 [jR 10 64, jI x0, jI (x1 + 1), jU, jU, jU] [] (sI μ 74 (ix x1) (0 : Int32)))))) :=
  (evj_s (F := K192) rfl [2, 32, 40, 49, 73] 15 rfl).trans rfl
set_option maxRecDepth 100000 in
theorem e_M_findCosts_32 (x0 : Int32) (x1 : Int32) (μ : jm) : evj 192 32 [jR 10 64, jI x0, jI x1, jU, jU, jU] [] μ = (jbr (decide ((6 : Int32) ≤ x1)) (some (none, μ)) (evj 192 40 [jR 10 64, jI x0, jI x1, jI (0 : Int32), jU, jU] [] μ)) :=
  (evj_s (F := K192) rfl [2, 32, 40, 49, 73] 6 rfl).trans rfl
set_option maxRecDepth 100000 in
theorem e_M_findCosts_40 (x0 : Int32) (x1 : Int32) (x2 : Int32) (μ : jm) : evj 192 40 [jR 10 64, jI x0, jI x1, jI x2, jU, jU] [] μ = (jbr (decide ((6 : Int32) ≤ x2)) (evj 192 32 [jR 10 64, jI x0, jI (x1 + 1), jU, jU, jU] [] μ) (evj 192 49 [jR 10 64, jI x0, jI x1, jI x2, jI (0 : Int32), jU] [] μ)) :=
  (evj_s (F := K192) rfl [2, 32, 40, 49, 73] 6 rfl).trans rfl
set_option maxRecDepth 100000 in
theorem e_M_findCosts_49 (x0 : Int32) (x1 : Int32) (x2 : Int32) (x3 : Int32) (μ : jm) : evj 192 49 [jR 10 64, jI x0, jI x1, jI x2, jI x3, jU] [] μ = (jbr (decide ((6 : Int32) ≤ x3)) (evj 192 40 [jR 10 64, jI x0, jI x1, jI (x2 + 1), jU, jU] [] μ) (jbr (decide (¬ x2 = x0)) (bI (cj 193 [jR 10 64, jI x2, jI x3, jI x0] μ) (fun r1 m1 => evj 192 73 [jR 10 64, jI x0, jI x1, jI x2, jI x3, jU] [jI r1] m1)) (evj 192 73 [jR 10 64, jI x0, jI x1, jI x2, jI x3, jU] [jI (-1 : Int32)] μ))) :=
  (evj_s (F := K192) rfl [2, 32, 40, 49, 73] 12 rfl).trans rfl
set_option maxRecDepth 100000 in
theorem e_M_findCosts_73 (x0 : Int32) (x1 : Int32) (x2 : Int32) (x3 : Int32) (x4 : Int32) (μ : jm) : evj 192 73 [jR 10 64, jI x0, jI x1, jI x2, jI x3, jU] [jI x4] μ = (jbr (decide (x4 < 0)) (jgd (inB x2 6) (jgd (inB x2 6) (evj 192 49 [jR 10 64, jI x0, jI x1, jI x2, jI (x3 + 1), jU] [] (sI μ 74 (ix x2) (gI μ 74 (ix x2)))))) (jgd (inB x2 6) (jbr (decide ((gI μ 74 (ix x2)) < 0)) (jgd (inB x2 6) (evj 192 49 [jR 10 64, jI x0, jI x1, jI x2, jI (x3 + 1), jU] [] (sI μ 74 (ix x2) x4))) (jgd (inB x2 6) (jbr (decide ((gI μ 74 (ix x2)) ≤ x4)) (jgd (inB x2 6) (jgd (inB x2 6) (evj 192 49 [jR 10 64, jI x0, jI x1, jI x2, jI (x3 + 1), jU] [] (sI μ 74 (ix x2) (gI μ 74 (ix x2)))))) (jgd (inB x2 6) (evj 192 49 [jR 10 64, jI x0, jI x1, jI x2, jI (x3 + 1), jU] [] (sI μ 74 (ix x2) x4)))))))) :=
  (evj_s (F := K192) rfl [2, 32, 40, 49, 73] 25 rfl).trans rfl
set_option maxRecDepth 100000 in
theorem e_M_costOn (x1 : Int32) (x2 : Int32) (x3 : Int32) (μ : jm) : cj 193 [jR 10 64, jI x1, jI x2, jI x3] μ = (jgd (inB (((36 : Int32) + ((6 : Int32) * x1)) + x2) 560) (jbr (decide ((gI μ 65 (ix (((36 : Int32) + ((6 : Int32) * x1)) + x2))) = 0)) (some (some (jI (-1 : Int32)), μ)) (jgd (inB x2 6) (jbr (decide (0 ≤ (gI μ 74 (ix x2)))) (jgd (inB x2 6) (jbr (decide (x2 = x3)) (some (some (jI (((gI μ 74 (ix x2)) + (1 : Int32)) + (0 : Int32))), μ)) (bI (cj 175 [jR 10 64, jI x2] μ) (fun r1 m1 => jbr (decide (¬ r1 = 0)) (some (some (jI (((gI μ 74 (ix x2)) + (1 : Int32)) + (0 : Int32))), m1)) (some (some (jI (((gI μ 74 (ix x2)) + (1 : Int32)) + (100 : Int32))), m1)))))) (some (some (jI (-1 : Int32)), μ)))))) :=
  (cj_it (F := K193) rfl [] 34 _ _).trans rfl
set_option maxRecDepth 100000 in
theorem e_M_hole (x1 : Int32) (μ : jm) : cj 194 [jR 10 64, jI x1] μ = (bI (cj 140 [jL ((x1 : Int32).toInt64), jL (0 : Int64), jL (4095 : Int64)] μ) (fun r1 m1 => jbr (decide (r1 = 0)) (bI (cj 141 [jR 10 64, jI (-2 : Int32)] m1) (fun r2 m2 => some (some (jI r2), m2))) (bI (cj 173 [jI x1] m1) (fun r3 m3 => jbr (decide (r3 ≤ (3 : Int32))) (jgd (inB (126 : Int32) 560) (jbr (decide (¬ (gI m3 65 (ix (126 : Int32))) = (6 : Int32))) (jgd (inB ((127 : Int32) + (gI m3 65 (ix (126 : Int32)))) 560) (jgd (inB (126 : Int32) 560) (jgd (inB (126 : Int32) 560) (some (some (jI (gI m3 65 (ix (126 : Int32)))), sI (sI m3 65 (ix ((127 : Int32) + (gI m3 65 (ix (126 : Int32))))) x1) 65 (ix (126 : Int32)) ((gI (sI m3 65 (ix ((127 : Int32) + (gI m3 65 (ix (126 : Int32))))) x1) 65 (ix (126 : Int32))) + (1 : Int32))))))) (bI (cj 141 [jR 10 64, jI (-4 : Int32)] m3) (fun r4 m4 => some (some (jI r4), m4))))) (bI (cj 141 [jR 10 64, jI (-2 : Int32)] m3) (fun r5 m5 => some (some (jI r5), m5))))))) :=
  (cj_it (F := K194) rfl [] 36 _ _).trans rfl
set_option maxRecDepth 100000 in
theorem e_M_whole  (μ : jm) : cj 195 [jR 10 64] μ = (jgd (inB (126 : Int32) 560) (jgd (inB (126 : Int32) 560) (some (some (jI (gI μ 65 (ix (126 : Int32)))), sI μ 65 (ix (126 : Int32)) (0 : Int32))))) :=
  (cj_it (F := K195) rfl [] 13 _ _).trans rfl
set_option maxRecDepth 100000 in
theorem e_M_meant (x1 : Int32) (μ : jm) : cj 196 [jR 10 64, jI x1] μ = (bI (cj 197 [jR 10 64, jI x1] μ) (fun r1 m1 => jbr (decide (r1 = 0)) (bI (cj 141 [jR 10 64, jI (-2 : Int32)] m1) (fun r2 m2 => some (some (jI r2), m2))) (bI (cj 198 [jR 10 64, jI x1] m1) (fun r3 m3 => some (some (jI r3), m3))))) :=
  (cj_it (F := K196) rfl [] 10 _ _).trans rfl
set_option maxRecDepth 100000 in
theorem e_M_isHole (x1 : Int32) (μ : jm) : cj 197 [jR 10 64, jI x1] μ = (jgd (inB (126 : Int32) 560) (bI (cj 140 [jL ((x1 : Int32).toInt64), jL (0 : Int64), jL (((gI μ 65 (ix (126 : Int32))) - (1 : Int32) : Int32).toInt64)] μ) (fun r1 m1 => some (some (jI (r1 &&& 1)), m1)))) :=
  (cj_it (F := K197) rfl [] 13 _ _).trans rfl
set_option maxRecDepth 100000 in
theorem e_M_meantBy (x1 : Int32) (μ : jm) : cj 198 [jR 10 64, jI x1] μ = (evj 198 4 [jR 10 64, jI x1, jI (0 : Int32), jI (0 : Int32)] [] μ) :=
  (cj_it (F := K198) rfl [4] 5 _ _).trans rfl
set_option maxRecDepth 100000 in
theorem e_M_meantBy_4 (x0 : Int32) (x1 : Int32) (x2 : Int32) (μ : jm) : evj 198 4 [jR 10 64, jI x0, jI x1, jI x2] [] μ = (jgd (inB (101 : Int32) 560) (jbr (decide ((gI μ 65 (ix (101 : Int32))) ≤ x2)) (some (some (jI x1), μ)) (jgd (inB ((127 : Int32) + x0) 560) (jgd (inB ((102 : Int32) + x2) 560) (jbr (decide (¬ ((gI μ 65 (ix ((127 : Int32) + x0))) &&& ((gI μ 65 (ix ((102 : Int32) + x2))) ^^^ (-1 : Int32))) = 0)) (evj 198 4 [jR 10 64, jI x0, jI (x1 ||| (0 : Int32)), jI (x2 + 1)] [] μ) (evj 198 4 [jR 10 64, jI x0, jI (x1 ||| ((1 : Int32) <<< (x2 &&& 31))), jI (x2 + 1)] [] μ)))))) :=
  (evj_s (F := K198) rfl [4] 32 rfl).trans rfl
set_option maxRecDepth 100000 in
theorem e_M_ways  (μ : jm) : cj 199 [jR 10 64] μ = (bL (cj 200 [jR 10 64, jI (0 : Int32), jI (-1 : Int32), jI (0 : Int32)] μ) (fun r1 m1 => some (some (jI ((r1 : Int64).toInt32)), m1))) :=
  (cj_it (F := K199) rfl [] 8 _ _).trans rfl
set_option maxRecDepth 100000 in
theorem e_M_rows (x1 : Int32) (x2 : Int32) (x3 : Int32) (μ : jm) : cj 200 [jR 10 64, jI x1, jI x2, jI x3] μ = (jgd (inB (101 : Int32) 560) (evj 200 15 [jR 10 64, jI x1, jI x2, jI x3, jI (gI μ 65 (ix (101 : Int32))), jL (1 : Int64), jU, jI (0 : Int32), jU, jU, jU, jU] [] μ)) :=
  (cj_it (F := K200) rfl [15, 39, 84, 163] 10 _ _).trans rfl
set_option maxRecDepth 100000 in
theorem e_M_rows_15 (x0 : Int32) (x1 : Int32) (x2 : Int32) (x3 : Int32) (y4 : Int64) (x5 : Int32) (μ : jm) : evj 200 15 [jR 10 64, jI x0, jI x1, jI x2, jI x3, jL y4, jU, jI x5, jU, jU, jU, jU] [] μ = (jbr (decide (x3 ≤ x5)) (evj 200 39 [jR 10 64, jI x0, jI x1, jI x2, jI x3, jL y4, jU, jI (0 : Int32), jU, jU, jU, jU] [] μ) (jgd (inB x5 8) (evj 200 15 [jR 10 64, jI x0, jI x1, jI x2, jI x3, jL y4, jU, jI (x5 + 1), jU, jU, jU, jU] [] (sL μ 75 (ix x5) (0 : Int64))))) :=
  (evj_s (F := K200) rfl [15, 39, 84, 163] 11 rfl).trans rfl
set_option maxRecDepth 100000 in
theorem e_M_rows_39 (x0 : Int32) (x1 : Int32) (x2 : Int32) (x3 : Int32) (y4 : Int64) (x5 : Int32) (μ : jm) : evj 200 39 [jR 10 64, jI x0, jI x1, jI x2, jI x3, jL y4, jU, jI x5, jU, jU, jU, jU] [] μ = (jgd (inB (126 : Int32) 560) (jbr (decide ((gI μ 65 (ix (126 : Int32))) ≤ x5)) (some (some (jL y4), μ)) (jbr (decide (¬ x5 = x1)) (bI (cj 198 [jR 10 64, jI x5] μ) (fun r1 m1 => evj 200 84 [jR 10 64, jI x0, jI x1, jI x2, jI x3, jL y4, jU, jI x5, jI r1, jL (0 : Int64), jU, jI (0 : Int32)] [] m1)) (bI (cj 198 [jR 10 64, jI x5] μ) (fun r2 m2 => evj 200 84 [jR 10 64, jI x0, jI x1, jI x2, jI x3, jL y4, jU, jI x5, jI (r2 &&& ((1 : Int32) <<< (x2 &&& 31))), jL (0 : Int64), jU, jI (0 : Int32)] [] m2))))) :=
  (evj_s (F := K200) rfl [15, 39, 84, 163] 23 rfl).trans rfl
set_option maxRecDepth 100000 in
theorem e_M_rows_84 (x0 : Int32) (x1 : Int32) (x2 : Int32) (x3 : Int32) (y4 : Int64) (x5 : Int32) (x6 : Int32) (y7 : Int64) (x8 : Int32) (μ : jm) : evj 200 84 [jR 10 64, jI x0, jI x1, jI x2, jI x3, jL y4, jU, jI x5, jI x6, jL y7, jU, jI x8] [] μ = (jbr (decide (x3 ≤ x8)) (evj 200 163 [jR 10 64, jI x0, jI x1, jI x2, jI x3, jU, jU, jI x5, jU, jL y7, jU, jI (0 : Int32)] [] μ) (bI (cj 155 [jI x6, jI x8] μ) (fun r1 m1 => jbr (decide (r1 = 0)) (jgd (inB x8 8) (jgd (inB x8 8) (evj 200 84 [jR 10 64, jI x0, jI x1, jI x2, jI x3, jL y4, jU, jI x5, jI x6, jL (y7 + (gL (sL m1 76 (ix x8) (0 : Int64)) 76 (ix x8))), jU, jI (x8 + 1)] [] (sL m1 76 (ix x8) (0 : Int64))))) (jgd (inB x8 8) (jbr (decide (x0 = 0)) (jgd (inB x8 8) (jgd (inB x8 8) (evj 200 84 [jR 10 64, jI x0, jI x1, jI x2, jI x3, jL y4, jU, jI x5, jI x6, jL (y7 + (gL (sL m1 76 (ix x8) ((y4 - (gL m1 75 (ix x8))) * (((1 : Int32) : Int32).toInt64))) 76 (ix x8))), jU, jI (x8 + 1)] [] (sL m1 76 (ix x8) ((y4 - (gL m1 75 (ix x8))) * (((1 : Int32) : Int32).toInt64)))))) (jgd (inB ((110 : Int32) + x8) 560) (jgd (inB x8 8) (jgd (inB x8 8) (evj 200 84 [jR 10 64, jI x0, jI x1, jI x2, jI x3, jL y4, jU, jI x5, jI x6, jL (y7 + (gL (sL m1 76 (ix x8) ((y4 - (gL m1 75 (ix x8))) * ((gI m1 65 (ix ((110 : Int32) + x8)) : Int32).toInt64))) 76 (ix x8))), jU, jI (x8 + 1)] [] (sL m1 76 (ix x8) ((y4 - (gL m1 75 (ix x8))) * ((gI m1 65 (ix ((110 : Int32) + x8)) : Int32).toInt64)))))))))))) :=
  (evj_s (F := K200) rfl [15, 39, 84, 163] 39 rfl).trans rfl
set_option maxRecDepth 100000 in
theorem e_M_rows_163 (x0 : Int32) (x1 : Int32) (x2 : Int32) (x3 : Int32) (x4 : Int32) (y5 : Int64) (x6 : Int32) (μ : jm) : evj 200 163 [jR 10 64, jI x0, jI x1, jI x2, jI x3, jU, jU, jI x4, jU, jL y5, jU, jI x6] [] μ = (jbr (decide (x3 ≤ x6)) (evj 200 39 [jR 10 64, jI x0, jI x1, jI x2, jI x3, jL y5, jU, jI (x4 + 1), jU, jU, jU, jU] [] μ) (jgd (inB x6 8) (jgd (inB x6 8) (evj 200 163 [jR 10 64, jI x0, jI x1, jI x2, jI x3, jU, jU, jI x4, jU, jL y5, jU, jI (x6 + 1)] [] (sL μ 75 (ix x6) (gL μ 76 (ix x6))))))) :=
  (evj_s (F := K200) rfl [15, 39, 84, 163] 14 rfl).trans rfl
set_option maxRecDepth 100000 in
theorem e_M_odds (x1 : Int32) (x2 : Int32) (μ : jm) : cj 201 [jR 10 64, jI x1, jI x2] μ = (bI (cj 197 [jR 10 64, jI x1] μ) (fun r1 m1 => jbr (decide (r1 = 0)) (bI (cj 141 [jR 10 64, jI (-2 : Int32)] m1) (fun r2 m2 => some (some (jI r2), m2))) (bI (cj 170 [jR 10 64, jI x2] m1) (fun r3 m3 => jbr (decide (¬ r3 = 0)) (bL (cj 200 [jR 10 64, jI (1 : Int32), jI (-1 : Int32), jI (0 : Int32)] m3) (fun r4 m4 => jbr (decide (¬ (lg_cmp r4 (0 : Int64)) = 0)) (bL (cj 200 [jR 10 64, jI (1 : Int32), jI x1, jI x2] m4) (fun r5 m5 => bI (cj 202 [jR 10 64, jL r5, jL r4] m5) (fun r6 m6 => some (some (jI r6), m6)))) (bI (cj 141 [jR 10 64, jI (-3 : Int32)] m4) (fun r7 m7 => some (some (jI r7), m7))))) (bI (cj 141 [jR 10 64, jI (-2 : Int32)] m3) (fun r8 m8 => some (some (jI r8), m8))))))) :=
  (cj_it (F := K201) rfl [] 28 _ _).trans rfl
set_option maxRecDepth 100000 in
theorem e_M_share (x1 : Int64) (x2 : Int64) (μ : jm) : cj 202 [jR 10 64, jL x1, jL x2] μ = (evj 202 6 [jR 10 64, jL x1, jU, jL x2, jU, jL x1, jU, jL x2, jU, jU, jU] [] μ) :=
  (cj_it (F := K202) rfl [6] 5 _ _).trans rfl
set_option maxRecDepth 100000 in
theorem e_M_share_6 (y0 : Int64) (y1 : Int64) (y2 : Int64) (y3 : Int64) (μ : jm) : evj 202 6 [jR 10 64, jL y0, jU, jL y1, jU, jL y2, jU, jL y3, jU, jU, jU] [] μ = (jbr (decide ((lg_cmp y3 (0 : Int64)) = 0)) (jgd (decide (¬ y2 = 0)) (jgd (decide (¬ y2 = 0)) (some (some (jI (1 : Int32)), sL (sL μ 64 4 (y0 / y2)) 64 5 (y1 / y2))))) (jgd (decide (¬ y3 = 0)) (evj 202 6 [jR 10 64, jL y0, jU, jL y1, jU, jL y3, jU, jL (y2 - y2 / y3 * y3), jU, jU, jU] [] μ))) :=
  (evj_s (F := K202) rfl [6] 17 rfl).trans rfl
set_option maxRecDepth 100000 in
theorem e_M_block (x1 : Int32) (x2 : Int32) (μ : jm) : cj 203 [jR 10 64, jI x1, jI x2] μ = (bI (cj 154 [jR 10 64, jI x1] μ) (fun r1 m1 => jbr (decide (r1 = 0)) (bI (cj 141 [jR 10 64, jI (-2 : Int32)] m1) (fun r2 m2 => some (some (jI r2), m2))) (bI (cj 170 [jR 10 64, jI x2] m1) (fun r3 m3 => jbr (decide (¬ r3 = 0)) (bI (cj 171 [jR 10 64, jI (0 : Int32), jI x1, jI x2] m3) (fun r4 m4 => jbr (decide (¬ r4 = 0)) (evj 203 45 [jR 10 64, jI x1, jI x2, jI (0 : Int32), jI (0 : Int32)] [] m4) (bI (cj 141 [jR 10 64, jI (-3 : Int32)] m4) (fun r5 m5 => some (some (jI r5), m5))))) (bI (cj 141 [jR 10 64, jI (-2 : Int32)] m3) (fun r6 m6 => some (some (jI r6), m6))))))) :=
  (cj_it (F := K203) rfl [45] 19 _ _).trans rfl
set_option maxRecDepth 100000 in
theorem e_M_block_45 (x0 : Int32) (x1 : Int32) (x2 : Int32) (x3 : Int32) (μ : jm) : evj 203 45 [jR 10 64, jI x0, jI x1, jI x2, jI x3] [] μ = (jgd (inB (72 : Int32) 560) (jbr (decide ((gI μ 65 (ix (72 : Int32))) ≤ x3)) (some (some (jI x2), μ)) (bI (cj 155 [jI x0, jI x3] μ) (fun r1 m1 => jbr (decide (r1 = 0)) (evj 203 45 [jR 10 64, jI x0, jI x1, jI (x2 ||| (0 : Int32)), jI (x3 + 1)] [] m1) (bI (cj 171 [jR 10 64, jI (0 : Int32), jI (x0 &&& (((1 : Int32) <<< (x3 &&& 31)) ^^^ (-1 : Int32))), jI x1] m1) (fun r2 m2 => jbr (decide (¬ r2 = 0)) (evj 203 45 [jR 10 64, jI x0, jI x1, jI (x2 ||| (0 : Int32)), jI (x3 + 1)] [] m2) (evj 203 45 [jR 10 64, jI x0, jI x1, jI (x2 ||| ((1 : Int32) <<< (x3 &&& 31))), jI (x3 + 1)] [] m2))))))) :=
  (evj_s (F := K203) rfl [45] 32 rfl).trans rfl
set_option maxRecDepth 100000 in
theorem e_M_swing (x1 : Int32) (x2 : Int32) (x3 : Int32) (μ : jm) : cj 204 [jR 10 64, jI x1, jI x2, jI x3] μ = (bI (cj 154 [jR 10 64, jI x1] μ) (fun r1 m1 => jbr (decide (r1 = 0)) (bI (cj 141 [jR 10 64, jI (-2 : Int32)] m1) (fun r2 m2 => some (some (jI r2), m2))) (bI (cj 147 [jR 10 64, jI (0 : Int32), jI x2] m1) (fun r3 m3 => jbr (decide (r3 = 0)) (bI (cj 141 [jR 10 64, jI (-2 : Int32)] m3) (fun r4 m4 => some (some (jI r4), m4))) (bI (cj 155 [jI x1, jI x2] m3) (fun r5 m5 => jbr (decide (r5 = 0)) (bI (cj 141 [jR 10 64, jI (-2 : Int32)] m5) (fun r6 m6 => some (some (jI r6), m6))) (bI (cj 170 [jR 10 64, jI x3] m5) (fun r7 m7 => jbr (decide (¬ r7 = 0)) (evj 204 46 [jR 10 64, jI x1, jI x2, jI x3, jL (0 : Int64), jU, jI (0 : Int32)] [] m7) (bI (cj 141 [jR 10 64, jI (-2 : Int32)] m7) (fun r8 m8 => some (some (jI r8), m8))))))))))) :=
  (cj_it (F := K204) rfl [46, 105, 108] 22 _ _).trans rfl
set_option maxRecDepth 100000 in
theorem e_M_swing_46 (x0 : Int32) (x1 : Int32) (x2 : Int32) (y3 : Int64) (x4 : Int32) (μ : jm) : evj 204 46 [jR 10 64, jI x0, jI x1, jI x2, jL y3, jU, jI x4] [] μ = (jbr (decide (x0 < x4)) (bI (cj 173 [jI x0] μ) (fun r1 m1 => bI (cj 202 [jR 10 64, jL y3, jL ((1 : Int64) <<< ((r1 - (1 : Int32) : Int32).toInt64 &&& 63))] m1) (fun r2 m2 => some (some (jI r2), m2)))) (jbr (decide (¬ (x4 &&& (x0 ^^^ (-1 : Int32))) = 0)) (evj 204 108 [jR 10 64, jI x0, jI x1, jI x2, jL y3, jU, jI x4] [] μ) (bI (cj 155 [jI x4, jI x1] μ) (fun r3 m3 => jbr (decide (r3 = 0)) (evj 204 108 [jR 10 64, jI x0, jI x1, jI x2, jL y3, jU, jI x4] [] m3) (bI (cj 171 [jR 10 64, jI (0 : Int32), jI x4, jI x2] m3) (fun r4 m4 => jbr (decide (r4 = 0)) (evj 204 108 [jR 10 64, jI x0, jI x1, jI x2, jL y3, jU, jI x4] [] m4) (bI (cj 171 [jR 10 64, jI (0 : Int32), jI (x4 &&& (((1 : Int32) <<< (x1 &&& 31)) ^^^ (-1 : Int32))), jI x2] m4) (fun r5 m5 => jbr (decide (r5 = 0)) (evj 204 105 [jR 10 64, jI x0, jI x1, jI x2, jU, jU, jI x4] [jL (1 : Int64), jL y3] m5) (evj 204 105 [jR 10 64, jI x0, jI x1, jI x2, jU, jU, jI x4] [jL (0 : Int64), jL y3] m5))))))))) :=
  (evj_s (F := K204) rfl [46, 105, 108] 35 rfl).trans rfl
set_option maxRecDepth 100000 in
theorem e_M_swing_105 (x0 : Int32) (x1 : Int32) (x2 : Int32) (x3 : Int32) (y4 : Int64) (y5 : Int64) (μ : jm) : evj 204 105 [jR 10 64, jI x0, jI x1, jI x2, jU, jU, jI x3] [jL y4, jL y5] μ = (evj 204 108 [jR 10 64, jI x0, jI x1, jI x2, jL (y5 + y4), jU, jI x3] [] μ) :=
  (evj_s (F := K204) rfl [46, 105, 108] 3 rfl).trans rfl
set_option maxRecDepth 100000 in
theorem e_M_swing_108 (x0 : Int32) (x1 : Int32) (x2 : Int32) (y3 : Int64) (x4 : Int32) (μ : jm) : evj 204 108 [jR 10 64, jI x0, jI x1, jI x2, jL y3, jU, jI x4] [] μ = (evj 204 46 [jR 10 64, jI x0, jI x1, jI x2, jL y3, jU, jI (x4 + 1)] [] μ) :=
  (evj_s (F := K204) rfl [46, 105, 108] 3 rfl).trans rfl
set_option maxRecDepth 100000 in
theorem e_M_song (x1 : Int32) (x2 : Int32) (x3 : Int32) (μ : jm) : cj 205 [jR 10 64, jI x1, jI x2, jI x3] μ = (bI (cj 154 [jR 10 64, jI x1] μ) (fun r1 m1 => jbr (decide (r1 = 0)) (jgd (inB (0 : Int32) 3) (jgd (inB (0 : Int32) 3) (some (some (jI (-10 : Int32)), sI m1 68 (ix (0 : Int32)) ((gI m1 68 (ix (0 : Int32))) + (1 : Int32)))))) (bI (cj 140 [jL ((x2 : Int32).toInt64), jL (0 : Int64), jL (6 : Int64)] m1) (fun r2 m2 => jbr (decide (r2 = 0)) (jgd (inB (0 : Int32) 3) (jgd (inB (0 : Int32) 3) (some (some (jI (-10 : Int32)), sI m2 68 (ix (0 : Int32)) ((gI m2 68 (ix (0 : Int32))) + (1 : Int32)))))) (jbr (decide ((-1 : Int32) ≤ x3)) (bV (cj 206 [jR 10 64, jI x1, jI x2] m2) (fun m3 => jbr (decide (¬ x1 = 0)) (evj 205 58 [jR 10 64, jI x1, jI x2, jI x3, jI (0 : Int32), jI (0 : Int32), jU, jU, jU] [] m3) (evj 205 58 [jR 10 64, jI x1, jI x2, jI x3, jI (1 : Int32), jI (0 : Int32), jU, jU, jU] [] m3))) (jgd (inB (0 : Int32) 3) (jgd (inB (0 : Int32) 3) (some (some (jI (-10 : Int32)), sI m2 68 (ix (0 : Int32)) ((gI m2 68 (ix (0 : Int32))) + (1 : Int32))))))))))) :=
  (cj_it (F := K205) rfl [58, 126, 135] 25 _ _).trans rfl
set_option maxRecDepth 100000 in
theorem e_M_song_58 (x0 : Int32) (x1 : Int32) (x2 : Int32) (x3 : Int32) (x4 : Int32) (μ : jm) : evj 205 58 [jR 10 64, jI x0, jI x1, jI x2, jI x3, jI x4, jU, jU, jU] [] μ = (jgd (inB (72 : Int32) 560) (jbr (decide ((gI μ 65 (ix (72 : Int32))) ≤ x4)) (jbr (decide (¬ x2 = (-1 : Int32))) (jbr (decide (x3 = 0)) (some (some (jI (-5 : Int32)), μ)) (bI (cj 173 [jI x0] μ) (fun r1 m1 => jbr (decide (x2 < r1)) (evj 205 126 [jR 10 64, jU, jI x1, jI x2, jU, jI x0, jI (-1 : Int32), jI (0 : Int32), jU] [] m1) (some (some (jI (-5 : Int32)), m1))))) (some (some (jI x3), μ))) (jgd (inB (((7 : Int32) * x0) + x4) 896) (evj 205 58 [jR 10 64, jI x0, jI x1, jI x2, jI (x3 + (gI μ 77 (ix (((7 : Int32) * x0) + x4)))), jI (x4 + 1), jU, jU, jU] [] μ)))) :=
  (evj_s (F := K205) rfl [58, 126, 135] 22 rfl).trans rfl
set_option maxRecDepth 100000 in
theorem e_M_song_126 (x0 : Int32) (x1 : Int32) (x2 : Int32) (x3 : Int32) (x4 : Int32) (μ : jm) : evj 205 126 [jR 10 64, jU, jI x0, jI x1, jU, jI x2, jI x3, jI x4, jU] [] μ = (jbr (decide (x1 < x4)) (some (some (jI x3), μ)) (evj 205 135 [jR 10 64, jU, jI x0, jI x1, jU, jI x2, jI x3, jI x4, jI (0 : Int32)] [] μ)) :=
  (evj_s (F := K205) rfl [58, 126, 135] 6 rfl).trans rfl
set_option maxRecDepth 100000 in
theorem e_M_song_135 (x0 : Int32) (x1 : Int32) (x2 : Int32) (x3 : Int32) (x4 : Int32) (x5 : Int32) (μ : jm) : evj 205 135 [jR 10 64, jU, jI x0, jI x1, jU, jI x2, jI x3, jI x4, jI x5] [] μ = (jgd (inB (((7 : Int32) * x2) + x5) 896) (jbr (decide ((gI μ 77 (ix (((7 : Int32) * x2) + x5))) = 0)) (evj 205 135 [jR 10 64, jU, jI x0, jI x1, jU, jI x2, jI x3, jI x4, jI (x5 + 1)] [] μ) (jbr (decide (x3 = (-1 : Int32))) (evj 205 126 [jR 10 64, jU, jI x0, jI x1, jU, jI (x2 &&& (((1 : Int32) <<< (x5 &&& 31)) ^^^ (-1 : Int32))), jI x5, jI (x4 + 1), jU] [] μ) (jgd (inB ((80 : Int32) + x3) 560) (jgd (inB ((80 : Int32) + x5) 560) (bI (cj 189 [jI (gI μ 65 (ix ((80 : Int32) + x3))), jI (gI μ 65 (ix ((80 : Int32) + x5))), jI x0] μ) (fun r1 m1 => jbr (decide (¬ r1 = 0)) (evj 205 126 [jR 10 64, jU, jI x0, jI x1, jU, jI (x2 &&& (((1 : Int32) <<< (x5 &&& 31)) ^^^ (-1 : Int32))), jI x5, jI (x4 + 1), jU] [] m1) (evj 205 135 [jR 10 64, jU, jI x0, jI x1, jU, jI x2, jI x3, jI x4, jI (x5 + 1)] [] m1)))))))) :=
  (evj_s (F := K205) rfl [58, 126, 135] 40 rfl).trans rfl
set_option maxRecDepth 100000 in
theorem e_M_findOrders (x1 : Int32) (x2 : Int32) (μ : jm) : cj 206 [jR 10 64, jI x1, jI x2] μ = (evj 206 2 [jR 10 64, jI x1, jI x2, jI (0 : Int32), jU, jU, jU, jU] [] μ) :=
  (cj_it (F := K206) rfl [2, 10, 47] 3 _ _).trans rfl
set_option maxRecDepth 100000 in
theorem e_M_findOrders_2 (x0 : Int32) (x1 : Int32) (x2 : Int32) (μ : jm) : evj 206 2 [jR 10 64, jI x0, jI x1, jI x2, jU, jU, jU, jU] [] μ = (jbr (decide (x0 < x2)) (some (none, μ)) (evj 206 10 [jR 10 64, jI x0, jI x1, jI x2, jI (0 : Int32), jU, jU, jU] [] μ)) :=
  (evj_s (F := K206) rfl [2, 10, 47] 6 rfl).trans rfl
set_option maxRecDepth 100000 in
theorem e_M_findOrders_10 (x0 : Int32) (x1 : Int32) (x2 : Int32) (x3 : Int32) (μ : jm) : evj 206 10 [jR 10 64, jI x0, jI x1, jI x2, jI x3, jU, jU, jU] [] μ = (jgd (inB (72 : Int32) 560) (jbr (decide ((gI μ 65 (ix (72 : Int32))) ≤ x3)) (evj 206 2 [jR 10 64, jI x0, jI x1, jI (x2 + 1), jU, jU, jU, jU] [] μ) (jbr (decide (¬ (x2 &&& (((1 : Int32) <<< (x3 &&& 31)) ^^^ (-1 : Int32))) = 0)) (evj 206 47 [jR 10 64, jI x0, jI x1, jI x2, jI x3, jI (x2 &&& (((1 : Int32) <<< (x3 &&& 31)) ^^^ (-1 : Int32))), jI (0 : Int32), jI (0 : Int32)] [] μ) (evj 206 47 [jR 10 64, jI x0, jI x1, jI x2, jI x3, jI (x2 &&& (((1 : Int32) <<< (x3 &&& 31)) ^^^ (-1 : Int32))), jI (1 : Int32), jI (0 : Int32)] [] μ)))) :=
  (evj_s (F := K206) rfl [2, 10, 47] 22 rfl).trans rfl
set_option maxRecDepth 100000 in
theorem e_M_findOrders_47 (x0 : Int32) (x1 : Int32) (x2 : Int32) (x3 : Int32) (x4 : Int32) (x5 : Int32) (x6 : Int32) (μ : jm) : evj 206 47 [jR 10 64, jI x0, jI x1, jI x2, jI x3, jI x4, jI x5, jI x6] [] μ = (jgd (inB (72 : Int32) 560) (jbr (decide ((gI μ 65 (ix (72 : Int32))) ≤ x6)) (bI (cj 155 [jI x2, jI x3] μ) (fun r1 m1 => jbr (decide (r1 = 0)) (jgd (inB (((7 : Int32) * x2) + x3) 896) (evj 206 10 [jR 10 64, jI x0, jI x1, jI x2, jI (x3 + 1), jU, jU, jU] [] (sI m1 77 (ix (((7 : Int32) * x2) + x3)) (0 : Int32)))) (jgd (inB (((7 : Int32) * x2) + x3) 896) (evj 206 10 [jR 10 64, jI x0, jI x1, jI x2, jI (x3 + 1), jU, jU, jU] [] (sI m1 77 (ix (((7 : Int32) * x2) + x3)) x5))))) (bI (cj 155 [jI x4, jI x6] μ) (fun r2 m2 => jbr (decide (r2 = 0)) (evj 206 47 [jR 10 64, jI x0, jI x1, jI x2, jI x3, jI x4, jI (x5 + (0 : Int32)), jI (x6 + 1)] [] m2) (jgd (inB ((80 : Int32) + x3) 560) (jgd (inB ((80 : Int32) + x6) 560) (bI (cj 189 [jI (gI m2 65 (ix ((80 : Int32) + x3))), jI (gI m2 65 (ix ((80 : Int32) + x6))), jI x1] m2) (fun r3 m3 => jbr (decide (r3 = 0)) (evj 206 47 [jR 10 64, jI x0, jI x1, jI x2, jI x3, jI x4, jI (x5 + (0 : Int32)), jI (x6 + 1)] [] m3) (jgd (inB (((7 : Int32) * x4) + x6) 896) (evj 206 47 [jR 10 64, jI x0, jI x1, jI x2, jI x3, jI x4, jI (x5 + (gI m3 77 (ix (((7 : Int32) * x4) + x6)))), jI (x6 + 1)] [] m3)))))))))) :=
  (evj_s (F := K206) rfl [2, 10, 47] 40 rfl).trans rfl
set_option maxRecDepth 100000 in
theorem e_M_couple (x1 : Int32) (μ : jm) : cj 207 [jR 10 64, jI x1] μ = (bI (cj 154 [jR 10 64, jI x1] μ) (fun r1 m1 => jbr (decide (¬ r1 = 0)) (evj 207 22 [jR 10 64, jI x1, jI (-1 : Int32), jI (-1 : Int32), jI (0 : Int32), jU, jU] [] m1) (bI (cj 141 [jR 10 64, jI (-2 : Int32)] m1) (fun r2 m2 => some (some (jI r2), m2))))) :=
  (cj_it (F := K207) rfl [22, 40, 195, 209] 11 _ _).trans rfl
set_option maxRecDepth 100000 in
theorem e_M_couple_22 (x0 : Int32) (x1 : Int32) (x2 : Int32) (x3 : Int32) (μ : jm) : evj 207 22 [jR 10 64, jI x0, jI x1, jI x2, jI x3, jU, jU] [] μ = (jgd (inB (72 : Int32) 560) (jbr (decide ((gI μ 65 (ix (72 : Int32))) ≤ x3)) (some (some (jI x1), μ)) (evj 207 40 [jR 10 64, jI x0, jI x1, jI x2, jI x3, jI (x3 + (1 : Int32)), jU] [] μ))) :=
  (evj_s (F := K207) rfl [22, 40, 195, 209] 11 rfl).trans rfl
set_option maxRecDepth 100000 in
theorem e_M_couple_40 (x0 : Int32) (x1 : Int32) (x2 : Int32) (x3 : Int32) (x4 : Int32) (μ : jm) : evj 207 40 [jR 10 64, jI x0, jI x1, jI x2, jI x3, jI x4, jU] [] μ = (jgd (inB (72 : Int32) 560) (jbr (decide ((gI μ 65 (ix (72 : Int32))) ≤ x4)) (evj 207 22 [jR 10 64, jI x0, jI x1, jI x2, jI (x3 + 1), jU, jU] [] μ) (bI (cj 155 [jI x0, jI x3] μ) (fun r1 m1 => jbr (decide (r1 = 0)) (evj 207 209 [jR 10 64, jI x0, jI x1, jI x2, jI x3, jI x4, jU] [] m1) (bI (cj 155 [jI x0, jI x4] m1) (fun r2 m2 => jbr (decide (r2 = 0)) (evj 207 209 [jR 10 64, jI x0, jI x1, jI x2, jI x3, jI x4, jU] [] m2) (jgd (inB ((94 : Int32) + x3) 560) (jbr (decide (¬ (gI m2 65 (ix ((94 : Int32) + x3))) = x4)) (bV (cj 168 [jR 10 64, jI (0 : Int32), jI (420 : Int32)] m2) (fun m3 => bV (cj 208 [jR 10 64, jI (420 : Int32), jI x3] m3) (fun m4 => bV (cj 208 [jR 10 64, jI (420 : Int32), jI x4] m4) (fun m5 => jgd (inB ((493 : Int32) + x3) 560) (jgd (inB ((493 : Int32) + x4) 560) (jgd (inB ((514 : Int32) + x3) 560) (jgd (inB ((514 : Int32) + x4) 560) (bI (cj 176 [jR 10 64, jI (420 : Int32), jI x0] (sI (sI (sI (sI m5 65 (ix ((493 : Int32) + x3)) (2 : Int32)) 65 (ix ((493 : Int32) + x4)) (2 : Int32)) 65 (ix ((514 : Int32) + x3)) x4) 65 (ix ((514 : Int32) + x4)) x3)) (fun r6 m6 => bI (cj 173 [jI r6] m6) (fun r7 m7 => jbr (decide (r7 ≤ x2)) (evj 207 195 [jR 10 64, jI x0, jU, jI x2, jI x3, jI x4, jI r7] [jI x1] m7) (evj 207 195 [jR 10 64, jI x0, jU, jI x2, jI x3, jI x4, jI r7] [jI (((10 : Int32) * x3) + x4)] m7))))))))))) (evj 207 209 [jR 10 64, jI x0, jI x1, jI x2, jI x3, jI x4, jU] [] m2))))))))) :=
  (evj_s (F := K207) rfl [22, 40, 195, 209] 78 rfl).trans rfl
set_option maxRecDepth 100000 in
theorem e_M_couple_195 (x0 : Int32) (x1 : Int32) (x2 : Int32) (x3 : Int32) (x4 : Int32) (x5 : Int32) (μ : jm) : evj 207 195 [jR 10 64, jI x0, jU, jI x1, jI x2, jI x3, jI x4] [jI x5] μ = (jbr (decide (x4 ≤ x1)) (evj 207 209 [jR 10 64, jI x0, jI x5, jI x1, jI x2, jI x3, jU] [] μ) (evj 207 209 [jR 10 64, jI x0, jI x5, jI x4, jI x2, jI x3, jU] [] μ)) :=
  (evj_s (F := K207) rfl [22, 40, 195, 209] 8 rfl).trans rfl
set_option maxRecDepth 100000 in
theorem e_M_couple_209 (x0 : Int32) (x1 : Int32) (x2 : Int32) (x3 : Int32) (x4 : Int32) (μ : jm) : evj 207 209 [jR 10 64, jI x0, jI x1, jI x2, jI x3, jI x4, jU] [] μ = (evj 207 40 [jR 10 64, jI x0, jI x1, jI x2, jI x3, jI (x4 + 1), jU] [] μ) :=
  (evj_s (F := K207) rfl [22, 40, 195, 209] 3 rfl).trans rfl
set_option maxRecDepth 100000 in
theorem e_M_divorce (x1 : Int32) (x2 : Int32) (μ : jm) : cj 208 [jR 10 64, jI x1, jI x2] μ = (jgd (inB ((x1 + (94 : Int32)) + x2) 560) (jbr (decide ((gI μ 65 (ix ((x1 + (94 : Int32)) + x2))) = (-1 : Int32))) (some (none, μ)) (jgd (inB ((x1 + (94 : Int32)) + (gI μ 65 (ix ((x1 + (94 : Int32)) + x2)))) 560) (jgd (inB ((x1 + (94 : Int32)) + x2) 560) (some (none, sI (sI μ 65 (ix ((x1 + (94 : Int32)) + (gI μ 65 (ix ((x1 + (94 : Int32)) + x2))))) (-1 : Int32)) 65 (ix ((x1 + (94 : Int32)) + x2)) (-1 : Int32))))))) :=
  (cj_it (F := K208) rfl [] 32 _ _).trans rfl
set_option maxRecDepth 100000 in
theorem e_M_part (x1 : Int32) (μ : jm) : cj 209 [jR 10 64, jI x1] μ = (jbr (decide (¬ x1 = 0)) (jbr (decide (¬ x1 = (1 : Int32))) (bI (cj 141 [jR 10 64, jI (-2 : Int32)] μ) (fun r1 m1 => some (some (jL ((r1 : Int32).toInt64)), m1))) (some (some (jL (gL μ 64 5)), μ))) (some (some (jL (gL μ 64 4)), μ))) :=
  (cj_it (F := K209) rfl [] 11 _ _).trans rfl
set_option maxRecDepth 100000 in
theorem e_M_image (x1 : Int32) (μ : jm) : cj 210 [jR 10 64, jI x1] μ = (bI (cj 140 [jL ((x1 : Int32).toInt64), jL (0 : Int64), jL (1 : Int64)] μ) (fun r1 m1 => jbr (decide (¬ r1 = 0)) (bV (cj 168 [jR 10 64, jI (0 : Int32), jI ((140 : Int32) * ((1 : Int32) + x1))] m1) (fun m2 => jgd (inB x1 2) (some (some (jI (1 : Int32)), sI m2 66 (ix x1) ((1 : Int32) &&& 1))))) (bI (cj 141 [jR 10 64, jI (-2 : Int32)] m1) (fun r3 m3 => some (some (jI r3), m3))))) :=
  (cj_it (F := K210) rfl [] 22 _ _).trans rfl
set_option maxRecDepth 100000 in
theorem e_M_from (x1 : Int32) (μ : jm) : cj 211 [jR 10 64, jI x1] μ = (bI (cj 140 [jL ((x1 : Int32).toInt64), jL (0 : Int64), jL (1 : Int64)] μ) (fun r1 m1 => jbr (decide (¬ r1 = 0)) (jgd (inB x1 2) (jbr (decide (¬ (gI m1 66 (ix x1)) = 0)) (bV (cj 168 [jR 10 64, jI ((140 : Int32) * ((1 : Int32) + x1)), jI (0 : Int32)] m1) (fun m2 => some (some (jI (1 : Int32)), m2))) (bI (cj 141 [jR 10 64, jI (-3 : Int32)] m1) (fun r3 m3 => some (some (jI r3), m3))))) (bI (cj 141 [jR 10 64, jI (-2 : Int32)] m1) (fun r4 m4 => some (some (jI r4), m4))))) :=
  (cj_it (F := K211) rfl [] 22 _ _).trans rfl
set_option maxRecDepth 100000 in
theorem e_M_status (x1 : Int32) (μ : jm) : cj 212 [jR 10 64, jI x1] μ = (bI (cj 140 [jL ((x1 : Int32).toInt64), jL (0 : Int64), jL (2 : Int64)] μ) (fun r1 m1 => jbr (decide (¬ r1 = 0)) (jgd (inB x1 3) (some (some (jI (gI m1 68 (ix x1))), m1))) (jgd (inB (0 : Int32) 3) (jgd (inB (0 : Int32) 3) (some (some (jI (-1 : Int32)), sI m1 68 (ix (0 : Int32)) ((gI m1 68 (ix (0 : Int32))) + (1 : Int32)))))))) :=
  (cj_it (F := K212) rfl [] 17 _ _).trans rfl
set_option maxRecDepth 100000 in
theorem e_M_count (x1 : Int32) (μ : jm) : cj 213 [jR 10 64, jI x1] μ = (bI (cj 140 [jL ((x1 : Int32).toInt64), jL (0 : Int64), jL (4 : Int64)] μ) (fun r1 m1 => jbr (decide (r1 = 0)) (bI (cj 141 [jR 10 64, jI (-2 : Int32)] m1) (fun r2 m2 => some (some (jI r2), m2))) (bI (cj 214 [jR 10 64, jI x1] m1) (fun r3 m3 => some (some (jI r3), m3))))) :=
  (cj_it (F := K213) rfl [] 12 _ _).trans rfl
set_option maxRecDepth 100000 in
theorem e_M_countOf (x1 : Int32) (μ : jm) : cj 214 [jR 10 64, jI x1] μ = (jbr (decide (¬ x1 = 0)) (jbr (decide (¬ x1 = (1 : Int32))) (jbr (decide (¬ x1 = (2 : Int32))) (jbr (decide (¬ x1 = (3 : Int32))) (some (some (jI (gI μ 64 3)), μ)) (jgd (inB (126 : Int32) 560) (some (some (jI (gI μ 65 (ix (126 : Int32)))), μ)))) (jgd (inB (119 : Int32) 560) (some (some (jI (gI μ 65 (ix (119 : Int32)))), μ)))) (jgd (inB (101 : Int32) 560) (some (some (jI (gI μ 65 (ix (101 : Int32)))), μ)))) (jgd (inB (72 : Int32) 560) (some (some (jI (gI μ 65 (ix (72 : Int32)))), μ)))) :=
  (cj_it (F := K214) rfl [] 18 _ _).trans rfl
set_option maxRecDepth 100000 in
theorem e_M_digest  (μ : jm) : cj 215 [jR 10 64] μ = (evj 215 9 [jR 10 64, jI (0 : Int32), jU] [] (sL μ 64 22 (677 : Int64))) :=
  (cj_it (F := K215) rfl [9, 32, 40, 94, 169] 6 _ _).trans rfl
set_option maxRecDepth 100000 in
theorem e_M_digest_9 (x0 : Int32) (μ : jm) : evj 215 9 [jR 10 64, jI x0, jU] [] μ = (jbr (decide ((5 : Int32) ≤ x0)) (evj 215 32 [jR 10 64, jI (0 : Int32), jU] [] μ) (bI (cj 214 [jR 10 64, jI x0] μ) (fun r1 m1 => bV (cj 216 [jR 10 64, jL ((r1 : Int32).toInt64)] m1) (fun m2 => evj 215 9 [jR 10 64, jI (x0 + 1), jU] [] m2)))) :=
  (evj_s (F := K215) rfl [9, 32, 40, 94, 169] 12 rfl).trans rfl
set_option maxRecDepth 100000 in
theorem e_M_digest_32 (x0 : Int32) (μ : jm) : evj 215 32 [jR 10 64, jI x0, jU] [] μ = (jbr (decide ((6 : Int32) ≤ x0)) (evj 215 94 [jR 10 64, jI (0 : Int32), jU] [] μ) (evj 215 40 [jR 10 64, jI x0, jI (0 : Int32)] [] μ)) :=
  (evj_s (F := K215) rfl [9, 32, 40, 94, 169] 6 rfl).trans rfl
set_option maxRecDepth 100000 in
theorem e_M_digest_40 (x0 : Int32) (x1 : Int32) (μ : jm) : evj 215 40 [jR 10 64, jI x0, jI x1] [] μ = (jbr (decide (x0 ≤ x1)) (evj 215 32 [jR 10 64, jI (x0 + 1), jU] [] μ) (jgd (inB (((6 : Int32) * x0) + x1) 560) (bV (cj 216 [jR 10 64, jL ((gI μ 65 (ix (((6 : Int32) * x0) + x1)) : Int32).toInt64)] μ) (fun m1 => jgd (inB (((36 : Int32) + ((6 : Int32) * x0)) + x1) 560) (bV (cj 216 [jR 10 64, jL ((gI m1 65 (ix (((36 : Int32) + ((6 : Int32) * x0)) + x1)) : Int32).toInt64)] m1) (fun m2 => evj 215 40 [jR 10 64, jI x0, jI (x1 + 1)] [] m2)))))) :=
  (evj_s (F := K215) rfl [9, 32, 40, 94, 169] 30 rfl).trans rfl
set_option maxRecDepth 100000 in
theorem e_M_digest_94 (x0 : Int32) (μ : jm) : evj 215 94 [jR 10 64, jI x0, jU] [] μ = (jgd (inB (72 : Int32) 560) (jbr (decide ((gI μ 65 (ix (72 : Int32))) ≤ x0)) (evj 215 169 [jR 10 64, jI (0 : Int32), jU] [] μ) (jgd (inB ((73 : Int32) + x0) 560) (bV (cj 216 [jR 10 64, jL ((gI μ 65 (ix ((73 : Int32) + x0)) : Int32).toInt64)] μ) (fun m1 => jgd (inB ((80 : Int32) + x0) 560) (bV (cj 216 [jR 10 64, jL ((gI m1 65 (ix ((80 : Int32) + x0)) : Int32).toInt64)] m1) (fun m2 => jgd (inB ((87 : Int32) + x0) 560) (bV (cj 216 [jR 10 64, jL ((gI m2 65 (ix ((87 : Int32) + x0)) : Int32).toInt64)] m2) (fun m3 => jgd (inB ((94 : Int32) + x0) 560) (bV (cj 216 [jR 10 64, jL ((gI m3 65 (ix ((94 : Int32) + x0)) : Int32).toInt64)] m3) (fun m4 => evj 215 94 [jR 10 64, jI (x0 + 1), jU] [] m4))))))))))) :=
  (evj_s (F := K215) rfl [9, 32, 40, 94, 169] 45 rfl).trans rfl
set_option maxRecDepth 100000 in
theorem e_M_digest_169 (x0 : Int32) (μ : jm) : evj 215 169 [jR 10 64, jI x0, jU] [] μ = (jgd (inB (101 : Int32) 560) (jbr (decide ((gI μ 65 (ix (101 : Int32))) ≤ x0)) (jgd (inB (118 : Int32) 560) (bV (cj 216 [jR 10 64, jL ((gI μ 65 (ix (118 : Int32)) : Int32).toInt64)] μ) (fun m1 => jgd (inB (119 : Int32) 560) (bV (cj 217 [jR 10 64, jI (120 : Int32), jI (gI m1 65 (ix (119 : Int32)))] m1) (fun m2 => jgd (inB (126 : Int32) 560) (bV (cj 217 [jR 10 64, jI (127 : Int32), jI (gI m2 65 (ix (126 : Int32)))] m2) (fun m3 => bV (cj 216 [jR 10 64, jL (gL m3 64 4)] m3) (fun m4 => bV (cj 216 [jR 10 64, jL (gL m4 64 5)] m4) (fun m5 => some (some (jL (gL m5 64 22)), m5)))))))))) (jgd (inB ((102 : Int32) + x0) 560) (bV (cj 216 [jR 10 64, jL ((gI μ 65 (ix ((102 : Int32) + x0)) : Int32).toInt64)] μ) (fun m6 => jgd (inB ((110 : Int32) + x0) 560) (bV (cj 216 [jR 10 64, jL ((gI m6 65 (ix ((110 : Int32) + x0)) : Int32).toInt64)] m6) (fun m7 => evj 215 169 [jR 10 64, jI (x0 + 1), jU] [] m7))))))) :=
  (evj_s (F := K215) rfl [9, 32, 40, 94, 169] 39 rfl).trans rfl
set_option maxRecDepth 100000 in
theorem e_M_mix (x1 : Int64) (μ : jm) : cj 216 [jR 10 64, jL x1] μ = (some (none, sL μ 64 22 (((31 : Int64) * (gL μ 64 22)) + x1))) :=
  (cj_it (F := K216) rfl [] 10 _ _).trans rfl
set_option maxRecDepth 100000 in
theorem e_M_mixAll (x1 : Int32) (x2 : Int32) (μ : jm) : cj 217 [jR 10 64, jI x1, jI x2] μ = (evj 217 2 [jR 10 64, jI x1, jI x2, jI (0 : Int32)] [] μ) :=
  (cj_it (F := K217) rfl [2] 3 _ _).trans rfl
set_option maxRecDepth 100000 in
theorem e_M_mixAll_2 (x0 : Int32) (x1 : Int32) (x2 : Int32) (μ : jm) : evj 217 2 [jR 10 64, jI x0, jI x1, jI x2] [] μ = (jbr (decide (x1 ≤ x2)) (some (none, μ)) (jgd (inB (x0 + x2) 560) (bV (cj 216 [jR 10 64, jL ((gI μ 65 (ix (x0 + x2)) : Int32).toInt64)] μ) (fun m1 => evj 217 2 [jR 10 64, jI x0, jI x1, jI (x2 + 1)] [] m1)))) :=
  (evj_s (F := K217) rfl [2] 15 rfl).trans rfl
