/-! EQUATIONS of the runs, by program: from a method's entry, or a cut, to the next cuts -/
set_option maxRecDepth 100000 in
theorem e_N_door (x1 : Int32) (x2 : Int32) (μ : jm) : cj 94 [jR 9 0, jI x1, jI x2] μ = (bI (cj 15 [jR 8 1, jI x1, jI x2] μ) (fun r1 m1 => bI (cj 96 [jR 9 0, jI r1] m1) (fun r2 m2 => some (some (jI r2), m2)))) :=
  (cj_it (F := K94) rfl [] 9 _ _).trans rfl
set_option maxRecDepth 100000 in
theorem e_N_isRoom (x0 : Int32) (μ : jm) : cj 95 [jI x0] μ = (jbr (decide (x0 < 0)) (some (some (jI ((0 : Int32) &&& 1)), μ)) (jbr (decide ((6 : Int32) ≤ x0)) (some (some (jI ((0 : Int32) &&& 1)), μ)) (some (some (jI ((1 : Int32) &&& 1)), μ)))) :=
  (cj_it (F := K95) rfl [] 9 _ _).trans rfl
set_option maxRecDepth 100000 in
theorem e_N_told (x1 : Int32) (μ : jm) : cj 96 [jR 9 0, jI x1] μ = (jbr (decide (¬ x1 = (-2 : Int32))) (jbr (decide (¬ x1 = (-3 : Int32))) (jbr (decide (¬ x1 = (-4 : Int32))) (some (some (jI x1), μ)) (some (some (jI x1), sI μ 0 8 ((gI μ 0 8) + (1 : Int32))))) (some (some (jI x1), sI μ 0 7 ((gI μ 0 7) + (1 : Int32))))) (some (some (jI x1), sI μ 0 6 ((gI μ 0 6) + (1 : Int32))))) :=
  (cj_it (F := K96) rfl [] 18 _ _).trans rfl
set_option maxRecDepth 100000 in
theorem e_N_hears (x1 : Int32) (x2 : Int32) (μ : jm) : cj 97 [jR 9 0, jI x1, jI x2] μ = (bI (cj 17 [jR 8 1, jI x1, jI x2] μ) (fun r1 m1 => bI (cj 96 [jR 9 0, jI r1] m1) (fun r2 m2 => some (some (jI r2), m2)))) :=
  (cj_it (F := K97) rfl [] 9 _ _).trans rfl
set_option maxRecDepth 100000 in
theorem e_N_one (x1 : Int32) (x2 : Int32) (x3 : Int32) (μ : jm) : cj 98 [jR 9 0, jI x1, jI x2, jI x3] μ = (bI (cj 18 [jR 8 1, jI x1, jI x2, jI x3] μ) (fun r1 m1 => bI (cj 96 [jR 9 0, jI r1] m1) (fun r2 m2 => some (some (jI r2), m2)))) :=
  (cj_it (F := K98) rfl [] 10 _ _).trans rfl
set_option maxRecDepth 100000 in
theorem e_N_mates (x1 : Int32) (x2 : Int32) (μ : jm) : cj 99 [jR 9 0, jI x1, jI x2] μ = (bI (cj 19 [jR 8 1, jI x1, jI x2] μ) (fun r1 m1 => bI (cj 96 [jR 9 0, jI r1] m1) (fun r2 m2 => some (some (jI r2), m2)))) :=
  (cj_it (F := K99) rfl [] 9 _ _).trans rfl
set_option maxRecDepth 100000 in
theorem e_N_goes (x1 : Int32) (x2 : Int32) (μ : jm) : cj 100 [jR 9 0, jI x1, jI x2] μ = (bI (cj 21 [jR 8 1, jI x1, jI x2] μ) (fun r1 m1 => bI (cj 96 [jR 9 0, jI r1] m1) (fun r2 m2 => some (some (jI r2), m2)))) :=
  (cj_it (F := K100) rfl [] 9 _ _).trans rfl
set_option maxRecDepth 100000 in
theorem e_N_chord (x1 : Int32) (x2 : Int32) (x3 : Int32) (x4 : Int32) (μ : jm) : cj 101 [jR 9 0, jI x1, jI x2, jI x3, jI x4] μ = (bI (cj 22 [jR 8 1, jI x1, jI x2, jI x3, jI x4] μ) (fun r1 m1 => bI (cj 96 [jR 9 0, jI r1] m1) (fun r2 m2 => some (some (jI r2), m2)))) :=
  (cj_it (F := K101) rfl [] 11 _ _).trans rfl
set_option maxRecDepth 100000 in
theorem e_N_slack (x1 : Int32) (μ : jm) : cj 102 [jR 9 0, jI x1] μ = (bI (cj 24 [jR 8 1, jI x1] μ) (fun r1 m1 => bI (cj 96 [jR 9 0, jI r1] m1) (fun r2 m2 => some (some (jI r2), m2)))) :=
  (cj_it (F := K102) rfl [] 8 _ _).trans rfl
set_option maxRecDepth 100000 in
theorem e_N_sounds (x1 : Int32) (x2 : Int32) (μ : jm) : cj 103 [jR 9 0, jI x1, jI x2] μ = (bI (cj 25 [jR 8 1, jI x1, jI x2] μ) (fun r1 m1 => jbr (decide (¬ r1 = 0)) (bI (cj 46 [jR 8 1, jI x1, jI x2] m1) (fun r2 m2 => some (some (jI r2), m2))) (bI (cj 96 [jR 9 0, jI (-2 : Int32)] m1) (fun r3 m3 => some (some (jI r3), m3))))) :=
  (cj_it (F := K103) rfl [] 13 _ _).trans rfl
set_option maxRecDepth 100000 in
theorem e_N_type (x1 : Int64) (x2 : Int32) (μ : jm) : cj 104 [jR 9 0, jL x1, jI x2] μ = (bI (cj 82 [jR 7 46, jL x1, jI x2] μ) (fun r1 m1 => bI (cj 96 [jR 9 0, jI r1] m1) (fun r2 m2 => some (some (jI r2), m2)))) :=
  (cj_it (F := K104) rfl [] 9 _ _).trans rfl
set_option maxRecDepth 100000 in
theorem e_N_clear  (μ : jm) : cj 105 [jR 9 0] μ = (bI (cj 83 [jR 7 46] μ) (fun r1 m1 => some (some (jI r1), m1))) :=
  (cj_it (F := K105) rfl [] 5 _ _).trans rfl
set_option maxRecDepth 100000 in
theorem e_N_read  (μ : jm) : cj 106 [jR 9 0] μ = (bI (cj 84 [jR 7 46, jR 8 12] μ) (fun r1 m1 => jbr (decide (r1 < 0)) (some (some (jI r1), m1)) (bV (cj 28 [jR 8 1, jR 8 12] m1) (fun m2 => some (some (jI r1), m2))))) :=
  (cj_it (F := K106) rfl [] 16 _ _).trans rfl
set_option maxRecDepth 100000 in
theorem e_N_says (x1 : Int32) (x2 : Int32) (μ : jm) : cj 107 [jR 9 0, jI x1, jI x2] μ = (bI (cj 26 [jR 8 1, jI x1] μ) (fun r1 m1 => jbr (decide (r1 = 0)) (bI (cj 96 [jR 9 0, jI (-2 : Int32)] m1) (fun r2 m2 => some (some (jI r2), m2))) (bI (cj 30 [jR 8 1, jI x2] m1) (fun r3 m3 => jbr (decide (¬ r3 = 0)) (bI (cj 48 [jR 1 50, jR 8 1, jI x1, jI x2] m3) (fun r4 m4 => jbr (decide (r4 = 0)) (some (some (jI (0 : Int32)), m4)) (some (some (jI (1 : Int32)), m4)))) (bI (cj 96 [jR 9 0, jI (-2 : Int32)] m3) (fun r5 m5 => some (some (jI r5), m5))))))) :=
  (cj_it (F := K107) rfl [] 22 _ _).trans rfl
set_option maxRecDepth 100000 in
theorem e_N_said (x1 : Int32) (μ : jm) : cj 108 [jR 9 0, jI x1] μ = (bI (cj 95 [jI x1] μ) (fun r1 m1 => jbr (decide (¬ r1 = 0)) (bI (cj 31 [jR 8 1, jI ((1 : Int32) <<< (x1 &&& 31))] m1) (fun r2 m2 => bI (cj 51 [jR 1 50, jR 8 1, jI r2] m2) (fun r3 m3 => some (some (jI r3), m3)))) (bI (cj 96 [jR 9 0, jI (-2 : Int32)] m1) (fun r4 m4 => some (some (jI r4), m4))))) :=
  (cj_it (F := K108) rfl [] 16 _ _).trans rfl
set_option maxRecDepth 100000 in
theorem e_N_byDoor (x1 : Int32) (x2 : Int32) (μ : jm) : cj 109 [jR 9 0, jI x1, jI x2] μ = (bI (cj 95 [jI x1] μ) (fun r1 m1 => jbr (decide (r1 = 0)) (bI (cj 96 [jR 9 0, jI (-2 : Int32)] m1) (fun r2 m2 => some (some (jI r2), m2))) (bI (cj 95 [jI x2] m1) (fun r3 m3 => jbr (decide (¬ r3 = 0)) (bI (cj 32 [jR 8 1, jI x1, jI x2] m3) (fun r4 m4 => jbr (decide (¬ r4 = 0)) (bI (cj 31 [jR 8 1, jI (((1 : Int32) <<< (x1 &&& 31)) ||| ((1 : Int32) <<< (x2 &&& 31)))] m4) (fun r5 m5 => bI (cj 51 [jR 1 50, jR 8 1, jI r5] m5) (fun r6 m6 => some (some (jI r6), m6)))) (bI (cj 96 [jR 9 0, jI (-3 : Int32)] m4) (fun r7 m7 => some (some (jI r7), m7))))) (bI (cj 96 [jR 9 0, jI (-2 : Int32)] m3) (fun r8 m8 => some (some (jI r8), m8))))))) :=
  (cj_it (F := K109) rfl [] 29 _ _).trans rfl
set_option maxRecDepth 100000 in
theorem e_N_fewest (x1 : Int32) (x2 : Int32) (μ : jm) : cj 110 [jR 9 0, jI x1, jI x2] μ = (bI (cj 26 [jR 8 1, jI x1] μ) (fun r1 m1 => jbr (decide (r1 = 0)) (bI (cj 96 [jR 9 0, jI (-2 : Int32)] m1) (fun r2 m2 => some (some (jI r2), m2))) (bI (cj 30 [jR 8 1, jI x2] m1) (fun r3 m3 => jbr (decide (¬ r3 = 0)) (bI (cj 52 [jR 1 50, jR 8 1, jI x1, jI x2] m3) (fun r4 m4 => some (some (jI r4), m4))) (bI (cj 96 [jR 9 0, jI (-2 : Int32)] m3) (fun r5 m5 => some (some (jI r5), m5))))))) :=
  (cj_it (F := K110) rfl [] 19 _ _).trans rfl
set_option maxRecDepth 100000 in
theorem e_N_speak (x1 : Int32) (μ : jm) : cj 111 [jR 9 0, jI x1] μ = (bI (cj 33 [jR 8 1, jI x1] μ) (fun r1 m1 => bI (cj 96 [jR 9 0, jI r1] m1) (fun r2 m2 => some (some (jI r2), m2)))) :=
  (cj_it (F := K111) rfl [] 8 _ _).trans rfl
set_option maxRecDepth 100000 in
theorem e_N_hush  (μ : jm) : cj 112 [jR 9 0] μ = (bI (cj 34 [jR 8 1] μ) (fun r1 m1 => some (some (jI r1), m1))) :=
  (cj_it (F := K112) rfl [] 5 _ _).trans rfl
set_option maxRecDepth 100000 in
theorem e_N_fetch (x1 : Int32) (μ : jm) : cj 113 [jR 9 0, jI x1] μ = (jbr (decide (x1 < 0)) (evj 113 9 [jR 9 0, jU] [] μ) (jbr (decide (x1 ≤ (2 : Int32))) (bI (cj 57 [jR 2 53, jR 8 1, jR 1 50, jI (9 : Int32)] μ) (fun r1 m1 => jbr (decide (¬ r1 = 0)) (jbr (decide (¬ x1 = 0)) (jbr (decide (¬ x1 = (1 : Int32))) (evj 113 74 [jU, jU] [jI (gI m1 53 3)] m1) (evj 113 74 [jU, jU] [jI (gI m1 53 2)] m1)) (evj 113 74 [jU, jU] [jI (gI m1 53 1)] m1)) (some (some (jI (-1 : Int32)), m1)))) (evj 113 9 [jR 9 0, jU] [] μ))) :=
  (cj_it (F := K113) rfl [9, 74] 24 _ _).trans rfl
set_option maxRecDepth 100000 in
theorem e_N_fetch_9  (μ : jm) : evj 113 9 [jR 9 0, jU] [] μ = (bI (cj 96 [jR 9 0, jI (-2 : Int32)] μ) (fun r1 m1 => some (some (jI r1), m1))) :=
  (evj_s (F := K113) rfl [9, 74] 5 rfl).trans rfl
set_option maxRecDepth 100000 in
theorem e_N_fetch_74 (x0 : Int32) (μ : jm) : evj 113 74 [jU, jU] [jI x0] μ = (some (some (jI x0), μ)) :=
  (evj_s (F := K113) rfl [9, 74] 2 rfl).trans rfl
set_option maxRecDepth 100000 in
theorem e_N_inTime (x1 : Int32) (μ : jm) : cj 114 [jR 9 0, jI x1] μ = (jbr (decide (x1 < 0)) (bI (cj 96 [jR 9 0, jI (-2 : Int32)] μ) (fun r1 m1 => some (some (jI r1), m1))) (jbr (decide (x1 ≤ (9 : Int32))) (bI (cj 57 [jR 2 53, jR 8 1, jR 1 50, jI x1] μ) (fun r2 m2 => jbr (decide (r2 = 0)) (some (some (jI (-1 : Int32)), m2)) (some (some (jI (gI m2 53 1)), m2)))) (bI (cj 96 [jR 9 0, jI (-2 : Int32)] μ) (fun r3 m3 => some (some (jI r3), m3))))) :=
  (cj_it (F := K114) rfl [] 20 _ _).trans rfl
set_option maxRecDepth 100000 in
theorem e_N_taken (x1 : Int32) (x2 : Int32) (x3 : Int32) (μ : jm) : cj 115 [jR 9 0, jI x1, jI x2, jI x3] μ = (bI (cj 30 [jR 8 1, jI x1] μ) (fun r1 m1 => jbr (decide (r1 = 0)) (evj 115 34 [jR 9 0, jU, jU, jU] [] m1) (bI (cj 30 [jR 8 1, jI x2] m1) (fun r2 m2 => jbr (decide (r2 = 0)) (evj 115 34 [jR 9 0, jU, jU, jU] [] m2) (jbr (decide (x1 = x2)) (evj 115 34 [jR 9 0, jU, jU, jU] [] m2) (bI (cj 116 [jI x3] m2) (fun r3 m3 => jbr (decide (¬ r3 = 0)) (jgd (inB x1 8) (jgd (inB x2 8) (bI (cj 63 [jI (gI m3 8 (ix x1)), jI (gI m3 8 (ix x2)), jI x3] m3) (fun r4 m4 => jbr (decide (r4 = 0)) (evj 115 71 [jU, jU, jU, jU] [jI (0 : Int32)] m4) (evj 115 71 [jU, jU, jU, jU] [jI (1 : Int32)] m4))))) (evj 115 34 [jR 9 0, jU, jU, jU] [] m3)))))))) :=
  (cj_it (F := K115) rfl [34, 71] 32 _ _).trans rfl
set_option maxRecDepth 100000 in
theorem e_N_taken_34  (μ : jm) : evj 115 34 [jR 9 0, jU, jU, jU] [] μ = (bI (cj 96 [jR 9 0, jI (-2 : Int32)] μ) (fun r1 m1 => some (some (jI r1), m1))) :=
  (evj_s (F := K115) rfl [34, 71] 5 rfl).trans rfl
set_option maxRecDepth 100000 in
theorem e_N_taken_71 (x0 : Int32) (μ : jm) : evj 115 71 [jU, jU, jU, jU] [jI x0] μ = (some (some (jI x0), μ)) :=
  (evj_s (F := K115) rfl [34, 71] 2 rfl).trans rfl
set_option maxRecDepth 100000 in
theorem e_N_isFog (x0 : Int32) (μ : jm) : cj 116 [jI x0] μ = (jbr (decide (x0 < 0)) (some (some (jI ((0 : Int32) &&& 1)), μ)) (jbr (decide ((3 : Int32) < x0)) (some (some (jI ((0 : Int32) &&& 1)), μ)) (some (some (jI ((1 : Int32) &&& 1)), μ)))) :=
  (cj_it (F := K116) rfl [] 9 _ _).trans rfl
set_option maxRecDepth 100000 in
theorem e_N_drop (x1 : Int32) (μ : jm) : cj 117 [jR 9 0, jI x1] μ = (bI (cj 116 [jI x1] μ) (fun r1 m1 => jbr (decide (¬ r1 = 0)) (bI (cj 64 [jR 3 55, jR 8 1, jI x1] m1) (fun r2 m2 => some (some (jI r2), m2))) (bI (cj 96 [jR 9 0, jI (-2 : Int32)] m1) (fun r3 m3 => some (some (jI r3), m3))))) :=
  (cj_it (F := K117) rfl [] 11 _ _).trans rfl
set_option maxRecDepth 100000 in
theorem e_N_news (x1 : Int32) (x2 : Int32) (x3 : Int32) (μ : jm) : cj 118 [jR 9 0, jI x1, jI x2, jI x3] μ = (bI (cj 95 [jI x1] μ) (fun r1 m1 => jbr (decide (r1 = 0)) (bI (cj 119 [jR 9 0] m1) (fun r2 m2 => some (some (jI r2), m2))) (bI (cj 95 [jI x2] m1) (fun r3 m3 => jbr (decide (r3 = 0)) (bI (cj 119 [jR 9 0] m3) (fun r4 m4 => some (some (jI r4), m4))) (jbr (decide ((-1 : Int32) ≤ x3)) (bV (cj 67 [jR 6 57, jR 8 1, jI x2] m3) (fun m5 => jbr (decide (¬ x3 = (-1 : Int32))) (bI (cj 71 [jR 6 57, jR 8 1, jI x1, jI x3] m5) (fun r6 m6 => some (some (jI r6), m6))) (bI (cj 70 [jR 6 57, jI x1] m5) (fun r7 m7 => some (some (jI r7), m7))))) (bI (cj 119 [jR 9 0] m3) (fun r8 m8 => some (some (jI r8), m8)))))))) :=
  (cj_it (F := K118) rfl [] 27 _ _).trans rfl
set_option maxRecDepth 100000 in
theorem e_N_badForRows  (μ : jm) : cj 119 [jR 9 0] μ = (some (some (jI (-10 : Int32)), sI μ 0 6 ((gI μ 0 6) + (1 : Int32)))) :=
  (cj_it (F := K119) rfl [] 9 _ _).trans rfl
set_option maxRecDepth 100000 in
theorem e_N_hole (x1 : Int32) (μ : jm) : cj 120 [jR 9 0, jI x1] μ = (bI (cj 36 [jR 8 1, jI x1] μ) (fun r1 m1 => bI (cj 96 [jR 9 0, jI r1] m1) (fun r2 m2 => some (some (jI r2), m2)))) :=
  (cj_it (F := K120) rfl [] 8 _ _).trans rfl
set_option maxRecDepth 100000 in
theorem e_N_whole  (μ : jm) : cj 121 [jR 9 0] μ = (bI (cj 37 [jR 8 1] μ) (fun r1 m1 => some (some (jI r1), m1))) :=
  (cj_it (F := K121) rfl [] 5 _ _).trans rfl
set_option maxRecDepth 100000 in
theorem e_N_meant (x1 : Int32) (μ : jm) : cj 122 [jR 9 0, jI x1] μ = (bI (cj 38 [jR 8 1, jI x1] μ) (fun r1 m1 => jbr (decide (¬ r1 = 0)) (jgd (inB x1 6) (bI (cj 39 [jR 8 1, jI (gI m1 11 (ix x1))] m1) (fun r2 m2 => some (some (jI r2), m2)))) (bI (cj 96 [jR 9 0, jI (-2 : Int32)] m1) (fun r3 m3 => some (some (jI r3), m3))))) :=
  (cj_it (F := K122) rfl [] 15 _ _).trans rfl
set_option maxRecDepth 100000 in
theorem e_N_ways  (μ : jm) : cj 123 [jR 9 0] μ = (bI (cj 72 [jR 5 59, jR 8 1] μ) (fun r1 m1 => some (some (jI r1), m1))) :=
  (cj_it (F := K123) rfl [] 7 _ _).trans rfl
set_option maxRecDepth 100000 in
theorem e_N_odds (x1 : Int32) (x2 : Int32) (μ : jm) : cj 124 [jR 9 0, jI x1, jI x2] μ = (bI (cj 38 [jR 8 1, jI x1] μ) (fun r1 m1 => jbr (decide (r1 = 0)) (bI (cj 96 [jR 9 0, jI (-2 : Int32)] m1) (fun r2 m2 => some (some (jI r2), m2))) (bI (cj 30 [jR 8 1, jI x2] m1) (fun r3 m3 => jbr (decide (¬ r3 = 0)) (bL (cj 74 [jR 5 59, jR 8 1, jI (-1 : Int32), jI (-1 : Int32)] m3) (fun r4 m4 => jbr (decide (0 < (lg_cmp r4 (0 : Int64)))) (bL (cj 74 [jR 5 59, jR 8 1, jI x1, jI x2] m4) (fun r5 m5 => bV (cj 44 [jR 4 49, jL r5, jL r4] m5) (fun m6 => some (some (jI (1 : Int32)), m6)))) (bI (cj 96 [jR 9 0, jI (-3 : Int32)] m4) (fun r7 m7 => some (some (jI r7), m7))))) (bI (cj 96 [jR 9 0, jI (-2 : Int32)] m3) (fun r8 m8 => some (some (jI r8), m8))))))) :=
  (cj_it (F := K124) rfl [] 36 _ _).trans rfl
set_option maxRecDepth 100000 in
theorem e_N_block (x1 : Int32) (x2 : Int32) (μ : jm) : cj 125 [jR 9 0, jI x1, jI x2] μ = (bI (cj 26 [jR 8 1, jI x1] μ) (fun r1 m1 => jbr (decide (r1 = 0)) (bI (cj 96 [jR 9 0, jI (-2 : Int32)] m1) (fun r2 m2 => some (some (jI r2), m2))) (bI (cj 30 [jR 8 1, jI x2] m1) (fun r3 m3 => jbr (decide (¬ r3 = 0)) (bI (cj 48 [jR 1 50, jR 8 1, jI x1, jI x2] m3) (fun r4 m4 => jbr (decide (¬ r4 = 0)) (bI (cj 54 [jR 1 50, jR 8 1, jI x1, jI x2] m4) (fun r5 m5 => some (some (jI r5), m5))) (bI (cj 96 [jR 9 0, jI (-3 : Int32)] m4) (fun r6 m6 => some (some (jI r6), m6))))) (bI (cj 96 [jR 9 0, jI (-2 : Int32)] m3) (fun r7 m7 => some (some (jI r7), m7))))))) :=
  (cj_it (F := K125) rfl [] 27 _ _).trans rfl
set_option maxRecDepth 100000 in
theorem e_N_swing (x1 : Int32) (x2 : Int32) (x3 : Int32) (μ : jm) : cj 126 [jR 9 0, jI x1, jI x2, jI x3] μ = (bI (cj 25 [jR 8 1, jI x2, jI x1] μ) (fun r1 m1 => jbr (decide (r1 = 0)) (bI (cj 96 [jR 9 0, jI (-2 : Int32)] m1) (fun r2 m2 => some (some (jI r2), m2))) (bI (cj 30 [jR 8 1, jI x3] m1) (fun r3 m3 => jbr (decide (¬ r3 = 0)) (bI (cj 0 [jI x1] m3) (fun r4 m4 => bI (cj 55 [jR 1 50, jR 8 1, jI x1, jI x2, jI x3] m4) (fun r5 m5 => bV (cj 44 [jR 4 49, jL ((r5 : Int32).toInt64), jL ((1 : Int64) <<< ((r4 - (1 : Int32) : Int32).toInt64 &&& 63))] m5) (fun m6 => some (some (jI (1 : Int32)), m6))))) (bI (cj 96 [jR 9 0, jI (-2 : Int32)] m3) (fun r7 m7 => some (some (jI r7), m7))))))) :=
  (cj_it (F := K126) rfl [] 34 _ _).trans rfl
set_option maxRecDepth 100000 in
theorem e_N_song (x1 : Int32) (x2 : Int32) (x3 : Int32) (μ : jm) : cj 127 [jR 9 0, jI x1, jI x2, jI x3] μ = (bI (cj 26 [jR 8 1, jI x1] μ) (fun r1 m1 => jbr (decide (r1 = 0)) (evj 127 26 [jR 9 0, jU, jU, jU] [] m1) (jbr (decide (x2 < 0)) (evj 127 26 [jR 9 0, jU, jU, jU] [] m1) (jbr (decide ((6 : Int32) < x2)) (evj 127 26 [jR 9 0, jU, jU, jU] [] m1) (jbr (decide ((-1 : Int32) ≤ x3)) (bV (cj 75 [jR 0 61, jR 8 1, jI x1, jI x2] m1) (fun m2 => jbr (decide (¬ x3 = (-1 : Int32))) (bI (cj 80 [jR 0 61, jI x3] m2) (fun r3 m3 => evj 127 67 [jU, jU, jU, jU] [jI r3] m3)) (bI (cj 79 [jR 0 61] m2) (fun r4 m4 => evj 127 67 [jU, jU, jU, jU] [jI r4] m4)))) (evj 127 26 [jR 9 0, jU, jU, jU] [] m1)))))) :=
  (cj_it (F := K127) rfl [26, 67] 28 _ _).trans rfl
set_option maxRecDepth 100000 in
theorem e_N_song_26  (μ : jm) : evj 127 26 [jR 9 0, jU, jU, jU] [] μ = (bI (cj 119 [jR 9 0] μ) (fun r1 m1 => some (some (jI r1), m1))) :=
  (evj_s (F := K127) rfl [26, 67] 4 rfl).trans rfl
set_option maxRecDepth 100000 in
theorem e_N_song_67 (x0 : Int32) (μ : jm) : evj 127 67 [jU, jU, jU, jU] [jI x0] μ = (some (some (jI x0), μ)) :=
  (evj_s (F := K127) rfl [26, 67] 2 rfl).trans rfl
set_option maxRecDepth 100000 in
theorem e_N_couple (x1 : Int32) (μ : jm) : cj 128 [jR 9 0, jI x1] μ = (bI (cj 26 [jR 8 1, jI x1] μ) (fun r1 m1 => jbr (decide (¬ r1 = 0)) (bI (cj 56 [jR 1 50, jR 8 1, jR 8 12, jI x1] m1) (fun r2 m2 => some (some (jI r2), m2))) (bI (cj 96 [jR 9 0, jI (-2 : Int32)] m1) (fun r3 m3 => some (some (jI r3), m3))))) :=
  (cj_it (F := K128) rfl [] 15 _ _).trans rfl
set_option maxRecDepth 100000 in
theorem e_N_part (x1 : Int32) (μ : jm) : cj 129 [jR 9 0, jI x1] μ = (jbr (decide (x1 < 0)) (bI (cj 96 [jR 9 0, jI (-2 : Int32)] μ) (fun r1 m1 => some (some (jL ((r1 : Int32).toInt64)), m1))) (jbr (decide (x1 ≤ (1 : Int32))) (jbr (decide (¬ x1 = 0)) (some (some (jL (gL μ 49 1)), μ)) (some (some (jL (gL μ 49 0)), μ))) (bI (cj 96 [jR 9 0, jI (-2 : Int32)] μ) (fun r2 m2 => some (some (jL ((r2 : Int32).toInt64)), m2))))) :=
  (cj_it (F := K129) rfl [] 13 _ _).trans rfl
set_option maxRecDepth 100000 in
theorem e_N_image (x1 : Int32) (μ : jm) : cj 130 [jR 9 0, jI x1] μ = (bI (cj 131 [jI x1] μ) (fun r1 m1 => jbr (decide (¬ r1 = 0)) (jgd (inB x1 2) (bV (cj 28 [jR 8 (24 + 11 * ix x1), jR 8 1] m1) (fun m2 => some (some (jI (1 : Int32)), sI m2 0 3 ((gI m2 0 3) ||| ((1 : Int32) <<< (x1 &&& 31))))))) (bI (cj 96 [jR 9 0, jI (-2 : Int32)] m1) (fun r3 m3 => some (some (jI r3), m3))))) :=
  (cj_it (F := K130) rfl [] 21 _ _).trans rfl
set_option maxRecDepth 100000 in
theorem e_N_isImage (x0 : Int32) (μ : jm) : cj 131 [jI x0] μ = (jbr (decide (x0 < 0)) (some (some (jI ((0 : Int32) &&& 1)), μ)) (jbr (decide ((2 : Int32) ≤ x0)) (some (some (jI ((0 : Int32) &&& 1)), μ)) (some (some (jI ((1 : Int32) &&& 1)), μ)))) :=
  (cj_it (F := K131) rfl [] 9 _ _).trans rfl
set_option maxRecDepth 100000 in
theorem e_N_from (x1 : Int32) (μ : jm) : cj 132 [jR 9 0, jI x1] μ = (bI (cj 131 [jI x1] μ) (fun r1 m1 => jbr (decide (¬ r1 = 0)) (jbr (decide (¬ (((gI m1 0 3) >>> (x1 &&& 31)) &&& (1 : Int32)) = 0)) (jgd (inB x1 2) (bV (cj 28 [jR 8 1, jR 8 (24 + 11 * ix x1)] m1) (fun m2 => some (some (jI (1 : Int32)), m2)))) (bI (cj 96 [jR 9 0, jI (-3 : Int32)] m1) (fun r3 m3 => some (some (jI r3), m3)))) (bI (cj 96 [jR 9 0, jI (-2 : Int32)] m1) (fun r4 m4 => some (some (jI r4), m4))))) :=
  (cj_it (F := K132) rfl [] 20 _ _).trans rfl
set_option maxRecDepth 100000 in
theorem e_N_status (x1 : Int32) (μ : jm) : cj 133 [jR 9 0, jI x1] μ = (jbr (decide (x1 = 0)) (some (some (jI (gI μ 0 6)), μ)) (jbr (decide (x1 = 1)) (some (some (jI (gI μ 0 7)), μ)) (jbr (decide (x1 = 2)) (some (some (jI (gI μ 0 8)), μ)) (some (some (jI (-1 : Int32)), sI μ 0 6 ((gI μ 0 6) + (1 : Int32))))))) :=
  (cj_it (F := K133) rfl [] 11 _ _).trans rfl
set_option maxRecDepth 100000 in
theorem e_N_count (x1 : Int32) (μ : jm) : cj 134 [jR 9 0, jI x1] μ = (jbr (decide (x1 < 0)) (bI (cj 96 [jR 9 0, jI (-2 : Int32)] μ) (fun r1 m1 => some (some (jI r1), m1))) (jbr (decide (x1 ≤ (4 : Int32))) (bI (cj 135 [jR 9 0, jI x1] μ) (fun r2 m2 => some (some (jI r2), m2))) (bI (cj 96 [jR 9 0, jI (-2 : Int32)] μ) (fun r3 m3 => some (some (jI r3), m3))))) :=
  (cj_it (F := K134) rfl [] 10 _ _).trans rfl
set_option maxRecDepth 100000 in
theorem e_N_amount (x1 : Int32) (μ : jm) : cj 135 [jR 9 0, jI x1] μ = (jbr (decide (x1 = 0)) (some (some (jI (gI μ 1 6)), μ)) (jbr (decide (x1 = 1)) (some (some (jI (gI μ 1 9)), μ)) (jbr (decide (x1 = 2)) (some (some (jI (gI μ 1 12)), μ)) (jbr (decide (x1 = 3)) (some (some (jI (gI μ 1 14)), μ)) (some (some (jI (gI μ 46 1)), μ)))))) :=
  (cj_it (F := K135) rfl [] 7 _ _).trans rfl
set_option maxRecDepth 100000 in
theorem e_N_digest  (μ : jm) : cj 136 [jR 9 0] μ = (evj 136 6 [jR 9 0, jL (677 : Int64), jU, jI (0 : Int32)] [] μ) :=
  (cj_it (F := K136) rfl [6] 5 _ _).trans rfl
set_option maxRecDepth 100000 in
theorem e_N_digest_6 (y0 : Int64) (x1 : Int32) (μ : jm) : evj 136 6 [jR 9 0, jL y0, jU, jI x1] [] μ = (jbr (decide ((4 : Int32) < x1)) (bL (cj 42 [jR 8 1, jL y0] μ) (fun r1 m1 => some (some (jL (((31 : Int64) * (((31 : Int64) * r1) + (gL m1 49 0))) + (gL m1 49 1))), m1))) (bI (cj 135 [jR 9 0, jI x1] μ) (fun r2 m2 => evj 136 6 [jR 9 0, jL (((31 : Int64) * y0) + ((r2 : Int32).toInt64)), jU, jI (x1 + 1)] [] m2))) :=
  (evj_s (F := K136) rfl [6] 25 rfl).trans rfl
