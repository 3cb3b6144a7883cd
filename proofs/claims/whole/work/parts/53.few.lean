/-! fewest, block -/
theorem pop7 : ∀ s, s < 128 → pop s ≤ 7 := by decide +kernel
def few (v : vst) (m set n : Nat) : Nat := itr (fun s b => if adn s set = 0 ∧ (b = 0 ∨ pop s < pop (b - 1)) ∧ say v s m = true then s + 1 else b) n 0 0
theorem few_s (v : vst) (m set n : Nat) : few v m set (n + 1) = if adn n set = 0 ∧ (few v m set n = 0 ∨ pop n < pop (few v m set n - 1)) ∧ say v n m = true then n + 1 else few v m set n := by
  show itr _ (n + 1) 0 0 = _
  rw [itr_s, Nat.zero_add]
  rfl
theorem few_le (v : vst) (m set n : Nat) : few v m set n ≤ n := itr_I (n := n) (fun i b => b ≤ i) (fun i b _ h => by split <;> omega) (Nat.le_refl 0)
theorem c_few {k set c : Nat} {μ : jm} {v : vst} (hk : k + 10 < 50) (hw : WV v) (hv : CV μ k v) (hs : set < 2 ^ vn v) (hc : c < vc v) : ∃ m, cj 52 [jR 1 50, jR 8 k, jI (nI set), jI (nI c)] μ = some (some (jI (nI (few v (vC v c) set (set + 1)) - 1)), m) ∧ fI 51 52 μ m := by
  have w3 : vn v ≤ 7 := hw.2.2.1
  have h27 : 2 ^ vn v ≤ 2 ^ 7 := Nat.pow_le_pow_right (by omega) w3
  rw [e_Choir_smallestSet]
  obtain ⟨⟨b, z, m⟩, e1, e2, e3, e4⟩ := lp_r (W := fun i (q : Nat × Nat × jm) => evj 52 10 [jR 1 50, jR 8 k, jI (nI set), jI (nI c), jI (nI q.1 - 1), jI (nI q.2.1), jI (nI i), jU] [] q.2.2) (n := set + 1) (fun i q => q.1 = few v (vC v c) set i ∧ q.2.1 = (if q.1 = 0 then 8 else pop (q.1 - 1)) ∧ fI 51 52 μ q.2.2) (fun s q hss hI => by
    obtain ⟨b, z, m⟩ := q
    obtain ⟨hb, hz, hf⟩ := hI
    have hb : b = few v (vC v c) set s := hb
    have hz : z = (if b = 0 then 8 else pop (b - 1)) := hz
    have hf : fI 51 52 μ m := hf
    show ∃ a', evj _ _ [jR 1 50, jR 8 k, jI (nI set), jI (nI c), jI (nI b - 1), jI (nI z), jI (nI s), jU] _ m = evj _ _ _ _ _ ∧ _
    have hv1 := CV_fI hf (by omega) hv
    have hble := few_le v (vC v c) set s
    have hp1 := pop_le s
    have hp2 := pop_le (b - 1)
    have hp7 := pop7 s (by omega)
    have hz9 : z < 32 := by rw [hz]; split <;> omega
    have ha := adn_le s set
    have no : ∀ m1, fI 51 52 μ m1 → ¬ (adn s set = 0 ∧ (b = 0 ∨ pop s < pop (b - 1)) ∧ say v s (vC v c) = true) → ∃ a' : Nat × Nat × jm, evj 52 10 [jR 1 50, jR 8 k, jI (nI set), jI (nI c), jI (nI b - 1), jI (nI z), jI (nI (s + 1)), jU] [] m1 = evj 52 10 [jR 1 50, jR 8 k, jI (nI set), jI (nI c), jI (nI a'.1 - 1), jI (nI a'.2.1), jI (nI (s + 1)), jU] [] a'.2.2 ∧ a'.1 = few v (vC v c) set (s + 1) ∧ a'.2.1 = (if a'.1 = 0 then 8 else pop (a'.1 - 1)) ∧ fI 51 52 μ a'.2.2 := fun m1 hf1 hn => ⟨(b, z, m1), rfl, by rw [few_s, ← hb, if_neg hn], hz, hf1⟩
    have hzc : (pop s < z) ↔ (b = 0 ∨ pop s < pop (b - 1)) := by
      rw [hz]
      split <;> omega
    rw [e_Choir_smallestSet_10, bk_lt (by omega) (by omega), jbr_n (by omega), kI_adn, li0, bk_ne (by omega) (by omega)]
    by_cases h1 : adn s set = 0
    · rw [jbr_n (fun x => x h1), c_bc (by omega), bI_some, bk_le (by omega) (by omega)]
      by_cases h2 : z ≤ pop s
      · rw [jbr_p h2, e_Choir_smallestSet_39, e_Choir_smallestSet_40, jbr_p rfl, li1, nI_add]
        exact no m hf (fun x => by have := hzc.mpr x.2.1; omega)
      · have hsn : s < 2 ^ vn v := by omega
        obtain ⟨m1, d1, d2⟩ := c_say hk hw hv1 hsn hc
        rw [jbr_n h2, e_Choir_smallestSet_40, jbr_n (by decide), d1, bI_some]
        cases hy : say v s (vC v c)
        · rw [bf_p rfl, li1, nI_add]
          exact no m1 (fI_t hf d2) (fun x => by rw [hy] at x; exact absurd x.2.2 (by decide))
        · rw [bf_n rfl, c_bc (by omega), bI_some, li1, nI_add]
          refine ⟨(s + 1, pop s, m1), ?_, ?_, ?_, fI_t hf d2⟩
          · show _ = evj _ _ [jR 1 50, jR 8 k, jI (nI set), jI (nI c), jI (nI (s + 1) - 1), jI (nI (pop s)), jI (nI (s + 1)), jU] _ m1
            rw [nI_pred]
          · show s + 1 = _
            rw [few_s, ← hb, if_pos ⟨h1, hzc.mp (by omega), hy⟩]
          · show pop s = _
            rw [if_neg (show ¬ (s + 1 = 0) by omega)]
            rfl
    · rw [jbr_p h1, e_Choir_smallestSet_39, e_Choir_smallestSet_40, jbr_p rfl, li1, nI_add]
      exact no m hf (fun x => h1 x.1)) (set + 1) 0 (0, 8, μ) (by omega) ⟨rfl, rfl, fI_r _ _ _⟩
  refine ⟨m, e1.trans ?_, e4⟩
  have hb : b = few v (vC v c) set (set + 1) := e2
  show evj _ _ [jR 1 50, jR 8 k, jI (nI set), jI (nI c), jI (nI b - 1), jI (nI z), jI (nI (set + 1)), jU] _ m = _
  rw [e_Choir_smallestSet_10, bk_lt (by omega) (by omega), jbr_p (by omega), hb]
theorem tel_p (S : sst) {n : Nat} (h : n < 1073741824) : tel S (nI n - 1) = S := by
  cases n with
  | zero => rfl
  | succ n => rw [nI_pred]; exact tel_n S (by omega)
def fFw (x y : Int32) (v : vst) : Int32 := if sOk x y v then nI (few v (vC v (un y)) (un x) (un x + 1)) - 1 else -2
theorem op_fewest (x y : Int32) : opI 110 178 [jI x, jI y] Rel := by
  refine opI_of (fun S => fFw x y (sv S)) (fun S => tel S (fFw x y (sv S))) (fun S h => WS_tel h _) ?_ ?_
  · intro μ S hW hC
    have w3 : vn (sv S) ≤ 7 := hW.1.2.2.1
    have w5 : vc (sv S) ≤ 8 := hW.1.2.2.2.2.1
    have h27 : 2 ^ vn (sv S) ≤ 2 ^ 7 := Nat.pow_le_pow_right (by omega) w3
    rw [e_N_fewest, c_isSet 1 x μ w3 hC.1.2.2.1, bI_some]
    by_cases h1 : un x < 2 ^ vn (sv S)
    · rw [bf_n (decide_eq_true h1), c_isChord 1 y μ (by omega) hC.1.2.2.2.2.1, bI_some]
      by_cases h2 : un y < vc (sv S)
      · have fe : fFw x y (sv S) = _ := if_pos ⟨h1, h2⟩
        rw [fe, bt_p (decide_eq_true h2)]
        obtain ⟨c, hc, rfl⟩ := un_x h2 (by omega)
        obtain ⟨set, hs, rfl⟩ := un_x h1 (by omega)
        obtain ⟨m, e1, e2⟩ := c_few (k := 1) (by omega) hW.1 hC.1 hs hc
        have hb := few_le (sv S) (vC (sv S) c) set (set + 1)
        rw [e1, bI_some, un_nI (by omega), un_nI (by omega), tel_p S (by omega)]
        exact ⟨_, rfl, CS_fI e2 (by omega) hC, oc_fI e2 (by omega)⟩
      · have fe : fFw x y (sv S) = _ := if_neg (fun z => h2 z.2)
        rw [fe, bt_n (decide_eq_false h2)]
        exact c_tel _ hC
    · have fe : fFw x y (sv S) = _ := if_neg (fun z => h1 z.1)
      rw [fe, bf_p (decide_eq_false h1)]
      exact c_tel _ hC
  · intro μ S hW hM
    have w3 : vn (sv S) ≤ 7 := hW.1.2.2.1
    have w5 : vc (sv S) ≤ 8 := hW.1.2.2.2.2.1
    have h27 : 2 ^ vn (sv S) ≤ 2 ^ 7 := Nat.pow_le_pow_right (by omega) w3
    rw [e_M_fewest, m_isSet x μ w3 hM.1.2.2.1, bI_some]
    by_cases h1 : un x < 2 ^ vn (sv S)
    · rw [bf_n (decide_eq_true h1), m_isChord y μ w5 hM.1.2.2.2.2.1, bI_some]
      by_cases h2 : un y < vc (sv S)
      · have fe : fFw x y (sv S) = _ := if_pos ⟨h1, h2⟩
        rw [fe, bt_p (decide_eq_true h2)]
        obtain ⟨c, hc, rfl⟩ := un_x h2 (by omega)
        obtain ⟨set, hs, rfl⟩ := un_x h1 (by omega)
        have hbl := few_le (sv S) (vC (sv S) c) set (set + 1)
        rw [un_nI (by omega), un_nI (by omega), tel_p S (by omega)]
        obtain ⟨⟨b, m⟩, e1, e2, e3⟩ := lp_r (W := fun i (q : Nat × jm) => evj 178 28 [jR 10 64, jI (nI set), jI (nI c), jI (nI q.1 - 1), jI (nI i)] [] q.2) (n := set + 1) (fun i q => q.1 = few (sv S) (vC (sv S) c) set i ∧ fI 71 71 μ q.2) (fun s q hss hI => by
          obtain ⟨b, m⟩ := q
          obtain ⟨hb, hf⟩ := hI
          have hb : b = few (sv S) (vC (sv S) c) set s := hb
          have hf : fI 71 71 μ m := hf
          show ∃ a', evj _ _ [jR 10 64, jI (nI set), jI (nI c), jI (nI b - 1), jI (nI s)] _ m = evj _ _ _ _ _ ∧ _
          have hv1 := MV_fI hf (by omega) hW.1 hM.1
          have hble := few_le (sv S) (vC (sv S) c) set s
          have hp1 := pop_le s
          have hp2 := pop_le (b - 1)
          have ha := adn_le s set
          obtain ⟨m1, d1, d2⟩ := m_say (r := 0) (by omega) hW.1 hv1 (show s < 2 ^ vn (sv S) by omega) hc
          have no : ∀ m1, fI 71 71 μ m1 → ¬ (adn s set = 0 ∧ (b = 0 ∨ pop s < pop (b - 1)) ∧ say (sv S) s (vC (sv S) c) = true) → ∃ a' : Nat × jm, evj 178 28 [jR 10 64, jI (nI set), jI (nI c), jI (nI b - 1), jI (nI (s + 1))] [] m1 = evj 178 28 [jR 10 64, jI (nI set), jI (nI c), jI (nI a'.1 - 1), jI (nI (s + 1))] [] a'.2 ∧ a'.1 = few (sv S) (vC (sv S) c) set (s + 1) ∧ fI 71 71 μ a'.2 := fun m1 hf1 hn => ⟨(b, m1), rfl, by rw [few_s, ← hb, if_neg hn], hf1⟩
          have yes : adn s set = 0 → (b = 0 ∨ pop s < pop (b - 1)) → ∃ a' : Nat × jm, evj 178 60 [jR 10 64, jI (nI set), jI (nI c), jI (nI b - 1), jI (nI s)] [] m = evj 178 28 [jR 10 64, jI (nI set), jI (nI c), jI (nI a'.1 - 1), jI (nI (s + 1))] [] a'.2 ∧ a'.1 = few (sv S) (vC (sv S) c) set (s + 1) ∧ fI 71 71 μ a'.2 := fun g1 g2 => by
            rw [e_M_fewest_60, show cj 171 [jR 10 64, jI (0 : Int32), jI (nI s), jI (nI c)] m = _ from d1, bI_some]
            cases hy : say (sv S) s (vC (sv S) c)
            · rw [bf_p rfl, li1, nI_add]
              exact no m1 (fI_t hf d2) (fun x => by rw [hy] at x; exact absurd x.2.2 (by decide))
            · rw [bf_n rfl, li1, nI_add]
              refine ⟨(s + 1, m1), ?_, ?_, fI_t hf d2⟩
              · show _ = evj _ _ [jR 10 64, jI (nI set), jI (nI c), jI (nI (s + 1) - 1), jI (nI (s + 1))] _ m1
                rw [nI_pred]
              · show s + 1 = _
                rw [few_s, ← hb, if_pos ⟨g1, g2, hy⟩]
          rw [e_M_fewest_28, bk_lt (by omega) (by omega), jbr_n (by omega), kI_adn, li0, bk_ne (by omega) (by omega)]
          by_cases g1 : adn s set = 0
          · rw [jbr_n (fun x => x g1), bk_m1 (by omega)]
            by_cases g2 : b = 0
            · rw [jbr_p g2]
              exact yes g1 (Or.inl g2)
            · obtain ⟨b', rfl⟩ : ∃ b', b = b' + 1 := ⟨b - 1, by omega⟩
              have hp3 := pop_le b'
              rw [jbr_n g2, m_ones (by omega), bI_some, nI_pred, m_ones (by omega), bI_some, bk_le (by omega) (by omega)]
              rw [Nat.add_sub_cancel] at yes no hp2
              by_cases g3 : pop b' ≤ pop s
              · rw [jbr_p g3, li1, nI_add, ← nI_pred b']
                exact no m hf (fun x => by omega)
              · rw [jbr_n g3, ← nI_pred b']
                exact yes g1 (Or.inr (by omega))
          · rw [jbr_p g1, li1, nI_add]
            exact no m hf (fun x => g1 x.1)) (set + 1) 0 (0, μ) (by omega) ⟨rfl, fI_r _ _ _⟩
        have hb : b = few (sv S) (vC (sv S) c) set (set + 1) := e2
        have hf : fI 71 71 μ m := e3
        refine ⟨m, e1.trans ?_, MS_fI hf (by omega) hW hM, om_fI hf (by omega) (by omega)⟩
        show evj _ _ [jR 10 64, jI (nI set), jI (nI c), jI (nI b - 1), jI (nI (set + 1))] _ m = _
        rw [e_M_fewest_28, bk_lt (by omega) (by omega), jbr_p (by omega), hb]
      · have fe : fFw x y (sv S) = _ := if_neg (fun z => h2 z.2)
        rw [fe, bt_n (decide_eq_false h2)]
        exact m_tel _ hW hM
    · have fe : fFw x y (sv S) = _ := if_neg (fun z => h1 z.1)
      rw [fe, bf_p (decide_eq_false h1)]
      exact m_tel _ hW hM
/-- block -/
def blk (v : vst) (m set n : Nat) : Nat := itr (fun p s => if set.testBit p = true ∧ say v (adn set (2 ^ p)) m = false then s ||| 2 ^ p else s) n 0 0
theorem blk_s (v : vst) (m set n : Nat) : blk v m set (n + 1) = if set.testBit n = true ∧ say v (adn set (2 ^ n)) m = false then blk v m set n ||| 2 ^ n else blk v m set n := by
  show itr _ (n + 1) 0 0 = _
  rw [itr_s, Nat.zero_add]
  rfl
theorem blk_lt (v : vst) (m set n : Nat) : blk v m set n < 2 ^ n := itr_lt n (fun i b hi hb => by
  split
  · exact or_lt n hb (two_lt hi)
  · exact hb)
theorem tb_hi {s n j : Nat} (h : s < 2 ^ n) (hj : n ≤ j) : s.testBit j = false := Nat.testBit_lt_two_pow (Nat.lt_of_lt_of_le h (Nat.pow_le_pow_right (by omega) hj))
theorem c_blk {k set c : Nat} {μ : jm} {v : vst} (hk : k + 10 < 50) (hw : WV v) (hv : CV μ k v) (hs : set < 2 ^ vn v) (hc : c < vc v) : ∃ m, cj 54 [jR 1 50, jR 8 k, jI (nI set), jI (nI c)] μ = some (some (jI (nI (blk v (vC v c) set 7))), m) ∧ fI 51 52 μ m := by
  have w3 : vn v ≤ 7 := hw.2.2.1
  have h27 : 2 ^ vn v ≤ 2 ^ 7 := Nat.pow_le_pow_right (by omega) w3
  rw [e_Choir_blockers]
  obtain ⟨⟨b, m⟩, e1, e2, e3⟩ := lp_r (W := fun i (q : Nat × jm) => evj 54 6 [jR 1 50, jR 8 k, jI (nI set), jI (nI c), jI (nI q.1), jI (nI i), jU] [] q.2) (n := 7) (fun i q => q.1 = blk v (vC v c) set i ∧ fI 51 52 μ q.2) (fun p q hp hI => by
    obtain ⟨b, m⟩ := q
    obtain ⟨hb, hf⟩ := hI
    have hb : b = blk v (vC v c) set p := hb
    have hf : fI 51 52 μ m := hf
    show ∃ a', evj _ _ [jR 1 50, jR 8 k, jI (nI set), jI (nI c), jI (nI b), jI (nI p), jU] _ m = evj _ _ _ _ _ ∧ _
    have hv1 := CV_fI hf (by omega) hv
    have hpp := two_12 (show p < 12 by omega)
    have ha := adn_le set (2 ^ p)
    rw [e_Choir_blockers_6, li7, bk_le (by omega) (by omega), jbr_n (by omega), kI_1 (by omega), jb_and (by omega), kI_and, and2]
    cases ht : set.testBit p
    · rw [if_neg (by decide), li1, nI_add]
      exact ⟨(b, m), rfl, by rw [blk_s, ht, if_neg (fun z => absurd z.1 (by decide)), hb], hf⟩
    · obtain ⟨m1, d1, d2⟩ := c_say hk hw hv1 (show adn set (2 ^ p) < 2 ^ vn v by omega) hc
      rw [if_pos rfl, if_pos rfl, kI_adn, d1, bI_some]
      cases hy : say v (adn set (2 ^ p)) (vC v c)
      · rw [bt_n rfl, kI_or, li1, nI_add]
        exact ⟨(b ||| 2 ^ p, m1), rfl, by rw [blk_s, if_pos ⟨ht, hy⟩, hb], fI_t hf d2⟩
      · rw [bt_p rfl, li1, nI_add]
        exact ⟨(b, m1), rfl, by rw [blk_s, hy, if_neg (fun z => absurd z.2 (by decide)), hb], fI_t hf d2⟩) 7 0 (0, μ) (by omega) ⟨rfl, fI_r _ _ _⟩
  have hb : b = blk v (vC v c) set 7 := e2
  refine ⟨m, e1.trans ?_, e3⟩
  show evj _ _ [jR 1 50, jR 8 k, jI (nI set), jI (nI c), jI (nI b), jI (nI 7), jU] _ m = _
  rw [e_Choir_blockers_6, jbr_p (by decide), hb]
def fBl (x y : Int32) (v : vst) : Int32 := if sOk x y v then (if say v (un x) (vC v (un y)) = true then nI (blk v (vC v (un y)) (un x) (vn v)) else -3) else -2
theorem blk_x (v : vst) (m : Nat) {set : Nat} (hs : set < 2 ^ vn v) (hn : vn v ≤ 7) : blk v m set 7 = blk v m set (vn v) := itr_x hn 0 (fun j b hj => by
  show (if _ then _ else _) = _
  rw [tb_hi hs hj, if_neg (fun z => absurd z.1 (by decide))])
theorem op_block (x y : Int32) : opI 125 203 [jI x, jI y] Rel := by
  refine opI_of (fun S => fBl x y (sv S)) (fun S => tel S (fBl x y (sv S))) (fun S h => WS_tel h _) ?_ ?_
  · intro μ S hW hC
    have w3 : vn (sv S) ≤ 7 := hW.1.2.2.1
    have w5 : vc (sv S) ≤ 8 := hW.1.2.2.2.2.1
    have h27 : 2 ^ vn (sv S) ≤ 2 ^ 7 := Nat.pow_le_pow_right (by omega) w3
    rw [e_N_block, c_isSet 1 x μ w3 hC.1.2.2.1, bI_some]
    by_cases h1 : un x < 2 ^ vn (sv S)
    · rw [bf_n (decide_eq_true h1), c_isChord 1 y μ (by omega) hC.1.2.2.2.2.1, bI_some]
      by_cases h2 : un y < vc (sv S)
      · have fe : fBl x y (sv S) = _ := if_pos ⟨h1, h2⟩
        rw [fe, bt_p (decide_eq_true h2)]
        obtain ⟨c, hc, rfl⟩ := un_x h2 (by omega)
        obtain ⟨set, hs, rfl⟩ := un_x h1 (by omega)
        obtain ⟨m, e1, e2⟩ := c_say (k := 1) (by omega) hW.1 hC.1 hs hc
        rw [e1, bI_some, un_nI (by omega), un_nI (by omega)]
        cases hy : say (sv S) set (vC (sv S) c)
        · rw [bt_n rfl, if_neg (by decide)]
          obtain ⟨m1, d1, d2, d3⟩ := c_tel (-3) (CS_fI e2 (by omega) hC)
          exact ⟨m1, d1, d2, oc_t (oc_fI e2 (by omega)) d3⟩
        · obtain ⟨m1, d1, d2⟩ := c_blk (k := 1) (by omega) hW.1 (CV_fI e2 (by omega) hC.1) hs hc
          have hl := blk_lt (sv S) (vC (sv S) c) set (vn (sv S))
          rw [bt_p rfl, if_pos rfl, d1, bI_some, tel_n S (by omega), blk_x _ _ hs w3]
          exact ⟨_, rfl, CS_fI (fI_t e2 d2) (by omega) hC, oc_fI (fI_t e2 d2) (by omega)⟩
      · have fe : fBl x y (sv S) = _ := if_neg (fun z => h2 z.2)
        rw [fe, bt_n (decide_eq_false h2)]
        exact c_tel _ hC
    · have fe : fBl x y (sv S) = _ := if_neg (fun z => h1 z.1)
      rw [fe, bf_p (decide_eq_false h1)]
      exact c_tel _ hC
  · intro μ S hW hM
    have w3 : vn (sv S) ≤ 7 := hW.1.2.2.1
    have w5 : vc (sv S) ≤ 8 := hW.1.2.2.2.2.1
    have h27 : 2 ^ vn (sv S) ≤ 2 ^ 7 := Nat.pow_le_pow_right (by omega) w3
    rw [e_M_block, m_isSet x μ w3 hM.1.2.2.1, bI_some]
    by_cases h1 : un x < 2 ^ vn (sv S)
    · rw [bf_n (decide_eq_true h1), m_isChord y μ w5 hM.1.2.2.2.2.1, bI_some]
      by_cases h2 : un y < vc (sv S)
      · have fe : fBl x y (sv S) = _ := if_pos ⟨h1, h2⟩
        rw [fe, bt_p (decide_eq_true h2)]
        obtain ⟨c, hc, rfl⟩ := un_x h2 (by omega)
        obtain ⟨set, hs, rfl⟩ := un_x h1 (by omega)
        obtain ⟨m0, f1, f2⟩ := m_say (r := 0) (by omega) hW.1 hM.1 hs hc
        rw [show cj 171 [jR 10 64, jI (0 : Int32), jI (nI set), jI (nI c)] μ = _ from f1, bI_some, un_nI (by omega), un_nI (by omega)]
        cases hy : say (sv S) set (vC (sv S) c)
        · rw [bt_n rfl, if_neg (by decide)]
          obtain ⟨m1, d1, d2, d3⟩ := m_tel (-3) hW (MS_fI f2 (by omega) hW hM)
          exact ⟨m1, d1, d2, om_t (om_fI f2 (by omega) (by omega)) d3⟩
        · rw [bt_p rfl, if_pos rfl]
          have hl := blk_lt (sv S) (vC (sv S) c) set (vn (sv S))
          rw [tel_n S (by omega)]
          obtain ⟨⟨b, m⟩, e1, e2, e3⟩ := lp_r (W := fun i (q : Nat × jm) => evj 203 45 [jR 10 64, jI (nI set), jI (nI c), jI (nI q.1), jI (nI i)] [] q.2) (n := vn (sv S)) (fun i q => q.1 = blk (sv S) (vC (sv S) c) set i ∧ fI 71 71 μ q.2) (fun p q hp hI => by
            obtain ⟨b, m⟩ := q
            obtain ⟨hb, hf⟩ := hI
            have hb : b = blk (sv S) (vC (sv S) c) set p := hb
            have hf : fI 71 71 μ m := hf
            show ∃ a', evj _ _ [jR 10 64, jI (nI set), jI (nI c), jI (nI b), jI (nI p)] _ m = evj _ _ _ _ _ ∧ _
            have hv1 := MV_fI hf (by omega) hW.1 hM.1
            have ha := adn_le set (2 ^ p)
            rw [e_M_block_45, li72, inB_nI (by omega) (by omega), jgd_t, ixn (by omega), show gI m 65 72 = nI (vn (sv S)) from hv1.2.2.1, bk_le (by omega) (by omega), jbr_n (by omega), m_has (by omega) (by omega), bI_some]
            cases ht : set.testBit p
            · rw [bf_p rfl, li0, kI_or, Nat.or_zero, li1, nI_add]
              exact ⟨(b, m), rfl, by rw [blk_s, ht, if_neg (fun z => absurd z.1 (by decide)), hb], hf⟩
            · obtain ⟨m1, d1, d2⟩ := m_say (r := 0) (by omega) hW.1 hv1 (show adn set (2 ^ p) < 2 ^ vn (sv S) by omega) hc
              rw [bf_n rfl, kI_1 (by omega), kI_adn, show cj 171 [jR 10 64, jI (0 : Int32), jI (nI (adn set (2 ^ p))), jI (nI c)] m = _ from d1, bI_some]
              cases hy : say (sv S) (adn set (2 ^ p)) (vC (sv S) c)
              · rw [bt_n rfl, kI_or, li1, nI_add]
                exact ⟨(b ||| 2 ^ p, m1), rfl, by rw [blk_s, if_pos ⟨ht, hy⟩, hb], fI_t hf d2⟩
              · rw [bt_p rfl, li0, kI_or, Nat.or_zero, li1, nI_add]
                exact ⟨(b, m1), rfl, by rw [blk_s, hy, if_neg (fun z => absurd z.2 (by decide)), hb], fI_t hf d2⟩) (vn (sv S)) 0 (0, m0) (by omega) ⟨rfl, f2⟩
          have hb : b = blk (sv S) (vC (sv S) c) set (vn (sv S)) := e2
          have hf : fI 71 71 μ m := e3
          have hv1 := MV_fI hf (by omega) hW.1 hM.1
          refine ⟨m, e1.trans ?_, MS_fI hf (by omega) hW hM, om_fI hf (by omega) (by omega)⟩
          show evj _ _ [jR 10 64, jI (nI set), jI (nI c), jI (nI b), jI (nI (vn (sv S)))] _ m = _
          rw [e_M_block_45, li72, inB_nI (by omega) (by omega), jgd_t, ixn (by omega), show gI m 65 72 = nI (vn (sv S)) from hv1.2.2.1, jbr_p (by rw [kI_le (by omega) (by omega)]; omega), hb]
      · have fe : fBl x y (sv S) = _ := if_neg (fun z => h2 z.2)
        rw [fe, bt_n (decide_eq_false h2)]
        exact m_tel _ hW hM
    · have fe : fBl x y (sv S) = _ := if_neg (fun z => h1 z.1)
      rw [fe, bf_p (decide_eq_false h1)]
      exact m_tel _ hW hM
