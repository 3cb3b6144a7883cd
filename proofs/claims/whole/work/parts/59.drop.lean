/-! drop -/
def rvl (v : vst) (f a n : Nat) : Nat := itr (fun b s => if ¬ a = b ∧ tk (vC v a) (vC v b) f = true then s ||| 2 ^ b else s) n 0 0
theorem rvl_s (v : vst) (f a n : Nat) : rvl v f a (n + 1) = if ¬ a = n ∧ tk (vC v a) (vC v n) f = true then rvl v f a n ||| 2 ^ n else rvl v f a n := by
  show itr _ (n + 1) 0 0 = _
  rw [itr_s, Nat.zero_add]
  rfl
theorem rvl_lt (v : vst) (f a n : Nat) : rvl v f a n < 2 ^ n := itr_lt n (fun i b hi hb => by
  split
  · exact or_lt n hb (two_lt hi)
  · exact hb)
theorem c_rvl {k f : Nat} {μ : jm} {v : vst} (hk : k + 10 < 50) (hw : WV v) (hv : CV μ k v) (hf : f ≤ 3) : ∃ m, cj 65 [jR 3 55, jR 8 k, jI (nI f)] μ = some (none, m) ∧ (∀ a, a < vc v → gI m 56 a = nI (rvl v f a (vc v))) ∧ fI 56 56 μ m := by
  have w5 : vc v ≤ 8 := hw.2.2.2.2.1
  rw [e_Fog_findRivals]
  obtain ⟨m, e1, e2, e3⟩ := lp_r (W := fun i (m : jm) => evj 65 2 [jR 3 55, jR 8 k, jI (nI f), jI (nI i), jU] [] m) (n := vc v) (fun i m => (∀ a, a < i → gI m 56 a = nI (rvl v f a (vc v))) ∧ fI 56 56 μ m) (fun a m ha hI => by
    obtain ⟨hA, hf1⟩ := hI
    show ∃ a', evj _ _ _ _ _ = evj _ _ _ _ _ ∧ _
    have hv1 := CV_fI hf1 (by omega) hv
    rw [e_Fog_findRivals_2, show gI m k 9 = nI (vc v) from hv1.2.2.2.2.1, bk_le (by omega) (by omega), jbr_n (by omega), inB_nI (by omega) (by omega), jgd_t, ixn (by omega)]
    obtain ⟨m2, g1, g2, g3, g4⟩ := lp_r (W := fun i (m : jm) => evj 65 20 [jR 3 55, jR 8 k, jI (nI f), jI (nI a), jI (nI i)] [] m) (n := vc v) (fun i m => (∀ c, c < a → gI m 56 c = nI (rvl v f c (vc v))) ∧ gI m 56 a = nI (rvl v f a i) ∧ fI 56 56 μ m) (fun b m hb hI => by
      obtain ⟨hA, hB, hf1⟩ := hI
      show ∃ a', evj _ _ _ _ _ = evj _ _ _ _ _ ∧ _
      have hv1 := CV_fI hf1 (by omega) hv
      rw [e_Fog_findRivals_20, show gI m k 9 = nI (vc v) from hv1.2.2.2.2.1, bk_le (by omega) (by omega), jbr_n (by omega), bk_eq (by omega) (by omega), show nI b + 1 = nI (b + 1) from nI_add b 1]
      by_cases e : a = b
      · rw [jbr_p e]
        exact ⟨m, rfl, hA, by rw [rvl_s, if_neg (fun z => z.1 e)]; exact hB, hf1⟩
      · rw [jbr_n e, inB_nI (by omega) (by omega), jgd_t, inB_nI (by omega) (by omega), jgd_t, ixn (by omega), ixn (by omega), c_confv hw hv1 ha hb hf, bI_some]
        cases ht : tk (vC v a) (vC v b) f
        · rw [bf_p rfl]
          exact ⟨m, rfl, hA, by rw [rvl_s, ht, if_neg (fun z => absurd z.2 (by decide))]; exact hB, hf1⟩
        · rw [bf_n rfl, jgd_t, jgd_t, hB, kI_1 (by omega), kI_or]
          refine ⟨_, rfl, fun c hc => ?_, ?_, fI_t hf1 (fI_s m (by omega) (by omega))⟩
          · rw [gI_ne _ (by omega)]; exact hA c hc
          · rw [gI_eq, rvl_s, if_pos ⟨e, ht⟩]) (vc v) 0 (sI m 56 a (0 : Int32)) (by omega) ⟨fun c hc => by rw [gI_ne _ (by omega)]; exact hA c hc, by rw [gI_eq]; rfl, fI_t hf1 (fI_s m (by omega) (by omega))⟩
    have hv2 := CV_fI g4 (by omega) hv
    refine ⟨m2, Eq.trans g1 ?_, fun c hc => ?_, g4⟩
    · show evj _ _ _ _ _ = _
      rw [e_Fog_findRivals_20, show gI m2 k 9 = nI (vc v) from hv2.2.2.2.2.1, jbr_p (by rw [kI_le (by omega) (by omega)]; omega), show nI a + 1 = nI (a + 1) from nI_add a 1]
    · by_cases e : c = a
      · subst e; exact g3
      · exact g2 c (by omega)) (vc v) 0 μ (by omega) ⟨fun c hc => absurd hc (Nat.not_lt_zero c), fI_r _ _ _⟩
  have hv2 := CV_fI e3 (by omega) hv
  refine ⟨m, Eq.trans e1 ?_, e2, e3⟩
  show evj _ _ _ _ _ = _
  rw [e_Fog_findRivals_2, show gI m k 9 = nI (vc v) from hv2.2.2.2.2.1, jbr_p (by rw [kI_le (by omega) (by omega)]; omega)]
/-- a set to drop is enough -/
def enough (v : vst) (f s : Nat) : Bool := (List.range (vc v)).all (fun c => s.testBit c || decide (adn (rvl v f c (vc v)) s = 0))
theorem and_left {r n s : Nat} (hr : r < 2 ^ n) : r &&& adn (2 ^ n - 1) s = adn r s := by
  apply Nat.eq_of_testBit_eq
  intro i
  rw [Nat.testBit_and, adn_tb, adn_tb, Nat.testBit_two_pow_sub_one]
  by_cases h : i < n
  · rw [decide_eq_true h, Bool.true_and]
  · rw [tb_hi hr (by omega), Bool.false_and, Bool.false_and]
theorem c_clr {f s : Nat} {m : jm} {v : vst} (hw : WV v) (hr : ∀ a, a < vc v → gI m 56 a = nI (rvl v f a (vc v))) : cj 66 [jR 3 55, jI (nI (adn (2 ^ vc v - 1) s))] m = some (some (jI (nI (bN (enough v f s)))), m) := by
  have w5 : vc v ≤ 8 := hw.2.2.2.2.1
  have h28 : 2 ^ vc v ≤ 2 ^ 8 := Nat.pow_le_pow_right (by omega) w5
  have h0 := Nat.two_pow_pos (vc v)
  have ha := adn_le (2 ^ vc v - 1) s
  rw [e_Fog_isClear]
  refine lp_x (W := fun i (_ : Unit) => evj 66 2 [jR 3 55, jI (nI (adn (2 ^ vc v - 1) s)), jI (nI i)] [] m) (n := 8) (fun o => o = some (some (jI (nI (bN (enough v f s)))), m)) (fun i _ => ∀ j, j < i → j < vc v → (s.testBit j || decide (adn (rvl v f j (vc v)) s = 0)) = true) (fun _ hI => ?_) (fun c _ hc hI => ?_) 8 0 () (by omega) (fun j hj => absurd hj (Nat.not_lt_zero j))
  · show evj _ _ _ _ _ = _
    rw [e_Fog_isClear_2, jbr_p (by decide)]
    have : enough v f s = true := List.all_eq_true.mpr (fun j hj => hI j (by have := List.mem_range.mp hj; omega) (List.mem_range.mp hj))
    rw [this]
    rfl
  · show (∃ a', evj _ _ _ _ _ = evj _ _ _ _ _ ∧ _) ∨ evj _ _ _ _ _ = _
    rw [e_Fog_isClear_2, li8, bk_le (by omega) (by omega), jbr_n (by omega), kI_tb (by omega) (by omega), adn_tb, Nat.testBit_two_pow_sub_one, show nI c + 1 = nI (c + 1) from nI_add c 1]
    by_cases hcn : c < vc v
    · rw [decide_eq_true hcn, Bool.true_and]
      have hrl := rvl_lt v f c (vc v)
      have hal := adn_le (rvl v f c (vc v)) s
      cases ht : s.testBit c
      · rw [Bool.not_false, bf_n rfl, inB_nI hc (by omega), jgd_t, ixn (by omega), hr c hcn, kI_and, and_left hrl, li0, bk_eq (by omega) (by omega)]
        by_cases hz : adn (rvl v f c (vc v)) s = 0
        · rw [jbr_p hz]
          refine Or.inl ⟨(), rfl, fun j hj hj2 => ?_⟩
          by_cases e : j = c
          · subst e; rw [decide_eq_true hz, Bool.or_true]
          · exact hI j (by omega) hj2
        · rw [jbr_n hz]
          refine Or.inr ?_
          have : enough v f s = false := by
            rw [← Bool.not_eq_true]
            intro z
            have := List.all_eq_true.mp z c (List.mem_range.mpr hcn)
            rw [ht, decide_eq_false hz] at this
            exact absurd this (by decide)
          rw [this]
          rfl
      · rw [Bool.not_true, bf_p rfl]
        refine Or.inl ⟨(), rfl, fun j hj hj2 => ?_⟩
        by_cases e : j = c
        · subst e; rw [ht, Bool.true_or]
        · exact hI j (by omega) hj2
    · rw [decide_eq_false hcn, Bool.false_and, bf_p rfl]
      exact Or.inl ⟨(), rfl, fun j hj hj2 => hI j (by omega) hj2⟩
def drC (v : vst) (f n : Nat) : Nat := itr (fun s b => if pop s < pop b ∧ enough v f s = true then s else b) n 0 (2 ^ vc v - 1)
def drM (v : vst) (f n : Nat) : Nat := itr (fun s b => if (b = 0 ∨ pop s < pop (b - 1)) ∧ enough v f s = true then s + 1 else b) n 0 0
theorem drC_s (v : vst) (f n : Nat) : drC v f (n + 1) = if pop n < pop (drC v f n) ∧ enough v f n = true then n else drC v f n := by
  show itr _ (n + 1) 0 _ = _
  rw [itr_s, Nat.zero_add]
  rfl
theorem drM_s (v : vst) (f n : Nat) : drM v f (n + 1) = if (drM v f n = 0 ∨ pop n < pop (drM v f n - 1)) ∧ enough v f n = true then n + 1 else drM v f n := by
  show itr _ (n + 1) 0 _ = _
  rw [itr_s, Nat.zero_add]
  rfl
theorem drM_le (v : vst) (f n : Nat) : drM v f n ≤ n := itr_I (n := n) (fun i b => b ≤ i) (fun i b _ h => by split <;> omega) (Nat.le_refl 0)
theorem pop_n : ∀ n, n < 9 → ∀ s, s < 256 → (!decide (s < 2 ^ n) || ((decide (s = 2 ^ n - 1) || decide (pop s < pop (2 ^ n - 1))) && decide (pop s ≤ pop (2 ^ n - 1)))) = true := by decide +kernel
theorem pop_x {n s : Nat} (hn : n ≤ 8) (h : s < 2 ^ n) : (s = 2 ^ n - 1 ∨ pop s < pop (2 ^ n - 1)) ∧ pop s ≤ pop (2 ^ n - 1) := by
  have h28 : 2 ^ n ≤ 2 ^ 8 := Nat.pow_le_pow_right (by omega) hn
  have := pop_n n (by omega) s (by omega)
  rw [decide_eq_true h, Bool.not_true, Bool.false_or, Bool.and_eq_true, Bool.or_eq_true] at this
  exact ⟨this.1.elim (fun z => Or.inl (of_decide_eq_true z)) (fun z => Or.inr (of_decide_eq_true z)), of_decide_eq_true this.2⟩
theorem dr_e (v : vst) (f : Nat) (hn : vc v ≤ 8) : ∀ i, i ≤ 2 ^ vc v - 1 → (drM v f i = 0 ∧ drC v f i = 2 ^ vc v - 1) ∨ drM v f i = drC v f i + 1
  | 0, _ => Or.inl ⟨rfl, rfl⟩
  | i + 1, h => by
    have ih := dr_e v f hn i (by omega)
    have hp := (pop_x hn (show i < 2 ^ vc v by omega)).1
    rw [drM_s, drC_s]
    rcases ih with ⟨a, b⟩ | a
    · rw [a, b]
      cases he : enough v f i
      · rw [if_neg (fun z => absurd z.2 (by decide)), if_neg (fun z => absurd z.2 (by decide))]
        exact Or.inl ⟨rfl, rfl⟩
      · rw [if_pos ⟨Or.inl rfl, rfl⟩, if_pos ⟨by omega, rfl⟩]
        exact Or.inr rfl
    · rw [a, Nat.add_sub_cancel]
      by_cases he : pop i < pop (drC v f i) ∧ enough v f i = true
      · rw [if_pos he, if_pos ⟨Or.inr he.1, he.2⟩]
        exact Or.inr rfl
      · rw [if_neg he, if_neg (fun z => he ⟨by omega, z.2⟩)]
        exact Or.inr rfl
theorem dr_f (v : vst) (f : Nat) (hn : vc v ≤ 8) : drM v f (2 ^ vc v) = drC v f (2 ^ vc v) + 1 := by
  have h0 := Nat.two_pow_pos (vc v)
  have hall : enough v f (2 ^ vc v - 1) = true := List.all_eq_true.mpr (fun c hc => by rw [Nat.testBit_two_pow_sub_one, decide_eq_true (List.mem_range.mp hc), Bool.true_or])
  obtain ⟨i, hi⟩ : ∃ i, 2 ^ vc v = i + 1 := ⟨2 ^ vc v - 1, by omega⟩
  have ih := dr_e v f hn i (by omega)
  have hi2 : 2 ^ vc v - 1 = i := by omega
  rw [hi2] at ih hall
  have hle := drM_le v f i
  rw [hi, drM_s, drC_s]
  rcases ih with ⟨a, b⟩ | a
  · rw [a, b, if_pos ⟨Or.inl rfl, hall⟩, if_neg (fun z => absurd z.1 (by omega))]
  · have hp := (pop_x hn (show drC v f i < 2 ^ vc v by omega)).2
    rw [hi2] at hp
    rw [a, Nat.add_sub_cancel, if_neg (fun z => by omega), if_neg (fun z => by omega)]
theorem drC_lt (v : vst) (f : Nat) (hn : vc v ≤ 8) (n : Nat) (h : n ≤ 2 ^ vc v) : drC v f n < 2 ^ vc v := by
  have h0 := Nat.two_pow_pos (vc v)
  exact itr_I (n := n) (fun i b => b < 2 ^ vc v) (fun i b hi hb => by split <;> omega) (show 2 ^ vc v - 1 < 2 ^ vc v by omega)
theorem c_drop {k f : Nat} {μ : jm} {v : vst} (hk : k + 10 < 50) (hw : WV v) (hv : CV μ k v) (hf : f ≤ 3) : ∃ m, cj 64 [jR 3 55, jR 8 k, jI (nI f)] μ = some (some (jI (nI (drC v f (2 ^ vc v)))), m) ∧ fI 56 56 μ m := by
  have w5 : vc v ≤ 8 := hw.2.2.2.2.1
  have h28 : 2 ^ vc v ≤ 2 ^ 8 := Nat.pow_le_pow_right (by omega) w5
  have h0 := Nat.two_pow_pos (vc v)
  obtain ⟨m, d1, d2, d3⟩ := c_rvl hk hw hv hf
  have hv1 := CV_fI d3 (by omega) hv
  refine ⟨m, ?_, d3⟩
  rw [e_Fog_leastToGo, d1, bV_some, show gI m k 9 = nI (vc v) from hv1.2.2.2.2.1, kI_1 (by omega), show nI (2 ^ vc v) - (1 : Int32) = nI (2 ^ vc v - 1) from kI_sub (b := 1) (by omega)]
  have L := lp_f (W := fun i b => evj 64 21 [jR 3 55, jU, jU, jI (nI (2 ^ vc v - 1)), jI (nI b), jI (nI i)] [] m) (f := fun s b => if pop s < pop b ∧ enough v f s = true then s else b) (n := 2 ^ vc v) (fun i b => b < 2 ^ vc v) (fun s b hs hb => by
    refine ⟨?_, by split <;> omega⟩
    show evj _ _ _ _ _ = evj _ _ _ _ _
    have p1 := pop_le s
    have p2 := pop_le b
    rw [e_Fog_leastToGo_21, bk_lt (by omega) (by omega), jbr_n (by omega), c_bc (by omega), bI_some, c_bc (by omega), bI_some, bk_le (by omega) (by omega), show nI s + 1 = nI (s + 1) from nI_add s 1]
    by_cases e : pop b ≤ pop s
    · rw [jbr_p e, if_neg (fun z => by omega)]
    · rw [jbr_n e, kI_adn, c_clr hw d2, bI_some]
      cases he : enough v f s
      · rw [bf_p rfl, if_neg (fun z => absurd z.2 (by decide))]
      · rw [bf_n rfl, if_pos ⟨by omega, rfl⟩]) (2 ^ vc v) 0 (2 ^ vc v - 1) (by omega) (by omega)
  refine Eq.trans L.1 ?_
  show evj _ _ _ _ _ = _
  rw [e_Fog_leastToGo_21, jbr_p (by rw [kI_lt (by omega) (by omega)]; omega)]
  rfl
def fDr (x : Int32) (v : vst) : Int32 := if un x < 4 then nI (drC v (un x) (2 ^ vc v)) else -2
set_option maxHeartbeats 1000000 in
theorem op_drop (x : Int32) : opI 117 190 [jI x] Rel := by
  refine opI_of (fun S => fDr x (sv S)) (fun S => tel S (fDr x (sv S))) (fun S h => WS_tel h _) ?_ ?_
  · intro μ S hW hC
    have w5 : vc (sv S) ≤ 8 := hW.1.2.2.2.2.1
    have h28 : 2 ^ vc (sv S) ≤ 2 ^ 8 := Nat.pow_le_pow_right (by omega) w5
    rw [e_N_drop, c_isFog, bI_some]
    by_cases h1 : un x < 4
    · have fe : fDr x (sv S) = _ := if_pos h1
      rw [fe, bt_p (decide_eq_true h1)]
      obtain ⟨f, hf, rfl⟩ := un_x h1 (by omega)
      obtain ⟨m, e1, e2⟩ := c_drop (k := 1) (by omega) hW.1 hC.1 (show f ≤ 3 by omega)
      have hl := drC_lt (sv S) f w5 (2 ^ vc (sv S)) (Nat.le_refl _)
      rw [e1, bI_some, un_nI (by omega), tel_n S (by omega)]
      exact ⟨_, rfl, CS_fI e2 (by omega) hC, oc_fI e2 (by omega)⟩
    · have fe : fDr x (sv S) = _ := if_neg h1
      rw [fe, bt_n (decide_eq_false h1)]
      exact c_tel _ hC
  · intro μ S hW hM
    have hw := hW.1
    have hv := hM.1
    have w5 : vc (sv S) ≤ 8 := hW.1.2.2.2.2.1
    have h28 : 2 ^ vc (sv S) ≤ 2 ^ 8 := Nat.pow_le_pow_right (by omega) w5
    have h0 := Nat.two_pow_pos (vc (sv S))
    rw [e_M_drop, un_3, bI_some]
    by_cases h1 : un x < 4
    · have fe : fDr x (sv S) = _ := if_pos h1
      rw [fe, bt_p (decide_eq_true h1)]
      obtain ⟨f, hf, rfl⟩ := un_x h1 (by omega)
      have hl := drC_lt (sv S) f w5 (2 ^ vc (sv S)) (Nat.le_refl _)
      rw [show inB (101 : Int32) 560 = true from by decide, jgd_t, show ix (101 : Int32) = 101 from by decide, show gI μ 65 101 = nI (vc (sv S)) from hv.2.2.2.2.1, un_nI (by omega), tel_n S (by omega)]
      obtain ⟨m, e1, e2, e3⟩ := lp_r (W := fun i (m : jm) => evj 190 29 [jR 10 64, jI (nI f), jI (nI (vc (sv S))), jI (nI i), jU, jU, jU] [] m) (n := vc (sv S)) (fun i m => (∀ a, a < i → gI m 73 a = nI (rvl (sv S) f a (vc (sv S)))) ∧ fI 73 73 μ m) (fun a m ha hI => by
        obtain ⟨hA, hf1⟩ := hI
        show ∃ a', evj _ _ _ _ _ = evj _ _ _ _ _ ∧ _
        rw [e_M_drop_29, bk_le (by omega) (by omega), jbr_n (by omega), inB_nI (by omega) (by omega), jgd_t, ixn (by omega)]
        obtain ⟨m2, g1, g2, g3, g4⟩ := lp_r (W := fun i (m : jm) => evj 190 44 [jR 10 64, jI (nI f), jI (nI (vc (sv S))), jI (nI a), jI (nI i), jU, jU] [] m) (n := vc (sv S)) (fun i m => (∀ c, c < a → gI m 73 c = nI (rvl (sv S) f c (vc (sv S)))) ∧ gI m 73 a = nI (rvl (sv S) f a i) ∧ fI 73 73 μ m) (fun b m hb hI => by
          obtain ⟨hA, hB, hf1⟩ := hI
          show ∃ a', evj _ _ _ _ _ = evj _ _ _ _ _ ∧ _
          have hv1 := MV_fI hf1 (by omega) hw hv
          rw [e_M_drop_44, bk_le (by omega) (by omega), jbr_n (by omega), inB_nI (by omega) (by omega), jgd_t, jgd_t, bk_eq (by omega) (by omega), show nI b + 1 = nI (b + 1) from nI_add b 1, ixn (by omega), hB, li0, kI_or, Nat.or_zero]
          have same : ∀ y, y = rvl (sv S) f a (b + 1) → (∀ c, c < a → gI (sI m 73 a (nI y)) 73 c = nI (rvl (sv S) f c (vc (sv S)))) ∧ gI (sI m 73 a (nI y)) 73 a = nI (rvl (sv S) f a (b + 1)) ∧ fI 73 73 μ (sI m 73 a (nI y)) := fun y hy => ⟨fun c hc => by rw [gI_ne _ (by omega)]; exact hA c hc, by rw [gI_eq, hy], fI_t hf1 (fI_s m (by omega) (by omega))⟩
          by_cases e : a = b
          · rw [jbr_p e]
            exact ⟨_, rfl, same _ (by rw [rvl_s, if_neg (fun z => z.1 e)])⟩
          · rw [jbr_n e, m_tk hw hv1 ha hb (by omega), bI_some]
            cases ht : tk (vC (sv S) a) (vC (sv S) b) f
            · rw [← li0, bf_p rfl, jgd_t]
              exact ⟨_, rfl, same _ (by rw [rvl_s, ht, if_neg (fun z => absurd z.2 (by decide))])⟩
            · rw [← li0, bf_n rfl, jgd_t, kI_1 (by omega), kI_or]
              exact ⟨_, rfl, same _ (by rw [rvl_s, if_pos ⟨e, ht⟩])⟩) (vc (sv S)) 0 (sI m 73 a (0 : Int32)) (by omega) ⟨fun c hc => by rw [gI_ne _ (by omega)]; exact hA c hc, by rw [gI_eq]; rfl, fI_t hf1 (fI_s m (by omega) (by omega))⟩
        refine ⟨m2, Eq.trans g1 ?_, fun c hc => ?_, g4⟩
        · show evj _ _ _ _ _ = _
          rw [e_M_drop_44, jbr_p (by rw [kI_le (by omega) (by omega)]; omega), show nI a + 1 = nI (a + 1) from nI_add a 1]
        · by_cases e : c = a
          · subst e; exact g3
          · exact g2 c (by omega)) (vc (sv S)) 0 μ (by omega) ⟨fun c hc => absurd hc (Nat.not_lt_zero c), fI_r _ _ _⟩
      refine ⟨m, Eq.trans e1 ?_, MS_fI e3 (by omega) hW hM, om_fI e3 (by omega) (by omega)⟩
      show evj _ _ _ _ _ = _
      rw [e_M_drop_29, jbr_p (by rw [kI_le (by omega) (by omega)]; omega)]
      have inner : ∀ (b s : Nat) (y : Int32) (cl : Bool), s < 2 ^ vc (sv S) → evj 190 136 [jR 10 64, jU, jI (nI (vc (sv S))), jI y, jI (nI s), jI (nI (bN cl)), jI (nI 0)] [] m = evj 190 185 [jR 10 64, jU, jI (nI (vc (sv S))), jI y, jI (nI s), jI (nI (bN (cl && enough (sv S) f s))), jU] [] m := fun b s y cl hs => by
        refine lp_x (W := fun i (c : Bool) => evj 190 136 [jR 10 64, jU, jI (nI (vc (sv S))), jI y, jI (nI s), jI (nI (bN c)), jI (nI i)] [] m) (n := vc (sv S)) (fun o => o = evj 190 185 [jR 10 64, jU, jI (nI (vc (sv S))), jI y, jI (nI s), jI (nI (bN (cl && enough (sv S) f s))), jU] [] m) (fun i c => (c = true ∧ cl = true ∧ ∀ j, j < i → (s.testBit j || decide (adn (rvl (sv S) f j (vc (sv S))) s = 0)) = true) ∨ (c = false ∧ (cl && enough (sv S) f s) = false)) (fun c hI => ?_) (fun i c hi hI => ?_) (vc (sv S)) 0 cl (by omega) ?_
        · show evj _ _ _ _ _ = _
          rw [e_M_drop_136, jbr_p (by rw [kI_le (by omega) (by omega)]; omega)]
          rcases hI with ⟨q1, q2, q3⟩ | ⟨q1, q2⟩
          · have : enough (sv S) f s = true := List.all_eq_true.mpr (fun j hj => q3 j (List.mem_range.mp hj))
            rw [q1, q2, this]; rfl
          · rw [q1, q2]
        · show (∃ a', evj _ _ _ _ _ = evj _ _ _ _ _ ∧ _) ∨ evj _ _ _ _ _ = _
          rw [e_M_drop_136, bk_le (by omega) (by omega), jbr_n (by omega)]
          rcases hI with ⟨q1, q2, q3⟩ | ⟨q1, q2⟩
          · subst q1
            have hal := adn_le (rvl (sv S) f i (vc (sv S))) s
            have hrl := rvl_lt (sv S) f i (vc (sv S))
            rw [bf_n rfl, m_has (by omega) (by omega), bI_some]
            refine Or.inl ?_
            cases ht : s.testBit i
            · rw [bt_n rfl, inB_nI (by omega) (by omega), jgd_t, ixn (by omega), e2 i hi, kI_adn, li0, bk_ne (by omega) (by omega)]
              by_cases hz : adn (rvl (sv S) f i (vc (sv S))) s = 0
              · rw [jbr_n (fun z => z hz), e_M_drop_172, e_M_drop_177, show nI i + 1 = nI (i + 1) from nI_add i 1]
                refine ⟨true, rfl, Or.inl ⟨rfl, q2, fun j hj => ?_⟩⟩
                by_cases e : j = i
                · subst e; rw [decide_eq_true hz, Bool.or_true]
                · exact q3 j (by omega)
              · rw [jbr_p hz, e_M_drop_177, show nI i + 1 = nI (i + 1) from nI_add i 1]
                refine ⟨false, rfl, Or.inr ⟨rfl, ?_⟩⟩
                have : enough (sv S) f s = false := by
                  rw [← Bool.not_eq_true]
                  intro z
                  have := List.all_eq_true.mp z i (List.mem_range.mpr hi)
                  rw [ht, decide_eq_false hz] at this
                  exact absurd this (by decide)
                rw [this, Bool.and_false]
            · rw [bt_p rfl, e_M_drop_172, e_M_drop_177, show nI i + 1 = nI (i + 1) from nI_add i 1]
              refine ⟨true, rfl, Or.inl ⟨rfl, q2, fun j hj => ?_⟩⟩
              by_cases e : j = i
              · subst e; rw [ht, Bool.true_or]
              · exact q3 j (by omega)
          · refine Or.inr ?_
            rw [q1, bf_p rfl, q2]
        · cases cl
          · exact Or.inr ⟨rfl, rfl⟩
          · exact Or.inl ⟨rfl, rfl, fun j hj => absurd hj (Nat.not_lt_zero j)⟩
      have L := lp_f (W := fun i b => evj 190 101 [jR 10 64, jU, jI (nI (vc (sv S))), jI (nI b - 1), jI (nI i), jU, jU] [] m) (f := fun s b => if (b = 0 ∨ pop s < pop (b - 1)) ∧ enough (sv S) f s = true then s + 1 else b) (n := 2 ^ vc (sv S)) (fun i b => b ≤ i) (fun s b hs hb => by
        refine ⟨?_, by split <;> omega⟩
        show evj _ _ _ _ _ = evj _ _ _ _ _
        have p1 := pop_le s
        have p2 := pop_le (b - 1)
        have fin : ∀ cl : Bool, (cl = true ↔ (b = 0 ∨ pop s < pop (b - 1))) → evj 190 136 [jR 10 64, jU, jI (nI (vc (sv S))), jI (nI b - 1), jI (nI s), jI (nI (bN cl)), jI (nI 0)] [] m = evj 190 101 [jR 10 64, jU, jI (nI (vc (sv S))), jI (nI (if (b = 0 ∨ pop s < pop (b - 1)) ∧ enough (sv S) f s = true then s + 1 else b) - 1), jI (nI (s + 1)), jU, jU] [] m := fun cl hcl => by
          rw [inner b s (nI b - 1) cl hs, e_M_drop_185, show nI s + 1 = nI (s + 1) from nI_add s 1]
          by_cases hq : (b = 0 ∨ pop s < pop (b - 1)) ∧ enough (sv S) f s = true
          · rw [if_pos hq, hcl.mpr hq.1, hq.2, Bool.and_self, bf_n rfl, nI_pred]
          · rw [if_neg hq]
            have : (cl && enough (sv S) f s) = false := by
              rw [← Bool.not_eq_true, Bool.and_eq_true]
              exact fun z => hq ⟨hcl.mp z.1, z.2⟩
            rw [this, bf_p rfl]
        rw [e_M_drop_101, kI_1 (by omega), bk_le (by omega) (by omega), jbr_n (by omega), bk_m1 (by omega)]
        by_cases g1 : b = 0
        · rw [jbr_p g1]
          exact fin true ⟨fun _ => Or.inl g1, fun _ => rfl⟩
        · obtain ⟨b', rfl⟩ : ∃ b', b = b' + 1 := ⟨b - 1, by omega⟩
          rw [Nat.add_sub_cancel] at p2
          rw [jbr_n g1, m_ones (by omega), bI_some, show cj 173 [jI (nI (b' + 1) - 1)] m = some (some (jI (nI (pop b'))), m) from by rw [nI_pred]; exact m_ones (by omega) m, bI_some, bk_le (by omega) (by omega)]
          by_cases g2 : pop b' ≤ pop s
          · rw [jbr_p g2]
            exact fin false ⟨fun z => absurd z (by decide), fun z => by rw [Nat.add_sub_cancel] at z; omega⟩
          · rw [jbr_n g2]
            exact fin true ⟨fun _ => Or.inr (by rw [Nat.add_sub_cancel]; omega), fun _ => rfl⟩) (2 ^ vc (sv S)) 0 0 (by omega) (Nat.le_refl 0)
      refine Eq.trans L.1 ?_
      show evj 190 101 [jR 10 64, jU, jI (nI (vc (sv S))), jI (nI (drM (sv S) f (2 ^ vc (sv S))) - 1), jI (nI (2 ^ vc (sv S))), jU, jU] [] m = _
      rw [e_M_drop_101, kI_1 (by omega), jbr_p (by rw [kI_le (by omega) (by omega)]; omega), dr_f _ _ w5, nI_pred]
    · have fe : fDr x (sv S) = _ := if_neg h1
      rw [fe, bt_n (decide_eq_false h1)]
      exact m_tel _ hW hM
