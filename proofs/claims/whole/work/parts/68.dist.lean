/-! steps by doors -/
def exr (v : vst) (r n s : Nat) : Nat := itr (fun u s => if r.testBit u = true then s ||| vD v u else s) n 0 s
theorem exr_t (v : vst) (r s j : Nat) : ∀ n, (exr v r n s).testBit j = (s.testBit j || (List.range n).any (fun u => r.testBit u && (vD v u).testBit j))
  | 0 => by
    show s.testBit j = (s.testBit j || false)
    rw [Bool.or_false]
  | n + 1 => by
    have e : exr v r (n + 1) s = if r.testBit n = true then exr v r n s ||| vD v n else exr v r n s := by
      show itr _ (n + 1) 0 s = _
      rw [itr_s, Nat.zero_add]
      rfl
    have ih := exr_t v r s j n
    rw [e, List.range_succ, List.any_append]
    show _ = (s.testBit j || ((List.range n).any (fun u => r.testBit u && (vD v u).testBit j) || ((r.testBit n && (vD v n).testBit j) || false)))
    cases h : r.testBit n
    · rw [if_neg (by decide), ih, Bool.false_and, Bool.or_false, Bool.or_false]
    · rw [if_pos rfl, Nat.testBit_or, ih, Bool.true_and, Bool.or_false, Bool.or_assoc]
def rcd (v : vst) (a : Nat) : Nat → Nat
  | 0 => 2 ^ a
  | d + 1 => exr v (rcd v a d) 6 (rcd v a d)
theorem rcd_t (v : vst) (a d j : Nat) : (rcd v a (d + 1)).testBit j = true ↔ (rcd v a d).testBit j = true ∨ ∃ u, u < 6 ∧ (rcd v a d).testBit u = true ∧ (vD v u).testBit j = true := by
  show (exr v (rcd v a d) 6 (rcd v a d)).testBit j = true ↔ _
  rw [exr_t, Bool.or_eq_true, List.any_eq_true]
  refine or_congr Iff.rfl ⟨fun ⟨u, h1, h2⟩ => ?_, fun ⟨u, h1, h2, h3⟩ => ⟨u, List.mem_range.mpr h1, by rw [h2, h3]; rfl⟩⟩
  rw [Bool.and_eq_true] at h2
  exact ⟨u, List.mem_range.mp h1, h2.1, h2.2⟩
theorem rcd_m (v : vst) (a : Nat) {d e j : Nat} (h : d ≤ e) (hj : (rcd v a d).testBit j = true) : (rcd v a e).testBit j = true := by
  induction h with
  | refl => exact hj
  | step _ ih => exact (rcd_t v a _ j).mpr (Or.inl ih)
theorem rcd_c (v : vst) {a m p : Nat} (hm : (rcd v a p).testBit m = true) : ∀ q j, (rcd v m q).testBit j = true → (rcd v a (p + q)).testBit j = true
  | 0, j, h => by
    have h : (2 ^ m).testBit j = true := h
    rw [Nat.testBit_two_pow, decide_eq_true_eq] at h
    rw [← h]
    exact hm
  | q + 1, j, h => by
    rcases (rcd_t v m q j).mp h with h | ⟨u, h1, h2, h3⟩
    · exact rcd_m v a (Nat.le_succ _) (rcd_c v hm q j h)
    · exact (rcd_t v a (p + q) j).mpr (Or.inr ⟨u, h1, rcd_c v hm q u h2, h3⟩)
theorem exr_lt {v : vst} (hw : WV v) {r s : Nat} (hs : s < 64) : ∀ n, n ≤ 6 → exr v r n s < 64
  | 0, _ => hs
  | n + 1, h => by
    have e : exr v r (n + 1) s = if r.testBit n = true then exr v r n s ||| vD v n else exr v r n s := by
      show itr _ (n + 1) 0 s = _
      rw [itr_s, Nat.zero_add]
      rfl
    rw [e]
    have ih := exr_lt hw hs (r := r) n (by omega)
    split
    · exact or_lt 6 ih (hw.1 n (by omega)).1
    · exact ih
theorem rcd_lt {v : vst} (hw : WV v) {a : Nat} (ha : a < 6) : ∀ d, rcd v a d < 64
  | 0 => two_lt (n := 6) ha
  | d + 1 => exr_lt hw (rcd_lt hw ha d) 6 (by omega)
theorem pop_ss : ∀ s, s < 64 → ∀ t, t < 64 → (!decide (adn s t = 0) || (decide (s = t) || decide (pop s < pop t))) = true := by decide +kernel
theorem pop_6 : ∀ s, s < 64 → (!decide (6 ≤ pop s) || decide (s = 63)) = true := by decide +kernel
theorem pop_2 : ∀ a, a < 6 → pop (2 ^ a) = 1 := by decide +kernel
theorem adn_s0 {s t : Nat} (h : ∀ j, s.testBit j = true → t.testBit j = true) : adn s t = 0 := by
  apply Nat.eq_of_testBit_eq
  intro i
  rw [adn_tb, Nat.zero_testBit]
  cases h1 : s.testBit i
  · rfl
  · rw [h i h1]; rfl
theorem rcd_g {v : vst} (hw : WV v) {a : Nat} (ha : a < 6) : ∀ d, rcd v a (d + 1) = rcd v a d ∨ d + 1 ≤ pop (rcd v a d)
  | 0 => Or.inr (by rw [show rcd v a 0 = 2 ^ a from rfl, pop_2 a ha]; exact Nat.le_refl _)
  | d + 1 => by
    rcases rcd_g hw ha d with h | h
    · refine Or.inl ?_
      show exr v (rcd v a (d + 1)) 6 (rcd v a (d + 1)) = rcd v a (d + 1)
      rw [h]
      exact h
    · have h2 := pop_ss (rcd v a d) (rcd_lt hw ha d) (rcd v a (d + 1)) (rcd_lt hw ha (d + 1))
      rw [decide_eq_true (adn_s0 (fun j hj => rcd_m v a (Nat.le_succ d) hj)), Bool.not_true, Bool.false_or, Bool.or_eq_true] at h2
      rcases h2 with h2 | h2
      · refine Or.inl ?_
        have h2 := of_decide_eq_true h2
        show exr v (rcd v a (d + 1)) 6 (rcd v a (d + 1)) = rcd v a (d + 1)
        rw [← h2]
        exact h2.symm
      · exact Or.inr (by have := of_decide_eq_true h2; omega)
theorem rcd_6 {v : vst} (hw : WV v) {a : Nat} (ha : a < 6) {j : Nat} (hj : j < 6) : ∀ n, (rcd v a n).testBit j = true → (rcd v a 5).testBit j = true
  | 0, h => rcd_m v a (Nat.zero_le 5) h
  | n + 1, h => by
    by_cases hn : n + 1 ≤ 5
    · exact rcd_m v a hn h
    · have h5 : rcd v a 6 = rcd v a 5 ∨ rcd v a 5 = 63 := by
        rcases rcd_g hw ha 5 with z | z
        · exact Or.inl z
        · have h6 := pop_6 (rcd v a 5) (rcd_lt hw ha 5)
          rw [decide_eq_true z, Bool.not_true, Bool.false_or] at h6
          exact Or.inr (of_decide_eq_true h6)
      rcases (rcd_t v a n j).mp h with h1 | ⟨u, u1, u2, u3⟩
      · exact rcd_6 hw ha hj n h1
      · rcases h5 with z | z
        · rw [← z]
          exact (rcd_t v a 5 j).mpr (Or.inr ⟨u, u1, rcd_6 hw ha u1 n u2, u3⟩)
        · rw [z]
          match j, hj with
          | 0, _ => decide
          | 1, _ => decide
          | 2, _ => decide
          | 3, _ => decide
          | 4, _ => decide
          | 5, _ => decide
/-- steps from one room to another; 100: no way -/
def dsf (v : vst) (a b n : Nat) : Nat := itr (fun d x => if x = 100 ∧ (rcd v a d).testBit b = true then d else x) n 0 100
theorem dsf_s (v : vst) (a b n : Nat) : dsf v a b (n + 1) = if dsf v a b n = 100 ∧ (rcd v a n).testBit b = true then n else dsf v a b n := by
  show itr _ (n + 1) 0 _ = _
  rw [itr_s, Nat.zero_add]
  rfl
theorem dsf_p (v : vst) (a b : Nat) : ∀ n, n ≤ 100 → (dsf v a b n = 100 ∧ ∀ d, d < n → (rcd v a d).testBit b = false) ∨ (dsf v a b n < n ∧ (rcd v a (dsf v a b n)).testBit b = true ∧ ∀ d, d < dsf v a b n → (rcd v a d).testBit b = false)
  | 0, _ => Or.inl ⟨rfl, fun d hd => absurd hd (Nat.not_lt_zero d)⟩
  | n + 1, hn => by
    rw [dsf_s]
    rcases dsf_p v a b n (by omega) with ⟨h1, h2⟩ | ⟨h1, h2, h3⟩
    · cases hb : (rcd v a n).testBit b
      · rw [if_neg (fun z => absurd z.2 (by decide))]
        refine Or.inl ⟨h1, fun d hd => ?_⟩
        by_cases e : d = n
        · rw [e]; exact hb
        · exact h2 d (by omega)
      · rw [if_pos ⟨h1, rfl⟩]
        exact Or.inr ⟨by omega, hb, h2⟩
    · rw [if_neg (fun z => by omega)]
      exact Or.inr ⟨by omega, h2, h3⟩
def dst (v : vst) (a b : Nat) : Nat := dsf v a b 6
theorem dst_v (v : vst) (a b : Nat) : dst v a b = 100 ∨ dst v a b ≤ 5 := by
  rcases dsf_p v a b 6 (by omega) with ⟨h, _⟩ | ⟨h, _⟩
  · exact Or.inl h
  · exact Or.inr (by show dsf v a b 6 ≤ 5; omega)
theorem dst_le {v : vst} (hw : WV v) {a b n : Nat} (ha : a < 6) (hb : b < 6) (h : (rcd v a n).testBit b = true) : dst v a b ≤ n ∧ dst v a b ≤ 5 := by
  have h5 := rcd_6 hw ha hb n h
  rcases dsf_p v a b 6 (by omega) with ⟨h1, h2⟩ | ⟨h1, h2, h3⟩
  · rw [h2 5 (by omega)] at h5
    exact absurd h5 (by decide)
  · refine ⟨?_, by show dsf v a b 6 ≤ 5; omega⟩
    refine Nat.le_of_not_lt (fun hlt => ?_)
    rw [h3 n hlt] at h
    exact absurd h (by decide)
/-- by all rooms between, one behind the other -/
def fw0 (v : vst) (i j : Nat) : Nat := if i = j then 0 else if (vD v i).testBit j = true then 1 else 100
def fwS (E : Nat → Nat → Nat) (m i j : Nat) : Nat := min (E i j) (E i m + E m j)
def fwD (v : vst) : Nat → Nat → Nat → Nat
  | 0 => fw0 v
  | m + 1 => fwS (fwD v m) m
theorem fw_0 (v : vst) (i : Nat) : ∀ m, fwD v m i i = 0
  | 0 => if_pos rfl
  | m + 1 => by
    have := fw_0 v i m
    show min (fwD v m i i) _ = 0
    omega
theorem fw_t (v : vst) : ∀ m k i j, k < m → fwD v m i j ≤ fwD v m i k + fwD v m k j
  | 0, k, _, _, h => absurd h (Nat.not_lt_zero k)
  | m + 1, k, i, j, h => by
    show min (fwD v m i j) (fwD v m i m + fwD v m m j) ≤ min (fwD v m i k) (fwD v m i m + fwD v m m k) + min (fwD v m k j) (fwD v m k m + fwD v m m j)
    by_cases e : k = m
    · subst e
      have h0 := fw_0 v k k
      omega
    · have h1 := fw_t v m k i j (by omega)
      have h2 := fw_t v m k m j (by omega)
      have h3 := fw_t v m k i m (by omega)
      omega
theorem fw_a (v : vst) (i j : Nat) : ∀ m, fwD v m i j ≤ fw0 v i j
  | 0 => Nat.le_refl _
  | m + 1 => by
    have := fw_a v i j m
    show min (fwD v m i j) _ ≤ _
    omega
theorem fw_s (v : vst) : ∀ m, m ≤ 6 → ∀ i j, i < 6 → j < 6 → fwD v m i j < 100 → (rcd v i (fwD v m i j)).testBit j = true
  | 0, _, i, j, hi, hj, h => by
    have h : fw0 v i j < 100 := h
    show (rcd v i (fw0 v i j)).testBit j = true
    unfold fw0 at h ⊢
    by_cases e : i = j
    · rw [if_pos e, e]
      show (2 ^ j).testBit j = true
      rw [Nat.testBit_two_pow, decide_eq_true rfl]
    · rw [if_neg e] at h ⊢
      by_cases e2 : (vD v i).testBit j = true
      · rw [if_pos e2]
        refine (rcd_t v i 0 j).mpr (Or.inr ⟨i, hi, ?_, e2⟩)
        show (2 ^ i).testBit i = true
        rw [Nat.testBit_two_pow, decide_eq_true rfl]
      · rw [if_neg e2] at h
        omega
  | m + 1, hm, i, j, hi, hj, h => by
    have h : min (fwD v m i j) (fwD v m i m + fwD v m m j) < 100 := h
    show (rcd v i (min (fwD v m i j) (fwD v m i m + fwD v m m j))).testBit j = true
    by_cases e : fwD v m i j ≤ fwD v m i m + fwD v m m j
    · rw [Nat.min_eq_left e]
      exact fw_s v m (by omega) i j hi hj (by omega)
    · rw [Nat.min_eq_right (by omega)]
      exact rcd_c v (fw_s v m (by omega) i m hi (by omega) (by omega)) _ j (fw_s v m (by omega) m j (by omega) hj (by omega))
theorem fw_c {v : vst} {i : Nat} (hi : i < 6) : ∀ n j, j < 6 → (rcd v i n).testBit j = true → fwD v 6 i j ≤ n
  | 0, j, hj, h => by
    have h : (2 ^ i).testBit j = true := h
    rw [Nat.testBit_two_pow, decide_eq_true_eq] at h
    rw [h, fw_0]
    exact Nat.le_refl _
  | n + 1, j, hj, h => by
    rcases (rcd_t v i n j).mp h with h | ⟨u, h1, h2, h3⟩
    · have := fw_c hi n j hj h
      omega
    · have a1 := fw_c hi n u h1 h2
      have a2 := fw_t v 6 u i j h1
      have a3 := fw_a v u j 6
      have a4 : fw0 v u j ≤ 1 := by
        unfold fw0
        rw [h3]
        split
        · omega
        · rw [if_pos rfl]; omega
      omega
theorem fw_e {v : vst} (hw : WV v) {i j : Nat} (hi : i < 6) (hj : j < 6) : fwD v 6 i j = dst v i j := by
  have hle : fwD v 6 i j ≤ 100 := Nat.le_trans (fw_a v i j 6) (by unfold fw0; split <;> (try split) <;> omega)
  rcases dsf_p v i j 6 (by omega) with ⟨h1, h2⟩ | ⟨h1, h2, h3⟩
  · have h1 : dst v i j = 100 := h1
    by_cases e : fwD v 6 i j < 100
    · have := dst_le hw hi hj (fw_s v 6 (by omega) i j hi hj e)
      omega
    · omega
  · have a1 : fwD v 6 i j ≤ dst v i j := fw_c hi _ j hj h2
    have h1 : dst v i j < 6 := h1
    have := dst_le hw hi hj (fw_s v 6 (by omega) i j hi hj (by omega))
    omega
theorem fw_b (v : vst) (i j m : Nat) : fwD v m i j ≤ 100 := Nat.le_trans (fw_a v i j m) (by unfold fw0; split <;> (try split) <;> omega)
