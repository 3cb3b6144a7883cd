/-! fetch: the reference; fetch, inTime -/
theorem m_meas {μ : jm} {v : vst} (hw : WV v) (hv : MV μ 0 v) : ∃ m, cj 183 [jR 10 64] μ = some (none, m) ∧ (∀ i j, i < 6 → j < 6 → gI m 72 (6 * i + j) = nI (dst v i j)) ∧ fI 72 72 μ m := by
  rw [e_M_measure]
  obtain ⟨m1, a1, a2, a3⟩ := lp_r (W := fun k (m : jm) => evj 183 2 [jR 10 64, jI (nI k), jU, jU] [] m) (n := 36) (fun k m => (∀ x, x < k → gI m 72 x = nI (fw0 v (x / 6) (x % 6))) ∧ fI 72 72 μ m) (fun k m hk hI => by
    obtain ⟨i1, i2⟩ := hI
    show ∃ a', evj _ _ _ _ _ = evj _ _ _ _ _ ∧ _
    have hv1 := MV_fI i2 (by omega) hw hv
    have hD : gI m 65 k = nI (bN ((vD v (k / 6)).testBit (k % 6))) := by have := hv1.1 (k / 6) (k % 6) (by omega) (by omega); rwa [show 0 + 6 * (k / 6) + k % 6 = k from by omega] at this
    have key : ∀ y, y = nI (fw0 v (k / 6) (k % 6)) → (∀ x, x < k + 1 → gI (sI m 72 k y) 72 x = nI (fw0 v (x / 6) (x % 6))) ∧ fI 72 72 μ (sI m 72 k y) := fun y hy => ⟨fun x hx => by
      by_cases e : x = k
      · rw [e, gI_eq, hy]
      · rw [gI_ne _ (by omega)]; exact i1 x (by omega), fI_t i2 (fI_s m (by omega) (by omega))⟩
    rw [e_M_measure_2, li36, bk_le (by omega) (by omega), jbr_n (by omega), show (7 : Int32) = nI 7 from rfl, show decide (¬ nI 7 = 0) = true from by decide, jgd_t, pk_rem (by omega) (by omega) (by omega), li0, bk_ne (by omega) (by omega), inB_nI (j := k) (n := 560) (by omega) (by omega), jgd_t, inB_nI (j := k) (n := 36) (by omega) (by omega)]
    simp only [jgd_t]
    rw [ixn (by omega), hD, show nI k + 1 = nI (k + 1) from nI_add k 1]
    unfold fw0 at key
    by_cases e : k % 7 = 0
    · rw [jbr_n (fun z => z e)]
      exact ⟨_, rfl, key _ (by rw [if_pos (by omega)])⟩
    · rw [jbr_p e]
      rw [if_neg (show ¬ k / 6 = k % 6 by omega)] at key
      cases hb : (vD v (k / 6)).testBit (k % 6)
      · rw [jbr_p (by decide)]
        exact ⟨_, rfl, key _ (by rw [hb, if_neg (by decide)]; rfl)⟩
      · rw [jbr_n (by decide)]
        exact ⟨_, rfl, key _ (by rw [hb, if_pos rfl]; rfl)⟩) 36 0 μ (by omega) ⟨fun x hx => absurd hx (Nat.not_lt_zero x), fI_r _ _ _⟩
  obtain ⟨m2, b1, b2, b3⟩ := lp_r (W := fun w (m : jm) => evj 183 49 [jR 10 64, jI (nI w), jU, jU] [] m) (n := 6) (fun w m => (∀ x, x < 36 → gI m 72 x = nI (fwD v w (x / 6) (x % 6))) ∧ fI 72 72 μ m) (fun w m hw6 hI => by
    obtain ⟨i1, i2⟩ := hI
    show ∃ a', evj _ _ _ _ _ = evj _ _ _ _ _ ∧ _
    rw [e_M_measure_49, li6, bk_le (by omega) (by omega), jbr_n (by omega)]
    obtain ⟨m3, c1, c2, c3⟩ := lp_r (W := fun k (m : jm) => evj 183 57 [jR 10 64, jI (nI w), jI (nI k), jU] [] m) (n := 36) (fun k m => (∀ x, x < 36 → gI m 72 x = nI (if x < k then fwD v (w + 1) (x / 6) (x % 6) else fwD v w (x / 6) (x % 6))) ∧ fI 72 72 μ m) (fun k m hk hI => by
      obtain ⟨j1, j2⟩ := hI
      show ∃ a', evj _ _ _ _ _ = evj _ _ _ _ _ ∧ _
      have h0 := fw_0 v w w
      have fS : ∀ i j, fwD v (w + 1) i j = min (fwD v w i j) (fwD v w i w + fwD v w w j) := fun i j => rfl
      have r1 : gI m 72 (k / 6 * 6 + w) = nI (fwD v w (k / 6) w) := by
        rw [j1 _ (by omega), show (k / 6 * 6 + w) / 6 = k / 6 from by omega, show (k / 6 * 6 + w) % 6 = w from by omega]
        split
        · rw [fS, h0]; congr 1; omega
        · rfl
      have r2 : gI m 72 (6 * w + k % 6) = nI (fwD v w w (k % 6)) := by
        rw [j1 _ (by omega), show (6 * w + k % 6) / 6 = w from by omega, show (6 * w + k % 6) % 6 = k % 6 from by omega]
        split
        · rw [fS, h0]; congr 1; omega
        · rfl
      have r3 : gI m 72 k = nI (fwD v w (k / 6) (k % 6)) := by rw [j1 k hk, if_neg (by omega)]
      have q1 := fw_b v (k / 6) w w
      have q2 := fw_b v w (k % 6) w
      have q3 := fw_b v (k / 6) (k % 6) w
      have key : ∀ y, y = nI (fwD v (w + 1) (k / 6) (k % 6)) → (∀ x, x < 36 → gI (sI m 72 k y) 72 x = nI (if x < k + 1 then fwD v (w + 1) (x / 6) (x % 6) else fwD v w (x / 6) (x % 6))) ∧ fI 72 72 μ (sI m 72 k y) := fun y hy => ⟨fun x hx => by
        by_cases e : x = k
        · rw [e, gI_eq, hy, if_pos (by omega)]
        · rw [gI_ne _ (by omega), j1 x hx]
          by_cases e2 : x < k
          · rw [if_pos e2, if_pos (by omega)]
          · rw [if_neg e2, if_neg (by omega)], fI_t j2 (fI_s m (by omega) (by omega))⟩
      rw [e_M_measure_57, li36, bk_le (by omega) (by omega), jbr_n (by omega), show (6 : Int32) = nI 6 from rfl, show decide (¬ nI 6 = 0) = true from by decide, jgd_t, pk_rem (by omega) (by omega) (by omega), pk_div (by omega) (by omega) (by omega), kI_mul, nI_add, kI_mul, nI_add, inB_nI (j := k / 6 * 6 + w) (by omega) (by omega), inB_nI (j := 6 * w + k % 6) (by omega) (by omega), inB_nI (j := k) (by omega) (by omega)]
      simp only [jgd_t]
      rw [ixn (n := k) (by omega), ixn (n := k / 6 * 6 + w) (by omega), ixn (n := 6 * w + k % 6) (by omega), r1, r2, r3, nI_add, bk_le (by omega) (by omega), show nI k + 1 = nI (k + 1) from nI_add k 1]
      by_cases e : fwD v w (k / 6) (k % 6) ≤ fwD v w (k / 6) w + fwD v w w (k % 6)
      · rw [jbr_p e]
        exact ⟨_, rfl, key _ (by rw [fS, Nat.min_eq_left e])⟩
      · rw [jbr_n e]
        exact ⟨_, rfl, key _ (by rw [fS, Nat.min_eq_right (by omega)])⟩) 36 0 m (by omega) ⟨fun x hx => by rw [if_neg (Nat.not_lt_zero x)]; exact i1 x hx, i2⟩
    refine ⟨m3, Eq.trans c1 ?_, fun x hx => by rw [c2 x hx, if_pos hx], c3⟩
    show evj _ _ _ _ _ = _
    rw [e_M_measure_57, jbr_p (by decide), show nI w + 1 = nI (w + 1) from nI_add w 1]) 6 0 m1 (by omega) ⟨a2, a3⟩
  refine ⟨m2, Eq.trans a1 ?_, fun i j hi hj => ?_, b3⟩
  · show evj _ _ _ _ _ = _
    rw [e_M_measure_2, jbr_p (by decide)]
    refine Eq.trans b1 ?_
    show evj _ _ _ _ _ = _
    rw [e_M_measure_49, jbr_p (by decide)]
  · rw [b2 (6 * i + j) (by omega), show (6 * i + j) / 6 = i from by omega, show (6 * i + j) % 6 = j from by omega, fw_e hw hi hj]
def FB (m : jm) (v : vst) : Prop := ∀ i j, i < 6 → j < 6 → gI m 72 (6 * i + j) = nI (dst v i j)
theorem m_sOf {m : jm} {v : vst} {s r t : Nat} (hw : WV v) (hv : MV m 0 v) (hF : FB m v) (hr : r < 6) (hs : s < 2 ^ vn v) (ht : t ≤ 9) : cj 184 [jR 10 64, jI (nI s), jI (nI r), jI (nI t)] m = some (some (jI (nI (sS v s r t))), m) := by
  have w3 : vn v ≤ 7 := hw.2.2.1
  have h27 : 2 ^ vn v ≤ 2 ^ 7 := Nat.pow_le_pow_right (by omega) w3
  have h72 : gI m 65 72 = nI (vn v) := hv.2.2.1
  rw [e_M_stepsOf]
  have L := lp_f (W := fun p x => evj 184 6 [jR 10 64, jI (nI s), jI (nI r), jI (nI t), jI (nI x), jI (nI p), jU] [] m) (f := fun p x => x + sSf v s r t p) (n := vn v) (fun _ _ => True) (fun p x hp _ => by
    refine ⟨?_, trivial⟩
    show evj _ _ _ _ _ = evj _ _ _ _ _
    obtain ⟨-, -, w43, -⟩ := hw.2.2.2.1 p hp
    have hd := dst_v v (vR v p) r
    have hR : gI m 65 (87 + p) = nI (vR v p) := by have := (hv.2.2.2.1 p hp).2.2.1; rwa [show 0 + 87 + p = 87 + p from by omega] at this
    rw [e_M_stepsOf_6, show inB (72 : Int32) 560 = true from by decide, jgd_t, show ix (72 : Int32) = 72 from by decide, h72, bk_le (by omega) (by omega), jbr_n (by omega), m_has (by omega) (by omega), bI_some, show nI p + 1 = nI (p + 1) from nI_add p 1]
    unfold sSf
    cases hb : s.testBit p
    · rw [bf_p rfl, jbr_p (ge0 (by omega)), if_neg (by decide), li0, nI_add]
    · rw [bf_n rfl, li87, nI_add, inB_nI (by omega) (by omega), jgd_t, ixn (by omega), hR, show (6 : Int32) = nI 6 from rfl, kI_mul, nI_add, inB_nI (by omega) (by omega), jgd_t, ixn (by omega), hF _ _ w43 hr, bk_le (by omega) (by omega), if_pos rfl]
      by_cases hl : dst v (vR v p) r ≤ t
      · rw [jbr_p hl, if_pos hl, nI_add]
      · rw [jbr_n hl, if_neg hl, li1000, nI_add]) (vn v) 0 0 (by omega) trivial
  refine Eq.trans L.1 ?_
  show evj _ _ _ _ _ = _
  rw [e_M_stepsOf_6, show inB (72 : Int32) 560 = true from by decide, jgd_t, show ix (72 : Int32) = 72 from by decide, h72, jbr_p (by rw [kI_le (by omega) (by omega)]; omega)]
  rfl
theorem sdb_t {v : vst} (s c : Nat) : ∀ n, (itr (fun c b => if say v s (vC v c) = true then b ||| 2 ^ c else b) n 0 0).testBit c = (decide (c < n) && say v s (vC v c))
  | 0 => by
    show (0 : Nat).testBit c = _
    rw [Nat.zero_testBit, decide_eq_false (Nat.not_lt_zero c), Bool.false_and]
  | n + 1 => by
    rw [itr_s, Nat.zero_add]
    have ih := sdb_t (v := v) s c n
    by_cases e : c = n
    · subst e
      cases h : say v s (vC v c)
      · rw [if_neg (by decide), ih, h, Bool.and_false, Bool.and_false]
      · rw [if_pos rfl, Nat.testBit_or, Nat.testBit_two_pow, decide_eq_true rfl, Bool.or_true, decide_eq_true (Nat.lt_succ_self c)]
        rfl
    · have : decide (c < n + 1) = decide (c < n) := decide_eq_decide.mpr (by omega)
      rw [this]
      split
      · rw [Nat.testBit_or, ih, Nat.testBit_two_pow, decide_eq_false (show ¬ n = c from fun z => e z.symm), Bool.or_false]
      · exact ih
theorem sdb_a {v : vst} {s w : Nat} (hw : w < 2 ^ vc v) : (sdb v s &&& w = w) ↔ sall v s w = true := by
  refine ⟨fun h => List.all_eq_true.mpr (fun c hc => ?_), fun h => ?_⟩
  · have hc := List.mem_range.mp hc
    cases hb : w.testBit c
    · rfl
    · have h2 : (sdb v s &&& w).testBit c = w.testBit c := by rw [h]
      unfold sdb at h2
      rw [Nat.testBit_and, sdb_t, hb, decide_eq_true hc, Bool.true_and, Bool.and_true] at h2
      rw [h2]
      rfl
  · apply Nat.eq_of_testBit_eq
    intro c
    unfold sdb
    rw [Nat.testBit_and, sdb_t]
    cases hb : w.testBit c
    · rw [Bool.and_false]
    · have hc := tb_n hw hb
      have := List.all_eq_true.mp h c (List.mem_range.mpr hc)
      rw [hb, Bool.not_true, Bool.false_or] at this
      rw [this, decide_eq_true hc]
      rfl
def rst (v : vst) (t s r : Nat) (q : Nat × Nat × Nat) : Nat × Nat × Nat := if sS v s r t < 1000 ∧ btr (sS v s r t) r s q then (sS v s r t, r, s) else q
def rin (v : vst) (t s n : Nat) (q : Nat × Nat × Nat) : Nat × Nat × Nat := if 0 < nrm v s t n ∧ btr (sS v s (nrm v s t n - 1) t) (nrm v s t n - 1) s q then (sS v s (nrm v s t n - 1) t, nrm v s t n - 1, s) else q
theorem rin_s (v : vst) (t s n : Nat) (q : Nat × Nat × Nat) : rst v t s n (rin v t s n q) = rin v t s (n + 1) q := by
  obtain ⟨h1, h2⟩ := nrm_p v s t n
  unfold rin
  rw [nrm_s]
  by_cases hx : sS v s n t < 1000
  · by_cases h0 : nrm v s t n = 0
    · rw [if_neg (fun z => absurd z.1 (by omega)), if_pos (show sS v s n t < 1000 ∧ (nrm v s t n = 0 ∨ sS v s n t < sS v s (nrm v s t n - 1) t) from ⟨hx, Or.inl h0⟩), Nat.add_sub_cancel]
      unfold rst
      by_cases hb : btr (sS v s n t) n s q
      · rw [if_pos ⟨hx, hb⟩, if_pos ⟨by omega, hb⟩]
      · rw [if_neg (fun z => hb z.2), if_neg (fun z => hb z.2)]
    · obtain ⟨b, hbe⟩ : ∃ b, nrm v s t n = b + 1 := ⟨nrm v s t n - 1, by omega⟩
      rw [hbe, Nat.add_sub_cancel]
      have h2 := h2 (by omega)
      rw [hbe, Nat.add_sub_cancel] at h2
      by_cases hl : sS v s n t < sS v s b t
      · rw [if_pos (show sS v s n t < 1000 ∧ (b + 1 = 0 ∨ sS v s n t < sS v s b t) from ⟨hx, Or.inr hl⟩), Nat.add_sub_cancel]
        by_cases hb : btr (sS v s b t) b s q
        · rw [if_pos (show 0 < b + 1 ∧ btr (sS v s b t) b s q from ⟨by omega, hb⟩), if_pos (show 0 < n + 1 ∧ btr (sS v s n t) n s q from ⟨by omega, Or.inl (by omega)⟩)]
          exact if_pos ⟨hx, Or.inl hl⟩
        · rw [if_neg (show ¬ (0 < b + 1 ∧ btr (sS v s b t) b s q) from fun z => hb z.2)]
          unfold rst
          by_cases hb2 : btr (sS v s n t) n s q
          · rw [if_pos ⟨hx, hb2⟩, if_pos ⟨by omega, hb2⟩]
          · rw [if_neg (fun z => hb2 z.2), if_neg (fun z => hb2 z.2)]
      · rw [if_neg (show ¬ (sS v s n t < 1000 ∧ (b + 1 = 0 ∨ sS v s n t < sS v s b t)) from fun z => by omega), Nat.add_sub_cancel]
        by_cases hb : btr (sS v s b t) b s q
        · rw [if_pos (show 0 < b + 1 ∧ btr (sS v s b t) b s q from ⟨by omega, hb⟩)]
          exact if_neg (fun z => by have z2 : sS v s n t < sS v s b t ∨ (sS v s n t = sS v s b t ∧ (n < b ∨ (n = b ∧ pop s < pop s))) := z.2; omega)
        · rw [if_neg (show ¬ (0 < b + 1 ∧ btr (sS v s b t) b s q) from fun z => hb z.2)]
          exact if_neg (fun z => hb (by have z2 := z.2; omega))
  · rw [if_neg (show ¬ (sS v s n t < 1000 ∧ (nrm v s t n = 0 ∨ sS v s n t < sS v s (nrm v s t n - 1) t)) from fun z => hx z.1)]
    exact if_neg (fun z => hx z.1)
def RB (m : jm) (q : Nat × Nat × Nat) : Prop := gI m 64 14 = nI q.1 ∧ (q.1 < 1000 → gI m 64 15 = nI q.2.1 ∧ gI m 64 16 = nI q.2.2) ∧ (¬ q.1 < 1000 → gI m 64 15 = -1 ∧ gI m 64 16 = -1)
def FM (μ m : jm) : Prop := ∀ a b, a ≠ 71 → a ≠ 72 → ¬ (a = 64 ∧ 14 ≤ b ∧ b ≤ 16) → m.1 a b = μ.1 a b ∧ m.2 a b = μ.2 a b
theorem FM_t {a b c : jm} (h : FM a b) (h2 : FM b c) : FM a c := fun x y h3 h4 h5 => ⟨(h2 x y h3 h4 h5).1.trans (h x y h3 h4 h5).1, (h2 x y h3 h4 h5).2.trans (h x y h3 h4 h5).2⟩
theorem FM_f {a b : jm} {lo hi : Nat} (h : fI lo hi a b) (h1 : 71 ≤ lo) (h2 : hi ≤ 72) : FM a b := fun x y h3 h4 h5 => h x y (by omega)
theorem FM_s (m : jm) {i : Nat} {y : Int32} (h1 : 14 ≤ i) (h2 : i ≤ 16) : FM m (sI m 64 i y) := fun a b h3 h4 h5 => ⟨if_neg (by omega), rfl⟩
theorem MV_FM {μ m : jm} {v : vst} (hw : WV v) (h : FM μ m) (hv : MV μ 0 v) : MV m 0 v := MV_of (fun b _ _ => (h 65 b (by omega) (by omega) (by omega)).1) hw hv
theorem RB_f {m m' : jm} {q : Nat × Nat × Nat} {lo hi : Nat} (h : fI lo hi m m') (h2 : 64 < lo) (hs : RB m q) : RB m' q := ⟨by rw [fI_g h (by omega)]; exact hs.1, fun z => ⟨by rw [fI_g h (by omega)]; exact (hs.2.1 z).1, by rw [fI_g h (by omega)]; exact (hs.2.1 z).2⟩, fun z => ⟨by rw [fI_g h (by omega)]; exact (hs.2.2 z).1, by rw [fI_g h (by omega)]; exact (hs.2.2 z).2⟩⟩
theorem QQ_r {v : vst} {t s r : Nat} {q : Nat × Nat × Nat} (hs : s < 2 ^ vn v) (hr : r < 6) (h : QQ v q) : QQ v (rst v t s r q) := by
  unfold rst
  split
  · rename_i hc
    exact Or.inr ⟨hc.1, hr, hs⟩
  · exact h
theorem m_room {m : jm} {v : vst} {t w s r : Nat} {q : Nat × Nat × Nat} (hw : WV v) (hv : MV m 0 v) (hF : FB m v) (hR : RB m q) (hQ : QQ v q) (hr : r < 6) (hs : s < 2 ^ vn v) (ht : t ≤ 9) : ∃ m', evj 182 89 [jR 10 64, jI (nI t), jI (nI w), jI (nI s), jI (nI r), jU, jU] [] m = evj 182 89 [jR 10 64, jI (nI t), jI (nI w), jI (nI s), jI (nI (r + 1)), jU, jU] [] m' ∧ RB m' (rst v t s r q) ∧ FB m' v ∧ FM m m' := by
  have w3 : vn v ≤ 7 := hw.2.2.1
  have h27 : 2 ^ vn v ≤ 2 ^ 7 := Nat.pow_le_pow_right (by omega) w3
  have hsb : sS v s r t ≤ 7000 := by
    have h1 := sumn_le (sSf v s r t) 1000 (vn v) (fun p _ => by
      have := dst_v v (vR v p) r
      unfold sSf
      split
      · split <;> omega
      · omega)
    have h2 : vn v * 1000 ≤ 7 * 1000 := Nat.mul_le_mul_right _ w3
    exact Nat.le_trans h1 h2
  have nx1 : nI r + 1 = nI (r + 1) := nI_add r 1
  have yes : sS v s r t < 1000 ∧ btr (sS v s r t) r s q → ∃ m', evj 182 164 [jR 10 64, jI (nI t), jI (nI w), jI (nI s), jI (nI r), jI (nI (sS v s r t)), jU] [] m = evj 182 89 [jR 10 64, jI (nI t), jI (nI w), jI (nI s), jI (nI (r + 1)), jU, jU] [] m' ∧ RB m' (rst v t s r q) ∧ FB m' v ∧ FM m m' := fun h => by
    have e : rst v t s r q = (sS v s r t, r, s) := if_pos h
    rw [e, e_M_fetchBy_164, jbr_n (by decide), nx1]
    refine ⟨_, rfl, ⟨?_, fun _ => ⟨?_, ?_⟩, fun z => absurd h.1 z⟩, fun i j hi hj => ?_, FM_t (FM_t (FM_s m (by omega) (by omega)) (FM_s _ (by omega) (by omega))) (FM_s _ (by omega) (by omega))⟩
    · rw [gI_ne _ (by omega), gI_ne _ (by omega), gI_eq]
    · rw [gI_ne _ (by omega), gI_eq]
    · rw [gI_eq]
    · rw [gI_ne _ (by omega), gI_ne _ (by omega), gI_ne _ (by omega)]
      exact hF i j hi hj
  have no : ¬ (sS v s r t < 1000 ∧ btr (sS v s r t) r s q) → ∃ m', evj 182 168 [jR 10 64, jI (nI t), jI (nI w), jI (nI s), jI (nI r), jI (nI (sS v s r t)), jU] [] m = evj 182 89 [jR 10 64, jI (nI t), jI (nI w), jI (nI s), jI (nI (r + 1)), jU, jU] [] m' ∧ RB m' (rst v t s r q) ∧ FB m' v ∧ FM m m' := fun h => by
    have e : rst v t s r q = q := if_neg h
    rw [e, e_M_fetchBy_168, jbr_p rfl, nx1]
    exact ⟨m, rfl, hR, hF, fun a b _ _ _ => ⟨rfl, rfl⟩⟩
  obtain ⟨k1, k2, k3⟩ := hR
  rw [e_M_fetchBy_89, li6, bk_le (by omega) (by omega), jbr_n (by omega), m_sOf hw hv hF hr hs ht, bI_some, k1]
  have hq1 : q.1 ≤ 1000 := by rcases hQ with h | h <;> omega
  rw [bk_lt (by omega) (by omega)]
  by_cases c1 : sS v s r t < q.1
  · rw [jbr_p c1]
    exact yes ⟨by omega, Or.inl c1⟩
  · rw [jbr_n c1, bk_ne (by omega) (by omega)]
    by_cases c2 : sS v s r t = q.1
    · rw [jbr_n (fun z => z c2), li1000, bk_le (by omega) (by omega)]
      by_cases c3 : 1000 ≤ sS v s r t
      · rw [jbr_p c3]
        exact no (fun z => by omega)
      · rcases hQ with h | ⟨g1, g2, g3⟩
        · omega
        · obtain ⟨k4, k5⟩ := k2 g1
          have p1 := pop_le s
          have p2 := pop_le q.2.2
          rw [jbr_n c3, k4, bk_lt (by omega) (by omega)]
          by_cases c4 : r < q.2.1
          · rw [jbr_p c4]
            exact yes ⟨by omega, Or.inr ⟨c2, Or.inl c4⟩⟩
          · rw [jbr_n c4, bk_ne (by omega) (by omega)]
            by_cases c5 : r = q.2.1
            · rw [jbr_n (fun z => z c5), m_ones (by omega), bI_some, k5, m_ones (by omega), bI_some, bk_le (by omega) (by omega)]
              by_cases c6 : pop q.2.2 ≤ pop s
              · rw [jbr_p c6]
                exact no (fun z => by have := z.2; omega)
              · rw [jbr_n c6]
                exact yes ⟨by omega, Or.inr ⟨c2, Or.inr ⟨c5, by omega⟩⟩⟩
            · rw [jbr_p c5]
              exact no (fun z => by have := z.2; omega)
    · rw [jbr_p c2]
      exact no (fun z => by have := z.2; omega)
theorem m_fetch {μ : jm} {v : vst} {t : Nat} (hw : WV v) (hv : MV μ 0 v) (ht : t ≤ 9) : ∃ m, cj 182 [jR 10 64, jI (nI t)] μ = some (none, m) ∧ RB m (skb v t (2 ^ vn v)) ∧ FM μ m := by
  obtain ⟨w3, w5, w8, w10⟩ := WB_of hw
  have h27 : 2 ^ vn v ≤ 2 ^ 7 := Nat.pow_le_pow_right (by omega) w3
  have h28 : 2 ^ vc v ≤ 2 ^ 8 := Nat.pow_le_pow_right (by omega) w5
  have hwl := spw_lt hw
  have h119 : gI μ 65 119 = nI (vp v) := hv.2.2.2.2.2.2.2.1
  rw [e_M_fetchBy]
  have L := lp_f (W := fun i x => evj 182 4 [jR 10 64, jI (nI t), jI (nI x), jI (nI i), jU, jU, jU] [] μ) (f := fun i s => s ||| 2 ^ vP v i) (n := vp v) (fun _ _ => True) (fun i x hi _ => by
    refine ⟨?_, trivial⟩
    show evj _ _ _ _ _ = evj _ _ _ _ _
    have hP := hw.2.2.2.2.2.2.2.2.1 i hi
    have hPi : gI μ 65 (120 + i) = nI (vP v i) := by have := hv.2.2.2.2.2.2.2.2.1 i hi; rwa [show 0 + 120 + i = 120 + i from by omega] at this
    rw [e_M_fetchBy_4, show (119 : Int32) = nI 119 from rfl, inB_nI (by omega) (by omega), jgd_t, ixn (by omega), h119, bk_le (by omega) (by omega), jbr_n (by omega), li120, nI_add, inB_nI (by omega) (by omega), jgd_t, ixn (by omega), hPi, kI_1 (by omega), kI_or, show nI i + 1 = nI (i + 1) from nI_add i 1]) (vp v) 0 0 (by omega) trivial
  obtain ⟨m0, d1, d2, d3⟩ := m_meas hw hv
  have f0 : FM μ (sI (sI (sI m0 64 14 (1000 : Int32)) 64 15 (-1 : Int32)) 64 16 (-1 : Int32)) := FM_t (FM_f d3 (by omega) (by omega)) (FM_t (FM_t (FM_s m0 (by omega) (by omega)) (FM_s _ (by omega) (by omega))) (FM_s _ (by omega) (by omega)))
  have hRB0 : RB (sI (sI (sI m0 64 14 (1000 : Int32)) 64 15 (-1 : Int32)) 64 16 (-1 : Int32)) (skb v t 0) := ⟨by rw [gI_ne _ (by omega), gI_ne _ (by omega), gI_eq]; rfl, fun z => absurd z (by show ¬ (1000 < 1000); omega), fun _ => ⟨by rw [gI_ne _ (by omega), gI_eq], by rw [gI_eq]⟩⟩
  have hFB0 : FB (sI (sI (sI m0 64 14 (1000 : Int32)) 64 15 (-1 : Int32)) 64 16 (-1 : Int32)) v := fun i j hi hj => by rw [gI_ne _ (by omega), gI_ne _ (by omega), gI_ne _ (by omega)]; exact d2 i j hi hj
  obtain ⟨m, e1, e2, e3, e4⟩ := lp_r (W := fun s (m : jm) => evj 182 58 [jR 10 64, jI (nI t), jI (nI (spw v (vp v))), jI (nI s), jU, jU, jU] [] m) (n := 2 ^ vn v) (fun s m => RB m (skb v t s) ∧ FB m v ∧ FM μ m) (fun s m hs hI => by
    obtain ⟨i1, i2, i3⟩ := hI
    show ∃ a', evj _ _ _ _ _ = evj _ _ _ _ _ ∧ _
    have hv1 := MV_FM hw i3 hv
    have hQ := QQ_b v t s (by omega)
    obtain ⟨m1, g1, g2⟩ := m_sdb (r := 0) (by omega) hw hv1 hs
    have hsl := sdb_lt hw s
    have hal : sdb v s &&& spw v (vp v) ≤ sdb v s := Nat.and_le_left
    have g1 : cj 176 [jR 10 64, jI (0 : Int32), jI (nI s)] m = some (some (jI (nI (sdb v s))), m1) := g1
    have hFB1 : FB m1 v := fun i j hi hj => by rw [fI_g g2 (by omega)]; exact i2 i j hi hj
    have hRB1 := RB_f g2 (by omega) i1
    have hFM1 := FM_t i3 (FM_f g2 (by omega) (by omega))
    rw [e_M_fetchBy_58, show inB (72 : Int32) 560 = true from by decide, jgd_t, show ix (72 : Int32) = 72 from by decide, show gI m 65 72 = nI (vn v) from hv1.2.2.1, kI_1 (by omega), bk_le (by omega) (by omega), jbr_n (by omega), g1, bI_some, kI_and, bk_eq (by omega) (by omega)]
    by_cases hc : sdb v s &&& spw v (vp v) = spw v (vp v)
    · have hsa := (sdb_a hwl).mp hc
      rw [jbr_p hc]
      obtain ⟨m2, k1, k2, k3, k4⟩ := lp_r (W := fun r (m : jm) => evj 182 89 [jR 10 64, jI (nI t), jI (nI (spw v (vp v))), jI (nI s), jI (nI r), jU, jU] [] m) (n := 6) (fun r m => RB m (rin v t s r (skb v t s)) ∧ FB m v ∧ FM μ m ∧ QQ v (rin v t s r (skb v t s))) (fun r m hr hI => by
        obtain ⟨j1, j2, j3, j4⟩ := hI
        obtain ⟨m', x1, x2, x3, x4⟩ := m_room (w := spw v (vp v)) hw (MV_FM hw j3 hv) j2 j1 j4 hr hs ht
        rw [rin_s] at x2
        have hq := QQ_r (t := t) hs hr j4
        rw [rin_s] at hq
        exact ⟨m', x1, x2, x3, FM_t j3 x4, hq⟩) 6 0 m1 (by omega) ⟨hRB1, hFB1, hFM1, hQ⟩
      obtain ⟨k3, k4, -⟩ := (⟨k3, k4⟩ : _ ∧ _)
      refine ⟨m2, Eq.trans k1 ?_, ?_, k3, k4⟩
      · show evj _ _ _ _ _ = _
        rw [e_M_fetchBy_89, jbr_p (by decide), e_M_fetchBy_199, show nI s + 1 = nI (s + 1) from nI_add s 1]
      · have e : skb v t (s + 1) = rin v t s 6 (skb v t s) := by
          rw [skb_s]
          unfold skst rin
          rw [hsa]
          by_cases hz : 0 < nrm v s t 6 ∧ btr (sS v s (nrm v s t 6 - 1) t) (nrm v s t 6 - 1) s (skb v t s)
          · rw [if_pos ⟨hz.1, hz.2, rfl⟩, if_pos hz]
          · rw [if_neg (fun z => hz ⟨z.1, z.2.1⟩), if_neg hz]
        rw [e]
        exact k2
    · have hsa : sall v s (spw v (vp v)) = false := by
        rw [← Bool.not_eq_true]
        exact fun z => hc ((sdb_a hwl).mpr z)
      rw [jbr_n hc, e_M_fetchBy_199, show nI s + 1 = nI (s + 1) from nI_add s 1]
      have e : skb v t (s + 1) = skb v t s := by
        rw [skb_s]
        exact if_neg (fun z => by rw [hsa] at z; exact absurd z.2.2 (by decide))
      rw [e]
      exact ⟨m1, rfl, hRB1, hFB1, hFM1⟩) (2 ^ vn v) 0 _ (by omega) ⟨hRB0, hFB0, f0⟩
  have hv2 := MV_FM hw e4 hv
  refine ⟨m, Eq.trans L.1 ?_, e2, e4⟩
  show evj 182 4 [jR 10 64, jI (nI t), jI (nI (spw v (vp v))), jI (nI (vp v)), jU, jU, jU] [] μ = _
  rw [e_M_fetchBy_4, show (119 : Int32) = nI 119 from rfl, inB_nI (by omega) (by omega), jgd_t, ixn (by omega), h119, jbr_p (by rw [kI_le (by omega) (by omega)]; omega), d1, bV_some]
  refine Eq.trans e1 ?_
  show evj _ _ _ _ _ = _
  rw [e_M_fetchBy_58, show inB (72 : Int32) 560 = true from by decide, jgd_t, show ix (72 : Int32) = 72 from by decide, show gI m 65 72 = nI (vn v) from hv2.2.2.1, kI_1 (by omega), jbr_p (by rw [kI_le (by omega) (by omega)]; omega)]
theorem MS_FM {μ m : jm} {S : sst} (hW : WS S) (h : FM μ m) (hM : MS μ S) : MS m S := by
  have e : setV S (sv S) = S := rfl
  rw [← e]
  exact MS_setV hW hM (MV_FM hW.1 h hM.1) (fun a b h1 h2 => h a b (by omega) (by omega) (fun z => by have := h2 z.1; omega))
theorem om_FM {μ m : jm} (h : FM μ m) : om μ m := fun a b ha => h a b (by omega) (by omega) (by omega)
def fFe (x : Int32) (v : vst) : Int32 := if un x < 3 then (if (skb v 9 (2 ^ vn v)).1 < 1000 then (if un x = 0 then nI (skb v 9 (2 ^ vn v)).1 else if un x = 1 then nI (skb v 9 (2 ^ vn v)).2.1 else nI (skb v 9 (2 ^ vn v)).2.2) else -1) else -2
theorem un_2 {x : Int32} {μ : jm} : cj 140 [jL x.toInt64, jL 0, jL 2] μ = some (some (jI (nI (bN (decide (un x < 3))))), μ) := m_in0 x 2 3 (by omega) rfl μ
theorem un_9 {x : Int32} {μ : jm} : cj 140 [jL x.toInt64, jL 0, jL 9] μ = some (some (jI (nI (bN (decide (un x < 10))))), μ) := m_in0 x 9 10 (by omega) rfl μ
theorem tel_1 (S : sst) : tel S (-1) = S := tel_p S (n := 0) (by omega)
theorem op_fetch (x : Int32) : opI 113 181 [jI x] Rel := by
  have h9 : ∀ S : sst, WS S → tel S (fFe x (sv S)) = if un x < 3 then S else tel S (-2) := fun S hW => by
    have w3 : vn (sv S) ≤ 7 := hW.1.2.2.1
    have h27 : 2 ^ vn (sv S) ≤ 2 ^ 7 := Nat.pow_le_pow_right (by omega) w3
    have hQ := QQ_b (sv S) 9 (2 ^ vn (sv S)) (Nat.le_refl _)
    unfold fFe
    by_cases h1 : un x < 3
    · rw [if_pos h1, if_pos h1]
      by_cases h2 : (skb (sv S) 9 (2 ^ vn (sv S))).1 < 1000
      · obtain ⟨g1, g2, g3⟩ := hQ.resolve_left (by omega)
        rw [if_pos h2]
        split
        · exact tel_n S (by omega)
        · split
          · exact tel_n S (by omega)
          · exact tel_n S (by omega)
      · rw [if_neg h2]; exact tel_1 S
    · rw [if_neg h1, if_neg h1]
  refine opI_of (fun S => fFe x (sv S)) (fun S => tel S (fFe x (sv S))) (fun S h => WS_tel h _) ?_ ?_
  · intro μ S hW hC
    rw [h9 S hW, e_N_fetch, ck3 (N := 2) (n := 2) rfl (by omega)]
    unfold fFe
    by_cases h1 : un x < 3
    · rw [if_pos h1, if_pos h1, if_pos h1]
      obtain ⟨m, e1, e2, e3⟩ := c_seek (t := 9) hW.1 hC.1 (by omega)
      have e1 : cj 57 [jR 2 53, jR 8 1, jR 1 50, jI (9 : Int32)] μ = _ := e1
      rw [e1, bI_some]
      refine ⟨m, ?_, CS_fI e3 (by omega) hC, oc_fI e3 (by omega)⟩
      by_cases h2 : (skb (sv S) 9 (2 ^ vn (sv S))).1 < 1000
      · obtain ⟨k1, k2⟩ := e2.2 h2
        rw [bt_p (decide_eq_true h2), if_pos h2, e2.1, scc_n h2, k1, k2, e_N_fetch_74, e_N_fetch_74, e_N_fetch_74]
        obtain ⟨j, hj, rfl⟩ := un_x h1 (by omega)
        rw [un_nI (by omega), li0, bk_ne (by omega) (by omega), li1, bk_ne (by omega) (by omega)]
        by_cases c0 : j = 0
        · rw [jbr_n (fun z => z c0), if_pos c0]
        · rw [jbr_p c0, if_neg c0]
          by_cases c1 : j = 1
          · rw [jbr_n (fun z => z c1), if_pos c1]
          · rw [jbr_p c1, if_neg c1]
      · rw [bt_n (decide_eq_false h2), if_neg h2]
    · rw [if_neg h1, if_neg h1, if_neg h1, e_N_fetch_9]
      exact c_tel _ hC
  · intro μ S hW hM
    have w3 : vn (sv S) ≤ 7 := hW.1.2.2.1
    have h27 : 2 ^ vn (sv S) ≤ 2 ^ 7 := Nat.pow_le_pow_right (by omega) w3
    rw [h9 S hW, e_M_fetch, un_2, bI_some]
    unfold fFe
    by_cases h1 : un x < 3
    · rw [if_pos h1, if_pos h1, bt_p (decide_eq_true h1)]
      obtain ⟨m, e1, e2, e3⟩ := m_fetch (t := 9) hW.1 hM.1 (by omega)
      have e1 : cj 182 [jR 10 64, jI (9 : Int32)] μ = _ := e1
      have hQ := QQ_b (sv S) 9 (2 ^ vn (sv S)) (Nat.le_refl _)
      rw [e1, bV_some]
      refine ⟨m, ?_, MS_FM hW e3 hM, om_FM e3⟩
      by_cases h2 : (skb (sv S) 9 (2 ^ vn (sv S))).1 < 1000
      · obtain ⟨k1, k2⟩ := e2.2.1 h2
        obtain ⟨g1, g2, g3⟩ := hQ.resolve_left (by omega)
        rw [k2, jbr_q (nI_nm1 (by omega)), if_pos h2, e2.1, k1]
        obtain ⟨j, hj, rfl⟩ := un_x h1 (by omega)
        rw [un_nI (by omega), li0, bk_ne (by omega) (by omega), li1, bk_ne (by omega) (by omega)]
        by_cases c0 : j = 0
        · rw [jbr_n (fun z => z c0), if_pos c0]
        · rw [jbr_p c0, if_neg c0]
          by_cases c1 : j = 1
          · rw [jbr_n (fun z => z c1), if_pos c1]
          · rw [jbr_p c1, if_neg c1]
      · obtain ⟨k1, k2⟩ := e2.2.2 h2
        rw [k2, jbr_m rfl, if_neg h2]
    · rw [if_neg h1, if_neg h1, bt_n (decide_eq_false h1)]
      exact m_tel _ hW hM
def fTi (x : Int32) (v : vst) : Int32 := if un x < 10 then (if (skb v (un x) (2 ^ vn v)).1 < 1000 then nI (skb v (un x) (2 ^ vn v)).1 else -1) else -2
theorem op_inTime (x : Int32) : opI 114 185 [jI x] Rel := by
  have h9 : ∀ S : sst, WS S → tel S (fTi x (sv S)) = if un x < 10 then S else tel S (-2) := fun S hW => by
    unfold fTi
    by_cases h1 : un x < 10
    · rw [if_pos h1, if_pos h1]
      by_cases h2 : (skb (sv S) (un x) (2 ^ vn (sv S))).1 < 1000
      · rw [if_pos h2]; exact tel_n S (by omega)
      · rw [if_neg h2]; exact tel_1 S
    · rw [if_neg h1, if_neg h1]
  refine opI_of (fun S => fTi x (sv S)) (fun S => tel S (fTi x (sv S))) (fun S h => WS_tel h _) ?_ ?_
  · intro μ S hW hC
    rw [h9 S hW, e_N_inTime, ck3 (N := 9) (n := 9) rfl (by omega)]
    unfold fTi
    by_cases h1 : un x < 10
    · rw [if_pos h1, if_pos h1, if_pos h1]
      obtain ⟨t, ht, rfl⟩ := un_x h1 (by omega)
      obtain ⟨m, e1, e2, e3⟩ := c_seek (t := t) hW.1 hC.1 (by omega)
      rw [e1, bI_some, un_nI (by omega)]
      refine ⟨m, ?_, CS_fI e3 (by omega) hC, oc_fI e3 (by omega)⟩
      by_cases h2 : (skb (sv S) t (2 ^ vn (sv S))).1 < 1000
      · rw [bf_n (decide_eq_true h2), if_pos h2, e2.1, scc_n h2]
      · rw [bf_p (decide_eq_false h2), if_neg h2]
    · rw [if_neg h1, if_neg h1, if_neg h1]
      exact c_tel _ hC
  · intro μ S hW hM
    have w3 : vn (sv S) ≤ 7 := hW.1.2.2.1
    have h27 : 2 ^ vn (sv S) ≤ 2 ^ 7 := Nat.pow_le_pow_right (by omega) w3
    rw [h9 S hW, e_M_inTime, un_9, bI_some]
    unfold fTi
    by_cases h1 : un x < 10
    · rw [if_pos h1, if_pos h1, bt_p (decide_eq_true h1)]
      obtain ⟨t, ht, rfl⟩ := un_x h1 (by omega)
      obtain ⟨m, e1, e2, e3⟩ := m_fetch (t := t) hW.1 hM.1 (by omega)
      have hQ := QQ_b (sv S) t (2 ^ vn (sv S)) (Nat.le_refl _)
      rw [e1, bV_some, un_nI (by omega)]
      refine ⟨m, ?_, MS_FM hW e3 hM, om_FM e3⟩
      by_cases h2 : (skb (sv S) t (2 ^ vn (sv S))).1 < 1000
      · obtain ⟨k1, k2⟩ := e2.2.1 h2
        obtain ⟨g1, g2, g3⟩ := hQ.resolve_left (by omega)
        rw [k2, jbr_q (nI_nm1 (by omega)), if_pos h2, e2.1]
      · obtain ⟨k1, k2⟩ := e2.2.2 h2
        rw [k2, jbr_m rfl, if_neg h2]
    · rw [if_neg h1, if_neg h1, bt_n (decide_eq_false h1)]
      exact m_tel _ hW hM
