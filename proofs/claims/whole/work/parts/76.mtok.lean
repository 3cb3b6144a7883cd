/-! read: the reference's words and numbers -/
theorem m_isl {b : Nat} (hb : b < 256) (μ : jm) : cj 140 [jL ((nI b).toInt64), jL (97 : Int64), jL (122 : Int64)] μ = some (some (jI (nI (bN (isl b)))), μ) := by
  rw [m_in, nI_toInt (by omega), show (97 : Int64).toInt = 97 from rfl, show (122 : Int64).toInt = 122 from rfl]
  unfold isl
  by_cases h : 97 ≤ b ∧ b ≤ 122
  · rw [if_pos (by omega), decide_eq_true h.1, decide_eq_true h.2]; rfl
  · have : (decide (97 ≤ b) && decide (b ≤ 122)) = false := by
      rw [Bool.and_eq_false_iff, decide_eq_false_iff_not, decide_eq_false_iff_not]; omega
    rw [if_neg (by omega), this]; rfl
theorem m_isf {b : Nat} (hb : b < 256) (μ : jm) : cj 140 [jL ((nI b).toInt64), jL (48 : Int64), jL (57 : Int64)] μ = some (some (jI (nI (bN (isf b)))), μ) := by
  rw [m_in, nI_toInt (by omega), show (48 : Int64).toInt = 48 from rfl, show (57 : Int64).toInt = 57 from rfl]
  unfold isf
  by_cases h : 48 ≤ b ∧ b ≤ 57
  · rw [if_pos (by omega), decide_eq_true h.1, decide_eq_true h.2]; rfl
  · have : (decide (48 ≤ b) && decide (b ≤ 57)) = false := by
      rw [Bool.and_eq_false_iff, decide_eq_false_iff_not, decide_eq_false_iff_not]; omega
    rw [if_neg (by omega), this]; rfl
theorem isl_i {b : Nat} (h : isl b = true) : 97 ≤ b ∧ b ≤ 122 := by
  unfold isl at h
  rw [Bool.and_eq_true, decide_eq_true_eq, decide_eq_true_eq] at h
  exact h
theorem isf_i {b : Nat} (h : isf b = true) : 48 ≤ b ∧ b ≤ 57 := by
  unfold isf at h
  rw [Bool.and_eq_true, decide_eq_true_eq, decide_eq_true_eq] at h
  exact h
theorem isf_nl {b : Nat} (h : isf b = true) : isl b = false := by
  have h := isf_i h
  unfold isl
  rw [Bool.and_eq_false_iff, decide_eq_false_iff_not, decide_eq_false_iff_not]
  omega
theorem lcd_p (T : Nat → Nat) (q : Nat) : ∀ n, (∀ i, i < n → 97 ≤ T (q + i) ∧ T (q + i) ≤ 122) → n ≤ 6 → lcd T q n < 32 ^ n
  | 0, _, _ => by rw [lcd_0]; decide
  | n + 1, h, hn => by
    have ih := lcd_p T q n (fun i hi => h i (by omega)) (by omega)
    have h1 := h n (by omega)
    rw [lcd_s, if_pos (by omega), Nat.pow_succ]
    generalize 32 ^ n = z at *
    omega
theorem lcd_b {T : Nat → Nat} {q n : Nat} (h : ∀ i, i < n → 97 ≤ T (q + i) ∧ T (q + i) ≤ 122) : lcd T q n < 9223372036854775808 := by
  by_cases h6 : 6 ≤ n
  · have e : lcd T q n = lcd T q 6 := itr_x h6 0 (fun j b hj => if_neg (by omega))
    rw [e]
    exact Nat.lt_of_lt_of_le (lcd_p T q 6 (fun i hi => h i (by omega)) (by omega)) (by decide)
  · exact Nat.lt_of_lt_of_le (Nat.lt_of_lt_of_le (lcd_p T q n h (by omega)) (Nat.pow_le_pow_right (by decide) (show n ≤ 6 by omega))) (by decide)
theorem m_word {m : jm} {T : Nat → Nat} {l q : Nat} (hx : TM m T l) (h1 : gI m 64 10 = nI q) (hq : q ≤ l) : ∃ m', cj 163 [jR 10 64] m = some (some (jI (if wno T q (wen T l q) 6 < 6 then nI (wno T q (wen T l q) 6) else -1)), m') ∧ gI m' 64 10 = nI (wen T l q) ∧ gI m' 64 11 = (if wno T q (wen T l q) 6 < 6 then gI m 64 11 else nI q) ∧ gT m m' := by
  obtain ⟨s1, s2, s3, s4⟩ := wen_p (T := T) (l := l) (p := q) hq
  have hl := hx.1
  rw [e_M_takeWord, h1]
  obtain ⟨m1, a1, -, a2, a3, a4⟩ := lp_r (W := fun p (m' : jm) => evj 163 7 [jR 10 64, jI (nI q), jL (lN (lcd T q (p - q))), jU, jU] [] m') (n := wen T l q) (fun p m' => q ≤ p ∧ gI m' 64 10 = nI p ∧ gI m' 64 11 = gI m 64 11 ∧ gT m m') (fun p m' hp hI => by
    obtain ⟨hpq, i1, i2, i3⟩ := hI
    show ∃ a', evj _ _ _ _ _ = evj _ _ _ _ _ ∧ _
    have hx1 := TM_g i3 hx
    obtain ⟨y1, y2⟩ := hx1.2.2 p (by omega)
    have hL := s4 p hpq hp
    have hL2 := isl_i hL
    obtain ⟨n, rfl⟩ : ∃ n, p = q + n := ⟨p - q, by omega⟩
    have e0 : q + n - q = n := by omega
    have e1 : q + n + 1 - q = n + 1 := by omega
    rw [e_M_takeWord_7, hx1.2.1, i1, bk_le (by omega) (by omega), jbr_n (by omega), inB_nI (by omega) (by omega), jgd_t, ixn (by omega), y2, m_isl y1, bI_some, hL, bf_n rfl, i1, kI_sub (by omega), li6, bk_le (by omega) (by omega), e0, e1]
    by_cases h6 : 6 ≤ n
    · rw [jbr_p h6, e_M_takeWord_75, i1, li1, nI_add, lcd_s, if_neg (by omega)]
      exact ⟨_, rfl, by omega, by rw [gI_eq], by rw [gI_ne _ (by omega)]; exact i2, gT_t i3 (gT_s m' (by omega) (by omega))⟩
    · rw [jbr_n h6, inB_nI (by omega) (by omega), jgd_t, ixn (by omega), y2, nI_l (by omega), show (32 : Int64) = lN 32 from rfl, lN_mul, lN_add, show (96 : Int64) = lN 96 from rfl, lN_sub (by omega), e_M_takeWord_75, i1, li1, nI_add, show 32 * lcd T q n + T (q + n) - 96 = lcd T q (n + 1) from by rw [lcd_s, if_pos (by omega)]; omega]
      exact ⟨_, rfl, by omega, by rw [gI_eq], by rw [gI_ne _ (by omega)]; exact i2, gT_t i3 (gT_s m' (by omega) (by omega))⟩) (wen T l q - q) q m (by omega) ⟨Nat.le_refl q, h1, rfl, gT_r m⟩
  have hx1 := TM_g a4 hx
  have hT : ∀ i, i < wen T l q - q → 97 ≤ T (q + i) ∧ T (q + i) ≤ 122 := fun i hi => isl_i (s4 (q + i) (by omega) (by omega))
  have ew : wcd (lcd T q (wen T l q - q)) = wno T q (wen T l q) 6 := by
    rw [wcd_e hT, show q + (wen T l q - q) = wen T l q from by omega]
  have a1 : evj 163 7 [jR 10 64, jI (nI q), jL (0 : Int64), jU, jU] [] m = evj 163 7 [jR 10 64, jI (nI q), jL (lN (lcd T q (wen T l q - q))), jU, jU] [] m1 := by
    have a1 : evj 163 7 [jR 10 64, jI (nI q), jL (lN (lcd T q (q - q))), jU, jU] [] m = evj 163 7 [jR 10 64, jI (nI q), jL (lN (lcd T q (wen T l q - q))), jU, jU] [] m1 := a1
    rw [Nat.sub_self] at a1
    exact a1
  have mid : evj 163 7 [jR 10 64, jI (nI q), jL (lN (lcd T q (wen T l q - q))), jU, jU] [] m1 = evj 163 89 [jR 10 64, jI (nI q), jL (lN (lcd T q (wen T l q - q))), jU, jU] [] m1 := by
    rw [e_M_takeWord_7, hx1.2.1, a2]
    by_cases hz : l ≤ wen T l q
    · rw [jbr_p (by rw [kI_le (by omega) (by omega)]; exact hz)]
    · obtain ⟨y1, y2⟩ := hx1.2.2 (wen T l q) (by omega)
      rw [bk_le (by omega) (by omega), jbr_n hz, inB_nI (by omega) (by omega), jgd_t, ixn (by omega), y2, m_isl y1, bI_some, s3 (by omega), bf_p rfl]
  rw [a1, mid, e_M_takeWord_89, m_wcd (lcd_b hT), bI_some, ew]
  by_cases h6 : wno T q (wen T l q) 6 < 6
  · rw [if_pos h6, if_pos h6, jbr_q (nI_nm1 (by omega))]
    exact ⟨_, rfl, by rw [gI_ne _ (by omega)]; exact a2, by rw [gI_eq]; exact a3, gT_t a4 (gT_s m1 (by omega) (by omega))⟩
  · rw [if_neg h6, if_neg h6, jbr_m rfl]
    exact ⟨_, rfl, by rw [gI_ne _ (by omega)]; exact a2, gI_eq _ _ _ _, gT_t a4 (gT_s m1 (by omega) (by omega))⟩
theorem m_num {m : jm} {T : Nat → Nat} {l p : Nat} (hx : TM m T l) (h1 : gI m 64 10 = nI p) (hp : p ≤ l) : ∃ x m', cj 166 [jR 10 64] m = some (some (jI x), m') ∧ (tkn T l (skp T l p) = 2 → x = nI (tkv T l (skp T l p)) ∧ gI m' 64 10 = nI (tke T l (skp T l p)) ∧ gI m' 64 11 = gI m 64 11) ∧ (tkn T l (skp T l p) ≠ 2 → gI m' 64 11 = nI (skp T l p)) ∧ gT m m' := by
  have hl := hx.1
  obtain ⟨m0, b1, b2, b3, b4⟩ := m_end hx h1 hp
  have hs := (skp_p (T := T) hp).2.1
  rw [e_M_takeNumber, b1, bI_some]
  generalize skp T l p = s at *
  have hx0 := TM_g b4 hx
  by_cases hz : s = l
  · have t0 : tkn T l s = 0 := tkn_0.mpr hz
    rw [bf_n (decide_eq_true hz), hx0.2.1]
    exact ⟨_, _, rfl, fun z => absurd z (by omega), fun _ => by rw [gI_eq, hz], gT_t b4 (gT_s _ (by omega) (by omega))⟩
  · obtain ⟨s1, s2, s3, s4⟩ := nen_p (T := T) (l := l) (p := s) hs
    rw [bf_p (decide_eq_false hz), b2]
    obtain ⟨⟨x, m1⟩, a1, -, a2, a3, a5, a4⟩ := lp_r (W := fun u (a : Int32 × jm) => evj 166 24 [jR 10 64, jI (nI s), jI a.1] [] a.2) (n := nen T l s) (fun u a => s ≤ u ∧ gI a.2 64 10 = nI u ∧ gI a.2 64 11 = gI m 64 11 ∧ (u - s ≤ 2 → a.1 = nI (nvl T s u)) ∧ gT m a.2) (fun u a hu hI => by
      obtain ⟨x, m'⟩ := a
      obtain ⟨hpu, i1, i2, i4, i3⟩ := hI
      have i1 : gI m' 64 10 = nI u := i1
      have i2 : gI m' 64 11 = gI m 64 11 := i2
      have i4 : u - s ≤ 2 → x = nI (nvl T s u) := i4
      have i3 : gT m m' := i3
      show ∃ a' : Int32 × jm, evj _ _ [_, _, jI x] _ m' = evj _ _ _ _ _ ∧ _
      have hx1 := TM_g i3 hx
      obtain ⟨y1, y2⟩ := hx1.2.2 u (by omega)
      have hL := s4 u hpu hu
      have hL2 := isf_i hL
      obtain ⟨n, rfl⟩ : ∃ n, u = s + n := ⟨u - s, by omega⟩
      rw [e_M_takeNumber_24, hx1.2.1, i1, bk_le (by omega) (by omega), jbr_n (by omega), inB_nI (by omega) (by omega), jgd_t, ixn (by omega), y2, m_isf y1, bI_some, hL, bf_n rfl, i1, kI_sub (by omega), li2, bk_le (by omega) (by omega)]
      by_cases h2 : 2 ≤ s + n - s
      · rw [jbr_p h2, e_M_takeNumber_88, i1, li1, nI_add]
        exact ⟨(x, sI m' 64 10 (nI (s + n + 1))), rfl, by omega, gI_eq _ _ _ _, (gI_ne m' (by omega)).trans i2, fun z => absurd z (by omega), gT_t i3 (gT_s m' (by omega) (by omega))⟩
      · rw [jbr_n h2, inB_nI (by omega) (by omega), jgd_t, ixn (by omega), y2, i4 (by omega), show (10 : Int32) = nI 10 from rfl, kI_mul, nI_add, show (48 : Int32) = nI 48 from rfl, kI_sub (by omega), e_M_takeNumber_88, i1, li1, nI_add, show 10 * nvl T s (s + n) + T (s + n) - 48 = nvl T s (s + n + 1) from by rw [nvl_s]; omega]
        exact ⟨(nI (nvl T s (s + n + 1)), sI m' 64 10 (nI (s + n + 1))), rfl, by omega, gI_eq _ _ _ _, (gI_ne m' (by omega)).trans i2, fun _ => rfl, gT_t i3 (gT_s m' (by omega) (by omega))⟩) (nen T l s - s) s ((0 : Int32), m0) (by omega) ⟨Nat.le_refl s, b2, b3, fun _ => by unfold nvl; rw [Nat.sub_self]; rfl, b4⟩
    have a1 : evj 166 24 [jR 10 64, jI (nI s), jI (0 : Int32)] [] m0 = evj 166 24 [jR 10 64, jI (nI s), jI x] [] m1 := a1
    have a2 : gI m1 64 10 = nI (nen T l s) := a2
    have a3 : gI m1 64 11 = gI m 64 11 := a3
    have a5 : nen T l s - s ≤ 2 → x = nI (nvl T s (nen T l s)) := a5
    have a4 : gT m m1 := a4
    have hx1 := TM_g a4 hx
    have mid : evj 166 24 [jR 10 64, jI (nI s), jI x] [] m1 = evj 166 102 [jR 10 64, jI (nI s), jI x] [] m1 := by
      rw [e_M_takeNumber_24, hx1.2.1, a2]
      by_cases hz : l ≤ nen T l s
      · rw [jbr_p (by rw [kI_le (by omega) (by omega)]; exact hz)]
      · obtain ⟨y1, y2⟩ := hx1.2.2 (nen T l s) (by omega)
        rw [bk_le (by omega) (by omega), jbr_n hz, inB_nI (by omega) (by omega), jgd_t, ixn (by omega), y2, m_isf y1, bI_some, s3 (by omega), bf_p rfl]
    rw [a1, mid, e_M_takeNumber_102, a2, bk_eq (by omega) (by omega)]
    by_cases he : nen T l s = s
    · have nf : isf (T s) = false := by have := s3 (by omega); rw [he] at this; exact this
      rw [jbr_p he]
      refine ⟨_, _, rfl, fun z => ?_, fun _ => gI_eq _ _ _ _, gT_t a4 (gT_s _ (by omega) (by omega))⟩
      have := (tkn_2 z hs).2.2.1
      rw [nf] at this
      exact absurd this (by decide)
    · have hF : isf (T s) = true := s4 s (Nat.le_refl s) (by omega)
      have t1 : tkn T l s = if nen T l s - s ≤ 2 then 2 else 4 := by unfold tkn; rw [if_neg hz, isf_nl hF, if_neg (by decide), hF, if_pos rfl]
      rw [jbr_n he, kI_sub s1, li2, bk_le (by omega) (by omega)]
      by_cases h2 : nen T l s - s ≤ 2
      · rw [if_pos h2] at t1
        obtain ⟨-, -, -, k1, k2, -, -⟩ := tkn_2 t1 hs
        rw [jbr_p h2]
        exact ⟨_, _, rfl, fun _ => ⟨by rw [k1]; exact a5 h2, by rw [gI_ne _ (by omega), k2]; exact a2, by rw [gI_eq]; exact a3⟩, fun z => absurd t1 z, gT_t a4 (gT_s _ (by omega) (by omega))⟩
      · rw [if_neg h2] at t1
        rw [jbr_n h2]
        exact ⟨_, _, rfl, fun z => absurd z (by omega), fun _ => gI_eq _ _ _ _, gT_t a4 (gT_s _ (by omega) (by omega))⟩
