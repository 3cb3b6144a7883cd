/-! copies: image, from -/
theorem gI_cpn (μ : jm) {k0 sp k1 dp n a b : Nat} (h : ¬ a = k1) : gI (cpI μ k0 sp k1 dp n) a b = gI μ a b := if_neg h
theorem gI_cpe (μ : jm) {k0 k1 n a b : Nat} (h : a = k1 ∧ b < n) : gI (cpI μ k0 0 k1 0 n) a b = gI μ k0 b := by
  show (if a = k1 then va_cpy (μ.1 k0) (μ.1 k1) 0 0 n b else μ.1 a b) = _
  rw [if_pos h.1, pk_cpy_in (by omega) (by omega)]
  show μ.1 k0 (0 + (b - 0)) = μ.1 k0 b
  rw [Nat.zero_add, Nat.sub_zero]
theorem okC_cp (k : Nat) (μ : jm) {k0 sp k1 dp n : Nat} (h1 : k ≤ k1) (h2 : k1 ≤ k + 10) : okC k μ (cpI μ k0 sp k1 dp n) := fun x y h => ⟨if_neg (by omega), rfl⟩
theorem ix0 : ix (0 : Int32) = 0 := by decide
theorem ix6 : ix (6 : Int32) = 6 := by decide
theorem ix7 : ix (7 : Int32) = 7 := by decide
theorem ix8 : ix (8 : Int32) = 8 := by decide
theorem jcg6 : jcg (0 : Int32) (0 : Int32) (6 : Int32) 6 6 = true := by decide
theorem jcg7 : jcg (0 : Int32) (0 : Int32) (7 : Int32) 7 7 = true := by decide
theorem jcg8 : jcg (0 : Int32) (0 : Int32) (8 : Int32) 8 8 = true := by decide
/-- the people of one valley into another -/
theorem c_cpP {k1 k2 : Nat} (hk : k1 + 10 < k2 ∨ k2 + 10 < k1) (μ : jm) : ∃ m, cj 29 [jR 8 k1, jR 8 k2] μ = some (none, m) ∧ (∀ p, p < 7 → gI m (k1 + 3) p = gI μ (k2 + 3) p ∧ gI m (k1 + 4) p = gI μ (k2 + 4) p ∧ gI m (k1 + 5) p = gI μ (k2 + 5) p ∧ gI m (k1 + 6) p = gI μ (k2 + 6) p) ∧ gI m k1 6 = gI μ k2 6 ∧ okC k1 μ m ∧ (∀ a b, ¬ (a = k1 + 3 ∨ a = k1 + 4 ∨ a = k1 + 5 ∨ a = k1 + 6 ∨ (a = k1 ∧ b = 6)) → gI m a b = gI μ a b) := by
  rw [e_Valley_copyPeople, ix0, ix7, jcg7, jgd_t, jgd_t, jgd_t, jgd_t]
  refine ⟨_, rfl, fun p hp => ⟨?_, ?_, ?_, ?_⟩, ?_, okC_t (okC_t (okC_t (okC_t (okC_cp k1 μ (by omega) (by omega)) (okC_cp k1 _ (by omega) (by omega))) (okC_cp k1 _ (by omega) (by omega))) (okC_cp k1 _ (by omega) (by omega))) (okC_sI k1 _ (by omega) (by omega)), fun a b h => ?_⟩
  · rw [gI_ne _ (by omega), gI_cpn _ (by omega), gI_cpn _ (by omega), gI_cpn _ (by omega), gI_cpe _ (by omega)]
  · rw [gI_ne _ (by omega), gI_cpn _ (by omega), gI_cpn _ (by omega), gI_cpe _ (by omega), gI_cpn _ (by omega)]
  · rw [gI_ne _ (by omega), gI_cpn _ (by omega), gI_cpe _ (by omega), gI_cpn _ (by omega), gI_cpn _ (by omega)]
  · rw [gI_ne _ (by omega), gI_cpe _ (by omega), gI_cpn _ (by omega), gI_cpn _ (by omega), gI_cpn _ (by omega)]
  · rw [gI_eq, gI_cpn _ (by omega), gI_cpn _ (by omega), gI_cpn _ (by omega), gI_cpn _ (by omega)]
  · rw [gI_ne _ (by omega), gI_cpn _ (by omega), gI_cpn _ (by omega), gI_cpn _ (by omega), gI_cpn _ (by omega)]
set_option maxHeartbeats 2000000 in
theorem c_cpA {k1 k2 : Nat} {v : vst} (hk : k1 + 10 < k2 ∨ k2 + 10 < k1) {μ : jm} (hw : WV v) (hv : CV μ k2 v) : ∃ m, cj 28 [jR 8 k1, jR 8 k2] μ = some (none, m) ∧ CV m k1 v ∧ okC k1 μ m := by
  obtain ⟨w3, w5, w8, w10⟩ := WB_of hw
  obtain ⟨h1, h2, h3, h4, h5, h6, h7, h8, h9, h10, h11⟩ := hv
  obtain ⟨m1, p1, p2, p3, p4, p5⟩ := c_cpP hk (cpI (cpI μ (k2 + 1) 0 (k1 + 1) 0 6) (k2 + 2) 0 (k1 + 2) 0 6)
  rw [e_Valley_copyAll, ix0, ix6, ix8, jcg6, jcg8, jgd_t, jgd_t, p1, bV_some, jgd_t, jgd_t, jgd_t, jgd_t]
  have q : ∀ b, gI m1 k2 b = gI μ k2 b := fun b => by rw [p5 k2 b (by omega), gI_cpn _ (by omega), gI_cpn _ (by omega)]
  have q2 : ∀ j b, 1 ≤ j → j ≤ 10 → gI m1 (k2 + j) b = gI μ (k2 + j) b := fun j b hj1 hj2 => by rw [p5 (k2 + j) b (by omega), gI_cpn _ (by omega), gI_cpn _ (by omega)]
  have o1 : okC k1 μ m1 := okC_t (okC_t (okC_cp k1 μ (by omega) (by omega)) (okC_cp k1 _ (by omega) (by omega))) p4
  simp (disch := omega) only [gI_cpn, gI_ne, q]
  refine ⟨_, rfl, ⟨fun a ha => ?_, fun a ha => ?_, ?_, fun p hp => ⟨?_, ?_, ?_, ?_⟩, ?_, fun i hi => ⟨?_, ?_⟩, ?_, ?_, fun i hi => ?_, ?_, fun i hi => ?_⟩, okC_t (okC_t (okC_t (okC_t (okC_t (okC_t (okC_t (okC_t (okC_t o1 (okC_cp k1 _ (by omega) (by omega))) (okC_cp k1 _ (by omega) (by omega))) (okC_sI k1 _ (by omega) (by omega))) (okC_sI k1 _ (by omega) (by omega))) (okC_cp k1 _ (by omega) (by omega))) (okC_sI k1 _ (by omega) (by omega))) (okC_cp k1 _ (by omega) (by omega))) (okC_sI k1 _ (by omega) (by omega))) (okC_r k1 _)⟩
  · simp (disch := omega) only [gI_cpn, gI_ne]
    rw [p5 _ _ (by omega), gI_cpn _ (by omega), gI_cpe _ (by omega)]
    exact h1 a ha
  · simp (disch := omega) only [gI_cpn, gI_ne]
    rw [p5 _ _ (by omega), gI_cpe _ (by omega), gI_cpn _ (by omega)]
    exact h2 a ha
  · simp (disch := omega) only [gI_cpn, gI_ne]
    rw [p3, gI_cpn _ (by omega), gI_cpn _ (by omega)]
    exact h3
  · simp (disch := omega) only [gI_cpn, gI_ne]
    rw [(p2 p (by omega)).1, gI_cpn _ (by omega), gI_cpn _ (by omega)]
    exact (h4 p hp).1
  · simp (disch := omega) only [gI_cpn, gI_ne]
    rw [(p2 p (by omega)).2.1, gI_cpn _ (by omega), gI_cpn _ (by omega)]
    exact (h4 p hp).2.1
  · simp (disch := omega) only [gI_cpn, gI_ne]
    rw [(p2 p (by omega)).2.2.1, gI_cpn _ (by omega), gI_cpn _ (by omega)]
    exact (h4 p hp).2.2.1
  · simp (disch := omega) only [gI_cpn, gI_ne]
    rw [(p2 p (by omega)).2.2.2, gI_cpn _ (by omega), gI_cpn _ (by omega)]
    exact (h4 p hp).2.2.2
  · simp (disch := omega) only [gI_cpn, gI_ne, gI_e2]
    exact h5
  · simp (disch := omega) only [gI_cpn, gI_ne, gI_cpe]
    rw [q2 7 i (by omega) (by omega)]
    exact (h6 i hi).1
  · simp (disch := omega) only [gI_cpn, gI_ne, gI_cpe]
    rw [q2 8 i (by omega) (by omega)]
    exact (h6 i hi).2
  · simp (disch := omega) only [gI_cpn, gI_ne, gI_e2]
    exact h7
  · simp (disch := omega) only [gI_cpn, gI_ne, gI_e2]
    exact h8
  · simp (disch := omega) only [gI_cpn, gI_ne, gI_cpe]
    rw [q2 9 i (by omega) (by omega)]
    exact h9 i hi
  · simp (disch := omega) only [gI_cpn, gI_ne, gI_e2]
    exact h10
  · simp (disch := omega) only [gI_cpn, gI_ne, gI_cpe]
    rw [q2 10 i (by omega) (by omega)]
    exact h11 i hi
/-- the reference's copy -/
theorem m_cp {r1 r2 : Nat} (h1 : r1 ≤ 420) (h2 : r2 ≤ 420) (hd : r1 + 140 ≤ r2 ∨ r2 + 140 ≤ r1) (μ : jm) : ∃ m, cj 168 [jR 10 64, jI (nI r1), jI (nI r2)] μ = some (none, m) ∧ (∀ b, b < 140 → gI m 65 (r2 + b) = gI μ 65 (r1 + b)) ∧ okM r2 μ m := by
  rw [e_M_copy]
  obtain ⟨m, e1, e2, e3⟩ := lp_r (W := fun i (m : jm) => evj 168 2 [jR 10 64, jI (nI r1), jI (nI r2), jI (nI i)] [] m) (n := 140) (fun i m => (∀ b, b < i → gI m 65 (r2 + b) = gI μ 65 (r1 + b)) ∧ okM r2 μ m) (fun i m hi hI => by
    obtain ⟨hc, ho⟩ := hI
    show ∃ a', evj _ _ _ _ _ = evj _ _ _ _ _ ∧ _
    rw [e_M_copy_2, li140, bk_le (by omega) (by omega), jbr_n (by omega), nI_add, nI_add, inB_nI (by omega) (by omega), jgd_t, inB_nI (by omega) (by omega), jgd_t, ixn (by omega), ixn (by omega), li1, nI_add]
    refine ⟨_, rfl, fun b hb => ?_, okM_t ho (okM_sI r2 m (by omega) (by omega))⟩
    by_cases e : b = i
    · subst e
      rw [gI_eq]
      exact (ho 65 (r1 + b) (by omega)).1
    · rw [gI_ne _ (by omega)]
      exact hc b (by omega)) 140 0 μ (by omega) ⟨fun b hb => absurd hb (Nat.not_lt_zero b), okM_r r2 μ⟩
  refine ⟨m, e1.trans ?_, e2, e3⟩
  show evj _ _ _ _ _ = _
  rw [e_M_copy_2, jbr_p (by decide)]
theorem MV_cp {r1 r2 : Nat} {μ m : jm} {v : vst} (hw : WV v) (h : ∀ b, b < 140 → gI m 65 (r2 + b) = gI μ 65 (r1 + b)) (hv : MV μ r1 v) : MV m r2 v := by
  obtain ⟨w3, w5, w8, w10⟩ := WB_of hw
  obtain ⟨h1, h2, h3, h4, h5, h6, h7, h8, h9, h10, h11⟩ := hv
  have g : ∀ x y, r2 ≤ x → x < r2 + 140 → y = r1 + (x - r2) → gI m 65 x = gI μ 65 y := fun x y hx1 hx2 hy => by
    have := h (x - r2) (by omega)
    rw [show r2 + (x - r2) = x from by omega] at this
    rw [this, hy]
  refine ⟨fun a b ha hb => ?_, fun a b ha hb => ?_, ?_, fun p hp => ⟨?_, ?_, ?_, ?_⟩, ?_, fun i hi => ⟨?_, ?_⟩, ?_, ?_, fun i hi => ?_, ?_, fun i hi => ?_⟩
  · rw [g _ _ (by omega) (by omega) (show r1 + 6 * a + b = _ by omega)]; exact h1 a b ha hb
  · rw [g _ _ (by omega) (by omega) (show r1 + 36 + 6 * a + b = _ by omega)]; exact h2 a b ha hb
  · rw [g _ _ (by omega) (by omega) (show r1 + 72 = _ by omega)]; exact h3
  · rw [g _ _ (by omega) (by omega) (show r1 + 73 + p = _ by omega)]; exact (h4 p hp).1
  · rw [g _ _ (by omega) (by omega) (show r1 + 80 + p = _ by omega)]; exact (h4 p hp).2.1
  · rw [g _ _ (by omega) (by omega) (show r1 + 87 + p = _ by omega)]; exact (h4 p hp).2.2.1
  · rw [g _ _ (by omega) (by omega) (show r1 + 94 + p = _ by omega)]; exact (h4 p hp).2.2.2
  · rw [g _ _ (by omega) (by omega) (show r1 + 101 = _ by omega)]; exact h5
  · rw [g _ _ (by omega) (by omega) (show r1 + 102 + i = _ by omega)]; exact (h6 i hi).1
  · rw [g _ _ (by omega) (by omega) (show r1 + 110 + i = _ by omega)]; exact (h6 i hi).2
  · rw [g _ _ (by omega) (by omega) (show r1 + 118 = _ by omega)]; exact h7
  · rw [g _ _ (by omega) (by omega) (show r1 + 119 = _ by omega)]; exact h8
  · rw [g _ _ (by omega) (by omega) (show r1 + 120 + i = _ by omega)]; exact h9 i hi
  · rw [g _ _ (by omega) (by omega) (show r1 + 126 = _ by omega)]; exact h10
  · rw [g _ _ (by omega) (by omega) (show r1 + 127 + i = _ by omega)]; exact h11 i hi
/-- image -/
def setIm (S : sst) (i : Nat) : sst := (sv S, if i = 0 then sv S else s0 S, if i = 0 then s1 S else sv S, sk S ||| 2 ^ i, stl S, sT S, sa S, sb S, sr S)
theorem sk_d : ∀ s, s < 4 → ∀ i, i < 2 → ((s ||| 2 ^ i) < 4 ∧ (s ||| 2 ^ i) % 2 = (if i = 0 then 1 else s % 2) ∧ (s ||| 2 ^ i) / 2 = (if i = 0 then s / 2 else 1)) := by decide
theorem un_1 {x : Int32} {μ : jm} : cj 140 [jL x.toInt64, jL 0, jL 1] μ = some (some (jI (nI (bN (decide (un x < 2))))), μ) := m_in0 x 1 2 (by omega) rfl μ
theorem op_image (x : Int32) : opI 130 210 [jI x] Rel := by
  by_cases hx : un x < 2
  · obtain ⟨i, hi, rfl⟩ := un_x hx (by omega)
    refine opI_of (fun S => 1) (fun S => setIm S i) (fun S h => ?_) ?_ ?_
    · refine ⟨h.1, ?_, ?_, (sk_d (sk S) h.2.2.2.1 i hi).1, h.2.2.2.2⟩
      · show WV (if i = 0 then sv S else s0 S)
        split
        · exact h.1
        · exact h.2.1
      · show WV (if i = 0 then s1 S else sv S)
        split
        · exact h.2.2.1
        · exact h.1
    · intro μ S hW hC
      obtain ⟨m, c1, c2, c3⟩ := c_cpA (k1 := 24 + 11 * i) (k2 := 1) (by omega) hW.1 hC.1
      obtain ⟨h1, h2, h3, h4, h5, h6, h7, h8, h9, h10, h11⟩ := id hC
      have hsk : sk S < 4 := hW.2.2.2.1
      have p2 : 2 ^ i < 2 ^ 2 := two_lt hi
      have e3 : gI m 0 3 = nI (sk S) := (c3 0 3 (by omega)).1.trans h4
      rw [e_N_image, c_isImage, bI_some, bt_p (decide_eq_true hx), inB_nI hi (by omega), jgd_t, ixn (by omega), c1, bV_some, e3, kI_1 (by omega), kI_or]
      have g : ∀ a b, (a < 24 + 11 * i ∨ 24 + 11 * i + 10 < a) → ¬ (a = 0 ∧ b = 3) → gI (sI m 0 3 (nI (sk S ||| 2 ^ i))) a b = gI μ a b := fun a b ha hb => by rw [gI_ne _ hb]; exact (c3 a b ha).1
      have g2 : ∀ a b, (a < 24 + 11 * i ∨ 24 + 11 * i + 10 < a) → gL (sI m 0 3 (nI (sk S ||| 2 ^ i))) a b = gL μ a b := fun a b ha => (c3 a b ha).2
      have cv : CV (sI m 0 3 (nI (sk S ||| 2 ^ i))) (24 + 11 * i) (sv S) := CV_of (fun a b _ _ => gI_ne _ (by omega)) c2
      refine ⟨_, rfl, ⟨CV_of (fun a b _ _ => g a b (by omega) (by omega)) h1, ?_, ?_, gI_eq _ _ _ _, ?_, fun j hj => ?_, ?_, ?_, ?_, ?_, ?_⟩, fun a b ha => ⟨?_, ?_⟩⟩
      · show CV _ 24 (if i = 0 then sv S else s0 S)
        by_cases e : i = 0
        · subst e; exact cv
        · rw [if_neg e]; exact CV_of (fun a b _ _ => g a b (by omega) (by omega)) h2
      · show CV _ 35 (if i = 0 then s1 S else sv S)
        by_cases e : i = 0
        · rw [if_pos e]; exact CV_of (fun a b _ _ => g a b (by omega) (by omega)) h3
        · have e1 : i = 1 := by omega
          subst e1; exact cv
      · rw [g _ _ (by omega) (by omega)]; exact h5
      · rw [g _ _ (by omega) (by omega)]; exact h6 j hj
      · rw [g2 _ _ (by omega)]; exact h7
      · rw [g2 _ _ (by omega)]; exact h8
      · rw [g _ _ (by omega) (by omega)]; exact h9
      · rw [g _ _ (by omega) (by omega)]; exact h10
      · rw [g _ _ (by omega) (by omega)]; exact h11
      · exact g a b (by omega) (by omega)
      · exact g2 a b (by omega)
    · intro μ S hW hM
      obtain ⟨m, c1, c2, c3⟩ := m_cp (r1 := 0) (r2 := 140 * (1 + i)) (by omega) (by omega) (by omega) μ
      obtain ⟨h1, h2, h3, h4, h5, h6, h7, h8, h9, h10, h11, h12⟩ := id hM
      obtain ⟨-, k2, k3⟩ := sk_d (sk S) hW.2.2.2.1 i hi
      rw [e_M_image, un_1, bI_some, bt_p (decide_eq_true hx), show ((140 : Int32) * ((1 : Int32) + nI i)) = nI (140 * (1 + i)) from by rw [li140, li1, nI_add, kI_mul], show cj 168 [jR 10 64, jI (0 : Int32), jI (nI (140 * (1 + i)))] μ = _ from c1, bV_some, inB_nI hi (by omega), jgd_t, ixn (by omega)]
      have g : ∀ a b, ¬ (a = 65 ∧ 140 * (1 + i) ≤ b ∧ b < 140 * (1 + i) + 140) → ¬ (a = 66 ∧ b = i) → gI (sI m 66 i ((1 : Int32) &&& 1)) a b = gI μ a b := fun a b ha hb => by rw [gI_ne _ hb]; exact (c3 a b ha).1
      have g2 : ∀ a b, ¬ a = 65 → gL (sI m 66 i ((1 : Int32) &&& 1)) a b = gL μ a b := fun a b ha => (c3 a b (by omega)).2
      have mv : MV (sI m 66 i ((1 : Int32) &&& 1)) (140 * (1 + i)) (sv S) := MV_of (fun b _ _ => gI_ne _ (by omega)) hW.1 (MV_cp hW.1 c2 h1)
      refine ⟨_, rfl, ⟨MV_of (fun b _ _ => g 65 b (by omega) (by omega)) hW.1 h1, ?_, ?_, ?_, ?_, ?_, fun j hj => ?_, ?_, ?_, ?_, ?_, ?_⟩, fun a b ha => ⟨?_, ?_⟩⟩
      · show MV _ 140 (if i = 0 then sv S else s0 S)
        by_cases e : i = 0
        · subst e; exact mv
        · rw [if_neg e]; exact MV_of (fun b _ _ => g 65 b (by omega) (by omega)) hW.2.1 h2
      · show MV _ 280 (if i = 0 then s1 S else sv S)
        by_cases e : i = 0
        · rw [if_pos e]; exact MV_of (fun b _ _ => g 65 b (by omega) (by omega)) hW.2.2.1 h3
        · have e1 : i = 1 := by omega
          subst e1; exact mv
      · show _ = nI ((sk S ||| 2 ^ i) % 2)
        rw [k2]
        by_cases e : i = 0
        · subst e; rw [gI_eq, if_pos rfl]; rfl
        · rw [if_neg e, g _ _ (by omega) (by omega)]; exact h4
      · show _ = nI ((sk S ||| 2 ^ i) / 2)
        rw [k3]
        by_cases e : i = 0
        · rw [if_pos e, g _ _ (by omega) (by omega)]; exact h5
        · have e1 : i = 1 := by omega
          subst e1; rw [gI_eq, if_neg (by omega)]; rfl
      · rw [g _ _ (by omega) (by omega)]; exact h6
      · rw [g _ _ (by omega) (by omega)]; exact h7 j hj
      · rw [g2 _ _ (by omega)]; exact h8
      · rw [g2 _ _ (by omega)]; exact h9
      · rw [g _ _ (by omega) (by omega)]; exact h10
      · rw [g _ _ (by omega) (by omega)]; exact h11
      · rw [g _ _ (by omega) (by omega)]; exact h12
      · exact g a b (by omega) (by omega)
      · exact g2 a b (by omega)
  · refine opI_of (fun S => -2) (fun S => tel S (-2)) (fun S h => WS_tel h _) ?_ ?_
    · intro μ S hW hC
      rw [e_N_image, c_isImage, bI_some, bt_n (decide_eq_false hx)]
      exact c_tel _ hC
    · intro μ S hW hM
      rw [e_M_image, un_1, bI_some, bt_n (decide_eq_false hx)]
      exact m_tel _ hW hM
/-- from -/
def gIm (S : sst) (i : Nat) : vst := if i = 0 then s0 S else s1 S
def fFr (i : Nat) (S : sst) : Int32 := if (sk S).testBit i = true then 1 else -3
def gFr (i : Nat) (S : sst) : sst := if (sk S).testBit i = true then setV S (gIm S i) else tel S (-3)
theorem sk_t : ∀ s, s < 4 → ∀ i, i < 2 → bN (s.testBit i) = (if i = 0 then s % 2 else s / 2) := by decide
theorem op_from (x : Int32) : opI 132 211 [jI x] Rel := by
  by_cases hx : un x < 2
  · obtain ⟨i, hi, rfl⟩ := un_x hx (by omega)
    have hwi : ∀ S, WS S → WV (gIm S i) := fun S h => by
      unfold gIm
      split
      · exact h.2.1
      · exact h.2.2.1
    refine opI_of (fun S => fFr i S) (fun S => gFr i S) (fun S h => ?_) ?_ ?_
    · show WS (gFr i S)
      unfold gFr
      split
      · exact WS_setV h (hwi S h)
      · exact WS_tel h _
    · intro μ S hW hC
      have hsk : sk S < 4 := hW.2.2.2.1
      have e4 : gI μ 0 3 = nI (sk S) := hC.2.2.2.1
      rw [e_N_from, c_isImage, bI_some, bt_p (decide_eq_true hx), e4, kI_tb (by omega) (by omega)]
      cases hb : (sk S).testBit i
      · have fe : fFr i S = -3 := if_neg (by rw [hb]; decide)
        have ge : gFr i S = tel S (-3) := if_neg (by rw [hb]; decide)
        rw [fe, ge, bt_n rfl]
        exact c_tel _ hC
      · have fe : fFr i S = 1 := if_pos hb
        have ge : gFr i S = setV S (gIm S i) := if_pos hb
        have cv : CV μ (24 + 11 * i) (gIm S i) := by
          unfold gIm
          by_cases e : i = 0
          · subst e; exact hC.2.1
          · have e1 : i = 1 := by omega
            subst e1; exact hC.2.2.1
        obtain ⟨m, c1, c2, c3⟩ := c_cpA (k1 := 1) (k2 := 24 + 11 * i) (by omega) (hwi S hW) cv
        rw [fe, ge, bt_p rfl, inB_nI hi (by omega), jgd_t, ixn (by omega), c1, bV_some]
        exact ⟨m, rfl, CS_setV hC c2 (fun a b h => c3 a b (by omega)), fun a b h => c3 a b (by omega)⟩
    · intro μ S hW hM
      have hsk : sk S < 4 := hW.2.2.2.1
      have ht := sk_t (sk S) hsk i hi
      have e4 : gI μ 66 i = nI (bN ((sk S).testBit i)) := by
        rw [ht]
        by_cases e : i = 0
        · subst e; exact hM.2.2.2.1
        · have e1 : i = 1 := by omega
          subst e1; exact hM.2.2.2.2.1
      rw [e_M_from, un_1, bI_some, bt_p (decide_eq_true hx), inB_nI hi (by omega), jgd_t, ixn (by omega), e4]
      cases hb : (sk S).testBit i
      · have fe : fFr i S = -3 := if_neg (by rw [hb]; decide)
        have ge : gFr i S = tel S (-3) := if_neg (by rw [hb]; decide)
        rw [fe, ge, bt_n rfl]
        exact m_tel _ hW hM
      · have fe : fFr i S = 1 := if_pos hb
        have ge : gFr i S = setV S (gIm S i) := if_pos hb
        have mv : MV μ (140 * (1 + i)) (gIm S i) := by
          unfold gIm
          by_cases e : i = 0
          · subst e; exact hM.2.1
          · have e1 : i = 1 := by omega
            subst e1; exact hM.2.2.1
        obtain ⟨m, c1, c2, c3⟩ := m_cp (r1 := 140 * (1 + i)) (r2 := 0) (by omega) (by omega) (by omega) μ
        rw [fe, ge, bt_p rfl, show ((140 : Int32) * ((1 : Int32) + nI i)) = nI (140 * (1 + i)) from by rw [li140, li1, nI_add, kI_mul], show cj 168 [jR 10 64, jI (nI (140 * (1 + i))), jI (0 : Int32)] μ = _ from c1, bV_some]
        exact ⟨m, rfl, MS_setV hW hM (MV_cp (hwi S hW) c2 mv) (fun a b h _ => c3 a b (by omega)), fun a b h => c3 a b (by omega)⟩
  · refine opI_of (fun S => -2) (fun S => tel S (-2)) (fun S h => WS_tel h _) ?_ ?_
    · intro μ S hW hC
      rw [e_N_from, c_isImage, bI_some, bt_n (decide_eq_false hx)]
      exact c_tel _ hC
    · intro μ S hW hM
      rw [e_M_from, un_1, bI_some, bt_n (decide_eq_false hx)]
      exact m_tel _ hW hM
