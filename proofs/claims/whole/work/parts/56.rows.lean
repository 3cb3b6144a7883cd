/-! ways, odds -/
def nxt (wt : Nat → Nat) (f : Nat) (q : (Nat → Nat) × Nat) (c : Nat) : Nat := if f.testBit c = true then (q.2 - q.1 c) * wt c else 0
def sumn (g : Nat → Nat) (n : Nat) : Nat := itr (fun c s => s + g c) n 0 0
theorem sumn_s (g : Nat → Nat) (n : Nat) : sumn g (n + 1) = sumn g n + g n := by
  show itr _ (n + 1) 0 0 = _
  rw [itr_s, Nat.zero_add]
  rfl
theorem sumn_ge (g : Nat → Nat) {c : Nat} : ∀ {n : Nat}, c < n → g c ≤ sumn g n
  | 0, h => absurd h (Nat.not_lt_zero c)
  | n + 1, h => by
    rw [sumn_s]
    by_cases e : c = n
    · subst e; omega
    · have := sumn_ge g (c := c) (n := n) (by omega)
      omega
theorem sumn_le (g : Nat → Nat) (b : Nat) : ∀ n, (∀ c, c < n → g c ≤ b) → sumn g n ≤ n * b
  | 0, _ => Nat.zero_le _
  | n + 1, h => by
    have h1 := sumn_le g b n (fun c hc => h c (by omega))
    have h2 := h n (by omega)
    rw [sumn_s, Nat.succ_mul]
    omega
def rs (wt : Nat → Nat) (n : Nat) (mk : Nat → Nat) (H : Nat) : (Nat → Nat) × Nat := itr (fun h q => (nxt wt (mk h) q, sumn (nxt wt (mk h) q) n)) H 0 (fun _ => 0, 1)
theorem rs_s (wt : Nat → Nat) (n : Nat) (mk : Nat → Nat) (H : Nat) : rs wt n mk (H + 1) = (nxt wt (mk H) (rs wt n mk H), sumn (nxt wt (mk H) (rs wt n mk H)) n) := by
  show itr _ (H + 1) 0 _ = _
  rw [itr_s, Nat.zero_add]
  rfl
theorem rs_b {wt : Nat → Nat} {n : Nat} (mk : Nat → Nat) (hn : n ≤ 8) (hw : ∀ c, c < n → wt c ≤ 9) : ∀ H, (rs wt n mk H).2 ≤ 72 ^ H ∧ ∀ c, c < n → (rs wt n mk H).1 c ≤ (rs wt n mk H).2
  | 0 => ⟨Nat.le_refl 1, fun c hc => Nat.zero_le _⟩
  | H + 1 => by
    obtain ⟨h1, h2⟩ := rs_b mk hn hw H
    rw [rs_s]
    refine ⟨?_, fun c hc => sumn_ge _ hc⟩
    show sumn (nxt wt (mk H) (rs wt n mk H)) n ≤ _
    have h3 : ∀ c, c < n → nxt wt (mk H) (rs wt n mk H) c ≤ (rs wt n mk H).2 * 9 := fun c hc => by
      unfold nxt
      split
      · exact Nat.mul_le_mul (Nat.sub_le _ _) (hw c hc)
      · exact Nat.zero_le _
    have h4 := sumn_le _ _ n h3
    have h5 : n * ((rs wt n mk H).2 * 9) ≤ 8 * ((rs wt n mk H).2 * 9) := Nat.mul_le_mul_right _ hn
    rw [Nat.pow_succ]
    omega
theorem rs_lt {wt : Nat → Nat} {n : Nat} (mk : Nat → Nat) (hn : n ≤ 8) (hw : ∀ c, c < n → wt c ≤ 9) {H : Nat} (hH : H ≤ 6) : (rs wt n mk H).2 < 139314069505 := by
  have h1 := (rs_b mk hn hw H).1
  have h2 : 72 ^ H ≤ 72 ^ 6 := Nat.pow_le_pow_right (by omega) hH
  omega
def wtv (v : vst) (wb : Bool) (c : Nat) : Nat := if wb then vU v c else 1
theorem wtv_le {v : vst} (hw : WV v) (wb : Bool) : ∀ c, c < vc v → wtv v wb c ≤ 9 := fun c hc => by
  unfold wtv
  split
  · exact (hw.2.2.2.2.2.1 c hc).2.2
  · omega
/-- what is left of a hole's chords -/
def mkO (v : vst) (hole chord : Int32) (mk : Nat → Nat) : Prop := ∀ h, h < vh v → (nI h ≠ hole ∧ mk h = cwi v (vH v h)) ∨ (nI h = hole ∧ ∃ c, c < 8 ∧ chord = nI c ∧ mk h = cwi v (vH v h) &&& 2 ^ c)
theorem mkO_lt {v : vst} (hw : WV v) {hole chord : Int32} {mk : Nat → Nat} (h : mkO v hole chord mk) {i : Nat} (hi : i < vh v) : mk i < 256 := by
  have := cwi_lt hw (vH v i)
  rcases h i hi with ⟨_, e⟩ | ⟨_, c, _, _, e⟩
  · omega
  · rw [e]
    exact Nat.lt_of_le_of_lt Nat.and_le_left this
theorem gL_e (μ : jm) (k i : Nat) (v : Int64) : gL (sL μ k i v) k i = v := if_pos ⟨rfl, rfl⟩
theorem gL_n (μ : jm) {k i a b : Nat} {v : Int64} (h : ¬ (a = k ∧ b = i)) : gL (sL μ k i v) a b = gL μ a b := if_neg h
theorem c_fill {k : Nat} (μ : jm) : ∃ m, cj 2 [jR 2008 k, jL (0 : Int64)] μ = some (none, m) ∧ (∀ c, c < 8 → gL m k c = lN 0) ∧ fI k k μ m := by
  rw [e_Arrays_fill_JJV]
  obtain ⟨m, e1, e2, e3⟩ := lp_r (W := fun i (m : jm) => evj 2 6 [jR 2008 k, jL (0 : Int64), jU, jI (nI i), jI (nI 8)] [] m) (n := 8) (fun i m => (∀ c, c < i → gL m k c = lN 0) ∧ fI k k μ m) (fun i m hi hI => by
    obtain ⟨hc, hf⟩ := hI
    show ∃ a', evj _ _ _ _ _ = evj _ _ _ _ _ ∧ _
    rw [e_Arrays_fill_JJV_6, bk_le (by omega) (by omega), jbr_n (by omega), inB_nI (by omega) (by omega), jgd_t, ixn (by omega), li1, nI_add]
    refine ⟨_, rfl, fun c hc2 => ?_, fI_t hf (fI_sL m (by omega) (by omega))⟩
    by_cases e : c = i
    · subst e; rw [gL_e]; rfl
    · rw [gL_n _ (by omega)]; exact hc c (by omega)) 8 0 μ (by omega) ⟨fun c hc => absurd hc (Nat.not_lt_zero c), fI_r _ _ _⟩
  refine ⟨m, e1.trans ?_, e2, e3⟩
  show evj _ _ _ _ _ = _
  rw [e_Arrays_fill_JJV_6, jbr_p (by decide)]
set_option maxHeartbeats 1000000 in
theorem c_rows {k : Nat} {μ : jm} {v : vst} (hk : k + 10 < 50) (hw : WV v) (hv : CV μ k v) (wb : Bool) (hole chord : Int32) (mk : Nat → Nat) (hmk : mkO v hole chord mk) : ∃ m, cj 73 [jR 5 59, jR 8 k, jI (nI (bN wb)), jI hole, jI chord] μ = some (some (jL (lN (rs (wtv v wb) (vc v) mk (vh v)).2)), m) ∧ fI 60 60 μ m := by
  have w5 : vc v ≤ 8 := hw.2.2.2.2.1
  have w10 : vh v ≤ 6 := hw.2.2.2.2.2.2.2.2.2.1
  obtain ⟨m0, f1, f2, f3⟩ := c_fill (k := 60) μ
  rw [e_Guess_sumRows, f1, bV_some]
  obtain ⟨⟨b, m⟩, e1, e2, e3, e4⟩ := lp_r (W := fun i (q : Nat × jm) => evj 73 14 [jR 5 59, jR 8 k, jI (nI (bN wb)), jI hole, jI chord, jL (lN q.1), jU, jI (nI i), jU, jU, jU, jU, jU, jU] [] q.2) (n := vh v) (fun i q => q.1 = (rs (wtv v wb) (vc v) mk i).2 ∧ (∀ c, c < vc v → gL q.2 60 c = lN ((rs (wtv v wb) (vc v) mk i).1 c)) ∧ fI 60 60 μ q.2) (fun h q hh hI => by
    obtain ⟨b, m⟩ := q
    obtain ⟨hb, hE, hf⟩ := hI
    have hb : b = (rs (wtv v wb) (vc v) mk h).2 := hb
    have hE : ∀ c, c < vc v → gL m 60 c = lN ((rs (wtv v wb) (vc v) mk h).1 c) := hE
    have hf : fI 60 60 μ m := hf
    show ∃ a', evj _ _ [jR 5 59, jR 8 k, jI (nI (bN wb)), jI hole, jI chord, jL (lN b), jU, jI (nI h), jU, jU, jU, jU, jU, jU] _ m = evj _ _ _ _ _ ∧ _
    have hv1 := CV_fI hf (by omega) hv
    have hml := mkO_lt hw hmk hh
    obtain ⟨b1, b2⟩ := rs_b (wt := wtv v wb) (n := vc v) mk w5 (wtv_le hw wb) h
    have b3 := rs_lt (wt := wtv v wb) (n := vc v) mk w5 (wtv_le hw wb) (H := h) (by omega)
    rw [e_Guess_sumRows_14, show gI m k 14 = nI (vh v) from hv1.2.2.2.2.2.2.2.2.2.1, bk_le (by omega) (by omega), jbr_n (by omega), inB_nI (by omega) (by omega), jgd_t, ixn (by omega), hv1.2.2.2.2.2.2.2.2.2.2 h hh, c_cwi hw hv1 (hw.2.2.2.2.2.2.2.2.2.2 h hh), bI_some]
    obtain ⟨⟨s, m2⟩, g1, g2, g3, g4, g5⟩ := lp_r (W := fun i (q : Nat × jm) => evj 73 61 [jR 5 59, jR 8 k, jI (nI (bN wb)), jI hole, jI chord, jL (lN q.1), jU, jI (nI h), jI (nI (mk h)), jL (lN b), jU, jI (nI i), jU, jU] [] q.2) (n := vc v) (fun i q => q.1 = sumn (nxt (wtv v wb) (mk h) (rs (wtv v wb) (vc v) mk h)) i ∧ (∀ c, c < i → gL q.2 60 c = lN (nxt (wtv v wb) (mk h) (rs (wtv v wb) (vc v) mk h) c)) ∧ (∀ c, i ≤ c → c < vc v → gL q.2 60 c = lN ((rs (wtv v wb) (vc v) mk h).1 c)) ∧ fI 60 60 μ q.2) (fun c q hc hI => by
      obtain ⟨s, m⟩ := q
      obtain ⟨hs, hA, hB, hf⟩ := hI
      have hs : s = sumn (nxt (wtv v wb) (mk h) (rs (wtv v wb) (vc v) mk h)) c := hs
      have hA : ∀ j, j < c → gL m 60 j = lN (nxt (wtv v wb) (mk h) (rs (wtv v wb) (vc v) mk h) j) := hA
      have hB : ∀ j, c ≤ j → j < vc v → gL m 60 j = lN ((rs (wtv v wb) (vc v) mk h).1 j) := hB
      have hf : fI 60 60 μ m := hf
      show ∃ a', evj _ _ [jR 5 59, jR 8 k, jI (nI (bN wb)), jI hole, jI chord, jL (lN s), jU, jI (nI h), jI (nI (mk h)), jL (lN b), jU, jI (nI c), jU, jU] _ m = evj _ _ _ _ _ ∧ _
      have hv1 := CV_fI hf (by omega) hv
      have hU : gI m (k + 8) c = nI (vU v c) := (hv1.2.2.2.2.2.1 c hc).2
      have hU9 := (hw.2.2.2.2.2.1 c hc).2.2
      have hEc := b2 c hc
      have key : ∀ x : Int64, x = lN (nxt (wtv v wb) (mk h) (rs (wtv v wb) (vc v) mk h) c) → ∃ a' : Nat × jm, evj 73 61 [jR 5 59, jR 8 k, jI (nI (bN wb)), jI hole, jI chord, jL (lN s + gL (sL m 60 c x) 60 c), jU, jI (nI h), jI (nI (mk h)), jL (lN b), jU, jI (nI (c + 1)), jU, jU] [] (sL m 60 c x) = evj 73 61 [jR 5 59, jR 8 k, jI (nI (bN wb)), jI hole, jI chord, jL (lN a'.1), jU, jI (nI h), jI (nI (mk h)), jL (lN b), jU, jI (nI (c + 1)), jU, jU] [] a'.2 ∧ a'.1 = sumn (nxt (wtv v wb) (mk h) (rs (wtv v wb) (vc v) mk h)) (c + 1) ∧ (∀ j, j < c + 1 → gL a'.2 60 j = lN (nxt (wtv v wb) (mk h) (rs (wtv v wb) (vc v) mk h) j)) ∧ (∀ j, c + 1 ≤ j → j < vc v → gL a'.2 60 j = lN ((rs (wtv v wb) (vc v) mk h).1 j)) ∧ fI 60 60 μ a'.2 := fun x hx => by
        refine ⟨(s + nxt (wtv v wb) (mk h) (rs (wtv v wb) (vc v) mk h) c, sL m 60 c x), ?_, ?_, fun j hj => ?_, fun j hj1 hj2 => ?_, fI_t hf (fI_sL m (by omega) (by omega))⟩
        · rw [gL_e, hx, lN_add]
        · show s + _ = _
          rw [sumn_s, hs]
        · show gL (sL m 60 c x) 60 j = _
          by_cases e : j = c
          · subst e; rw [gL_e, hx]
          · rw [gL_n _ (by omega)]; exact hA j (by omega)
        · show gL (sL m 60 c x) 60 j = _
          rw [gL_n _ (by omega)]; exact hB j (by omega) hj2
      rw [e_Guess_sumRows_61, show gI m k 9 = nI (vc v) from hv1.2.2.2.2.1, bk_le (by omega) (by omega), jbr_n (by omega), kI_tb (by omega) (by omega), inB_nI (by omega) (by omega), ixn (by omega), hU, hB c (Nat.le_refl c) hc, li1, nI_add]
      cases ht : (mk h).testBit c
      · rw [bf_p rfl]
        have hn0 : nxt (wtv v wb) (mk h) (rs (wtv v wb) (vc v) mk h) c = 0 := if_neg (by rw [ht]; decide)
        cases wb
        · rw [bf_p rfl, jgd_t, jgd_t]
          exact key _ (by rw [hn0]; rfl)
        · rw [bf_n rfl, jgd_t, jgd_t, jgd_t]
          exact key _ (by rw [hn0, Int64.zero_mul]; rfl)
      · rw [bf_n rfl, jgd_t]
        have hn1 : nxt (wtv v wb) (mk h) (rs (wtv v wb) (vc v) mk h) c = (b - (rs (wtv v wb) (vc v) mk h).1 c) * wtv v wb c := by rw [hb]; exact if_pos ht
        rw [lN_sub (by omega)]
        cases wb
        · rw [bf_p rfl, jgd_t, jgd_t]
          exact key _ (by rw [hn1]; show _ = lN (_ * 1); rw [Nat.mul_one])
        · rw [bf_n rfl, jgd_t, jgd_t, jgd_t]
          exact key _ (by rw [hn1, nI_l (by omega), lN_mul]; rfl)) (vc v) 0 (0, m) (by omega) ⟨rfl, fun c hc => absurd hc (Nat.not_lt_zero c), fun c _ hc => hE c hc, hf⟩
    have g2 : s = sumn (nxt (wtv v wb) (mk h) (rs (wtv v wb) (vc v) mk h)) (vc v) := g2
    have g5 : fI 60 60 μ m2 := g5
    have hv2 := CV_fI g5 (by omega) hv
    have fin : evj 73 61 [jR 5 59, jR 8 k, jI (nI (bN wb)), jI hole, jI chord, jL (0 : Int64), jU, jI (nI h), jI (nI (mk h)), jL (lN b), jU, jI (0 : Int32), jU, jU] [] m = evj 73 14 [jR 5 59, jR 8 k, jI (nI (bN wb)), jI hole, jI chord, jL (lN s), jU, jI (nI (h + 1)), jU, jU, jU, jU, jU, jU] [] m2 := by
      refine Eq.trans g1 ?_
      show evj _ _ [jR 5 59, jR 8 k, jI (nI (bN wb)), jI hole, jI chord, jL (lN s), jU, jI (nI h), jI (nI (mk h)), jL (lN b), jU, jI (nI (vc v)), jU, jU] _ m2 = _
      rw [e_Guess_sumRows_61, show gI m2 k 9 = nI (vc v) from hv2.2.2.2.2.1, jbr_p (by rw [kI_le (by omega) (by omega)]; omega), li1, nI_add]
    have done : ∃ a' : Nat × jm, evj 73 61 [jR 5 59, jR 8 k, jI (nI (bN wb)), jI hole, jI chord, jL (0 : Int64), jU, jI (nI h), jI (nI (mk h)), jL (lN b), jU, jI (0 : Int32), jU, jU] [] m = evj 73 14 [jR 5 59, jR 8 k, jI (nI (bN wb)), jI hole, jI chord, jL (lN a'.1), jU, jI (nI (h + 1)), jU, jU, jU, jU, jU, jU] [] a'.2 ∧ a'.1 = (rs (wtv v wb) (vc v) mk (h + 1)).2 ∧ (∀ c, c < vc v → gL a'.2 60 c = lN ((rs (wtv v wb) (vc v) mk (h + 1)).1 c)) ∧ fI 60 60 μ a'.2 := ⟨(s, m2), fin, by rw [rs_s]; exact g2, fun c hc => by rw [rs_s]; exact g3 c hc, g5⟩
    rcases hmk h hh with ⟨n1, n2⟩ | ⟨n1, c, n2, n3, n4⟩
    · rw [jbr_p n1, ← n2]
      exact done
    · rw [jbr_m n1, n3, kI_1 (by omega), kI_and, ← n4, ← n3]
      exact done) (vh v) 0 (1, m0) (by omega) ⟨rfl, fun c hc => f2 c (by omega), f3⟩
  have e2 : b = (rs (wtv v wb) (vc v) mk (vh v)).2 := e2
  have e4 : fI 60 60 μ m := e4
  have hv2 := CV_fI e4 (by omega) hv
  refine ⟨m, Eq.trans e1 ?_, e4⟩
  show evj _ _ [jR 5 59, jR 8 k, jI (nI (bN wb)), jI hole, jI chord, jL (lN b), jU, jI (nI (vh v)), jU, jU, jU, jU, jU, jU] _ m = _
  rw [e_Guess_sumRows_14, show gI m k 14 = nI (vh v) from hv2.2.2.2.2.2.2.2.2.2.1, jbr_p (by rw [kI_le (by omega) (by omega)]; omega), e2]
set_option maxHeartbeats 1000000 in
theorem m_rows {μ : jm} {v : vst} (hw : WV v) (hv : MV μ 0 v) (wb : Bool) (hole chord : Int32) (mk : Nat → Nat) (hmk : mkO v hole chord mk) : ∃ m, cj 200 [jR 10 64, jI (nI (bN wb)), jI hole, jI chord] μ = some (some (jL (lN (rs (wtv v wb) (vc v) mk (vh v)).2)), m) ∧ fI 75 76 μ m := by
  have w5 : vc v ≤ 8 := hw.2.2.2.2.1
  have w10 : vh v ≤ 6 := hw.2.2.2.2.2.2.2.2.2.1
  have h101 : gI μ 65 101 = nI (vc v) := hv.2.2.2.2.1
  rw [e_M_rows, show (101 : Int32) = nI 101 from rfl, inB_nI (by omega) (by omega), jgd_t, ixn (by omega), h101]
  obtain ⟨m0, f1, f2, f3⟩ := lp_r (W := fun i (m : jm) => evj 200 15 [jR 10 64, jI (nI (bN wb)), jI hole, jI chord, jI (nI (vc v)), jL (1 : Int64), jU, jI (nI i), jU, jU, jU, jU] [] m) (n := vc v) (fun i m => (∀ c, c < i → gL m 75 c = lN 0) ∧ fI 75 76 μ m) (fun i m hi hI => by
    obtain ⟨hc, hf⟩ := hI
    show ∃ a', evj _ _ _ _ _ = evj _ _ _ _ _ ∧ _
    rw [e_M_rows_15, bk_le (by omega) (by omega), jbr_n (by omega), inB_nI (by omega) (by omega), jgd_t, ixn (by omega), li1, nI_add]
    refine ⟨_, rfl, fun c hc2 => ?_, fI_t hf (fI_sL m (by omega) (by omega))⟩
    by_cases e : c = i
    · subst e; rw [gL_e]; rfl
    · rw [gL_n _ (by omega)]; exact hc c (by omega)) (vc v) 0 μ (by omega) ⟨fun c hc => absurd hc (Nat.not_lt_zero c), fI_r _ _ _⟩
  have f1 : evj 200 15 [jR 10 64, jI (nI (bN wb)), jI hole, jI chord, jI (nI (vc v)), jL (1 : Int64), jU, jI (0 : Int32), jU, jU, jU, jU] [] μ = evj 200 15 [jR 10 64, jI (nI (bN wb)), jI hole, jI chord, jI (nI (vc v)), jL (1 : Int64), jU, jI (nI (vc v)), jU, jU, jU, jU] [] m0 := f1
  rw [f1, e_M_rows_15, jbr_p (by rw [kI_le (by omega) (by omega)]; omega)]
  obtain ⟨⟨b, m⟩, e1, e2, e3, e4⟩ := lp_r (W := fun i (q : Nat × jm) => evj 200 39 [jR 10 64, jI (nI (bN wb)), jI hole, jI chord, jI (nI (vc v)), jL (lN q.1), jU, jI (nI i), jU, jU, jU, jU] [] q.2) (n := vh v) (fun i q => q.1 = (rs (wtv v wb) (vc v) mk i).2 ∧ (∀ c, c < vc v → gL q.2 75 c = lN ((rs (wtv v wb) (vc v) mk i).1 c)) ∧ fI 75 76 μ q.2) (fun h q hh hI => by
    obtain ⟨b, m⟩ := q
    obtain ⟨hb, hE, hf⟩ := hI
    have hb : b = (rs (wtv v wb) (vc v) mk h).2 := hb
    have hE : ∀ c, c < vc v → gL m 75 c = lN ((rs (wtv v wb) (vc v) mk h).1 c) := hE
    have hf : fI 75 76 μ m := hf
    show ∃ a', evj _ _ [jR 10 64, jI (nI (bN wb)), jI hole, jI chord, jI (nI (vc v)), jL (lN b), jU, jI (nI h), jU, jU, jU, jU] _ m = evj _ _ _ _ _ ∧ _
    have hv1 := MV_fI hf (by omega) hw hv
    have hml := mkO_lt hw hmk hh
    obtain ⟨b1, b2⟩ := rs_b (wt := wtv v wb) (n := vc v) mk w5 (wtv_le hw wb) h
    have b3 := rs_lt (wt := wtv v wb) (n := vc v) mk w5 (wtv_le hw wb) (H := h) (by omega)
    rw [e_M_rows_39, show (126 : Int32) = nI 126 from rfl, inB_nI (by omega) (by omega), jgd_t, ixn (by omega), show gI m 65 126 = nI (vh v) from hv1.2.2.2.2.2.2.2.2.2.1, bk_le (by omega) (by omega), jbr_n (by omega), m_cwi hw hv1 hh, bI_some, bI_some]
    obtain ⟨⟨s, m2⟩, g1, g2, g3, g4, g5⟩ := lp_r (W := fun i (q : Nat × jm) => evj 200 84 [jR 10 64, jI (nI (bN wb)), jI hole, jI chord, jI (nI (vc v)), jL (lN b), jU, jI (nI h), jI (nI (mk h)), jL (lN q.1), jU, jI (nI i)] [] q.2) (n := vc v) (fun i q => q.1 = sumn (nxt (wtv v wb) (mk h) (rs (wtv v wb) (vc v) mk h)) i ∧ (∀ c, c < i → gL q.2 76 c = lN (nxt (wtv v wb) (mk h) (rs (wtv v wb) (vc v) mk h) c)) ∧ (∀ c, c < vc v → gL q.2 75 c = lN ((rs (wtv v wb) (vc v) mk h).1 c)) ∧ fI 75 76 μ q.2) (fun c q hc hI => by
      obtain ⟨s, m⟩ := q
      obtain ⟨hs, hA, hB, hf⟩ := hI
      have hs : s = sumn (nxt (wtv v wb) (mk h) (rs (wtv v wb) (vc v) mk h)) c := hs
      have hA : ∀ j, j < c → gL m 76 j = lN (nxt (wtv v wb) (mk h) (rs (wtv v wb) (vc v) mk h) j) := hA
      have hB : ∀ j, j < vc v → gL m 75 j = lN ((rs (wtv v wb) (vc v) mk h).1 j) := hB
      have hf : fI 75 76 μ m := hf
      show ∃ a', evj _ _ [jR 10 64, jI (nI (bN wb)), jI hole, jI chord, jI (nI (vc v)), jL (lN b), jU, jI (nI h), jI (nI (mk h)), jL (lN s), jU, jI (nI c)] _ m = evj _ _ _ _ _ ∧ _
      have hv1 := MV_fI hf (by omega) hw hv
      have hU : gI m 65 (110 + c) = nI (vU v c) := by have := (hv1.2.2.2.2.2.1 c hc).2; rwa [show 0 + 110 + c = 110 + c from by omega] at this
      have hU9 := (hw.2.2.2.2.2.1 c hc).2.2
      have hEc := b2 c hc
      have key : ∀ x : Int64, x = lN (nxt (wtv v wb) (mk h) (rs (wtv v wb) (vc v) mk h) c) → ∃ a' : Nat × jm, evj 200 84 [jR 10 64, jI (nI (bN wb)), jI hole, jI chord, jI (nI (vc v)), jL (lN b), jU, jI (nI h), jI (nI (mk h)), jL (lN s + gL (sL m 76 c x) 76 c), jU, jI (nI (c + 1))] [] (sL m 76 c x) = evj 200 84 [jR 10 64, jI (nI (bN wb)), jI hole, jI chord, jI (nI (vc v)), jL (lN b), jU, jI (nI h), jI (nI (mk h)), jL (lN a'.1), jU, jI (nI (c + 1))] [] a'.2 ∧ a'.1 = sumn (nxt (wtv v wb) (mk h) (rs (wtv v wb) (vc v) mk h)) (c + 1) ∧ (∀ j, j < c + 1 → gL a'.2 76 j = lN (nxt (wtv v wb) (mk h) (rs (wtv v wb) (vc v) mk h) j)) ∧ (∀ j, j < vc v → gL a'.2 75 j = lN ((rs (wtv v wb) (vc v) mk h).1 j)) ∧ fI 75 76 μ a'.2 := fun x hx => by
        refine ⟨(s + nxt (wtv v wb) (mk h) (rs (wtv v wb) (vc v) mk h) c, sL m 76 c x), ?_, ?_, fun j hj => ?_, fun j hj2 => ?_, fI_t hf (fI_sL m (by omega) (by omega))⟩
        · rw [gL_e, hx, lN_add]
        · show s + _ = _
          rw [sumn_s, hs]
        · show gL (sL m 76 c x) 76 j = _
          by_cases e : j = c
          · subst e; rw [gL_e, hx]
          · rw [gL_n _ (by omega)]; exact hA j (by omega)
        · show gL (sL m 76 c x) 75 j = _
          rw [gL_n _ (by omega)]; exact hB j hj2
      rw [e_M_rows_84, bk_le (by omega) (by omega), jbr_n (by omega), m_has (by omega) (by omega), bI_some, inB_nI (j := c) (by omega) (by omega), show (110 : Int32) = nI 110 from rfl, nI_add, inB_nI (j := 110 + c) (by omega) (by omega), ixn (n := c) (by omega), ixn (n := 110 + c) (by omega), hU, hB c hc, li1, nI_add]
      cases ht : (mk h).testBit c
      · rw [bf_p rfl]
        have hn0 : nxt (wtv v wb) (mk h) (rs (wtv v wb) (vc v) mk h) c = 0 := if_neg (by rw [ht]; decide)
        rw [jgd_t, jgd_t]
        exact key _ (by rw [hn0]; rfl)
      · rw [bf_n rfl, jgd_t]
        have hn1 : nxt (wtv v wb) (mk h) (rs (wtv v wb) (vc v) mk h) c = (b - (rs (wtv v wb) (vc v) mk h).1 c) * wtv v wb c := by rw [hb]; exact if_pos ht
        rw [lN_sub (by omega)]
        cases wb
        · rw [bf_p rfl, jgd_t, jgd_t]
          exact key _ (by rw [hn1, nI_l (by omega), lN_mul]; rfl)
        · rw [bf_n rfl, jgd_t, jgd_t, jgd_t]
          exact key _ (by rw [hn1, nI_l (by omega), lN_mul]; rfl)) (vc v) 0 (0, m) (by omega) ⟨rfl, fun c hc => absurd hc (Nat.not_lt_zero c), fun c hc => hE c hc, hf⟩
    have g2 : s = sumn (nxt (wtv v wb) (mk h) (rs (wtv v wb) (vc v) mk h)) (vc v) := g2
    have g3 : ∀ c, c < vc v → gL m2 76 c = lN (nxt (wtv v wb) (mk h) (rs (wtv v wb) (vc v) mk h) c) := g3
    have g5 : fI 75 76 μ m2 := g5
    obtain ⟨m3, k1, k2, k3, k4⟩ := lp_r (W := fun i (m : jm) => evj 200 163 [jR 10 64, jI (nI (bN wb)), jI hole, jI chord, jI (nI (vc v)), jU, jU, jI (nI h), jU, jL (lN s), jU, jI (nI i)] [] m) (n := vc v) (fun i m => (∀ c, c < i → gL m 75 c = lN (nxt (wtv v wb) (mk h) (rs (wtv v wb) (vc v) mk h) c)) ∧ (∀ c, c < vc v → gL m 76 c = lN (nxt (wtv v wb) (mk h) (rs (wtv v wb) (vc v) mk h) c)) ∧ fI 75 76 μ m) (fun c m hc hI => by
      obtain ⟨hA, hB, hf⟩ := hI
      show ∃ a', evj _ _ _ _ _ = evj _ _ _ _ _ ∧ _
      rw [e_M_rows_163, bk_le (by omega) (by omega), jbr_n (by omega), inB_nI (by omega) (by omega), jgd_t, jgd_t, ixn (by omega), hB c hc, li1, nI_add]
      refine ⟨_, rfl, fun j hj => ?_, fun j hj => ?_, fI_t hf (fI_sL m (by omega) (by omega))⟩
      · by_cases e : j = c
        · subst e; rw [gL_e]
        · rw [gL_n _ (by omega)]; exact hA j (by omega)
      · rw [gL_n _ (by omega)]; exact hB j hj) (vc v) 0 m2 (by omega) ⟨fun c hc => absurd hc (Nat.not_lt_zero c), g3, g5⟩
    have fin : evj 200 84 [jR 10 64, jI (nI (bN wb)), jI hole, jI chord, jI (nI (vc v)), jL (lN b), jU, jI (nI h), jI (nI (mk h)), jL (0 : Int64), jU, jI (0 : Int32)] [] m = evj 200 39 [jR 10 64, jI (nI (bN wb)), jI hole, jI chord, jI (nI (vc v)), jL (lN s), jU, jI (nI (h + 1)), jU, jU, jU, jU] [] m3 := by
      refine Eq.trans g1 ?_
      show evj _ _ [jR 10 64, jI (nI (bN wb)), jI hole, jI chord, jI (nI (vc v)), jL (lN b), jU, jI (nI h), jI (nI (mk h)), jL (lN s), jU, jI (nI (vc v))] _ m2 = _
      rw [e_M_rows_84, jbr_p (by rw [kI_le (by omega) (by omega)]; omega)]
      refine Eq.trans k1 ?_
      show evj _ _ _ _ _ = _
      rw [e_M_rows_163, jbr_p (by rw [kI_le (by omega) (by omega)]; omega), li1, nI_add]
    have done : ∃ a' : Nat × jm, evj 200 84 [jR 10 64, jI (nI (bN wb)), jI hole, jI chord, jI (nI (vc v)), jL (lN b), jU, jI (nI h), jI (nI (mk h)), jL (0 : Int64), jU, jI (0 : Int32)] [] m = evj 200 39 [jR 10 64, jI (nI (bN wb)), jI hole, jI chord, jI (nI (vc v)), jL (lN a'.1), jU, jI (nI (h + 1)), jU, jU, jU, jU] [] a'.2 ∧ a'.1 = (rs (wtv v wb) (vc v) mk (h + 1)).2 ∧ (∀ c, c < vc v → gL a'.2 75 c = lN ((rs (wtv v wb) (vc v) mk (h + 1)).1 c)) ∧ fI 75 76 μ a'.2 := ⟨(s, m3), fin, by rw [rs_s]; exact g2, fun c hc => by rw [rs_s]; exact k2 c hc, k4⟩
    rcases hmk h hh with ⟨n1, n2⟩ | ⟨n1, c, n2, n3, n4⟩
    · rw [jbr_p n1, ← n2]
      exact done
    · rw [jbr_m n1, n3, kI_1 (by omega), kI_and, ← n4, ← n3]
      exact done) (vh v) 0 (1, m0) (by omega) ⟨rfl, fun c hc => f2 c (by omega), f3⟩
  have e2 : b = (rs (wtv v wb) (vc v) mk (vh v)).2 := e2
  have e4 : fI 75 76 μ m := e4
  have hv2 := MV_fI e4 (by omega) hw hv
  refine ⟨m, Eq.trans e1 ?_, e4⟩
  show evj _ _ [jR 10 64, jI (nI (bN wb)), jI hole, jI chord, jI (nI (vc v)), jL (lN b), jU, jI (nI (vh v)), jU, jU, jU, jU] _ m = _
  rw [e_M_rows_39, show (126 : Int32) = nI 126 from rfl, inB_nI (by omega) (by omega), jgd_t, ixn (by omega), show gI m 65 126 = nI (vh v) from hv2.2.2.2.2.2.2.2.2.2.1, jbr_p (by rw [kI_le (by omega) (by omega)]; omega), e2]
/-- ways -/
def mk0 (v : vst) (h : Nat) : Nat := cwi v (vH v h)
def mk1 (v : vst) (a c h : Nat) : Nat := if h = a then cwi v (vH v h) &&& 2 ^ c else cwi v (vH v h)
theorem mkO_0 {v : vst} (hw : WV v) (chord : Int32) : mkO v (-1) chord (mk0 v) := fun h hh => by
  have w10 : vh v ≤ 6 := hw.2.2.2.2.2.2.2.2.2.1
  refine Or.inl ⟨fun z => ?_, rfl⟩
  have z : nI h = ngc 1 := z
  rw [qI_n (by omega)] at z
  exact z
theorem mkO_1 {v : vst} (hw : WV v) {a c : Nat} (ha : a < 6) (hc : c < 8) : mkO v (nI a) (nI c) (mk1 v a c) := fun h hh => by
  have w10 : vh v ≤ 6 := hw.2.2.2.2.2.2.2.2.2.1
  unfold mk1
  by_cases e : h = a
  · subst e
    exact Or.inr ⟨rfl, c, hc, rfl, if_pos rfl⟩
  · exact Or.inl ⟨fun z => e ((nI_eq (by omega) (by omega)).mp z), if_neg e⟩
theorem op_ways : opI 123 199 [] Rel := by
  refine opI_of (fun S => nI (rs (wtv (sv S) false) (vc (sv S)) (mk0 (sv S)) (vh (sv S))).2) (fun S => S) (fun S h => h) ?_ ?_
  · intro μ S hW hC
    obtain ⟨m, e1, e2⟩ := c_rows (k := 1) (by omega) hW.1 hC.1 false (-1) (-1) _ (mkO_0 hW.1 (-1))
    rw [e_N_ways, e_Guess_countRows, show cj 73 [jR 5 59, jR 8 1, jI (0 : Int32), jI (-1 : Int32), jI (-1 : Int32)] μ = _ from e1, bL_some, bI_some, lN_i]
    exact ⟨m, rfl, CS_fI e2 (by omega) hC, oc_fI e2 (by omega)⟩
  · intro μ S hW hM
    obtain ⟨m, e1, e2⟩ := m_rows hW.1 hM.1 false (-1) 0 _ (mkO_0 hW.1 0)
    rw [e_M_ways, show cj 200 [jR 10 64, jI (0 : Int32), jI (-1 : Int32), jI (0 : Int32)] μ = _ from e1, bL_some, lN_i]
    exact ⟨m, rfl, MS_fI e2 (by omega) hW hM, om_fI e2 (by omega) (by omega)⟩
/-- odds -/
abbrev dOk (x y : Int32) (v : vst) : Prop := un x < vh v ∧ un y < vc v
def oddA (v : vst) : Nat := (rs (wtv v true) (vc v) (mk0 v) (vh v)).2
def oddU (x y : Int32) (v : vst) : Nat := (rs (wtv v true) (vc v) (mk1 v (un x) (un y)) (vh v)).2
def fOd (x y : Int32) (S : sst) : Int32 := if dOk x y (sv S) then (if 0 < oddA (sv S) then 1 else -3) else -2
def gOd (x y : Int32) (S : sst) : sst := if dOk x y (sv S) then (if 0 < oddA (sv S) then setF S (gq (oddU x y (sv S)) (oddA (sv S))) (gp (oddU x y (sv S)) (oddA (sv S))) else tel S (-3)) else tel S (-2)
theorem op_odds (x y : Int32) : opI 124 201 [jI x, jI y] Rel := by
  refine opI_of (fun S => fOd x y S) (fun S => gOd x y S) (fun S h => ?_) ?_ ?_
  · show WS (gOd x y S)
    unfold gOd
    split
    · split
      · exact h
      · exact WS_tel h _
    · exact WS_tel h _
  · intro μ S hW hC
    have w5 : vc (sv S) ≤ 8 := hW.1.2.2.2.2.1
    have w10 : vh (sv S) ≤ 6 := hW.1.2.2.2.2.2.2.2.2.2.1
    rw [e_N_odds, c_isHole 1 x μ (by omega) hC.1.2.2.2.2.2.2.2.2.2.1, bI_some]
    by_cases h1 : un x < vh (sv S)
    · rw [bf_n (decide_eq_true h1), c_isChord 1 y μ (by omega) hC.1.2.2.2.2.1, bI_some]
      by_cases h2 : un y < vc (sv S)
      · have fe : fOd x y S = _ := if_pos ⟨h1, h2⟩
        have ge : gOd x y S = _ := if_pos ⟨h1, h2⟩
        obtain ⟨m, e1, e2⟩ := c_rows (k := 1) (by omega) hW.1 hC.1 true (-1) (-1) _ (mkO_0 hW.1 (-1))
        have hA : oddA (sv S) < 139314069505 := rs_lt _ w5 (wtv_le hW.1 true) w10
        have hU : oddU x y (sv S) < 139314069505 := rs_lt _ w5 (wtv_le hW.1 true) w10
        have e1 : cj 73 [jR 5 59, jR 8 1, jI (1 : Int32), jI (-1 : Int32), jI (-1 : Int32)] μ = some (some (jL (lN (oddA (sv S)))), m) := e1
        rw [fe, ge, bt_p (decide_eq_true h2), e_Guess_weighRows, e1, bL_some, bL_some, lgp (by omega)]
        by_cases h3 : 0 < oddA (sv S)
        · rw [jbr_p h3, if_pos h3, if_pos h3]
          obtain ⟨c, hc, rfl⟩ := un_x h2 (by omega)
          obtain ⟨a, ha, rfl⟩ := un_x h1 (by omega)
          obtain ⟨m1, d1, d2⟩ := c_rows (k := 1) (by omega) hW.1 (CV_fI e2 (by omega) hC.1) true (nI a) (nI c) _ (mkO_1 hW.1 (by omega) (by omega))
          have d1 : cj 73 [jR 5 59, jR 8 1, jI (1 : Int32), jI (nI a), jI (nI c)] m = some (some (jL (lN (oddU (nI a) (nI c) (sv S)))), m1) := by
            unfold oddU
            rw [un_nI (by omega), un_nI (by omega)]
            exact d1
          rw [e_Guess_weighRows, d1, bL_some, bL_some, c_become (by omega) (by omega) h3, bV_some]
          exact ⟨_, rfl, CS_setF _ _ (CS_fI (fI_t e2 d2) (by omega) hC), oc_t (oc_fI (fI_t e2 d2) (by omega)) (oc_t (oc_sL _ (by omega)) (oc_sL _ (by omega)))⟩
        · rw [jbr_n h3, if_neg h3, if_neg h3]
          obtain ⟨m1, d1, d2, d3⟩ := c_tel (-3) (CS_fI e2 (by omega) hC)
          exact ⟨m1, d1, d2, oc_t (oc_fI e2 (by omega)) d3⟩
      · have fe : fOd x y S = _ := if_neg (fun q => h2 q.2)
        have ge : gOd x y S = _ := if_neg (fun q => h2 q.2)
        rw [fe, ge, bt_n (decide_eq_false h2)]
        exact c_tel _ hC
    · have fe : fOd x y S = _ := if_neg (fun q => h1 q.1)
      have ge : gOd x y S = _ := if_neg (fun q => h1 q.1)
      rw [fe, ge, bf_p (decide_eq_false h1)]
      exact c_tel _ hC
  · intro μ S hW hM
    have w5 : vc (sv S) ≤ 8 := hW.1.2.2.2.2.1
    have w10 : vh (sv S) ≤ 6 := hW.1.2.2.2.2.2.2.2.2.2.1
    rw [e_M_odds, m_isHole x μ (by omega) hM.1.2.2.2.2.2.2.2.2.2.1, bI_some]
    by_cases h1 : un x < vh (sv S)
    · rw [bf_n (decide_eq_true h1), m_isChord y μ w5 hM.1.2.2.2.2.1, bI_some]
      by_cases h2 : un y < vc (sv S)
      · have fe : fOd x y S = _ := if_pos ⟨h1, h2⟩
        have ge : gOd x y S = _ := if_pos ⟨h1, h2⟩
        obtain ⟨m, e1, e2⟩ := m_rows hW.1 hM.1 true (-1) 0 _ (mkO_0 hW.1 0)
        have hA : oddA (sv S) < 139314069505 := rs_lt _ w5 (wtv_le hW.1 true) w10
        have hU : oddU x y (sv S) < 139314069505 := rs_lt _ w5 (wtv_le hW.1 true) w10
        have e1 : cj 200 [jR 10 64, jI (1 : Int32), jI (-1 : Int32), jI (0 : Int32)] μ = some (some (jL (lN (oddA (sv S)))), m) := e1
        rw [fe, ge, bt_p (decide_eq_true h2), e1, bL_some, lgn (by omega)]
        by_cases h3 : 0 < oddA (sv S)
        · rw [jbr_p (by omega), if_pos h3, if_pos h3]
          obtain ⟨c, hc, rfl⟩ := un_x h2 (by omega)
          obtain ⟨a, ha, rfl⟩ := un_x h1 (by omega)
          obtain ⟨m1, d1, d2⟩ := m_rows hW.1 (MV_fI e2 (by omega) hW.1 hM.1) true (nI a) (nI c) _ (mkO_1 hW.1 (by omega) (by omega))
          have d1 : cj 200 [jR 10 64, jI (1 : Int32), jI (nI a), jI (nI c)] m = some (some (jL (lN (oddU (nI a) (nI c) (sv S)))), m1) := by
            unfold oddU
            rw [un_nI (by omega), un_nI (by omega)]
            exact d1
          rw [d1, bL_some, m_shar (by omega) (by omega) h3, bI_some]
          exact ⟨_, rfl, MS_setF _ _ hW (MS_fI (fI_t e2 d2) (by omega) hW hM), om_t (om_fI (fI_t e2 d2) (by omega) (by omega)) (om_t (om_sL _ (by omega) (by omega)) (om_sL _ (by omega) (by omega)))⟩
        · rw [jbr_n (by omega), if_neg h3, if_neg h3]
          obtain ⟨m1, d1, d2, d3⟩ := m_tel (-3) hW (MS_fI e2 (by omega) hW hM)
          exact ⟨m1, d1, d2, om_t (om_fI e2 (by omega) (by omega)) d3⟩
      · have fe : fOd x y S = _ := if_neg (fun q => h2 q.2)
        have ge : gOd x y S = _ := if_neg (fun q => h2 q.2)
        rw [fe, ge, bt_n (decide_eq_false h2)]
        exact m_tel _ hW hM
    · have fe : fOd x y S = _ := if_neg (fun q => h1 q.1)
      have ge : gOd x y S = _ := if_neg (fun q => h1 q.1)
      rw [fe, ge, bf_p (decide_eq_false h1)]
      exact m_tel _ hW hM
