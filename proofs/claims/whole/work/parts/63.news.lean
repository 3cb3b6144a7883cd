/-! news: class and reference -/
def hrv (v : vst) (a b : Nat) : Bool := (vE v a).testBit b
def wtg (v : vst) (g u : Nat) : Nat := if u = g ∨ ¬ pin v (2 ^ u) (vn v) = 0 then 1 else 101
theorem wtg_w (v : vst) (g : Nat) : ∀ u, wtg v g u = 1 ∨ wtg v g u = 101 := fun u => by unfold wtg; split <;> simp
def phc (x : Nat) : Nat := if x < 10000 then 16 * (x / 100) + x % 100 else 1000
def VB (t : Nat → Nat) : Prop := ∀ u, u < 6 → t u = 10000 ∨ (t u % 100 ≤ 5 ∧ t u / 100 ≤ 5)
def ppl (v : vst) (n : Nat) : Nat := itr (fun p s => s ||| 2 ^ vR v p) n 0 0
theorem ppl_t (v : vst) (u : Nat) : ∀ n, (ppl v n).testBit u = decide (¬ pin v (2 ^ u) n = 0)
  | 0 => by
    show (0 : Nat).testBit u = decide (¬ (0 = 0))
    rw [Nat.zero_testBit]
    rfl
  | n + 1 => by
    have ih := ppl_t v u n
    have e1 : ppl v (n + 1) = ppl v n ||| 2 ^ vR v n := by
      show itr _ (n + 1) 0 0 = _
      rw [itr_s, Nat.zero_add]
      rfl
    have e2 : pin v (2 ^ u) (n + 1) = if (2 ^ u).testBit (vR v n) = true then pin v (2 ^ u) n ||| 2 ^ n else pin v (2 ^ u) n := by
      show itr _ (n + 1) 0 0 = _
      rw [itr_s, Nat.zero_add]
      rfl
    rw [e1, e2, Nat.testBit_or, ih, Nat.testBit_two_pow, Nat.testBit_two_pow]
    by_cases e : vR v n = u
    · rw [decide_eq_true e, Bool.or_true, if_pos (decide_eq_true e.symm)]
      have hne : ¬ (pin v (2 ^ u) n ||| 2 ^ n = 0) := fun z => by
        have := (Nat.or_eq_zero_iff.mp z).2
        have := Nat.two_pow_pos n
        omega
      exact (decide_eq_true hne).symm
    · rw [decide_eq_false e, Bool.or_false, if_neg (by rw [decide_eq_true_eq]; exact fun z => e z.symm)]
theorem ppl_lt {v : vst} (hw : WV v) : ppl v (vn v) < 64 := itr_lt (n := vn v) 6 (fun i b hi hb => or_lt 6 hb (two_lt (hw.2.2.2.1 i hi).2.2.1))
def NS (m : jm) (v : vst) (g : Nat) (t : Nat → Nat) : Prop := (∀ u, u < 6 → gI m 58 u = nI (phc (t u))) ∧ gI m 57 1 = nI (ppl v (vn v)) ∧ gI m 57 2 = nI g
theorem phc_l {x : Nat} (h : x = 10000 ∨ (x % 100 ≤ 6 ∧ x / 100 ≤ 6)) : phc x ≤ 1000 := by unfold phc; split <;> omega
theorem c_cost {m : jm} {v : vst} {g u : Nat} {t : Nat → Nat} (hw : WV v) (hs : NS m v g t) (hb : VB t) (hu : u < 6) (hg : g < 6) (ht : t u < 10000) : cj 69 [jR 6 57, jI (nI u)] m = some (some (jI (nI (phc (t u + wtg v g u)))), m) := by
  obtain ⟨s1, s2, s3⟩ := hs
  have hl := ppl_lt hw
  have hv := (hb u hu).resolve_left (by omega)
  have f19 : evj 69 19 [jR 6 57, jI (nI u), jU] [] m = some (some (jI (nI (phc (t u + 1)))), m) := by
    rw [e_Rumour_costBy_19, inB_nI hu (by omega), jgd_t, jbr_n (by decide), ixn (by omega), s1 u hu, show (1 : Int32) = nI 1 from rfl, nI_add]
    congr 5
    unfold phc
    rw [if_pos ht, if_pos (by omega)]
    omega
  rw [e_Rumour_costBy, s2, s3, bk_eq (by omega) (by omega)]
  unfold wtg
  by_cases e : u = g
  · rw [jbr_p e, if_pos (Or.inl e), f19]
  · rw [jbr_n e, kI_tb (by omega) (by omega), ppl_t]
    by_cases e2 : pin v (2 ^ u) (vn v) = 0
    · rw [bf_p (decide_eq_false (fun z => z e2)), if_neg (by omega), inB_nI hu (by omega), jgd_t, jbr_p rfl, ixn (by omega), s1 u hu, show (17 : Int32) = nI 17 from rfl, nI_add]
      congr 5
      unfold phc
      rw [if_pos ht, if_pos (by omega)]
      omega
    · rw [bf_n (decide_eq_true e2), if_pos (Or.inr e2), f19]
theorem phc_m {x y : Nat} (hx : x % 100 ≤ 6 ∧ x / 100 ≤ 6) (hy : y = 10000 ∨ (y % 100 ≤ 6 ∧ y / 100 ≤ 6)) : (phc y ≤ phc x ↔ y ≤ x) ∧ (phc x < phc y ↔ x < y) := by
  have ex : phc x = 16 * (x / 100) + x % 100 := if_pos (by omega)
  rw [ex]
  unfold phc
  split <;> omega
theorem byy_lt {hr : Nat → Nat → Bool} {wt t : Nat → Nat} {v u : Nat} (h : byy hr wt t v u < 10000) : hr v u = true ∧ t u < 10000 ∧ byy hr wt t v u = t u + wt u := by
  by_cases e : hr v u = true ∧ t u < 10000
  · exact ⟨e.1, e.2, if_pos e⟩
  · have : byy hr wt t v u = 10000 := if_neg e
    omega
theorem c_nxr {m : jm} {v : vst} {g a : Nat} {t : Nat → Nat} (hw : WV v) (hv : CV m 1 v) (hs : NS m v g t) (hb : VB t) (ha : a < 6) (hg : g < 6) : cj 68 [jR 6 57, jR 8 1, jI (nI a)] m = some (some (jI (nI (nxr (hrv v) (wtg v g) t a 6) - 1)), m) := by
  have hE := (hw.2.1 a ha).1
  rw [e_Rumour_nextRoom]
  have L := lp_f (W := fun n b => evj 68 5 [jR 6 57, jR 8 1, jI (nI a), jI (nI b - 1), jI (nI n), jU] [] m) (f := fun u b => if byy (hrv v) (wtg v g) t a u < 10000 ∧ (b = 0 ∨ byy (hrv v) (wtg v g) t a u < byy (hrv v) (wtg v g) t a (b - 1)) then u + 1 else b) (n := 6) (fun n b => b ≤ n ∧ (0 < b → byy (hrv v) (wtg v g) t a (b - 1) < 10000)) (fun n b hn hI => by
    obtain ⟨i1, i2⟩ := hI
    refine ⟨?_, ?_⟩
    · show evj _ _ _ _ _ = evj _ _ _ _ _
      have no : ¬ byy (hrv v) (wtg v g) t a n < 10000 → evj 68 43 [jR 6 57, jR 8 1, jI (nI a), jI (nI b - 1), jI (nI n), jU] [] m = evj 68 5 [jR 6 57, jR 8 1, jI (nI a), jI (nI (if byy (hrv v) (wtg v g) t a n < 10000 ∧ (b = 0 ∨ byy (hrv v) (wtg v g) t a n < byy (hrv v) (wtg v g) t a (b - 1)) then n + 1 else b) - 1), jI (nI (n + 1)), jU] [] m := fun hn2 => by
        rw [if_neg (fun z => hn2 z.1), e_Rumour_nextRoom_43, e_Rumour_nextRoom_44, jbr_p rfl, show nI n + 1 = nI (n + 1) from nI_add n 1]
      have hbn := hb n hn
      have hpl := phc_l (x := t n) (by omega)
      rw [e_Rumour_nextRoom_5, li6, bk_le (by omega) (by omega), jbr_n (by omega), inB_nI ha (by omega), jgd_t, ixn (by omega), show gI m (1 + 2) a = nI (vE v a) from hv.2.1 a ha, kI_tb (by omega) (by omega)]
      cases hh : (vE v a).testBit n
      · rw [bf_p rfl]
        refine no (fun z => ?_)
        have := (byy_lt z).1
        unfold hrv at this
        rw [hh] at this
        exact absurd this (by decide)
      · rw [bf_n rfl, inB_nI hn (by omega), jgd_t, ixn (by omega), hs.1 n hn, li1000, bk_le (by omega) (by omega)]
        by_cases ht : t n < 10000
        · have hvn := hbn.resolve_left (by omega)
          have hp : phc (t n) < 1000 := by unfold phc; rw [if_pos ht]; omega
          have hby : byy (hrv v) (wtg v g) t a n = t n + wtg v g n := if_pos ⟨hh, ht⟩
          have hwn := wtg_w v g n
          rw [jbr_n (by omega), e_Rumour_nextRoom_44, jbr_n (by decide), bk_m1 (by omega), show nI n + 1 = nI (n + 1) from nI_add n 1]
          by_cases hb0 : b = 0
          · rw [jbr_p hb0, if_pos ⟨by omega, Or.inl hb0⟩, nI_pred]
          · obtain ⟨b', rfl⟩ : ∃ b', b = b' + 1 := ⟨b - 1, by omega⟩
            rw [Nat.add_sub_cancel] at i2 ⊢
            obtain ⟨j1, j2, j3⟩ := byy_lt (i2 (by omega))
            have hvb := (hb b' (by omega)).resolve_left (by omega)
            have hwb := wtg_w v g b'
            have hm := (phc_m (x := t n + wtg v g n) (y := t b' + wtg v g b') (by omega) (Or.inr (by omega))).1
            have l1 := phc_l (x := t n + wtg v g n) (Or.inr (by omega))
            have l2 := phc_l (x := t b' + wtg v g b') (Or.inr (by omega))
            rw [jbr_n hb0, c_cost hw hs hb hn hg ht, bI_some, nI_pred, c_cost hw hs hb (by omega) hg j2, bI_some, bk_le (by omega) (by omega)]
            by_cases hc : phc (t b' + wtg v g b') ≤ phc (t n + wtg v g n)
            · rw [jbr_p hc, if_neg (fun z => by omega), nI_pred]
            · rw [jbr_n hc, if_pos ⟨by omega, Or.inr (by omega)⟩, nI_pred]
        · have e10 : phc (t n) = 1000 := if_neg ht
          rw [jbr_p (by omega)]
          exact no (fun z => ht (byy_lt z).2.1)
    · show (if _ then _ else _) ≤ _ ∧ _
      split
      · rename_i hc
        exact ⟨Nat.le_refl _, fun _ => hc.1⟩
      · exact ⟨by omega, i2⟩) 6 0 0 (by omega) ⟨Nat.le_refl 0, fun h => absurd h (by omega)⟩
  refine Eq.trans L.1 ?_
  show evj _ _ _ _ _ = _
  rw [e_Rumour_nextRoom_5, jbr_p (by decide)]
  rfl
theorem nww_0 {hr : Nat → Nat → Bool} {wt t : Nat → Nat} {v : Nat} (h : ∀ u, u < 6 → ¬ byy hr wt t v u < 10000) (ht : t v ≤ 10000) : nww hr wt t v 6 = t v := by
  have h1 := nww_t hr wt t v 6
  rcases nww_c hr wt t v 6 with e | ⟨u, hu, e⟩
  · exact e
  · have := h u hu
    omega
theorem nww_1 {hr : Nat → Nat → Bool} {wt t : Nat → Nat} {v b : Nat} (hb : b < 6) (h : ∀ u, u < 6 → byy hr wt t v b ≤ byy hr wt t v u) : nww hr wt t v 6 = min (t v) (byy hr wt t v b) := by
  have h1 := nww_t hr wt t v 6
  have h2 := nww_b hr wt t v 6 hb
  rcases nww_c hr wt t v 6 with e | ⟨u, hu, e⟩
  · omega
  · have := h u hu
    omega
theorem VB_K {hr : Nat → Nat → Bool} {wt : Nat → Nat} {g : Nat} {t : Nat → Nat} (h : KI hr wt g t) : VB t := fun u hu => KI_v h hu
theorem c_step {m : jm} {v : vst} {g a : Nat} {t : Nat → Nat} {x : Int32} (hw : WV v) (hv : CV m 1 v) (hs : NS m v g t) (hk : KI (hrv v) (wtg v g) g t) (ha : a < 6) (hg : g < 6) : ∃ m', evj 67 89 [jR 6 57, jR 8 1, jU, jI x, jI (nI a), jU] [] m = evj 67 89 [jR 6 57, jR 8 1, jU, jI x, jI (nI (a + 1)), jU] [] m' ∧ NS m' v g (vup t a (nww (hrv v) (wtg v g) t a 6)) ∧ fI 57 58 m m' := by
  have hb := VB_K hk
  have hle := nxr_le (hrv v) (wtg v g) t a 6
  have hta := hb a ha
  have pa := phc_l (x := t a) (by omega)
  rw [e_Rumour_spread_89, li6, bk_le (by omega) (by omega), jbr_n (by omega), c_nxr hw hv hs hb ha hg, bI_some, bk_m1 (by omega), show nI a + 1 = nI (a + 1) from nI_add a 1]
  rcases nxr_j (hrv v) (wtg v g) t a 6 with ⟨h1, h2⟩ | ⟨h1, h2, h3, h4⟩
  · rw [jbr_p h1, nww_0 h2 (by omega)]
    have e : vup t a (t a) = t := by
      funext w
      by_cases e : w = a
      · rw [e, vup_e]
      · rw [vup_n _ _ e]
    rw [e]
    exact ⟨m, rfl, hs, fI_r _ _ _⟩
  · obtain ⟨b, hbe⟩ : ∃ b, nxr (hrv v) (wtg v g) t a 6 = b + 1 := ⟨nxr (hrv v) (wtg v g) t a 6 - 1, by omega⟩
    rw [hbe, Nat.add_sub_cancel] at h2 h3
    obtain ⟨j1, j2, j3⟩ := byy_lt h2
    have hbb := (hb b (by omega)).resolve_left (by omega)
    have hwb := wtg_w v g b
    have hm := (phc_m (x := t b + wtg v g b) (y := t a) (by omega) (by omega)).2
    have pb := phc_l (x := t b + wtg v g b) (Or.inr (by omega))
    rw [jbr_n (by omega), inB_nI ha (by omega), jgd_t, hbe, nI_pred, c_cost hw hs hb (by omega) hg j2, bI_some, jgd_t, ixn (by omega), hs.1 a ha, nww_1 (show b < 6 by omega) h3, j3]
    refine ⟨_, rfl, ⟨fun u hu => ?_, ?_, ?_⟩, fI_s m (by omega) (by omega)⟩
    · by_cases e : u = a
      · subst e
        rw [gI_eq, vup_e]
        by_cases hc : phc (t b + wtg v g b) < phc (t u)
        · rw [if_pos ((nI_ltI (by omega) (by omega)).mpr hc), Nat.min_eq_right (by omega)]
        · rw [if_neg (fun z => hc ((nI_ltI (by omega) (by omega)).mp z)), Nat.min_eq_left (by omega)]
      · rw [gI_ne _ (by omega), vup_n _ _ e]
        exact hs.1 u hu
    · rw [gI_ne _ (by omega)]; exact hs.2.1
    · rw [gI_ne _ (by omega)]; exact hs.2.2
theorem c_spread {μ : jm} {v : vst} {g : Nat} (hw : WV v) (hv : CV μ 1 v) (hg : g < 6) : ∃ m, cj 67 [jR 6 57, jR 8 1, jI (nI g)] μ = some (none, m) ∧ NS m v g (tE (hrv v) (wtg v g) g) ∧ fI 57 58 μ m := by
  have w3 : vn v ≤ 7 := hw.2.2.1
  rw [e_Rumour_spread]
  obtain ⟨m1, a1, a2, a3, a4⟩ := lp_r (W := fun i (m : jm) => evj 67 12 [jR 6 57, jR 8 1, jU, jI (nI i), jU, jU] [] m) (n := vn v) (fun i m => gI m 57 1 = nI (ppl v i) ∧ gI m 57 2 = nI g ∧ fI 57 58 μ m) (fun p m hp hI => by
    obtain ⟨i1, i2, i3⟩ := hI
    show ∃ a', evj _ _ _ _ _ = evj _ _ _ _ _ ∧ _
    have hv1 := CV_fI i3 (by omega) hv
    obtain ⟨-, -, w43, -⟩ := hw.2.2.2.1 p hp
    rw [e_Rumour_spread_12, show gI m 1 6 = nI (vn v) from hv1.2.2.1, bk_le (by omega) (by omega), jbr_n (by omega), inB_nI (by omega) (by omega), jgd_t, ixn (by omega), show gI m (1 + 5) p = nI (vR v p) from (hv1.2.2.2.1 p hp).2.2.1, i1, kI_1 (by omega), kI_or, show nI p + 1 = nI (p + 1) from nI_add p 1]
    refine ⟨_, rfl, ?_, ?_, fI_t i3 (fI_s m (by omega) (by omega))⟩
    · rw [gI_eq]
      unfold ppl
      rw [itr_s, Nat.zero_add]
    · rw [gI_ne _ (by omega)]; exact i2) (vn v) 0 (sI (sI μ 57 2 (nI g)) 57 1 (0 : Int32)) (by omega) ⟨by rw [gI_eq]; rfl, by rw [gI_ne _ (by omega), gI_eq], fI_t (fI_s μ (by omega) (by omega)) (fI_s _ (by omega) (by omega))⟩
  obtain ⟨m2, b1, b2, b3, b4, b5⟩ := lp_r (W := fun i (m : jm) => evj 67 45 [jR 6 57, jR 8 1, jU, jI (nI i), jU, jU] [] m) (n := 6) (fun i m => (∀ u, u < i → gI m 58 u = nI (phc (t00 g u))) ∧ gI m 57 1 = nI (ppl v (vn v)) ∧ gI m 57 2 = nI g ∧ fI 57 58 μ m) (fun r m hr hI => by
    obtain ⟨i0, i1, i2, i3⟩ := hI
    show ∃ a', evj _ _ _ _ _ = evj _ _ _ _ _ ∧ _
    rw [e_Rumour_spread_45, li6, bk_le (by omega) (by omega), jbr_n (by omega), i2, bk_ne (by omega) (by omega), inB_nI hr (by omega), jgd_t, jgd_t, ixn (by omega), show nI r + 1 = nI (r + 1) from nI_add r 1]
    have key : ∀ x, x = nI (phc (t00 g r)) → (∀ u, u < r + 1 → gI (sI m 58 r x) 58 u = nI (phc (t00 g u))) ∧ gI (sI m 58 r x) 57 1 = nI (ppl v (vn v)) ∧ gI (sI m 58 r x) 57 2 = nI g ∧ fI 57 58 μ (sI m 58 r x) := fun x hx => ⟨fun u hu => by
      by_cases e : u = r
      · subst e; rw [gI_eq, hx]
      · rw [gI_ne _ (by omega)]; exact i0 u (by omega), by rw [gI_ne _ (by omega)]; exact i1, by rw [gI_ne _ (by omega)]; exact i2, fI_t i3 (fI_s m (by omega) (by omega))⟩
    by_cases e : r = g
    · rw [jbr_n (fun z => z e)]
      exact ⟨_, rfl, key _ (by rw [show t00 g r = 0 from if_pos e]; rfl)⟩
    · rw [jbr_p e]
      exact ⟨_, rfl, key _ (by rw [show t00 g r = 10000 from if_neg e]; rfl)⟩) 6 0 m1 (by omega) ⟨fun u hu => absurd hu (Nat.not_lt_zero u), a2, a3, a4⟩
  obtain ⟨m3, c1, c2, c3⟩ := lp_r (W := fun i (m : jm) => evj 67 80 [jR 6 57, jR 8 1, jU, jI (nI i), jU, jU] [] m) (n := 6) (fun i m => NS m v g (tkk (hrv v) (wtg v g) g i) ∧ fI 57 58 μ m) (fun k m hk hI => by
    obtain ⟨i1, i2⟩ := hI
    show ∃ a', evj _ _ _ _ _ = evj _ _ _ _ _ ∧ _
    rw [e_Rumour_spread_80, li6, bk_le (by omega) (by omega), jbr_n (by omega)]
    obtain ⟨m4, d1, d2, d3⟩ := lp_r (W := fun i (m : jm) => evj 67 89 [jR 6 57, jR 8 1, jU, jI (nI k), jI (nI i), jU] [] m) (n := 6) (fun i m => NS m v g (rnd (hrv v) (wtg v g) (tkk (hrv v) (wtg v g) g k) i) ∧ fI 57 58 μ m) (fun a m ha hI => by
      obtain ⟨i1, i2⟩ := hI
      obtain ⟨m', x1, x2, x3⟩ := c_step (x := nI k) hw (CV_fI i2 (by omega) hv) i1 (KI_r (wtg_w v g) (KI_k (wtg_w v g) k) a (by omega)) ha hg
      exact ⟨m', x1, by rw [rnd_s]; exact x2, fI_t i2 x3⟩) 6 0 m (by omega) ⟨i1, i2⟩
    refine ⟨m4, Eq.trans d1 ?_, by rw [tkk_s]; exact d2, d3⟩
    show evj _ _ _ _ _ = _
    rw [e_Rumour_spread_89, jbr_p (by decide), show nI k + 1 = nI (k + 1) from nI_add k 1]) 6 0 m2 (by omega) ⟨⟨b2, b3, b4⟩, b5⟩
  refine ⟨m3, Eq.trans a1 ?_, c2, c3⟩
  have hv1 := CV_fI a4 (by omega) hv
  show evj _ _ _ _ _ = _
  rw [e_Rumour_spread_12, show gI m1 1 6 = nI (vn v) from hv1.2.2.1, jbr_p (by rw [kI_le (by omega) (by omega)]; omega)]
  refine Eq.trans b1 ?_
  show evj _ _ _ _ _ = _
  rw [e_Rumour_spread_45, jbr_p (by decide)]
  refine Eq.trans c1 ?_
  show evj _ _ _ _ _ = _
  rw [e_Rumour_spread_80, jbr_p (by decide)]
/-- the reference's costs -/
def crc (x : Nat) : Int32 := if x < 10000 then nI x else -1
def NM (m : jm) (t : Nat → Nat) : Prop := ∀ u, u < 6 → gI m 74 u = crc (t u)
theorem ge0 {x : Nat} (h : x < 2147483648) : (0 : Int32) ≤ nI x := by rw [li0, nI_leI (by omega) (by omega)]; omega
theorem m_cost {m : jm} {v : vst} {g a u : Nat} {t : Nat → Nat} (hw : WV v) (hv : MV m 0 v) (hs : NM m t) (hb : VB t) (ha : a < 6) (hu : u < 6) (hg : g < 6) : cj 193 [jR 10 64, jI (nI a), jI (nI u), jI (nI g)] m = some (some (jI (crc (byy (hrv v) (wtg v g) t a u))), m) := by
  have hE : gI m 65 (36 + 6 * a + u) = nI (bN ((vE v a).testBit u)) := by have := hv.2.1 a u ha hu; rwa [show 0 + 36 + 6 * a + u = 36 + 6 * a + u from by omega] at this
  rw [e_M_costOn, li36, li6, kI_mul, nI_add, nI_add, inB_nI (by omega) (by omega), jgd_t, ixn (by omega), hE]
  unfold byy hrv
  cases hh : (vE v a).testBit u
  · rw [bf_p rfl, if_neg (fun z => absurd z.1 (by decide))]
    rfl
  · rw [bf_n rfl, inB_nI hu (by omega), jgd_t, ixn (by omega), hs u hu]
    by_cases ht : t u < 10000
    · have hvu := (hb u hu).resolve_left (by omega)
      have hwu := wtg_w v g u
      have e1 : crc (t u) = nI (t u) := if_pos ht
      have e2 : crc (t u + wtg v g u) = nI (t u + wtg v g u) := if_pos (by omega)
      rw [e1, jbr_p (ge0 (by omega)), if_pos ⟨rfl, ht⟩, e2, jgd_t, bk_eq (by omega) (by omega), li1, nI_add, li0, nI_add, show (100 : Int32) = nI 100 from rfl, nI_add]
      unfold wtg
      by_cases e : u = g
      · rw [jbr_p e, if_pos (Or.inl e)]
      · rw [jbr_n e, m_pin hw hv hu, bI_some]
        have hp := pin_lt v (2 ^ u) (vn v)
        have w3 : vn v ≤ 7 := hw.2.2.1
        have h27 : 2 ^ vn v ≤ 2 ^ 7 := Nat.pow_le_pow_right (by omega) w3
        rw [bk_ne (by omega) (by omega)]
        by_cases e3 : pin v (2 ^ u) (vn v) = 0
        · rw [jbr_n (fun z => z e3), if_neg (by omega)]
        · rw [jbr_p e3, if_pos (Or.inr e3)]
    · have e1 : crc (t u) = -1 := if_neg ht
      rw [e1, jbr_n (by decide), if_neg (fun z => ht z.2)]
      rfl
theorem crc_n {x : Nat} (h : x < 10000) : crc x = nI x := if_pos h
theorem crc_i {x : Nat} (h : ¬ x < 10000) : crc x = -1 := if_neg h
theorem byy_c {hr : Nat → Nat → Bool} {wt t : Nat → Nat} {v u c : Nat} (h : ¬ u = v) : byy hr wt (vup t v c) v u = byy hr wt t v u := by
  unfold byy
  rw [vup_n _ _ h]
/-- a room's cost, made anew -/
theorem m_step {m : jm} {v : vst} {g a : Nat} {t : Nat → Nat} {x : Int32} (hw : WV v) (hv : MV m 0 v) (hs : NM m t) (hk : KI (hrv v) (wtg v g) g t) (ha : a < 6) (hg : g < 6) : ∃ m', evj 192 40 [jR 10 64, jI (nI g), jI x, jI (nI a), jU, jU] [] m = evj 192 40 [jR 10 64, jI (nI g), jI x, jI (nI (a + 1)), jU, jU] [] m' ∧ NM m' (vup t a (nww (hrv v) (wtg v g) t a 6)) ∧ fI 74 74 m m' := by
  have hb := VB_K hk
  have hta := hb a ha
  rw [e_M_findCosts_40, li6, bk_le (by omega) (by omega), jbr_n (by omega)]
  obtain ⟨m1, a1, a2, a3⟩ := lp_r (W := fun i (m : jm) => evj 192 49 [jR 10 64, jI (nI g), jI x, jI (nI a), jI (nI i), jU] [] m) (n := 6) (fun i m' => NM m' (vup t a (nww (hrv v) (wtg v g) t a i)) ∧ fI 74 74 m m') (fun u m' hu hI => by
    obtain ⟨i1, i2⟩ := hI
    show ∃ a', evj _ _ _ _ _ = evj _ _ _ _ _ ∧ _
    have hv1 := MV_fI i2 (by omega) hw hv
    have hn1 := nww_t (hrv v) (wtg v g) t a u
    have hn2 : nww (hrv v) (wtg v g) t a u < 10000 → nww (hrv v) (wtg v g) t a u % 100 ≤ 6 ∧ nww (hrv v) (wtg v g) t a u / 100 ≤ 6 := fun hl => by
      rcases nww_c (hrv v) (wtg v g) t a u with e | ⟨y, hy, e⟩
      · omega
      · obtain ⟨j1, j2, j3⟩ := byy_lt (show byy (hrv v) (wtg v g) t a y < 10000 by omega)
        have := (hb y (by omega)).resolve_left (by omega)
        have := wtg_w v g y
        omega
    have gc : gI m' 74 a = crc (nww (hrv v) (wtg v g) t a u) := by rw [i1 a ha, vup_e]
    have fin : ∀ y, y = crc (nww (hrv v) (wtg v g) t a (u + 1)) → NM (sI m' 74 a y) (vup t a (nww (hrv v) (wtg v g) t a (u + 1))) ∧ fI 74 74 m (sI m' 74 a y) := fun y hy => ⟨fun w hw6 => by
      by_cases e : w = a
      · subst e; rw [gI_eq, vup_e, hy]
      · rw [gI_ne _ (by omega), vup_n _ _ e, i1 w hw6, vup_n _ _ e], fI_t i2 (fI_s _ (by omega) (by omega))⟩
    have nx1 : nI u + 1 = nI (u + 1) := nI_add u 1
    rw [e_M_findCosts_49, li6, bk_le (by omega) (by omega), jbr_n (by omega), bk_ne (by omega) (by omega)]
    -- what comes by u, with the cost so far
    have cmp : ∀ (z : Nat), (z < 10000 → z ≤ 606) → (nww (hrv v) (wtg v g) t a (u + 1) = if z < nww (hrv v) (wtg v g) t a u then z else nww (hrv v) (wtg v g) t a u) → ∃ a' : jm, evj 192 73 [jR 10 64, jI (nI g), jI x, jI (nI a), jI (nI u), jU] [jI (crc z)] m' = evj 192 49 [jR 10 64, jI (nI g), jI x, jI (nI a), jI (nI (u + 1)), jU] [] a' ∧ NM a' (vup t a (nww (hrv v) (wtg v g) t a (u + 1))) ∧ fI 74 74 m a' := fun z hz hq => by
      rw [e_M_findCosts_73, inB_nI ha (by omega)]
      simp only [jgd_t]
      rw [ixn (by omega), gc, nx1]
      by_cases z1 : z < 10000
      · rw [crc_n z1, jbr_n (show ¬ nI z < 0 from by rw [lt0, nI_toInt (by omega)]; omega)]
        by_cases z2 : nww (hrv v) (wtg v g) t a u < 10000
        · rw [crc_n z2, jbr_n (show ¬ nI (nww (hrv v) (wtg v g) t a u) < 0 from by rw [lt0, nI_toInt (by omega)]; omega), bk_le (by omega) (by omega)]
          by_cases z3 : nww (hrv v) (wtg v g) t a u ≤ z
          · rw [jbr_p z3]
            exact ⟨_, rfl, fin _ (by rw [hq, if_neg (by omega), crc_n z2])⟩
          · rw [jbr_n z3]
            exact ⟨_, rfl, fin _ (by rw [hq, if_pos (by omega), crc_n z1])⟩
        · rw [crc_i z2, jbr_p (by decide)]
          exact ⟨_, rfl, fin _ (by rw [hq, if_pos (by omega), crc_n z1])⟩
      · rw [crc_i z1, jbr_p (by decide)]
        refine ⟨_, rfl, fin _ ?_⟩
        rw [hq]
        by_cases z2 : z < nww (hrv v) (wtg v g) t a u
        · rw [if_pos z2, crc_i z1, crc_i (by omega)]
        · rw [if_neg z2]
    have hby : byy (hrv v) (wtg v g) t a u < 10000 → byy (hrv v) (wtg v g) t a u ≤ 606 := fun hl => by
      obtain ⟨j1, j2, j3⟩ := byy_lt hl
      have := (hb u (by omega)).resolve_left (by omega)
      have := wtg_w v g u
      omega
    have hmin : nww (hrv v) (wtg v g) t a (u + 1) = if byy (hrv v) (wtg v g) t a u < nww (hrv v) (wtg v g) t a u then byy (hrv v) (wtg v g) t a u else nww (hrv v) (wtg v g) t a u := by
      rw [nww_s]
      split <;> omega
    by_cases ag : a = g
    · rw [jbr_n (fun z => z ag)]
      have h0 : t a = 0 := by rw [ag]; exact hk.1
      refine cmp 10000 (fun z => absurd z (by omega)) ?_
      rw [hmin, if_neg (by omega), if_neg (by omega)]
    · rw [jbr_p ag]
      by_cases ua : u = a
      · -- the room itself: it costs more than it did
        subst ua
        have hE : gI m' 65 (36 + 6 * u + u) = nI (bN ((vE v u).testBit u)) := by have := hv1.2.1 u u ha ha; rwa [show 0 + 36 + 6 * u + u = 36 + 6 * u + u from by omega] at this
        have self : ∃ z, cj 193 [jR 10 64, jI (nI u), jI (nI u), jI (nI g)] m' = some (some (jI (crc z)), m') ∧ (z < 10000 → z ≤ 707) ∧ nww (hrv v) (wtg v g) t u u ≤ z := by
          rw [e_M_costOn, li36, li6, kI_mul, nI_add, nI_add, inB_nI (by omega) (by omega), jgd_t, ixn (by omega), hE]
          cases hh : (vE v u).testBit u
          · rw [bf_p rfl]
            exact ⟨10000, rfl, fun z => absurd z (by omega), by omega⟩
          · rw [bf_n rfl, inB_nI hu (by omega), jgd_t, ixn (by omega), gc]
            by_cases z2 : nww (hrv v) (wtg v g) t u u < 10000
            · have hv2 := hn2 z2
              rw [crc_n z2, jbr_p (ge0 (by omega)), jgd_t, bk_eq (by omega) (by omega), jbr_n ag, m_pin hw hv1 hu, bI_some, li1, nI_add, li0, nI_add, show (100 : Int32) = nI 100 from rfl, nI_add]
              have hp := pin_lt v (2 ^ u) (vn v)
              have w3 : vn v ≤ 7 := hw.2.2.1
              have h27 : 2 ^ vn v ≤ 2 ^ 7 := Nat.pow_le_pow_right (by omega) w3
              rw [bk_ne (by omega) (by omega)]
              by_cases e3 : pin v (2 ^ u) (vn v) = 0
              · rw [jbr_n (fun z => z e3)]
                exact ⟨nww (hrv v) (wtg v g) t u u + 1 + 100, by rw [crc_n (by omega)], fun _ => by omega, by omega⟩
              · rw [jbr_p e3]
                exact ⟨nww (hrv v) (wtg v g) t u u + 1 + 0, by rw [crc_n (by omega)], fun _ => by omega, by omega⟩
            · rw [crc_i z2, jbr_n (by decide)]
              exact ⟨10000, rfl, fun z => absurd z (by omega), by omega⟩
        obtain ⟨z, y1, y2, y3⟩ := self
        rw [y1, bI_some]
        have same : nww (hrv v) (wtg v g) t u (u + 1) = nww (hrv v) (wtg v g) t u u := by
          rw [hmin, if_neg (fun zz => ?_)]
          obtain ⟨j1, j2, j3⟩ := byy_lt (show byy (hrv v) (wtg v g) t u u < 10000 by omega)
          omega
        rw [e_M_findCosts_73, inB_nI ha (by omega)]
        simp only [jgd_t]
        rw [ixn (by omega), gc, nx1]
        by_cases z1 : z < 10000
        · have y2 := y2 z1
          rw [crc_n z1, jbr_n (show ¬ nI z < 0 from by rw [lt0, nI_toInt (by omega)]; omega), crc_n (show nww (hrv v) (wtg v g) t u u < 10000 by omega), jbr_n (show ¬ nI (nww (hrv v) (wtg v g) t u u) < 0 from by rw [lt0, nI_toInt (by omega)]; omega), bk_le (by omega) (by omega), jbr_p y3]
          exact ⟨_, rfl, fin _ (by rw [same, crc_n (by omega)])⟩
        · rw [crc_i z1, jbr_p (by decide)]
          exact ⟨_, rfl, fin _ (by rw [same])⟩
      · -- another room
        have hE : gI m' 65 (36 + 6 * a + u) = nI (bN ((vE v a).testBit u)) := by have := hv1.2.1 a u ha hu; rwa [show 0 + 36 + 6 * a + u = 36 + 6 * a + u from by omega] at this
        have other : cj 193 [jR 10 64, jI (nI a), jI (nI u), jI (nI g)] m' = some (some (jI (crc (byy (hrv v) (wtg v g) t a u))), m') := by
          have hcu : gI m' 74 u = crc (t u) := by rw [i1 u hu, vup_n _ _ ua]
          rw [e_M_costOn, li36, li6, kI_mul, nI_add, nI_add, inB_nI (by omega) (by omega), jgd_t, ixn (by omega), hE]
          unfold byy hrv
          cases hh : (vE v a).testBit u
          · rw [bf_p rfl, if_neg (fun z => absurd z.1 (by decide))]
            rfl
          · rw [bf_n rfl, inB_nI hu (by omega), jgd_t, ixn (by omega), hcu]
            by_cases ht : t u < 10000
            · have hvu := (hb u hu).resolve_left (by omega)
              have hwu := wtg_w v g u
              have e1 : crc (t u) = nI (t u) := if_pos ht
              have e2 : crc (t u + wtg v g u) = nI (t u + wtg v g u) := if_pos (by omega)
              rw [e1, jbr_p (ge0 (by omega)), if_pos ⟨rfl, ht⟩, e2, jgd_t, bk_eq (by omega) (by omega), li1, nI_add, li0, nI_add, show (100 : Int32) = nI 100 from rfl, nI_add]
              unfold wtg
              by_cases e : u = g
              · rw [jbr_p e, if_pos (Or.inl e)]
              · rw [jbr_n e, m_pin hw hv1 hu, bI_some]
                have hp := pin_lt v (2 ^ u) (vn v)
                have w3 : vn v ≤ 7 := hw.2.2.1
                have h27 : 2 ^ vn v ≤ 2 ^ 7 := Nat.pow_le_pow_right (by omega) w3
                rw [bk_ne (by omega) (by omega)]
                by_cases e3 : pin v (2 ^ u) (vn v) = 0
                · rw [jbr_n (fun z => z e3), if_neg (by omega)]
                · rw [jbr_p e3, if_pos (Or.inr e3)]
            · have e1 : crc (t u) = -1 := if_neg ht
              rw [e1, jbr_n (by decide), if_neg (fun z => ht z.2)]
              rfl
        rw [other, bI_some]
        exact cmp _ hby hmin) 6 0 m (by omega) ⟨fun w hw6 => by
      by_cases e : w = a
      · subst e; rw [vup_e]; exact hs w hw6
      · rw [vup_n _ _ e]; exact hs w hw6, fI_r _ _ _⟩
  refine ⟨m1, Eq.trans a1 ?_, a2, a3⟩
  show evj _ _ _ _ _ = _
  rw [e_M_findCosts_49, jbr_p (by decide), show nI a + 1 = nI (a + 1) from nI_add a 1]
theorem m_find {μ : jm} {v : vst} {g : Nat} (hw : WV v) (hv : MV μ 0 v) (hg : g < 6) : ∃ m, cj 192 [jR 10 64, jI (nI g)] μ = some (none, m) ∧ NM m (tE (hrv v) (wtg v g) g) ∧ fI 74 74 μ m := by
  rw [e_M_findCosts]
  obtain ⟨m1, a1, a2, a3⟩ := lp_r (W := fun i (m : jm) => evj 192 2 [jR 10 64, jI (nI g), jI (nI i), jU, jU, jU] [] m) (n := 6) (fun i m => (∀ u, u < i → gI m 74 u = crc (t00 g u)) ∧ fI 74 74 μ m) (fun r m hr hI => by
    obtain ⟨i0, i3⟩ := hI
    show ∃ a', evj _ _ _ _ _ = evj _ _ _ _ _ ∧ _
    rw [e_M_findCosts_2, li6, bk_le (by omega) (by omega), jbr_n (by omega), bk_ne (by omega) (by omega), inB_nI hr (by omega), jgd_t, jgd_t, ixn (by omega), show nI r + 1 = nI (r + 1) from nI_add r 1]
    have key : ∀ x, x = crc (t00 g r) → (∀ u, u < r + 1 → gI (sI m 74 r x) 74 u = crc (t00 g u)) ∧ fI 74 74 μ (sI m 74 r x) := fun x hx => ⟨fun u hu => by
      by_cases e : u = r
      · subst e; rw [gI_eq, hx]
      · rw [gI_ne _ (by omega)]; exact i0 u (by omega), fI_t i3 (fI_s m (by omega) (by omega))⟩
    by_cases e : r = g
    · rw [jbr_n (fun z => z e)]
      exact ⟨_, rfl, key _ (by rw [show t00 g r = 0 from if_pos e]; rfl)⟩
    · rw [jbr_p e]
      exact ⟨_, rfl, key _ (by rw [show t00 g r = 10000 from if_neg e]; rfl)⟩) 6 0 μ (by omega) ⟨fun u hu => absurd hu (Nat.not_lt_zero u), fI_r _ _ _⟩
  obtain ⟨m3, c1, c2, c3⟩ := lp_r (W := fun i (m : jm) => evj 192 32 [jR 10 64, jI (nI g), jI (nI i), jU, jU, jU] [] m) (n := 6) (fun i m => NM m (tkk (hrv v) (wtg v g) g i) ∧ fI 74 74 μ m) (fun k m hk hI => by
    obtain ⟨i1, i2⟩ := hI
    show ∃ a', evj _ _ _ _ _ = evj _ _ _ _ _ ∧ _
    rw [e_M_findCosts_32, li6, bk_le (by omega) (by omega), jbr_n (by omega)]
    obtain ⟨m4, d1, d2, d3⟩ := lp_r (W := fun i (m : jm) => evj 192 40 [jR 10 64, jI (nI g), jI (nI k), jI (nI i), jU, jU] [] m) (n := 6) (fun i m => NM m (rnd (hrv v) (wtg v g) (tkk (hrv v) (wtg v g) g k) i) ∧ fI 74 74 μ m) (fun a m ha hI => by
      obtain ⟨i1, i2⟩ := hI
      obtain ⟨m', x1, x2, x3⟩ := m_step (x := nI k) hw (MV_fI i2 (by omega) hw hv) i1 (KI_r (wtg_w v g) (KI_k (wtg_w v g) k) a (by omega)) ha hg
      exact ⟨m', x1, by rw [rnd_s]; exact x2, fI_t i2 x3⟩) 6 0 m (by omega) ⟨i1, i2⟩
    refine ⟨m4, Eq.trans d1 ?_, by rw [tkk_s]; exact d2, d3⟩
    show evj _ _ _ _ _ = _
    rw [e_M_findCosts_40, jbr_p (by decide), show nI k + 1 = nI (k + 1) from nI_add k 1]) 6 0 m1 (by omega) ⟨a2, a3⟩
  refine ⟨m3, Eq.trans a1 ?_, c2, c3⟩
  show evj _ _ _ _ _ = _
  rw [e_M_findCosts_2, jbr_p (by decide)]
  refine Eq.trans c1 ?_
  show evj _ _ _ _ _ = _
  rw [e_M_findCosts_32, jbr_p (by decide)]
