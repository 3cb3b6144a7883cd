/-! news: the answers -/
def tN (v : vst) (g : Nat) : Nat → Nat := tE (hrv v) (wtg v g) g
def nxN (v : vst) (g a : Nat) : Nat := nxr (hrv v) (wtg v g) (tN v g) a 6 - 1
def wlk (v : vst) (g a n : Nat) : Nat := itr (fun _ x => nxN v g x) n 0 a
theorem wlk_s (v : vst) (g a n : Nat) : wlk v g a (n + 1) = nxN v g (wlk v g a n) := by
  show itr _ (n + 1) 0 _ = _
  rw [itr_s]
  rfl
theorem KI_N (v : vst) (g : Nat) : KI (hrv v) (wtg v g) g (tN v g) := KI_k (wtg_w v g) 6
theorem nx_N {v : vst} {g a : Nat} (ha : a < 6) (hr : 1 ≤ tN v g a % 100) (hf : tN v g a < 10000) : nxN v g a < 6 ∧ nxr (hrv v) (wtg v g) (tN v g) a 6 = nxN v g a + 1 ∧ tN v g (nxN v g a) < 10000 ∧ tN v g (nxN v g a) % 100 + 1 = tN v g a % 100 ∧ byy (hrv v) (wtg v g) (tN v g) a (nxN v g a) = tN v g a ∧ ∀ u, u < nxN v g a → byy (hrv v) (wtg v g) (tN v g) a u ≠ tN v g a := by
  have h0 : tN v g g = 0 := (KI_N v g).1
  have hag : a ≠ g := fun z => by rw [z, h0] at hr; omega
  obtain ⟨n1, n2, n3, n4, n5⟩ := nxE (wtg_w v g) ha hag hf
  have hle := nxr_le (hrv v) (wtg v g) (tN v g) a 6
  have hlt : nxN v g a < 6 := by unfold nxN; omega
  have n5 : tN v g (nxN v g a) + wtg v g (nxN v g a) = tN v g a := n5
  have n4 : tN v g (nxN v g a) < 10000 := n4
  have n1 : 0 < nxr (hrv v) (wtg v g) (tN v g) a 6 := n1
  have hb := (KI_v (KI_N v g) hlt).resolve_left (by omega)
  have hw := wtg_w v g (nxN v g a)
  exact ⟨hlt, by unfold nxN; omega, n4, by omega, n2, n3⟩
theorem r0_g {v : vst} {g a : Nat} (ha : a < 6) (hr : tN v g a % 100 = 0) (hf : tN v g a < 10000) : a = g := by
  refine Decidable.byContradiction (fun hag => ?_)
  obtain ⟨n1, n2, n3, n4, n5⟩ := nxE (wtg_w v g) ha hag hf
  have hle := nxr_le (hrv v) (wtg v g) (tN v g) a 6
  have hlt : nxN v g a < 6 := by unfold nxN; omega
  have n5 : tN v g (nxN v g a) + wtg v g (nxN v g a) = tN v g a := n5
  have n4 : tN v g (nxN v g a) < 10000 := n4
  have hb := (KI_v (KI_N v g) hlt).resolve_left (by omega)
  have hw := wtg_w v g (nxN v g a)
  omega
theorem wl_p {v : vst} {g a : Nat} (ha : a < 6) (hf : tN v g a < 10000) : ∀ s, s ≤ tN v g a % 100 → wlk v g a s < 6 ∧ tN v g (wlk v g a s) < 10000 ∧ tN v g (wlk v g a s) % 100 + s = tN v g a % 100
  | 0, _ => ⟨ha, hf, rfl⟩
  | s + 1, h => by
    obtain ⟨h1, h2, h3⟩ := wl_p ha hf s (by omega)
    obtain ⟨n1, n2, n3, n4, n5, n6⟩ := nx_N h1 (by omega) h2
    rw [wlk_s]
    exact ⟨n1, n3, by omega⟩
def rowN (v : vst) (g a j : Nat) : Int32 := if j ≤ tN v g a % 100 then nI (wlk v g a j) else -5
theorem c_row {m : jm} {v : vst} {g a j : Nat} (hw : WV v) (hv : CV m 1 v) (hs : NS m v g (tN v g)) (ha : a < 6) (hg : g < 6) (hj : j < 2147483648) (hf : tN v g a < 10000) : cj 71 [jR 6 57, jR 8 1, jI (nI a), jI (nI j)] m = some (some (jI (rowN v g a j)), m) := by
  have hb := (KI_v (KI_N v g) ha).resolve_left (by omega)
  have e : phc (tN v g a) = 16 * (tN v g a / 100) + tN v g a % 100 := if_pos hf
  rw [e_Rumour_roomOfRow, inB_nI ha (by omega), jgd_t, jgd_t, ixn (by omega), hs.1 a ha, e, li1000, bk_lt (by omega) (by omega), jbr_p (by omega), show (16 : Int32) = nI 16 from rfl, show decide (¬ nI 16 = 0) = true from by decide, jgd_t, pk_rem (by omega) (by omega) (by omega), bk_le (by omega) (by omega), show (16 * (tN v g a / 100) + tN v g a % 100) % 16 = tN v g a % 100 from by omega]
  unfold rowN
  by_cases h : j ≤ tN v g a % 100
  · rw [jbr_p h, if_pos h]
    have L := lp_f (W := fun i x => evj 71 36 [jR 6 57, jR 8 1, jU, jI (nI j), jI (nI x), jI (nI i)] [] m) (f := fun _ x => nxN v g x) (n := j) (fun i x => x = wlk v g a i) (fun i x hi hx => by
      obtain ⟨h1, h2, h3⟩ := wl_p ha hf i (by omega)
      rw [← hx] at h1 h2 h3
      obtain ⟨n1, n2, n3, n4, n5, n6⟩ := nx_N h1 (by omega) h2
      refine ⟨?_, by rw [wlk_s, hx]⟩
      show evj _ _ _ _ _ = evj _ _ _ _ _
      rw [e_Rumour_roomOfRow_36, bk_le (by omega) (by omega), jbr_n (by omega), jbr_n (show ¬ nI x = (-1 : Int32) from fun z => absurd (show nI x = ngc 1 from z) (by rw [qI_n (by omega)]; exact id)), c_nxr hw hv hs (VB_K (KI_N v g)) h1 hg, bI_some, n2, nI_pred, show nI i + 1 = nI (i + 1) from nI_add i 1]) j 0 a (by omega) rfl
    refine Eq.trans L.1 ?_
    show evj _ _ _ _ _ = _
    rw [e_Rumour_roomOfRow_36, jbr_p (by rw [kI_le (by omega) (by omega)]; omega)]
    rfl
  · rw [jbr_n h, if_neg h]
theorem crc_e {x y : Nat} (hx : x < 10000 ∨ x = 10000) (hy : y < 10000) : (crc x = crc y) ↔ x = y := by
  rw [crc_n hy]
  by_cases h : x < 10000
  · rw [crc_n h, nI_eq (by omega) (by omega)]
  · rw [crc_i h]
    refine ⟨fun z => absurd (show nI y = ngc 1 from z.symm) (by rw [qI_n (by omega)]; exact id), fun z => absurd z (by omega)⟩
theorem m_row {m : jm} {v : vst} {g a j : Nat} (hw : WV v) (hv : MV m 0 v) (hs : NM m (tN v g)) (ha : a < 6) (hg : g < 6) (hj : j < 2147483648) (hf : tN v g a < 10000) : evj 191 69 [jR 10 64, jU, jI (nI g), jI (nI j), jI (nI a), jI (nI 0), jU] [] m = some (some (jI (rowN v g a j)), m) := by
  have hb := (KI_v (KI_N v g) ha).resolve_left (by omega)
  have h0 : tN v g g = 0 := (KI_N v g).1
  have st : ∀ i, i < j → i < tN v g a % 100 → evj 191 69 [jR 10 64, jU, jI (nI g), jI (nI j), jI (nI (wlk v g a i)), jI (nI i), jU] [] m = evj 191 69 [jR 10 64, jU, jI (nI g), jI (nI j), jI (nI (wlk v g a (i + 1))), jI (nI (i + 1)), jU] [] m := fun i hi hi2 => by
    obtain ⟨h1, h2, h3⟩ := wl_p ha hf i (by omega)
    obtain ⟨n1, n2, n3, n4, n5, n6⟩ := nx_N h1 (by omega) h2
    have hgx : ¬ wlk v g a i = g := fun z => by rw [z, h0] at h3; omega
    rw [e_M_news_69, bk_le (by omega) (by omega), jbr_n (by omega), bk_ne (by omega) (by omega), jbr_p hgx]
    have cc : ∀ u, u < 6 → (byy (hrv v) (wtg v g) (tN v g) (wlk v g a i) u < 10000 ∨ byy (hrv v) (wtg v g) (tN v g) (wlk v g a i) u = 10000) := fun u hu => by
      by_cases hl : byy (hrv v) (wtg v g) (tN v g) (wlk v g a i) u < 10000
      · exact Or.inl hl
      · refine Or.inr ?_
        unfold byy at hl ⊢
        by_cases e : hrv v (wlk v g a i) u = true ∧ tN v g u < 10000
        · rw [if_pos e] at hl
          have := (KI_v (KI_N v g) hu).resolve_left (by omega)
          have := wtg_w v g u
          omega
        · rw [if_neg e]
    have L := lp_f (W := fun n (_ : Unit) => evj 191 87 [jR 10 64, jU, jI (nI g), jI (nI j), jI (nI (wlk v g a i)), jI (nI i), jI (nI n)] [] m) (f := fun _ x => x) (n := nxN v g (wlk v g a i)) (fun _ _ => True) (fun n _ hn _ => by
      refine ⟨?_, trivial⟩
      show evj _ _ _ _ _ = evj _ _ _ _ _
      rw [e_M_news_87, m_cost hw hv hs (VB_K (KI_N v g)) h1 (by omega) hg, bI_some, inB_nI h1 (by omega), jgd_t, ixn (by omega), hs _ h1, jbr_n (show ¬ crc _ = crc _ from fun z => n6 n hn ((crc_e (cc n (by omega)) h2).mp z)), show nI n + 1 = nI (n + 1) from nI_add n 1]) (nxN v g (wlk v g a i)) 0 () (by omega) trivial
    refine Eq.trans L.1 ?_
    show evj _ _ _ _ _ = _
    rw [e_M_news_87, m_cost hw hv hs (VB_K (KI_N v g)) h1 n1 hg, bI_some, inB_nI h1 (by omega), jgd_t, ixn (by omega), hs _ h1, n5, jbr_p rfl, show nI i + 1 = nI (i + 1) from nI_add i 1, wlk_s]
  have go : ∀ n, n ≤ j → n ≤ tN v g a % 100 → evj 191 69 [jR 10 64, jU, jI (nI g), jI (nI j), jI (nI a), jI (nI 0), jU] [] m = evj 191 69 [jR 10 64, jU, jI (nI g), jI (nI j), jI (nI (wlk v g a n)), jI (nI n), jU] [] m := fun n => by
    induction n with
    | zero => intro _ _; rfl
    | succ n ih => intro h1 h2; rw [ih (by omega) (by omega)]; exact st n (by omega) (by omega)
  unfold rowN
  by_cases h : j ≤ tN v g a % 100
  · obtain ⟨h1, h2, h3⟩ := wl_p ha hf j h
    rw [if_pos h, go j (Nat.le_refl j) h, e_M_news_69, jbr_p (by rw [kI_le (by omega) (by omega)]; omega)]
  · obtain ⟨h1, h2, h3⟩ := wl_p ha hf (tN v g a % 100) (Nat.le_refl _)
    have hz : wlk v g a (tN v g a % 100) = g := r0_g h1 (by omega) h2
    rw [if_neg h, go (tN v g a % 100) (by omega) (Nat.le_refl _), e_M_news_69, bk_le (by omega) (by omega), jbr_n (by omega), hz, bk_ne (by omega) (by omega), jbr_n (fun z => z rfl)]
abbrev nOk (x y z : Int32) : Prop := un x < 6 ∧ un y < 6 ∧ (-1 : Int32) ≤ z
def ansN (x y z : Int32) (v : vst) : Int32 := if tN v (un y) (un x) < 10000 then (if z = -1 then nI (tN v (un y) (un x) / 100) else rowN v (un y) (un x) (un z)) else -1
def fNw (x y z : Int32) (v : vst) : Int32 := if nOk x y z then ansN x y z v else -10
def gNw (x y z : Int32) (S : sst) : sst := if nOk x y z then S else setR S 0
theorem nn_z {z : Int32} (h : (-1 : Int32) ≤ z) (h2 : ¬ z = -1) : ∃ j, j < 2147483648 ∧ z = nI j := by
  have h := Int32.le_iff_toInt_le.mp h
  have h1 : (-1 : Int32).toInt = -1 := rfl
  rw [h1] at h
  have h3 : z.toInt ≠ -1 := fun q => h2 (Int32.toInt_inj.mp (q.trans h1.symm))
  exact (un_n z).resolve_right (fun q => by have := q.1; omega)
theorem op_news (x y z : Int32) : opI 118 191 [jI x, jI y, jI z] Rel := by
  refine opI_of (fun S => fNw x y z (sv S)) (fun S => gNw x y z S) (fun S h => ?_) ?_ ?_
  · show WS (gNw x y z S)
    unfold gNw
    split
    · exact h
    · exact h
  · intro μ S hW hC
    have bad : ¬ nOk x y z → ∃ m1, bI (cj 119 [jR 9 0] μ) (fun r m => some (some (jI r), m)) = some (some (jI (fNw x y z (sv S))), m1) ∧ CS m1 (gNw x y z S) ∧ oc μ m1 := fun hn => by
      have fe : fNw x y z (sv S) = _ := if_neg hn
      have ge : gNw x y z S = _ := if_neg hn
      rw [fe, ge, e_N_badForRows, bI_some]
      exact ⟨_, rfl, CS_cnt (j := 0) hC (by omega), oc_sI μ (by omega)⟩
    rw [e_N_news, c_isRoom, bI_some]
    by_cases h1 : un x < 6
    · rw [bf_n (decide_eq_true h1), c_isRoom, bI_some]
      by_cases h2 : un y < 6
      · rw [bf_n (decide_eq_true h2)]
        by_cases h3 : (-1 : Int32) ≤ z
        · have fe : fNw x y z (sv S) = _ := if_pos ⟨h1, h2, h3⟩
          have ge : gNw x y z S = _ := if_pos ⟨h1, h2, h3⟩
          rw [fe, ge, jbr_p h3]
          obtain ⟨a, ha, rfl⟩ := un_x h1 (by omega)
          obtain ⟨g, hg, rfl⟩ := un_x h2 (by omega)
          obtain ⟨m, d1, d2, d3⟩ := c_spread hW.1 hC.1 hg
          have d2 : NS m (sv S) g (tN (sv S) g) := d2
          have hv1 := CV_fI d3 (by omega) hC.1
          unfold ansN
          rw [un_nI (by omega), un_nI (by omega), d1, bV_some]
          have hbb := KI_v (KI_N (sv S) g) ha
          refine ⟨m, ?_, CS_fI d3 (by omega) hC, oc_fI d3 (by omega)⟩
          by_cases hf : tN (sv S) g a < 10000
          · have hb := hbb.resolve_left (by omega)
            have e : phc (tN (sv S) g a) = 16 * (tN (sv S) g a / 100) + tN (sv S) g a % 100 := if_pos hf
            rw [if_pos hf]
            by_cases hz : z = -1
            · rw [jbr_m hz, if_pos hz, e_Rumour_sentFrom, inB_nI ha (by omega), jgd_t, jgd_t, ixn (by omega), d2.1 a ha, e, li1000, bk_lt (by omega) (by omega), jbr_p (by omega), show (16 : Int32) = nI 16 from rfl, show decide (¬ nI 16 = 0) = true from by decide, jgd_t, pk_div (by omega) (by omega) (by omega), bI_some, show (16 * (tN (sv S) g a / 100) + tN (sv S) g a % 100) / 16 = tN (sv S) g a / 100 from by omega]
            · rw [jbr_q hz, if_neg hz]
              obtain ⟨j, hj, rfl⟩ := nn_z h3 hz
              rw [c_row hW.1 hv1 d2 ha hg hj hf, bI_some, un_nI (by omega)]
          · have e : phc (tN (sv S) g a) = 1000 := if_neg hf
            rw [if_neg hf]
            by_cases hz : z = -1
            · rw [jbr_m hz, e_Rumour_sentFrom, inB_nI ha (by omega), jgd_t, jgd_t, ixn (by omega), d2.1 a ha, e, jbr_n (by decide), bI_some]
            · rw [jbr_q hz, e_Rumour_roomOfRow, inB_nI ha (by omega), jgd_t, ixn (by omega), d2.1 a ha, e, jbr_n (by decide), bI_some]
        · rw [jbr_n h3]
          exact bad (fun q => h3 q.2.2)
      · rw [bf_p (decide_eq_false h2)]
        exact bad (fun q => h2 q.2.1)
    · rw [bf_p (decide_eq_false h1)]
      exact bad (fun q => h1 q.1)
  · intro μ S hW hM
    have bad : ¬ nOk x y z → ∃ m1, evj 191 19 [jR 10 64, jU, jU, jU, jU, jU, jU] [] μ = some (some (jI (fNw x y z (sv S))), m1) ∧ MS m1 (gNw x y z S) ∧ om μ m1 := fun hn => by
      have fe : fNw x y z (sv S) = _ := if_neg hn
      have ge : gNw x y z S = _ := if_neg hn
      rw [fe, ge, e_M_news_19, show inB (0 : Int32) 3 = true from by decide, jgd_t, jgd_t, ix0]
      exact ⟨_, rfl, MS_cnt (j := 0) hW hM (by omega), om_sI μ (by omega) (by omega)⟩
    rw [e_M_news, m_isRoom, bI_some]
    by_cases h1 : un x < 6
    · rw [bf_n (decide_eq_true h1), m_isRoom, bI_some]
      by_cases h2 : un y < 6
      · rw [bf_n (decide_eq_true h2)]
        by_cases h3 : (-1 : Int32) ≤ z
        · have fe : fNw x y z (sv S) = _ := if_pos ⟨h1, h2, h3⟩
          have ge : gNw x y z S = _ := if_pos ⟨h1, h2, h3⟩
          rw [fe, ge, jbr_p h3]
          obtain ⟨a, ha, rfl⟩ := un_x h1 (by omega)
          obtain ⟨g, hg, rfl⟩ := un_x h2 (by omega)
          obtain ⟨m, d1, d2, d3⟩ := m_find hW.1 hM.1 hg
          have d2 : NM m (tN (sv S) g) := d2
          have hv1 := MV_fI d3 (by omega) hW.1 hM.1
          unfold ansN
          rw [un_nI (by omega), un_nI (by omega), d1, bV_some, inB_nI ha (by omega), jgd_t, jgd_t, ixn (by omega), d2 a ha]
          have hbb := KI_v (KI_N (sv S) g) ha
          refine ⟨m, ?_, MS_fI d3 (by omega) hW hM, om_fI d3 (by omega) (by omega)⟩
          by_cases hf : tN (sv S) g a < 10000
          · have hb := hbb.resolve_left (by omega)
            rw [if_pos hf, crc_n hf, jbr_p (ge0 (by omega))]
            by_cases hz : z = -1
            · rw [jbr_m hz, if_pos hz, show (100 : Int32) = nI 100 from rfl, show decide (¬ nI 100 = 0) = true from by decide, jgd_t, pk_div (by omega) (by omega) (by omega)]
            · rw [jbr_q hz, if_neg hz]
              obtain ⟨j, hj, rfl⟩ := nn_z h3 hz
              rw [un_nI (by omega)]
              exact m_row hW.1 hv1 d2 ha hg hj hf
          · rw [if_neg hf, crc_i hf, jbr_n (by decide)]
        · rw [jbr_n h3]
          exact bad (fun q => h3 q.2.2)
      · rw [bf_p (decide_eq_false h2)]
        exact bad (fun q => h2 q.2.1)
    · rw [bf_p (decide_eq_false h1)]
      exact bad (fun q => h1 q.1)
