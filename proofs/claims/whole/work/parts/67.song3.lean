/-! song: the answers -/
theorem m_place {m : jm} {v : vst} {k set j : Nat} (hw : WV v) (hv : MV m 0 v) (hk : k ≤ 6) (hset : set < 2 ^ vn v) (hT : OT m (hnk v k) (vn v) (set + 1)) (hj : j < pop set) (ha : 0 < alo (hnk v k) set) : evj 205 126 [jR 10 64, jU, jI (nI k), jI (nI j), jU, jI (nI set), jI (-1 : Int32), jI (nI 0), jU] [] m = some (some (jI (nI (pth (hnk v k) set (j + 1)).2 - 1)), m) := by
  have w3 : vn v ≤ 7 := hw.2.2.1
  have h27 : 2 ^ vn v ≤ 2 ^ 7 := Nat.pow_le_pow_right (by omega) w3
  have hp7 := pop7 set (by omega)
  have hN : ∀ q, q < vn v → gI m 65 (80 + q) = nI (vN v q) := fun q hq => by have := (hv.2.2.2.1 q hq).2.1; rwa [show 0 + 80 + q = 80 + q from by omega] at this
  have L := lp_f (W := fun i (q : Nat × Nat) => evj 205 126 [jR 10 64, jU, jI (nI k), jI (nI j), jU, jI (nI q.1), jI (nI q.2 - 1), jI (nI i), jU] [] m) (f := fun _ q => (adn q.1 (2 ^ nxs (hnk v k) q), nxs (hnk v k) q + 1)) (n := j + 1) (fun i q => q = pth (hnk v k) set i) (fun i q hi hq => by
    obtain ⟨p1, p0, p2, p3, p4, -⟩ := pth_p (hn := hnk v k) (by omega) ha i (show i < pop set by omega)
    obtain ⟨b1, b2, b3, b4, b5⟩ := pth_b (hn := hnk v k) (by omega) ha (show i < pop set by omega)
    rw [← hq] at p1 p0 p2 p3 p4 b1 b2 b3 b4 b5
    have bn := tb_n hset b4
    refine ⟨?_, by rw [pth_s, hq]⟩
    show evj _ _ _ _ _ = evj _ _ [jR 10 64, jU, jI (nI k), jI (nI j), jU, jI (nI (adn q.1 (2 ^ nxs (hnk v k) q))), jI (nI (nxs (hnk v k) q + 1) - 1), jI (nI (i + 1)), jU] _ _
    rw [e_M_song_126, bk_lt (by omega) (by omega), jbr_n (by omega)]
    have M := lp_f (W := fun p (_ : Unit) => evj 205 135 [jR 10 64, jU, jI (nI k), jI (nI j), jU, jI (nI q.1), jI (nI q.2 - 1), jI (nI i), jI (nI p)] [] m) (f := fun _ x => x) (n := nxs (hnk v k) q) (fun _ _ => True) (fun p _ hp _ => by
      refine ⟨?_, trivial⟩
      show evj _ _ _ _ _ = evj _ _ _ _ _
      have ht := tb_lt (hnk v k) (s := q.1) (p := p) (by omega) (by omega)
      obtain ⟨-, w52, -⟩ := hw.2.2.2.1 p (by omega)
      rw [e_M_song_135, show (7 : Int32) = nI 7 from rfl, kI_mul, nI_add, inB_nI (by omega) (by omega), jgd_t, ixn (by omega), hT q.1 (by omega) p (by omega), li0, bk_eq (by omega) (by omega), bk_m1 (by omega), show nI p + 1 = nI (p + 1) from nI_add p 1]
      by_cases hz : tb (hnk v k) q.1 p = 0
      · rw [jbr_p hz]
      · have hcf := b3 p hp
        unfold cnd at hcf
        rw [decide_eq_false hz, Bool.not_false, Bool.true_and, Bool.or_eq_false_iff] at hcf
        have hl0 : ¬ q.2 = 0 := of_decide_eq_false hcf.1
        have hq2 := tb_n hset (b5.resolve_left hl0)
        obtain ⟨-, w42, -⟩ := hw.2.2.2.1 (q.2 - 1) hq2
        have hq1 : (nI q.2 - 1 : Int32) = nI (q.2 - 1) := kI_sub (b := 1) (by omega)
        have hc2 : nr (vN v (q.2 - 1)) (vN v p) k = false := hcf.2
        rw [jbr_n hz, jbr_n hl0, hq1, li80, nI_add, nI_add, inB_nI (by omega) (by omega), jgd_t, inB_nI (by omega) (by omega), jgd_t, ixn (by omega), ixn (by omega), hN _ hq2, hN p (by omega), m_near w42 w52 hk, bI_some, hc2, ← li0, bt_n rfl]) (nxs (hnk v k) q) 0 () (by omega) trivial
    refine Eq.trans M.1 ?_
    show evj _ _ _ _ _ = _
    have ht := tb_lt (hnk v k) (s := q.1) (p := nxs (hnk v k) q) (by omega) b1
    have hcb := cnd_b b2
    have hc2 := b2
    unfold cnd at hc2
    rw [Bool.and_eq_true] at hc2
    obtain ⟨-, w52, -⟩ := hw.2.2.2.1 (nxs (hnk v k) q) bn
    rw [e_M_song_135, show (7 : Int32) = nI 7 from rfl, kI_mul, nI_add, inB_nI (by omega) (by omega), jgd_t, ixn (by omega), hT q.1 (by omega) _ bn, li0, bk_eq (by omega) (by omega), jbr_n hcb.2, bk_m1 (by omega), kI_1 (by omega), kI_adn, nI_pred, show nI i + 1 = nI (i + 1) from nI_add i 1]
    by_cases hl0 : q.2 = 0
    · rw [jbr_p hl0]
    · have hq2 := tb_n hset (b5.resolve_left hl0)
      obtain ⟨-, w42, -⟩ := hw.2.2.2.1 (q.2 - 1) hq2
      have hq1 : (nI q.2 - 1 : Int32) = nI (q.2 - 1) := kI_sub (b := 1) (by omega)
      have hc3 : nr (vN v (q.2 - 1)) (vN v (nxs (hnk v k) q)) k = true := by
        have := hc2.2
        rw [decide_eq_false hl0, Bool.false_or] at this
        exact this
      rw [jbr_n hl0, hq1, li80, nI_add, nI_add, inB_nI (by omega) (by omega), jgd_t, inB_nI (by omega) (by omega), jgd_t, ixn (by omega), ixn (by omega), hN _ hq2, hN _ bn, m_near w42 w52 hk, bI_some, hc3, ← li0, bt_p rfl]) (j + 1) 0 (set, 0) (by omega) rfl
  refine Eq.trans L.1 ?_
  show evj 205 126 [jR 10 64, jU, jI (nI k), jI (nI j), jU, jI (nI (pth (hnk v k) set (j + 1)).1), jI (nI (pth (hnk v k) set (j + 1)).2 - 1), jI (nI (j + 1)), jU] [] m = _
  rw [e_M_song_126, jbr_p (by rw [kI_lt (by omega) (by omega)]; omega)]
abbrev gOk (x y z : Int32) (v : vst) : Prop := un x < 2 ^ vn v ∧ un y < 7 ∧ (-1 : Int32) ≤ z
def ansG (x y z : Int32) (v : vst) : Int32 := if z = -1 then nI (alo (hnk v (un y)) (un x)) else plc (hnk v (un y)) (un x) (un z)
def fSn (x y z : Int32) (v : vst) : Int32 := if gOk x y z v then ansG x y z v else -10
def gSn (x y z : Int32) (S : sst) : sst := if gOk x y z (sv S) then S else setR S 0
theorem un_6 {x : Int32} {μ : jm} : cj 140 [jL x.toInt64, jL 0, jL 6] μ = some (some (jI (nI (bN (decide (un x < 7))))), μ) := m_in0 x 6 7 (by omega) rfl μ
theorem op_song (x y z : Int32) : opI 127 205 [jI x, jI y, jI z] Rel := by
  refine opI_of (fun S => fSn x y z (sv S)) (fun S => gSn x y z S) (fun S h => ?_) ?_ ?_
  · show WS (gSn x y z S)
    unfold gSn
    split
    · exact h
    · exact h
  · intro μ S hW hC
    have w3 : vn (sv S) ≤ 7 := hW.1.2.2.1
    have h27 : 2 ^ vn (sv S) ≤ 2 ^ 7 := Nat.pow_le_pow_right (by omega) w3
    have bad : ¬ gOk x y z (sv S) → ∃ m1, evj 127 26 [jR 9 0, jU, jU, jU] [] μ = some (some (jI (fSn x y z (sv S))), m1) ∧ CS m1 (gSn x y z S) ∧ oc μ m1 := fun hn => by
      have fe : fSn x y z (sv S) = _ := if_neg hn
      have ge : gSn x y z S = _ := if_neg hn
      rw [fe, ge, e_N_song_26, e_N_badForRows, bI_some]
      exact ⟨_, rfl, CS_cnt (j := 0) hC (by omega), oc_sI μ (by omega)⟩
    rw [e_N_song, c_isSet 1 x μ w3 hC.1.2.2.1, bI_some, ck2 (N := 6) (n := 6) rfl (by omega)]
    by_cases h1 : un x < 2 ^ vn (sv S)
    · rw [bf_n (decide_eq_true h1)]
      by_cases h2 : un y < 7
      · rw [if_pos h2]
        by_cases h3 : (-1 : Int32) ≤ z
        · have fe : fSn x y z (sv S) = _ := if_pos ⟨h1, h2, h3⟩
          have ge : gSn x y z S = _ := if_pos ⟨h1, h2, h3⟩
          rw [fe, ge, jbr_p h3]
          obtain ⟨set, hs, rfl⟩ := un_x h1 (by omega)
          obtain ⟨k, hk, rfl⟩ := un_x h2 (by omega)
          obtain ⟨m, d1, d2, d3, d4⟩ := c_learn hW.1 hC.1 (show k ≤ 6 by omega) hs
          unfold ansG
          rw [un_nI (by omega), un_nI (by omega), d1, bV_some]
          refine ⟨m, ?_, CS_fI d4 (by omega) hC, oc_fI d4 (by omega)⟩
          by_cases hz : z = -1
          · rw [jbr_m hz, if_pos hz, c_orders (by omega) d2 d3, bI_some, e_N_song_67]
          · rw [jbr_q hz, if_neg hz]
            obtain ⟨j, hj, rfl⟩ := nn_z h3 hz
            rw [c_place hW.1 hs d2 d3 hj, bI_some, e_N_song_67, un_nI (by omega)]
        · rw [jbr_n h3]
          exact bad (fun q => h3 q.2.2)
      · rw [if_neg h2]
        exact bad (fun q => h2 q.2.1)
    · rw [bf_p (decide_eq_false h1)]
      exact bad (fun q => h1 q.1)
  · intro μ S hW hM
    have w3 : vn (sv S) ≤ 7 := hW.1.2.2.1
    have h27 : 2 ^ vn (sv S) ≤ 2 ^ 7 := Nat.pow_le_pow_right (by omega) w3
    have bad : ¬ gOk x y z (sv S) → ∃ m1, (some (some (jI (-10 : Int32)), sI μ 68 0 (gI μ 68 0 + (1 : Int32))) : Option jr) = some (some (jI (fSn x y z (sv S))), m1) ∧ MS m1 (gSn x y z S) ∧ om μ m1 := fun hn => by
      have fe : fSn x y z (sv S) = _ := if_neg hn
      have ge : gSn x y z S = _ := if_neg hn
      rw [fe, ge]
      exact ⟨_, rfl, MS_cnt (j := 0) hW hM (by omega), om_sI μ (by omega) (by omega)⟩
    rw [e_M_song, m_isSet x μ w3 hM.1.2.2.1, bI_some, show inB (0 : Int32) 3 = true from by decide, jgd_t, jgd_t, ix0]
    by_cases h1 : un x < 2 ^ vn (sv S)
    · rw [bf_n (decide_eq_true h1), un_6, bI_some]
      by_cases h2 : un y < 7
      · rw [bf_n (decide_eq_true h2)]
        by_cases h3 : (-1 : Int32) ≤ z
        · have fe : fSn x y z (sv S) = _ := if_pos ⟨h1, h2, h3⟩
          have ge : gSn x y z S = _ := if_pos ⟨h1, h2, h3⟩
          rw [fe, ge, jbr_p h3]
          obtain ⟨set, hs, rfl⟩ := un_x h1 (by omega)
          obtain ⟨k, hk, rfl⟩ := un_x h2 (by omega)
          obtain ⟨m, d1, d2, d3⟩ := m_orders hW.1 hM.1 (show k ≤ 6 by omega) hs
          have hv1 := MV_fI d3 (by omega) hW.1 hM.1
          have h72 : gI m 65 72 = nI (vn (sv S)) := hv1.2.2.1
          unfold ansG
          rw [un_nI (by omega), un_nI (by omega), d1, bV_some, li0, bk_ne (by omega) (by omega)]
          refine ⟨m, ?_, MS_fI d3 (by omega) hW hM, om_fI d3 (by omega) (by omega)⟩
          have L : ∀ x0 : Nat, evj 205 58 [jR 10 64, jI (nI set), jI (nI k), jI z, jI (nI x0), jI (nI 0), jU, jU, jU] [] m = evj 205 58 [jR 10 64, jI (nI set), jI (nI k), jI z, jI (nI (x0 + sumn (tb (hnk (sv S) k) set) (vn (sv S)))), jI (nI (vn (sv S))), jU, jU, jU] [] m := fun x0 => (lp_f (W := fun p x => evj 205 58 [jR 10 64, jI (nI set), jI (nI k), jI z, jI (nI (x0 + x)), jI (nI p), jU, jU, jU] [] m) (f := fun p x => x + tb (hnk (sv S) k) set p) (n := vn (sv S)) (fun _ _ => True) (fun p x hp _ => by
            refine ⟨?_, trivial⟩
            show evj _ _ _ _ _ = evj _ _ _ _ _
            rw [e_M_song_58, show inB (72 : Int32) 560 = true from by decide, jgd_t, show ix (72 : Int32) = 72 from by decide, h72, bk_le (by omega) (by omega), jbr_n (by omega), show (7 : Int32) = nI 7 from rfl, kI_mul, nI_add, inB_nI (by omega) (by omega), jgd_t, ixn (by omega), d2 set (by omega) p hp, nI_add, Nat.add_assoc, show nI p + 1 = nI (p + 1) from nI_add p 1]) (vn (sv S)) 0 0 (by omega) trivial).1
          have hsum : sumn (tb (hnk (sv S) k) set) 7 = sumn (tb (hnk (sv S) k) set) (vn (sv S)) := sumn_x w3 (fun c hc => tb_0 _ (tb_hi hs hc))
          have hal := alo_lt (hnk (sv S) k) (s := set) (by omega)
          have fin : evj 205 58 [jR 10 64, jI (nI set), jI (nI k), jI z, jI (nI (alo (hnk (sv S) k) set)), jI (nI (vn (sv S))), jU, jU, jU] [] m = some (some (jI (if z = -1 then nI (alo (hnk (sv S) k) set) else plc (hnk (sv S) k) set (un z))), m) := by
            rw [e_M_song_58, show inB (72 : Int32) 560 = true from by decide, jgd_t, show ix (72 : Int32) = 72 from by decide, h72, jbr_p (by rw [kI_le (by omega) (by omega)]; omega)]
            by_cases hz : z = -1
            · rw [jbr_m hz, if_pos hz]
            · rw [jbr_q hz, if_neg hz]
              obtain ⟨j, hj, rfl⟩ := nn_z h3 hz
              have hp7 := pop7 set (by omega)
              rw [li0, bk_eq (by omega) (by omega), un_nI (by omega)]
              unfold plc
              by_cases ha : alo (hnk (sv S) k) set = 0
              · rw [jbr_p ha, if_neg (fun q => by omega)]
              · rw [jbr_n ha, m_ones (by omega), bI_some, bk_lt (by omega) (by omega)]
                by_cases hjp : j < pop set
                · rw [jbr_p hjp, if_pos ⟨hjp, by omega⟩]
                  exact m_place hW.1 hv1 (by omega) hs d2 hjp (by omega)
                · rw [jbr_n hjp, if_neg (fun q => hjp q.1)]
          by_cases hz0 : set = 0
          · rw [jbr_n (fun q => q hz0), show (1 : Int32) = nI 1 from rfl, L 1]
            have e : 1 + sumn (tb (hnk (sv S) k) set) (vn (sv S)) = alo (hnk (sv S) k) set := by
              unfold alo
              rw [if_pos hz0, show sumn (tb (hnk (sv S) k) set) (vn (sv S)) = sumn (tb (hnk (sv S) k) set) 0 from sumn_x (Nat.zero_le _) (fun c _ => tb_0 _ (by rw [hz0]; exact Nat.zero_testBit c))]
              rfl
            rw [e]
            exact fin
          · rw [jbr_p hz0, L 0]
            have e : 0 + sumn (tb (hnk (sv S) k) set) (vn (sv S)) = alo (hnk (sv S) k) set := by
              unfold alo
              rw [if_neg hz0, hsum, Nat.zero_add]
            rw [e]
            exact fin
        · rw [jbr_n h3]
          exact bad (fun q => h3 q.2.2)
      · rw [bf_p (decide_eq_false h2)]
        exact bad (fun q => h2 q.2.1)
    · rw [bf_p (decide_eq_false h1)]
      exact bad (fun q => h1 q.1)
