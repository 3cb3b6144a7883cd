/-! song: class and reference -/
def SG (m : jm) (v : vst) (k set : Nat) : Prop := (∀ p, p < 7 → gI m 63 p = nI (nbp v k p)) ∧ gI m 61 2 = nI set
theorem c_learn {μ : jm} {v : vst} {k set : Nat} (hw : WV v) (hv : CV μ 1 v) (hk : k ≤ 6) (hset : set < 2 ^ vn v) : ∃ m, cj 75 [jR 0 61, jR 8 1, jI (nI set), jI (nI k)] μ = some (none, m) ∧ CT m (hnk v k) set (set + 1) ∧ SG m v k set ∧ fI 61 63 μ m := by
  have w3 : vn v ≤ 7 := hw.2.2.1
  have h27 : 2 ^ vn v ≤ 2 ^ 7 := Nat.pow_le_pow_right (by omega) w3
  have f0 : fI 61 63 μ (sI μ 61 2 (nI set)) := fI_s μ (by omega) (by omega)
  obtain ⟨m0, d1, d2, d3⟩ := c_nbs (k := k) hw (CV_fI f0 (by omega) hv) hk
  have hSG : SG m0 v k set := ⟨d2, by rw [fI_g d3 (by omega), gI_eq]⟩
  rw [e_Chant_learn, d1, bV_some]
  obtain ⟨m, e1, e2, e3, e4⟩ := lp_r (W := fun s (m : jm) => evj 75 14 [jR 0 61, jU, jI (nI set), jU, jI (nI s), jU] [] m) (n := set + 1) (fun s m => CT m (hnk v k) set s ∧ SG m v k set ∧ fI 61 63 μ m) (fun s m hs hI => by
    obtain ⟨i1, i2, i3⟩ := hI
    show ∃ a', evj _ _ _ _ _ = evj _ _ _ _ _ ∧ _
    have hal := adn_le s set
    rw [e_Chant_learn_14, bk_lt (by omega) (by omega), jbr_n (by omega), kI_adn, li0, bk_ne (by omega) (by omega), show nI s + 1 = nI (s + 1) from nI_add s 1]
    by_cases hsub : adn s set = 0
    · rw [jbr_n (fun z => z hsub)]
      obtain ⟨m2, g1, g2, g3, g4, g5⟩ := lp_r (W := fun p (m : jm) => evj 75 32 [jR 0 61, jU, jI (nI set), jU, jI (nI s), jI (nI p)] [] m) (n := 7) (fun p m => (∀ q, q < p → gI m 62 (s * 7 + q) = nI (tb (hnk v k) s q)) ∧ CT m (hnk v k) set s ∧ SG m v k set ∧ fI 61 63 μ m) (fun p m hp hI => by
        obtain ⟨j0, j1, j2, j3⟩ := hI
        show ∃ a', evj _ _ _ _ _ = evj _ _ _ _ _ ∧ _
        rw [e_Chant_learn_32, show (7 : Int32) = nI 7 from rfl, bk_le (by omega) (by omega), jbr_n (by omega), c_from hw hset j1 j2.1 (by omega) hsub hp, bI_some, kI_mul, nI_add, inB_nI (by omega) (by omega), jgd_t, ixn (by omega), show nI p + 1 = nI (p + 1) from nI_add p 1]
        refine ⟨_, rfl, fun q hq => ?_, fun s' h1 h2 h3 q hq => ?_, ⟨fun q hq => ?_, ?_⟩, fI_t j3 (fI_s m (by omega) (by omega))⟩
        · by_cases e : q = p
          · subst e; rw [gI_eq]
          · rw [gI_ne _ (by omega)]; exact j0 q (by omega)
        · rw [gI_ne _ (by omega)]; exact j1 s' h1 h2 h3 q hq
        · rw [gI_ne _ (by omega)]; exact j2.1 q hq
        · rw [gI_ne _ (by omega)]; exact j2.2) 7 0 m (by omega) ⟨fun q hq => absurd hq (Nat.not_lt_zero q), i1, i2, i3⟩
      refine ⟨m2, Eq.trans g1 ?_, fun s' h1 h2 h3 q hq => ?_, g4, g5⟩
      · show evj _ _ _ _ _ = _
        rw [e_Chant_learn_32, jbr_p (by decide), show nI s + 1 = nI (s + 1) from nI_add s 1]
      · by_cases e : s' = s
        · subst e; exact g2 q hq
        · exact g3 s' h1 (by omega) h3 q hq
    · rw [jbr_p hsub]
      refine ⟨m, rfl, fun s' h1 h2 h3 q hq => ?_, i2, i3⟩
      by_cases e : s' = s
      · subst e; exact absurd h3 hsub
      · exact i1 s' h1 (by omega) h3 q hq) set 1 m0 (by omega) ⟨fun s' h1 h2 _ q hq => absurd h2 (by omega), hSG, fI_t f0 (fI_w d3 (by omega) (by omega))⟩
  refine ⟨m, Eq.trans e1 ?_, e2, e3, e4⟩
  show evj _ _ _ _ _ = _
  rw [e_Chant_learn_14, jbr_p (by rw [kI_lt (by omega) (by omega)]; omega)]
theorem adn_self (s : Nat) : adn s s = 0 := by
  unfold adn
  rw [Nat.and_self, Nat.xor_self]
theorem c_orders {m : jm} {v : vst} {k set : Nat} (hs : set < 128) (hT : CT m (hnk v k) set (set + 1)) (hG : SG m v k set) : cj 79 [jR 0 61] m = some (some (jI (nI (alo (hnk v k) set))), m) := by
  rw [e_Chant_orders, hG.2, li0, bk_ne (by omega) (by omega)]
  unfold alo
  by_cases h : set = 0
  · rw [jbr_n (fun z => z h), if_pos h]
    rfl
  · rw [jbr_p h, if_neg h, c_among (g := tb (hnk v k) set) hs (by omega) (fun p hp _ => hT set (by omega) (by omega) (adn_self set) p hp), bI_some]
    congr 4
    refine congrArg nI (sumn_c (fun q _ => ?_))
    show (if _ then _ else 0) = _
    cases hb : set.testBit q
    · rw [if_neg (by decide), tb_0 _ hb]
    · rw [if_pos rfl]
theorem cnd_b {hn : Nat → Nat → Bool} {s l p : Nat} (h : cnd hn s l p = true) : s.testBit p = true ∧ tb hn s p ≠ 0 := by
  unfold cnd at h
  rw [Bool.and_eq_true] at h
  have h1 : tb hn s p ≠ 0 := fun z => by rw [decide_eq_true z] at h; exact absurd h.1 (by decide)
  refine ⟨?_, h1⟩
  cases hb : s.testBit p
  · exact absurd (tb_0 hn hb) h1
  · rfl
theorem pth_b {hn : Nat → Nat → Bool} {set : Nat} (hs : set < 128) (ha : 0 < alo hn set) {n : Nat} (hn1 : n < pop set) : nxs hn (pth hn set n) < 7 ∧ cnd hn (pth hn set n).1 (pth hn set n).2 (nxs hn (pth hn set n)) = true ∧ (∀ u, u < nxs hn (pth hn set n) → cnd hn (pth hn set n).1 (pth hn set n).2 u = false) ∧ set.testBit (nxs hn (pth hn set n)) = true ∧ ((pth hn set n).2 = 0 ∨ set.testBit ((pth hn set n).2 - 1) = true) := by
  obtain ⟨i1, i0, i2, i3, i4, p, i5, i6⟩ := pth_p hs ha n hn1
  obtain ⟨k1, k2, k3, k4⟩ := lst_p (cnd hn (pth hn set n).1 (pth hn set n).2) 7 0 ⟨p, by omega, by omega, i6⟩
  refine ⟨by unfold nxs; omega, k3, fun u hu => k4 u (by omega) hu, sub_tb i0 (cnd_b k3).1, ?_⟩
  cases n with
  | zero => exact Or.inl rfl
  | succ n =>
    obtain ⟨j1, j0, j2, j3, j4, p, j5, j6⟩ := pth_p hs ha n (by omega)
    obtain ⟨l1, l2, l3, l4⟩ := lst_p (cnd hn (pth hn set n).1 (pth hn set n).2) 7 0 ⟨p, by omega, by omega, j6⟩
    rw [pth_s]
    exact Or.inr (sub_tb j0 (cnd_b l3).1)
def opn (v : vst) (k : Nat) (q : Nat × Nat) : Nat := if q.2 = 0 then q.1 else q.1 &&& nbp v k (q.2 - 1)
theorem tb_n {set n p : Nat} (h : set < 2 ^ n) (hb : set.testBit p = true) : p < n := Nat.lt_of_not_le (fun hle => by rw [tb_hi h hle] at hb; exact absurd hb (by decide))
theorem opn_t {v : vst} {k set : Nat} {q : Nat × Nat} (hset : set < 2 ^ vn v) (hsub : adn q.1 set = 0) (hl : q.2 = 0 ∨ set.testBit (q.2 - 1) = true) (p : Nat) : (opn v k q).testBit p = (q.1.testBit p && (decide (q.2 = 0) || hnk v k (q.2 - 1) p)) := by
  unfold opn
  rcases hl with h | h
  · rw [if_pos h, decide_eq_true h, Bool.true_or, Bool.and_true]
  · by_cases h0 : q.2 = 0
    · rw [if_pos h0, decide_eq_true h0, Bool.true_or, Bool.and_true]
    · rw [if_neg h0, decide_eq_false h0, Bool.false_or, Nat.testBit_and, show nbp v k (q.2 - 1) = nbs v k (q.2 - 1) (vn v) from if_pos (tb_n hset h), nbs_t]
      cases hb : q.1.testBit p
      · rfl
      · rw [decide_eq_true (tb_n hset (sub_tb hsub hb)), Bool.true_and, Bool.true_and]
theorem c_least {m : jm} {v : vst} {k set : Nat} {q : Nat × Nat} (hset : set < 2 ^ vn v) (hn7 : vn v ≤ 7) (hT : CT m (hnk v k) set (set + 1)) (hsub : adn q.1 set = 0) (h1 : 1 ≤ q.1) (h2 : q.1 ≤ set) (hl : q.2 = 0 ∨ set.testBit (q.2 - 1) = true) (hx : nxs (hnk v k) q < 7) (hc : cnd (hnk v k) q.1 q.2 (nxs (hnk v k) q) = true) (hf : ∀ u, u < nxs (hnk v k) q → cnd (hnk v k) q.1 q.2 u = false) : cj 81 [jR 0 61, jI (nI q.1), jI (nI (opn v k q))] m = some (some (jI (nI (nxs (hnk v k) q))), m) := by
  have h27 : 2 ^ vn v ≤ 2 ^ 7 := Nat.pow_le_pow_right (by omega) hn7
  have hol : opn v k q ≤ q.1 := by
    unfold opn
    split
    · exact Nat.le_refl _
    · exact Nat.and_le_left
  rw [e_Chant_leastBeginning]
  have L := lp_f (W := fun p (_ : Unit) => evj 81 2 [jR 0 61, jI (nI q.1), jI (nI (opn v k q)), jI (nI p)] [] m) (f := fun _ x => x) (n := nxs (hnk v k) q) (fun _ _ => True) (fun p _ hp _ => by
    refine ⟨?_, trivial⟩
    show evj _ _ _ _ _ = evj _ _ _ _ _
    have ht := tb_lt (hnk v k) (s := q.1) (p := p) (by omega) (by omega)
    rw [e_Chant_leastBeginning_2, show (7 : Int32) = nI 7 from rfl, bk_le (by omega) (by omega), jbr_n (by omega), kI_tb (by omega) (by omega), opn_t hset hsub hl, show nI p + 1 = nI (p + 1) from nI_add p 1]
    cases hb : q.1.testBit p && (decide (q.2 = 0) || hnk v k (q.2 - 1) p)
    · rw [bf_p rfl]
    · have hz : tb (hnk v k) q.1 p = 0 := by
        refine Decidable.byContradiction (fun hz => ?_)
        have := hf p hp
        unfold cnd at this
        rw [Bool.and_eq_true] at hb
        rw [decide_eq_false hz, hb.2] at this
        exact absurd this (by decide)
      rw [bf_n rfl, kI_mul, nI_add, inB_nI (by omega) (by omega), jgd_t, ixn (by omega), hT q.1 h1 (by omega) hsub p (by omega), hz, jbr_p (by decide)]) (nxs (hnk v k) q) 0 () (by omega) trivial
  refine Eq.trans L.1 ?_
  show evj _ _ _ _ _ = _
  have ht := tb_lt (hnk v k) (s := q.1) (p := nxs (hnk v k) q) (by omega) hx
  have hcb := cnd_b hc
  have hc2 := hc
  unfold cnd at hc2
  rw [Bool.and_eq_true] at hc2
  rw [e_Chant_leastBeginning_2, show (7 : Int32) = nI 7 from rfl, bk_le (by omega) (by omega), jbr_n (by omega), kI_tb (by omega) (by omega), opn_t hset hsub hl, hcb.1, hc2.2, Bool.and_self, bf_n rfl, kI_mul, nI_add, inB_nI (by omega) (by omega), jgd_t, ixn (by omega), hT q.1 h1 (by omega) hsub _ hx, li0, bk_le (by omega) (by omega), jbr_n (by omega)]
def plc (hn : Nat → Nat → Bool) (set j : Nat) : Int32 := if j < pop set ∧ 0 < alo hn set then nI (pth hn set (j + 1)).2 - 1 else -5
theorem c_place {m : jm} {v : vst} {k set j : Nat} (hw : WV v) (hset : set < 2 ^ vn v) (hT : CT m (hnk v k) set (set + 1)) (hG : SG m v k set) (hj : j < 2147483648) : cj 80 [jR 0 61, jI (nI j)] m = some (some (jI (plc (hnk v k) set j)), m) := by
  have w3 : vn v ≤ 7 := hw.2.2.1
  have h27 : 2 ^ vn v ≤ 2 ^ 7 := Nat.pow_le_pow_right (by omega) w3
  have hp7 := pop7 set (by omega)
  have hal := alo_lt (hnk v k) (s := set) (by omega)
  rw [e_Chant_placeInFirst, hG.2, c_bc (by omega), bI_some, bk_le (by omega) (by omega)]
  unfold plc
  by_cases h1 : pop set ≤ j
  · rw [jbr_p h1, if_neg (fun z => by omega)]
  · rw [jbr_n h1, c_orders (by omega) hT hG, bI_some, li0, bk_ne (by omega) (by omega), hG.2]
    by_cases h2 : alo (hnk v k) set = 0
    · rw [jbr_n (fun z => z h2), if_neg (fun z => by omega)]
    · rw [jbr_p h2, if_pos ⟨by omega, by omega⟩]
      have L := lp_f (W := fun i (q : Nat × Nat) => evj 80 37 [jR 0 61, jI (nI j), jI (nI q.1), jI (nI (opn v k q)), jI (nI q.2 - 1), jI (nI i)] [] m) (f := fun _ q => (adn q.1 (2 ^ nxs (hnk v k) q), nxs (hnk v k) q + 1)) (n := j + 1) (fun i q => q = pth (hnk v k) set i) (fun i q hi hq => by
        obtain ⟨p1, p0, p2, p3, p4, -⟩ := pth_p (hn := hnk v k) (by omega) (by omega) i (show i < pop set by omega)
        obtain ⟨b1, b2, b3, b4, b5⟩ := pth_b (hn := hnk v k) (by omega) (by omega) (show i < pop set by omega)
        rw [← hq] at p1 p0 p2 p3 p4 b1 b2 b3 b4 b5
        have hz : 1 ≤ q.1 := Nat.pos_of_ne_zero (fun z => by
          rw [z, show pop 0 = 0 from by decide +kernel] at p2
          omega)
        refine ⟨?_, by rw [pth_s, hq]⟩
        show evj _ _ _ _ _ = evj _ _ [jR 0 61, jI (nI j), jI (nI (adn q.1 (2 ^ nxs (hnk v k) q))), jI (nI (opn v k (adn q.1 (2 ^ nxs (hnk v k) q), nxs (hnk v k) q + 1))), jI (nI (nxs (hnk v k) q + 1) - 1), jI (nI (i + 1))] _ _
        have ho : opn v k (adn q.1 (2 ^ nxs (hnk v k) q), nxs (hnk v k) q + 1) = adn q.1 (2 ^ nxs (hnk v k) q) &&& nbp v k (nxs (hnk v k) q) := if_neg (by show ¬ (nxs (hnk v k) q + 1 = 0); omega)
        rw [e_Chant_placeInFirst_37, bk_lt (by omega) (by omega), jbr_n (by omega), c_least hset w3 hT p0 hz p1 b5 b1 b2 b3, bI_some, jbr_q (show ¬ nI (nxs (hnk v k) q) = (-1 : Int32) from fun z => absurd (show nI (nxs (hnk v k) q) = ngc 1 from z) (by rw [qI_n (by omega)]; exact id)), inB_nI b1 (by omega), jgd_t, ixn (by omega), hG.1 _ b1, kI_1 (by omega), kI_adn, kI_and, ho, nI_pred, show nI i + 1 = nI (i + 1) from nI_add i 1]) (j + 1) 0 (set, 0) (by omega) rfl
      refine Eq.trans L.1 ?_
      show evj 80 37 [jR 0 61, jI (nI j), jI (nI (pth (hnk v k) set (j + 1)).1), jI (nI (opn v k (pth (hnk v k) set (j + 1)))), jI (nI (pth (hnk v k) set (j + 1)).2 - 1), jI (nI (j + 1))] [] m = _
      rw [e_Chant_placeInFirst_37, jbr_p (by rw [kI_lt (by omega) (by omega)]; omega)]
/-- the reference -/
def OT (m : jm) (hn : Nat → Nat → Bool) (n t : Nat) : Prop := ∀ s, s < t → ∀ p, p < n → gI m 77 (7 * s + p) = nI (tb hn s p)
theorem m_orders {μ : jm} {v : vst} {k set : Nat} (hw : WV v) (hv : MV μ 0 v) (hk : k ≤ 6) (hset : set < 2 ^ vn v) : ∃ m, cj 206 [jR 10 64, jI (nI set), jI (nI k)] μ = some (none, m) ∧ OT m (hnk v k) (vn v) (set + 1) ∧ fI 77 77 μ m := by
  have w3 : vn v ≤ 7 := hw.2.2.1
  have h27 : 2 ^ vn v ≤ 2 ^ 7 := Nat.pow_le_pow_right (by omega) w3
  rw [e_M_findOrders]
  obtain ⟨m, e1, e2, e3⟩ := lp_r (W := fun s (m : jm) => evj 206 2 [jR 10 64, jI (nI set), jI (nI k), jI (nI s), jU, jU, jU, jU] [] m) (n := set + 1) (fun s m => OT m (hnk v k) (vn v) s ∧ fI 77 77 μ m) (fun s m hs hI => by
    obtain ⟨i1, i2⟩ := hI
    show ∃ a', evj _ _ _ _ _ = evj _ _ _ _ _ ∧ _
    rw [e_M_findOrders_2, bk_lt (by omega) (by omega), jbr_n (by omega)]
    obtain ⟨m2, g1, g2, g3, g4⟩ := lp_r (W := fun p (m : jm) => evj 206 10 [jR 10 64, jI (nI set), jI (nI k), jI (nI s), jI (nI p), jU, jU, jU] [] m) (n := vn v) (fun p m => (∀ q, q < p → gI m 77 (7 * s + q) = nI (tb (hnk v k) s q)) ∧ OT m (hnk v k) (vn v) s ∧ fI 77 77 μ m) (fun p m hp hI => by
      obtain ⟨j0, j1, j2⟩ := hI
      show ∃ a', evj _ _ _ _ _ = evj _ _ _ _ _ ∧ _
      have hv1 := MV_fI j2 (by omega) hw hv
      have hal := adn_le s (2 ^ p)
      obtain ⟨-, w42, -⟩ := hw.2.2.2.1 p hp
      have hNp : gI m 65 (80 + p) = nI (vN v p) := by have := (hv1.2.2.2.1 p hp).2.1; rwa [show 0 + 80 + p = 80 + p from by omega] at this
      have h72 : gI m 65 72 = nI (vn v) := hv1.2.2.1
      have hrl : ∀ q, q < vn v → inB (nI (7 * adn s (2 ^ p) + q)) 896 = true := fun q hq => inB_nI (by omega) (by omega)
      have hNq : ∀ q, q < vn v → gI m 65 (80 + q) = nI (vN v q) := fun q hq => by have := (hv1.2.2.2.1 q hq).2.1; rwa [show 0 + 80 + q = 80 + q from by omega] at this
      have keep : ∀ y, y = nI (tb (hnk v k) s p) → (∀ q, q < p + 1 → gI (sI m 77 (7 * s + p) y) 77 (7 * s + q) = nI (tb (hnk v k) s q)) ∧ OT (sI m 77 (7 * s + p) y) (hnk v k) (vn v) s ∧ fI 77 77 μ (sI m 77 (7 * s + p) y) := fun y hy => ⟨fun q hq => by
        by_cases e : q = p
        · subst e; rw [gI_eq, hy]
        · rw [gI_ne _ (by omega)]; exact j0 q (by omega), fun s' h1 q hq => by
        rw [gI_ne _ (by omega)]; exact j1 s' h1 q hq, fI_t j2 (fI_s m (by omega) (by omega))⟩
      rw [e_M_findOrders_10, show inB (72 : Int32) 560 = true from by decide, jgd_t, show ix (72 : Int32) = 72 from by decide, h72, bk_le (by omega) (by omega), jbr_n (by omega), kI_1 (by omega), kI_adn, li0, bk_ne (by omega) (by omega)]
      cases hb : s.testBit p
      · -- he isn't of the set: whatever the sum is
        have any : ∀ x0 : Int32, ∃ a' : jm, evj 206 47 [jR 10 64, jI (nI set), jI (nI k), jI (nI s), jI (nI p), jI (nI (adn s (2 ^ p))), jI x0, jI (nI 0)] [] m = evj 206 10 [jR 10 64, jI (nI set), jI (nI k), jI (nI s), jI (nI (p + 1)), jU, jU, jU] [] a' ∧ (∀ q, q < p + 1 → gI a' 77 (7 * s + q) = nI (tb (hnk v k) s q)) ∧ OT a' (hnk v k) (vn v) s ∧ fI 77 77 μ a' := fun x0 => by
          obtain ⟨x1, y1, -⟩ := lp_r (W := fun q (x : Int32) => evj 206 47 [jR 10 64, jI (nI set), jI (nI k), jI (nI s), jI (nI p), jI (nI (adn s (2 ^ p))), jI x, jI (nI q)] [] m) (n := vn v) (fun _ _ => True) (fun q x hq _ => by
            show ∃ a', evj _ _ _ _ _ = evj _ _ _ _ _ ∧ _
            obtain ⟨-, w52, -⟩ := hw.2.2.2.1 q hq
            rw [e_M_findOrders_47, show inB (72 : Int32) 560 = true from by decide, jgd_t, show ix (72 : Int32) = 72 from by decide, h72, bk_le (by omega) (by omega), jbr_n (by omega), m_has (by omega) (by omega), bI_some, show nI q + 1 = nI (q + 1) from nI_add q 1]
            cases (adn s (2 ^ p)).testBit q
            · rw [bf_p rfl]
              exact ⟨_, rfl, trivial⟩
            · rw [bf_n rfl, li80, nI_add, inB_nI (by omega) (by omega), jgd_t, nI_add, inB_nI (by omega) (by omega), jgd_t, ixn (by omega), ixn (by omega), hNp, hNq q hq, m_near w42 w52 hk, bI_some]
              cases nr (vN v p) (vN v q) k
              · rw [bf_p rfl]
                exact ⟨_, rfl, trivial⟩
              · rw [bf_n rfl, show (7 : Int32) = nI 7 from rfl, kI_mul, nI_add, hrl q hq, jgd_t]
                exact ⟨_, rfl, trivial⟩) (vn v) 0 x0 (by omega) trivial
          refine ⟨_, Eq.trans y1 ?_, keep 0 (by rw [tb_0 _ hb]; rfl)⟩
          show evj _ _ _ _ _ = _
          rw [e_M_findOrders_47, show inB (72 : Int32) 560 = true from by decide, jgd_t, show ix (72 : Int32) = 72 from by decide, h72, jbr_p (by rw [kI_le (by omega) (by omega)]; omega), m_has (by omega) (by omega), bI_some, hb, bf_p rfl, show (7 : Int32) = nI 7 from rfl, kI_mul, nI_add, inB_nI (by omega) (by omega), jgd_t, ixn (by omega), show nI p + 1 = nI (p + 1) from nI_add p 1]
        by_cases hz : adn s (2 ^ p) = 0
        · rw [jbr_n (fun z => z hz)]
          exact any _
        · rw [jbr_p hz]
          exact any _
      · have hl := adn_lt hb
        have yes : ∀ x0 : Nat, x0 + tsum (hnk v k) (adn s (2 ^ p)) p (vn v) = tb (hnk v k) s p → ∃ a' : jm, evj 206 47 [jR 10 64, jI (nI set), jI (nI k), jI (nI s), jI (nI p), jI (nI (adn s (2 ^ p))), jI (nI x0), jI (nI 0)] [] m = evj 206 10 [jR 10 64, jI (nI set), jI (nI k), jI (nI s), jI (nI (p + 1)), jU, jU, jU] [] a' ∧ (∀ q, q < p + 1 → gI a' 77 (7 * s + q) = nI (tb (hnk v k) s q)) ∧ OT a' (hnk v k) (vn v) s ∧ fI 77 77 μ a' := fun x0 hx0 => by
          have L := lp_f (W := fun q x => evj 206 47 [jR 10 64, jI (nI set), jI (nI k), jI (nI s), jI (nI p), jI (nI (adn s (2 ^ p))), jI (nI (x0 + x)), jI (nI q)] [] m) (f := fun q x => x + (if (adn s (2 ^ p)).testBit q = true ∧ hnk v k p q = true then tb (hnk v k) (adn s (2 ^ p)) q else 0)) (n := vn v) (fun _ _ => True) (fun q x hq _ => by
            refine ⟨?_, trivial⟩
            show evj _ _ _ _ _ = evj _ _ _ _ _
            obtain ⟨-, w52, -⟩ := hw.2.2.2.1 q hq
            rw [e_M_findOrders_47, show inB (72 : Int32) 560 = true from by decide, jgd_t, show ix (72 : Int32) = 72 from by decide, h72, bk_le (by omega) (by omega), jbr_n (by omega), m_has (by omega) (by omega), bI_some, show nI q + 1 = nI (q + 1) from nI_add q 1]
            cases hr : (adn s (2 ^ p)).testBit q
            · rw [bf_p rfl, if_neg (fun z => absurd z.1 (by decide)), li0, nI_add]
              rfl
            · rw [bf_n rfl, li80, nI_add, inB_nI (by omega) (by omega), jgd_t, nI_add, inB_nI (by omega) (by omega), jgd_t, ixn (by omega), ixn (by omega), hNp, hNq q hq, m_near w42 w52 hk, bI_some]
              unfold hnk
              cases hc : nr (vN v p) (vN v q) k
              · rw [bf_p rfl, if_neg (fun z => absurd z.2 (by decide)), li0, nI_add]
                rfl
              · rw [bf_n rfl, if_pos ⟨rfl, rfl⟩, show (7 : Int32) = nI 7 from rfl, kI_mul, nI_add, hrl q hq, jgd_t, ixn (by omega), j1 (adn s (2 ^ p)) hl q hq, nI_add, Nat.add_assoc]
                rfl) (vn v) 0 0 (by omega) trivial
          refine ⟨_, Eq.trans L.1 ?_, keep (nI (tb (hnk v k) s p)) rfl⟩
          show evj 206 47 [jR 10 64, jI (nI set), jI (nI k), jI (nI s), jI (nI p), jI (nI (adn s (2 ^ p))), jI (nI (x0 + tsum (hnk v k) (adn s (2 ^ p)) p (vn v))), jI (nI (vn v))] [] m = _
          rw [hx0, e_M_findOrders_47, show inB (72 : Int32) 560 = true from by decide, jgd_t, show ix (72 : Int32) = 72 from by decide, h72, jbr_p (by rw [kI_le (by omega) (by omega)]; omega), m_has (by omega) (by omega), bI_some, hb, bf_n rfl, show (7 : Int32) = nI 7 from rfl, kI_mul, nI_add, inB_nI (by omega) (by omega), jgd_t, ixn (by omega), show nI p + 1 = nI (p + 1) from nI_add p 1]
        have hx : tsum (hnk v k) (adn s (2 ^ p)) p 7 = tsum (hnk v k) (adn s (2 ^ p)) p (vn v) := sumn_x w3 (fun c hc => if_neg (fun z => by rw [tb_hi (show adn s (2 ^ p) < 2 ^ vn v by omega) hc] at z; exact absurd z.1 (by decide)))
        by_cases hz : adn s (2 ^ p) = 0
        · rw [jbr_n (fun z => z hz)]
          refine yes 1 ?_
          rw [tb_e _ hb, if_pos hz, hz, show tsum (hnk v k) 0 p (vn v) = tsum (hnk v k) 0 p 0 from sumn_x (Nat.zero_le _) (fun c _ => if_neg (fun z => by rw [Nat.zero_testBit] at z; exact absurd z.1 (by decide)))]
          rfl
        · rw [jbr_p hz]
          refine yes 0 ?_
          rw [tb_e _ hb, if_neg hz, hx, Nat.zero_add]) (vn v) 0 m (by omega) ⟨fun q hq => absurd hq (Nat.not_lt_zero q), i1, i2⟩
    have hv2 := MV_fI g4 (by omega) hw hv
    refine ⟨m2, Eq.trans g1 ?_, fun s' h1 q hq => ?_, g4⟩
    · show evj _ _ _ _ _ = _
      rw [e_M_findOrders_10, show inB (72 : Int32) 560 = true from by decide, jgd_t, show ix (72 : Int32) = 72 from by decide, show gI m2 65 72 = nI (vn v) from hv2.2.2.1, jbr_p (by rw [kI_le (by omega) (by omega)]; omega), show nI s + 1 = nI (s + 1) from nI_add s 1]
    · by_cases e : s' = s
      · subst e; exact g2 q hq
      · exact g3 s' (by omega) q hq) (set + 1) 0 μ (by omega) ⟨fun s hs => absurd hs (Nat.not_lt_zero s), fI_r _ _ _⟩
  refine ⟨m, Eq.trans e1 ?_, e2, e3⟩
  show evj _ _ _ _ _ = _
  rw [e_M_findOrders_2, jbr_p (by rw [kI_lt (by omega) (by omega)]; omega)]
