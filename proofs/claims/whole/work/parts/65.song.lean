/-! song: orders of a set -/
def od (hn : Nat → Nat → Bool) : Nat → Nat → Nat → Nat
  | 0, _, _ => 0
  | f + 1, s, p => if s.testBit p = true then (if adn s (2 ^ p) = 0 then 1 else sumn (fun q => if (adn s (2 ^ p)).testBit q = true ∧ hn p q = true then od hn f (adn s (2 ^ p)) q else 0) 7) else 0
theorem adn_lt {s p : Nat} (h : s.testBit p = true) : adn s (2 ^ p) < s := by
  have h1 := adn_le s (2 ^ p)
  have h2 : adn s (2 ^ p) ≠ s := fun e => by
    have h3 := adn_tb s (2 ^ p) p
    rw [e, h, Nat.testBit_two_pow, decide_eq_true rfl] at h3
    exact absurd h3 (by decide)
  omega
theorem sumn_c {f g : Nat → Nat} : ∀ {n : Nat}, (∀ w, w < n → f w = g w) → sumn f n = sumn g n
  | 0, _ => rfl
  | n + 1, h => by
    rw [sumn_s, sumn_s, sumn_c (f := f) (g := g) (n := n) (fun w hw => h w (by omega)), h n (by omega)]
theorem sumn_x {f : Nat → Nat} {n m : Nat} (h : n ≤ m) (h2 : ∀ c, n ≤ c → f c = 0) : sumn f m = sumn f n := itr_x h 0 (fun j b hj => by
  show b + f j = b
  rw [h2 j hj, Nat.add_zero])
theorem od_f (hn : Nat → Nat → Bool) : ∀ (N s p f g : Nat), s < N → s < f → s < g → od hn f s p = od hn g s p
  | 0, s, p, f, g, h, _, _ => absurd h (Nat.not_lt_zero s)
  | N + 1, s, p, f, g, h, hf, hg => by
    obtain ⟨f', rfl⟩ : ∃ f', f = f' + 1 := ⟨f - 1, by omega⟩
    obtain ⟨g', rfl⟩ : ∃ g', g = g' + 1 := ⟨g - 1, by omega⟩
    show (if _ then _ else _) = (if _ then _ else _)
    by_cases hb : s.testBit p = true
    · rw [if_pos hb, if_pos hb]
      have hl := adn_lt hb
      by_cases hz : adn s (2 ^ p) = 0
      · rw [if_pos hz, if_pos hz]
      · rw [if_neg hz, if_neg hz]
        refine sumn_c (fun q _ => ?_)
        show (if _ then _ else _) = (if _ then _ else _)
        rw [od_f hn N (adn s (2 ^ p)) q f' g' (by omega) (by omega) (by omega)]
    · rw [if_neg hb, if_neg hb]
def tb (hn : Nat → Nat → Bool) (s p : Nat) : Nat := od hn (s + 1) s p
def tsum (hn : Nat → Nat → Bool) (r p n : Nat) : Nat := sumn (fun q => if r.testBit q = true ∧ hn p q = true then tb hn r q else 0) n
theorem tb_e (hn : Nat → Nat → Bool) {s p : Nat} (hb : s.testBit p = true) : tb hn s p = if adn s (2 ^ p) = 0 then 1 else tsum hn (adn s (2 ^ p)) p 7 := by
  have hl := adn_lt hb
  show (if _ then _ else _) = _
  rw [if_pos hb]
  by_cases hz : adn s (2 ^ p) = 0
  · rw [if_pos hz, if_pos hz]
  · rw [if_neg hz, if_neg hz]
    refine sumn_c (fun q _ => ?_)
    show (if _ then _ else _) = (if _ then _ else _)
    rw [od_f hn (adn s (2 ^ p) + 1) (adn s (2 ^ p)) q s (adn s (2 ^ p) + 1) (by omega) (by omega) (by omega)]
    rfl
theorem tb_0 (hn : Nat → Nat → Bool) {s p : Nat} (hb : s.testBit p = false) : tb hn s p = 0 := if_neg (by rw [hb]; decide)
theorem pop_d : ∀ s, s < 128 → ∀ p, p < 7 → (!s.testBit p || decide (pop (adn s (2 ^ p)) + 1 = pop s)) = true := by decide +kernel
theorem pop_m {s p : Nat} (hs : s < 128) (hp : p < 7) (hb : s.testBit p = true) : pop (adn s (2 ^ p)) + 1 = pop s := by
  have := pop_d s hs p hp
  rw [hb, Bool.not_true, Bool.false_or] at this
  exact of_decide_eq_true this
theorem pop_z : ∀ s, s < 128 → (!decide (pop s = 0) || decide (s = 0)) = true := by decide +kernel
theorem tb_le (hn : Nat → Nat → Bool) : ∀ (n s p : Nat), s < 128 → p < 7 → pop s ≤ n → tb hn s p ≤ 7 ^ n
  | 0, s, p, hs, hp, h => by
    cases hb : s.testBit p
    · rw [tb_0 hn hb]; exact Nat.zero_le _
    · have := pop_m hs hp hb
      omega
  | n + 1, s, p, hs, hp, h => by
    cases hb : s.testBit p
    · rw [tb_0 hn hb]; exact Nat.zero_le _
    · have h1 := pop_m hs hp hb
      have hl := adn_lt hb
      rw [tb_e hn hb]
      split
      · exact Nat.le_trans (Nat.one_le_two_pow (n := n + 1)) (Nat.pow_le_pow_left (by omega) (n + 1))
      · have h2 : tsum hn (adn s (2 ^ p)) p 7 ≤ 7 * 7 ^ n := sumn_le _ _ 7 (fun q hq => by
          show (if _ then _ else _) ≤ _
          split
          · exact tb_le hn n (adn s (2 ^ p)) q (by omega) hq (by omega)
          · exact Nat.zero_le _)
        rw [Nat.pow_succ]
        omega
theorem tb_lt (hn : Nat → Nat → Bool) {s p : Nat} (hs : s < 128) (hp : p < 7) : tb hn s p ≤ 823543 := tb_le hn 7 s p hs hp (pop7 s hs)
def alo (hn : Nat → Nat → Bool) (s : Nat) : Nat := if s = 0 then 1 else sumn (tb hn s) 7
theorem alo_lt (hn : Nat → Nat → Bool) {s : Nat} (hs : s < 128) : alo hn s < 10000000 := by
  unfold alo
  split
  · omega
  · have := sumn_le (tb hn s) 823543 7 (fun q hq => tb_lt hn hs hq)
    omega
/-- the first of some -/
def lst (c : Nat → Bool) : Nat → Nat → Nat
  | 0, i => i
  | d + 1, i => if c i = true then i else lst c d (i + 1)
theorem lst_p (c : Nat → Bool) : ∀ d i, (∃ p, i ≤ p ∧ p < i + d ∧ c p = true) → i ≤ lst c d i ∧ lst c d i < i + d ∧ c (lst c d i) = true ∧ ∀ u, i ≤ u → u < lst c d i → c u = false
  | 0, i, h => by obtain ⟨p, h1, h2, _⟩ := h; omega
  | d + 1, i, h => by
    show i ≤ (if c i = true then i else lst c d (i + 1)) ∧ (if c i = true then i else lst c d (i + 1)) < i + (d + 1) ∧ c (if c i = true then i else lst c d (i + 1)) = true ∧ ∀ u, i ≤ u → u < (if c i = true then i else lst c d (i + 1)) → c u = false
    by_cases e : c i = true
    · rw [if_pos e]
      exact ⟨Nat.le_refl _, by omega, e, fun u h1 h2 => by omega⟩
    · rw [if_neg e]
      obtain ⟨p, h1, h2, h3⟩ := h
      have hpi : p ≠ i := fun z => e (by rw [← z]; exact h3)
      obtain ⟨k1, k2, k3, k4⟩ := lst_p c d (i + 1) ⟨p, by omega, by omega, h3⟩
      refine ⟨by omega, by omega, k3, fun u h1 h2 => ?_⟩
      by_cases eu : u = i
      · rw [eu]; exact Bool.eq_false_iff.mpr e
      · exact k4 u (by omega) h2
def cnd (hn : Nat → Nat → Bool) (s l p : Nat) : Bool := !decide (tb hn s p = 0) && (decide (l = 0) || hn (l - 1) p)
def nxs (hn : Nat → Nat → Bool) (q : Nat × Nat) : Nat := lst (cnd hn q.1 q.2) 7 0
def pth (hn : Nat → Nat → Bool) (set n : Nat) : Nat × Nat := itr (fun _ q => (adn q.1 (2 ^ nxs hn q), nxs hn q + 1)) n 0 (set, 0)
theorem pth_s (hn : Nat → Nat → Bool) (set n : Nat) : pth hn set (n + 1) = (adn (pth hn set n).1 (2 ^ nxs hn (pth hn set n)), nxs hn (pth hn set n) + 1) := by
  show itr _ (n + 1) 0 _ = _
  rw [itr_s]
  rfl
theorem sumn_pos {f : Nat → Nat} : ∀ {n : Nat}, 0 < sumn f n → ∃ q, q < n ∧ 0 < f q
  | 0, h => absurd h (by show ¬ 0 < 0; omega)
  | n + 1, h => by
    rw [sumn_s] at h
    by_cases e : 0 < f n
    · exact ⟨n, by omega, e⟩
    · obtain ⟨q, h1, h2⟩ := sumn_pos (f := f) (n := n) (by omega)
      exact ⟨q, by omega, h2⟩
/-- somebody can always go on -/
theorem pth_p {hn : Nat → Nat → Bool} {set : Nat} (hs : set < 128) (ha : 0 < alo hn set) : ∀ n, n < pop set → (pth hn set n).1 ≤ set ∧ adn (pth hn set n).1 set = 0 ∧ pop (pth hn set n).1 + n = pop set ∧ ((pth hn set n).2 = 0 ↔ n = 0) ∧ (pth hn set n).2 ≤ 7 ∧ ∃ p, p < 7 ∧ cnd hn (pth hn set n).1 (pth hn set n).2 p = true
  | 0, h => by
    refine ⟨Nat.le_refl _, ?_, rfl, ⟨fun _ => rfl, fun _ => rfl⟩, Nat.zero_le _, ?_⟩
    · show adn set set = 0
      unfold adn
      rw [Nat.and_self, Nat.xor_self]
    · have h0 : set ≠ 0 := fun z => by subst z; exact absurd h (by decide)
      have e : alo hn set = sumn (tb hn set) 7 := if_neg h0
      rw [e] at ha
      obtain ⟨q, h1, h2⟩ := sumn_pos ha
      refine ⟨q, h1, ?_⟩
      show (!decide (tb hn set q = 0) && (decide (0 = 0) || hn (0 - 1) q)) = true
      rw [decide_eq_false (by omega)]
      rfl
  | n + 1, h => by
    obtain ⟨i1, i0, i2, i3, i4, p, i5, i6⟩ := pth_p hs ha n (by omega)
    obtain ⟨k1, k2, k3, k4⟩ := lst_p (cnd hn (pth hn set n).1 (pth hn set n).2) 7 0 ⟨p, by omega, by omega, i6⟩
    have k2 : nxs hn (pth hn set n) < 7 := by have := k2; unfold nxs; omega
    have k3 : cnd hn (pth hn set n).1 (pth hn set n).2 (nxs hn (pth hn set n)) = true := k3
    have hb : (pth hn set n).1.testBit (nxs hn (pth hn set n)) = true := by
      cases hb : (pth hn set n).1.testBit (nxs hn (pth hn set n))
      · have := tb_0 hn hb
        unfold cnd at k3
        rw [decide_eq_true this] at k3
        exact absurd k3 (by simp)
      · rfl
    have hpos : 0 < tb hn (pth hn set n).1 (nxs hn (pth hn set n)) := by
      refine Nat.pos_of_ne_zero (fun z => ?_)
      unfold cnd at k3
      rw [decide_eq_true z] at k3
      exact absurd k3 (by simp)
    have hl := adn_lt hb
    have hm := pop_m (by omega) k2 hb
    rw [pth_s]
    refine ⟨by show adn _ _ ≤ _; omega, ?_, by show pop (adn _ _) + _ = _; omega, ⟨fun z => absurd z (by show ¬ (nxs hn (pth hn set n) + 1 = 0); omega), fun z => absurd z (by omega)⟩, by show nxs hn (pth hn set n) + 1 ≤ 7; omega, ?_⟩
    · show adn (adn (pth hn set n).1 (2 ^ nxs hn (pth hn set n))) set = 0
      apply Nat.eq_of_testBit_eq
      intro i
      have hh : (adn (pth hn set n).1 set).testBit i = (0 : Nat).testBit i := by rw [i0]
      rw [adn_tb, Nat.zero_testBit] at hh
      rw [adn_tb, adn_tb, Nat.zero_testBit]
      cases h1 : (pth hn set n).1.testBit i
      · rfl
      · rw [h1, Bool.true_and] at hh
        rw [hh, Bool.and_false]
    · have hz : adn (pth hn set n).1 (2 ^ nxs hn (pth hn set n)) ≠ 0 := fun z => by
        rw [z, show pop 0 = 0 from by decide +kernel] at hm
        omega
      rw [tb_e hn hb, if_neg hz] at hpos
      obtain ⟨q, q1, q2⟩ := sumn_pos hpos
      have q2 : 0 < (if (adn (pth hn set n).1 (2 ^ nxs hn (pth hn set n))).testBit q = true ∧ hn (nxs hn (pth hn set n)) q = true then tb hn (adn (pth hn set n).1 (2 ^ nxs hn (pth hn set n))) q else 0) := q2
      refine ⟨q, q1, ?_⟩
      by_cases hc : (adn (pth hn set n).1 (2 ^ nxs hn (pth hn set n))).testBit q = true ∧ hn (nxs hn (pth hn set n)) q = true
      · rw [if_pos hc] at q2
        show (!decide (tb hn (adn (pth hn set n).1 (2 ^ nxs hn (pth hn set n))) q = 0) && (decide (nxs hn (pth hn set n) + 1 = 0) || hn (nxs hn (pth hn set n) + 1 - 1) q)) = true
        rw [decide_eq_false (by omega), Nat.add_sub_cancel, hc.2, Bool.or_true]
        rfl
      · rw [if_neg hc] at q2
        omega
/-- who may sound next to whom -/
def hnk (v : vst) (k p q : Nat) : Bool := nr (vN v p) (vN v q) k
def nbs (v : vst) (k p n : Nat) : Nat := itr (fun q s => if hnk v k p q = true then s ||| 2 ^ q else s) n 0 0
theorem nbs_t (v : vst) (k p : Nat) : ∀ n q, (nbs v k p n).testBit q = (decide (q < n) && hnk v k p q)
  | 0, q => by
    show (0 : Nat).testBit q = _
    rw [Nat.zero_testBit, decide_eq_false (Nat.not_lt_zero q), Bool.false_and]
  | n + 1, q => by
    have e1 : nbs v k p (n + 1) = if hnk v k p n = true then nbs v k p n ||| 2 ^ n else nbs v k p n := by
      show itr _ (n + 1) 0 0 = _
      rw [itr_s, Nat.zero_add]
      rfl
    rw [e1]
    by_cases e : q = n
    · subst e
      cases h : hnk v k p q
      · rw [if_neg (by decide), nbs_t v k p q q, h, Bool.and_false, Bool.and_false]
      · rw [if_pos rfl, Nat.testBit_or, Nat.testBit_two_pow, decide_eq_true rfl, Bool.or_true, decide_eq_true (Nat.lt_succ_self q)]
        rfl
    · have : decide (q < n + 1) = decide (q < n) := decide_eq_decide.mpr (by omega)
      rw [this]
      split
      · rw [Nat.testBit_or, nbs_t v k p n q, Nat.testBit_two_pow, decide_eq_false (show ¬ n = q from fun z => e z.symm), Bool.or_false]
      · exact nbs_t v k p n q
theorem nbs_lt (v : vst) (k p n : Nat) : nbs v k p n < 2 ^ n := itr_lt n (fun i b hi hb => by
  split
  · exact or_lt n hb (two_lt hi)
  · exact hb)
def nbp (v : vst) (k p : Nat) : Nat := if p < vn v then nbs v k p (vn v) else 0
theorem c_nbs {μ : jm} {v : vst} {k : Nat} (hw : WV v) (hv : CV μ 1 v) (hk : k ≤ 6) : ∃ m, cj 76 [jR 0 61, jR 8 1, jI (nI k)] μ = some (none, m) ∧ (∀ p, p < 7 → gI m 63 p = nI (nbp v k p)) ∧ fI 63 63 μ m := by
  have w3 : vn v ≤ 7 := hw.2.2.1
  rw [e_Chant_findNeighbours]
  obtain ⟨m, e1, e2, e3⟩ := lp_r (W := fun i (m : jm) => evj 76 2 [jR 0 61, jR 8 1, jI (nI k), jI (nI i), jU, jU] [] m) (n := 7) (fun i m => (∀ p, p < i → gI m 63 p = nI (nbp v k p)) ∧ fI 63 63 μ m) (fun p m hp hI => by
    obtain ⟨i1, i2⟩ := hI
    show ∃ a', evj _ _ _ _ _ = evj _ _ _ _ _ ∧ _
    have f0 : fI 63 63 μ (sI m 63 p (0 : Int32)) := fI_t i2 (fI_s m (by omega) (by omega))
    rw [e_Chant_findNeighbours_2, li7, bk_le (by omega) (by omega), jbr_n (by omega), inB_nI hp (by omega), jgd_t, ixn (by omega)]
    by_cases hpn : p < vn v
    · obtain ⟨-, w42, -⟩ := hw.2.2.2.1 p hpn
      obtain ⟨m2, g1, g2, g3, g4⟩ := lp_r (W := fun i (m : jm) => evj 76 18 [jR 0 61, jR 8 1, jI (nI k), jI (nI p), jI (nI i), jU] [] m) (n := vn v) (fun i m => (∀ c, c < p → gI m 63 c = nI (nbp v k c)) ∧ gI m 63 p = nI (nbs v k p i) ∧ fI 63 63 μ m) (fun q m hq hI => by
        obtain ⟨j1, j2, j3⟩ := hI
        show ∃ a', evj _ _ _ _ _ = evj _ _ _ _ _ ∧ _
        have hv1 := CV_fI j3 (by omega) hv
        obtain ⟨-, w52, -⟩ := hw.2.2.2.1 q hq
        have hne := nea_lt (a := 2 ^ vN v p) k (two_12 w42)
        rw [e_Chant_findNeighbours_18, show gI m 1 6 = nI (vn v) from hv1.2.2.1, bk_le (by omega) (by omega), jbr_n (by omega), bk_le (by omega) (by omega), jbr_n (by omega), inB_nI hp (by omega), jgd_t, ixn (by omega), show gI m (1 + 4) p = nI (vN v p) from (hv1.2.2.2.1 p hpn).2.1, kI_1 (by omega), c_nea (two_12 w42) hk, bI_some, inB_nI (by omega) (by omega), jgd_t, ixn (by omega), show gI m (1 + 4) q = nI (vN v q) from (hv1.2.2.2.1 q hq).2.1, kI_tb (by omega) (by omega), nr_d _ w42 _ w52 k (by omega), show nI q + 1 = nI (q + 1) from nI_add q 1]
        have e1 : nbs v k p (q + 1) = if hnk v k p q = true then nbs v k p q ||| 2 ^ q else nbs v k p q := by
          show itr _ (q + 1) 0 0 = _
          rw [itr_s, Nat.zero_add]
          rfl
        cases hc : nr (vN v p) (vN v q) k
        · rw [bf_p rfl]
          exact ⟨m, rfl, j1, by rw [e1, if_neg (by unfold hnk; rw [hc]; decide)]; exact j2, j3⟩
        · rw [bf_n rfl, jgd_t, jgd_t, j2, kI_1 (by omega), kI_or]
          refine ⟨_, rfl, fun c hc2 => ?_, ?_, fI_t j3 (fI_s m (by omega) (by omega))⟩
          · rw [gI_ne _ (by omega)]; exact j1 c hc2
          · rw [gI_eq, e1, if_pos (show hnk v k p q = true from hc)]) (vn v) 0 (sI m 63 p (0 : Int32)) (by omega) ⟨fun c hc => by rw [gI_ne _ (by omega)]; exact i1 c hc, by rw [gI_eq]; rfl, f0⟩
      have hv2 := CV_fI g4 (by omega) hv
      refine ⟨m2, Eq.trans g1 ?_, fun c hc => ?_, g4⟩
      · show evj _ _ _ _ _ = _
        rw [e_Chant_findNeighbours_18, show gI m2 1 6 = nI (vn v) from hv2.2.2.1, bk_le (by omega) (by omega), jbr_n (by omega), jbr_p (by rw [kI_le (by omega) (by omega)]; omega), show nI p + 1 = nI (p + 1) from nI_add p 1]
      · by_cases e : c = p
        · subst e; rw [show nbp v k c = nbs v k c (vn v) from if_pos hpn]; exact g3
        · exact g2 c (by omega)
    · have hv2 := CV_fI f0 (by omega) hv
      rw [e_Chant_findNeighbours_18, show gI (sI m 63 p (0 : Int32)) 1 6 = nI (vn v) from hv2.2.2.1, jbr_p (by rw [kI_le (by omega) (by omega)]; omega), show nI p + 1 = nI (p + 1) from nI_add p 1]
      refine ⟨_, rfl, fun c hc => ?_, f0⟩
      by_cases e : c = p
      · subst e; rw [gI_eq, show nbp v k c = 0 from if_neg hpn]; rfl
      · rw [gI_ne _ (by omega)]; exact i1 c (by omega)) 7 0 μ (by omega) ⟨fun c hc => absurd hc (Nat.not_lt_zero c), fI_r _ _ _⟩
  refine ⟨m, Eq.trans e1 ?_, e2, e3⟩
  show evj _ _ _ _ _ = _
  rw [e_Chant_findNeighbours_2, jbr_p (by decide)]
/-- orders among some: a sum of the table -/
theorem c_among {m : jm} {s f : Nat} {g : Nat → Nat} (hs : s < 128) (hf : f < 2147483648) (hg : ∀ p, p < 7 → f.testBit p = true → gI m 62 (s * 7 + p) = nI (g p)) : cj 78 [jR 0 61, jI (nI s), jI (nI f)] m = some (some (jI (nI (sumn (fun p => if f.testBit p = true then g p else 0) 7))), m) := by
  rw [e_Chant_ordersAmong]
  have L := lp_f (W := fun i x => evj 78 5 [jR 0 61, jI (nI s), jI (nI f), jI (nI x), jI (nI i)] [] m) (f := fun p x => x + (if f.testBit p = true then g p else 0)) (n := 7) (fun _ _ => True) (fun p x hp _ => by
    refine ⟨?_, trivial⟩
    show evj _ _ _ _ _ = evj _ _ _ _ _
    rw [e_Chant_ordersAmong_5, li7, bk_le (by omega) (by omega), jbr_n (by omega), kI_tb hf (by omega), show nI p + 1 = nI (p + 1) from nI_add p 1]
    cases hb : f.testBit p
    · rw [bf_p rfl, if_neg (by decide)]
      rfl
    · rw [bf_n rfl, if_pos rfl, kI_mul, nI_add, inB_nI (by omega) (by omega), jgd_t, ixn (by omega), hg p hp hb, nI_add]) 7 0 0 (by omega) trivial
  refine Eq.trans L.1 ?_
  show evj _ _ _ _ _ = _
  rw [e_Chant_ordersAmong_5, jbr_p (by decide)]
  rfl
theorem sub_tb {s set i : Nat} (h : adn s set = 0) (hb : s.testBit i = true) : set.testBit i = true := by
  have h2 := adn_tb s set i
  rw [h, Nat.zero_testBit, hb, Bool.true_and] at h2
  cases h3 : set.testBit i
  · rw [h3] at h2; exact absurd h2 (by decide)
  · rfl
theorem sub_a {s set : Nat} (x : Nat) (h : adn s set = 0) : adn (adn s x) set = 0 := by
  apply Nat.eq_of_testBit_eq
  intro i
  rw [adn_tb, adn_tb, Nat.zero_testBit]
  cases h1 : s.testBit i
  · rfl
  · rw [sub_tb h h1, Bool.not_true, Bool.and_false]
def CT (m : jm) (hn : Nat → Nat → Bool) (set t : Nat) : Prop := ∀ s, 1 ≤ s → s < t → adn s set = 0 → ∀ p, p < 7 → gI m 62 (s * 7 + p) = nI (tb hn s p)
theorem c_from {m : jm} {v : vst} {k set s p : Nat} (hw : WV v) (hset : set < 2 ^ vn v) (hT : CT m (hnk v k) set s) (hN : ∀ p, p < 7 → gI m 63 p = nI (nbp v k p)) (hs : s < 128) (hsub : adn s set = 0) (hp : p < 7) : cj 77 [jR 0 61, jI (nI s), jI (nI p)] m = some (some (jI (nI (tb (hnk v k) s p))), m) := by
  have w3 : vn v ≤ 7 := hw.2.2.1
  have hal := adn_le s (2 ^ p)
  rw [e_Chant_ordersFrom, kI_tb (by omega) (by omega), kI_1 (by omega), kI_adn, li0, bk_ne (a := adn s (2 ^ p)) (by omega) (by omega), ← li0]
  cases hb : s.testBit p
  · rw [bt_n rfl, tb_0 _ hb]
    rfl
  · rw [bt_p rfl, tb_e _ hb]
    have hl := adn_lt hb
    by_cases hz : adn s (2 ^ p) = 0
    · rw [jbr_n (fun z => z hz), if_pos hz]
      rfl
    · have hpn : p < vn v := Nat.lt_of_not_le (fun hle => by have := sub_tb hsub hb; rw [tb_hi hset hle] at this; exact absurd this (by decide))
      have hnb : nbp v k p = nbs v k p (vn v) := if_pos hpn
      rw [jbr_p hz, if_neg hz, inB_nI hp (by omega), jgd_t, ixn (by omega), hN p hp, kI_and, c_among (g := tb (hnk v k) (adn s (2 ^ p))) (by omega) (Nat.lt_of_le_of_lt Nat.and_le_left (by omega)) (fun q hq _ => hT (adn s (2 ^ p)) (by omega) hl (sub_a _ hsub) q hq), bI_some]
      congr 4
      refine congrArg nI (sumn_c (fun q hq => ?_))
      show (if (adn s (2 ^ p) &&& nbp v k p).testBit q = true then _ else 0) = (if _ then _ else 0)
      rw [Nat.testBit_and, hnb, nbs_t]
      by_cases hr : (adn s (2 ^ p)).testBit q = true
      · have hqn : q < vn v := Nat.lt_of_not_le (fun hle => by have := sub_tb (sub_a (2 ^ p) hsub) hr; rw [tb_hi hset hle] at this; exact absurd this (by decide))
        rw [hr, decide_eq_true hqn, Bool.true_and, Bool.true_and]
        cases hc : hnk v k p q
        · rw [if_neg (by decide), if_neg (fun z => absurd z.2 (by decide))]
        · rw [if_pos rfl, if_pos ⟨rfl, rfl⟩]
      · rw [Bool.eq_false_iff.mpr hr, Bool.false_and, if_neg (by decide), if_neg (fun z => absurd z.1 (by decide))]
