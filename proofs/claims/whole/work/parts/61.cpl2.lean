/-! couple: the search -/
def sc (μ m : jm) : Prop := ∀ a b, (a < 12 ∨ (22 < a ∧ a < 50) ∨ 63 < a) → m.1 a b = μ.1 a b ∧ m.2 a b = μ.2 a b
theorem sc_r (μ : jm) : sc μ μ := fun _ _ _ => ⟨rfl, rfl⟩
theorem sc_t {a b c : jm} (h : sc a b) (h2 : sc b c) : sc a c := fun x y hx => ⟨(h2 x y hx).1.trans (h x y hx).1, (h2 x y hx).2.trans (h x y hx).2⟩
theorem sc_fI {lo hi : Nat} {a b : jm} (h : fI lo hi a b) (h1 : 50 ≤ lo) (h2 : hi ≤ 63) : sc a b := fun x y hx => h x y (by omega)
theorem sc_ok {a b : jm} (h : okC 12 a b) : sc a b := fun x y hx => h x y (by omega)
theorem CS_sc {μ m : jm} {S : sst} (h : sc μ m) (hs : CS μ S) : CS m S := by
  have e : setV S (sv S) = S := rfl
  rw [← e]
  exact CS_setV hs (CV_of (fun a b _ _ => (h a b (by omega)).1) hs.1) (fun a b _ => h a b (by omega))
theorem oc_sc {μ m : jm} (h : sc μ m) : oc μ m := fun a b ha => h a b (by omega)
def cst (v : vst) (set a b : Nat) (q : Nat × Nat) : Nat × Nat := if set.testBit a = true ∧ set.testBit b = true ∧ ¬ vM v a = b + 1 then (if pop (sdb (wd v a b) set) < q.2 then q else (10 * a + b + 1, pop (sdb (wd v a b) set) + 1)) else q
def cin (v : vst) (set a n : Nat) (q : Nat × Nat) : Nat × Nat := itr (fun d q => cst v set a (a + 1 + d) q) n 0 q
def cot (v : vst) (set n : Nat) : Nat × Nat := itr (fun a q => cin v set a (vn v - (a + 1)) q) n 0 (0, 0)
theorem cin_s (v : vst) (set a n : Nat) (q : Nat × Nat) : cin v set a (n + 1) q = cst v set a (a + 1 + n) (cin v set a n q) := by
  show itr _ (n + 1) 0 q = _
  rw [itr_s, Nat.zero_add]
  rfl
theorem cot_s (v : vst) (set n : Nat) : cot v set (n + 1) = cin v set n (vn v - (n + 1)) (cot v set n) := by
  show itr _ (n + 1) 0 _ = _
  rw [itr_s, Nat.zero_add]
  rfl
theorem cin_x (v : vst) {set a : Nat} (hs : set < 2 ^ vn v) (hn : vn v ≤ 7) (ha : a ≤ 6) (q : Nat × Nat) : cin v set a (6 - a) q = cin v set a (vn v - (a + 1)) q := itr_x (by omega) q (fun j b hj => by
  show cst v set a (a + 1 + j) b = b
  unfold cst
  rw [tb_hi hs (show vn v ≤ a + 1 + j by omega), if_neg (fun z => absurd z.2.1 (by decide))])
theorem cot_x (v : vst) {set : Nat} (hn : vn v ≤ 7) : cot v set 7 = cot v set (vn v) := itr_x hn _ (fun j b hj => by
  show cin v set j (vn v - (j + 1)) b = b
  rw [show vn v - (j + 1) = 0 from by omega]
  rfl)
def cq (q : Nat × Nat) : Prop := q.1 ≤ 100 ∧ q.2 ≤ 32
theorem cq_cst {v : vst} {set a b : Nat} {q : Nat × Nat} (ha : a < 7) (hb : b < 7) (h : cq q) : cq (cst v set a b q) := by
  have := pop_le (sdb (wd v a b) set)
  unfold cst
  split
  · split
    · exact h
    · exact ⟨show 10 * a + b + 1 ≤ 100 by omega, show pop (sdb (wd v a b) set) + 1 ≤ 32 by omega⟩
  · exact h
theorem cq_cin {v : vst} {set a n : Nat} {q : Nat × Nat} (hn : a + n < 7) (h : cq q) : cq (cin v set a n q) := itr_I (n := n) (fun _ q => cq q) (fun i q hi hq => cq_cst (by omega) (by omega) hq) h
theorem cq_cot {v : vst} {set n : Nat} (hn : n ≤ 7) (hv : vn v ≤ 7) : cq (cot v set n) := itr_I (n := n) (fun _ q => cq q) (fun i q hi hq => by
  by_cases e : i < vn v
  · exact cq_cin (by omega) hq
  · show cq (cin v set i (vn v - (i + 1)) q)
    rw [show vn v - (i + 1) = 0 from by omega]
    exact hq) ⟨Nat.zero_le _, Nat.zero_le _⟩
theorem le_m1 {a m : Nat} (ha : a < 1073741824) (hm : m < 1073741824) : (nI a ≤ nI m - 1) ↔ a < m := by
  cases m with
  | zero =>
    refine ⟨fun h => ?_, fun h => absurd h (Nat.not_lt_zero a)⟩
    have h := Int32.le_iff_toInt_le.mp h
    rw [nI_toInt (by omega)] at h
    exact absurd h (by show ¬ ((a : Int) ≤ -1); omega)
  | succ m => rw [nI_pred, nI_leI (by omega) (by omega)]; omega
theorem bk_lm {a m : Nat} (ha : a < 1073741824) (hm : m < 1073741824) {x y : Option jr} : jbr (decide (nI a ≤ nI m - (1 : Int32))) x y = jbr (decide (a < m)) x y := by congr 1; exact decide_eq_decide.mpr (le_m1 ha hm)
theorem eq_m1 {m b : Nat} (hm : m < 1073741824) (hb : b < 1073741824) : (nI m - 1 = nI b) ↔ m = b + 1 := by
  cases m with
  | zero =>
    refine ⟨fun h => ?_, fun h => absurd h (by omega)⟩
    have h : nI b = ngc 1 := h.symm
    rw [qI_n (by omega)] at h
    exact h.elim
  | succ m => rw [nI_pred, nI_eq (by omega) (by omega)]; omega
theorem bk_nm {m b : Nat} (hm : m < 1073741824) (hb : b < 1073741824) {x y : Option jr} : jbr (decide (¬ nI m - (1 : Int32) = nI b)) x y = jbr (decide (¬ m = b + 1)) x y := by congr 1; exact decide_eq_decide.mpr (not_congr (eq_m1 hm hb))
/-- the draft takes the people anew -/
theorem c_again {μ : jm} {v : vst} {K M : Nat → Nat} (hw : WV v) (hv : CV μ 1 v) (hd : CV μ 12 (setKM v K M)) : ∃ m, cj 29 [jR 8 12, jR 8 1] μ = some (none, m) ∧ CV m 12 v ∧ okC 12 μ m := by
  have w3 : vn v ≤ 7 := hw.2.2.1
  obtain ⟨m, p1, p2, p3, p4, p5⟩ := c_cpP (k1 := 12) (k2 := 1) (by omega) μ
  obtain ⟨h1, h2, h3, h4, h5, h6, h7, h8, h9, h10, h11⟩ := hd
  refine ⟨m, p1, ⟨fun a ha => ?_, fun a ha => ?_, ?_, fun p hp => ⟨?_, ?_, ?_, ?_⟩, ?_, fun i hi => ⟨?_, ?_⟩, ?_, ?_, fun i hi => ?_, ?_, fun i hi => ?_⟩, p4⟩
  · rw [p5 _ _ (by omega)]; exact h1 a ha
  · rw [p5 _ _ (by omega)]; exact h2 a ha
  · rw [p3]; exact hv.2.2.1
  · rw [(p2 p (by omega)).1]; exact (hv.2.2.2.1 p hp).1
  · rw [(p2 p (by omega)).2.1]; exact (hv.2.2.2.1 p hp).2.1
  · rw [(p2 p (by omega)).2.2.1]; exact (hv.2.2.2.1 p hp).2.2.1
  · rw [(p2 p (by omega)).2.2.2]; exact (hv.2.2.2.1 p hp).2.2.2
  · rw [p5 _ _ (by omega)]; exact h5
  · rw [p5 _ _ (by omega)]; exact (h6 i hi).1
  · rw [p5 _ _ (by omega)]; exact (h6 i hi).2
  · rw [p5 _ _ (by omega)]; exact h7
  · rw [p5 _ _ (by omega)]; exact h8
  · rw [p5 _ _ (by omega)]; exact h9 i hi
  · rw [p5 _ _ (by omega)]; exact h10
  · rw [p5 _ _ (by omega)]; exact h11 i hi
def cI (μ : jm) (v : vst) (m : jm) : Prop := sc μ m ∧ CV m 1 v ∧ ∃ K M, CV m 12 (setKM v K M)
set_option maxHeartbeats 1000000 in
theorem c_cst {μ m : jm} {v : vst} {set a b : Nat} {q : Nat × Nat} (hw : WV v) (hI : cI μ v m) (hs : set < 2 ^ vn v) (ha : a < 7) (hb : b < 7) (hab : a ≠ b) (hq : cq q) : ∃ m', evj 56 27 [jR 1 50, jR 8 1, jR 8 12, jI (nI set), jI (nI q.1 - 1), jI (nI q.2 - 1), jI (nI a), jI (nI b), jU, jU] [] m = evj 56 27 [jR 1 50, jR 8 1, jR 8 12, jI (nI set), jI (nI (cst v set a b q).1 - 1), jI (nI (cst v set a b q).2 - 1), jI (nI a), jI (nI (b + 1)), jU, jU] [] m' ∧ cI μ v m' := by
  have w3 : vn v ≤ 7 := hw.2.2.1
  have h27 : 2 ^ vn v ≤ 2 ^ 7 := Nat.pow_le_pow_right (by omega) w3
  obtain ⟨i1, i2, K, M, i3⟩ := hI
  have hq2 := hq.2
  have nx1 : nI b + 1 = nI (b + 1) := nI_add b 1
  have hmem : ∀ x, x < 7 → (mem (nI x) (nI set) v ↔ set.testBit x = true) := fun x hx => by
    unfold mem
    rw [un_nI (by omega), un_nI (by omega)]
    refine ⟨fun z => z.2.2, fun z => ⟨hs, ?_, z⟩⟩
    exact Nat.lt_of_not_le (fun hle => by rw [tb_hi hs hle] at z; exact absurd z (by decide))
  have no : ¬ (set.testBit a = true ∧ set.testBit b = true ∧ ¬ vM v a = b + 1) → ∃ m', evj 56 27 [jR 1 50, jR 8 1, jR 8 12, jI (nI set), jI (nI q.1 - 1), jI (nI q.2 - 1), jI (nI a), jI (nI (b + 1)), jU, jU] [] m = evj 56 27 [jR 1 50, jR 8 1, jR 8 12, jI (nI set), jI (nI (cst v set a b q).1 - 1), jI (nI (cst v set a b q).2 - 1), jI (nI a), jI (nI (b + 1)), jU, jU] [] m' ∧ cI μ v m' := fun hn => by
    have e : cst v set a b q = q := if_neg hn
    rw [e]
    exact ⟨m, rfl, i1, i2, K, M, i3⟩
  rw [e_Choir_bestCouple_27, li7, bk_le (by omega) (by omega), jbr_n (by omega), c_mem _ _ hw i2, bI_some]
  by_cases h1 : mem (nI a) (nI set) v
  · rw [bf_n (decide_eq_true h1), c_mem _ _ hw i2, bI_some]
    by_cases h2 : mem (nI b) (nI set) v
    · have ta := (hmem a ha).mp h1
      have tb := (hmem b hb).mp h2
      have hab2 : a < vn v ∧ b < vn v := by
        have x1 := h1.2.1
        have x2 := h2.2.1
        rw [un_nI (by omega)] at x1 x2
        exact ⟨x1, x2⟩
      have a4 := (hw.2.2.2.1 a hab2.1).2.2.2.1
      rw [bf_n (decide_eq_true h2), e_Choir_bestCouple_59, jbr_n (by decide), inB_nI ha (by omega), jgd_t, ixn (by omega), show gI m (1 + 6) a = nI (vM v a) - 1 from (i2.2.2.2.1 a hab2.1).2.2.2, bk_nm (by omega) (by omega), nx1]
      by_cases h3 : vM v a = b + 1
      · rw [jbr_n (fun z => z h3)]
        exact no (fun z => z.2.2 h3)
      · rw [jbr_p h3]
        obtain ⟨m1, c1, c2, c3⟩ := c_again hw i2 i3
        obtain ⟨m2, d1, d2, d3⟩ := c_wed hw c2 hab2.1 hab2.2 hab h3
        have hww := WV_wd hw hab2.1 hab2.2 hab
        obtain ⟨m3, f1, f2⟩ := c_sdb (k := 12) (by omega) hww d2 hs
        have hl := sdb_lt hww set
        have hpl := pop_le (sdb (wd v a b) set)
        have e : cst v set a b q = if pop (sdb (wd v a b) set) < q.2 then q else (10 * a + b + 1, pop (sdb (wd v a b) set) + 1) := if_pos ⟨ta, tb, h3⟩
        have fin : cI μ v m3 := ⟨sc_t i1 (sc_t (sc_ok c3) (sc_t (sc_ok d3) (sc_fI f2 (by omega) (by omega)))), CV_fI f2 (by omega) (CV_of (fun x y _ _ => ((d3 x y (by omega)).1.trans (c3 x y (by omega)).1)) i2), _, _, CV_fI f2 (by omega) d2⟩
        rw [c1, bV_some, d1, bV_some, f1, bI_some, c_bc (by omega), bI_some, bk_lm (by omega) (by omega), e]
        by_cases h4 : pop (sdb (wd v a b) set) < q.2
        · rw [jbr_p h4, if_pos h4]
          exact ⟨m3, rfl, fin⟩
        · rw [jbr_n h4, if_neg h4]
          refine ⟨m3, ?_, fin⟩
          show _ = evj _ _ [jR 1 50, jR 8 1, jR 8 12, jI (nI set), jI (nI (10 * a + b + 1) - 1), jI (nI (pop (sdb (wd v a b) set) + 1) - 1), jI (nI a), jI (nI (b + 1)), jU, jU] _ m3
          rw [nI_pred, nI_pred, li10, kI_mul, nI_add]
    · rw [bf_p (decide_eq_false h2), e_Choir_bestCouple_58, e_Choir_bestCouple_59, jbr_p rfl, nx1]
      exact no (fun z => h2 ((hmem b hb).mpr z.2.1))
  · rw [bf_p (decide_eq_false h1), e_Choir_bestCouple_58, e_Choir_bestCouple_59, jbr_p rfl, nx1]
    exact no (fun z => h1 ((hmem a ha).mpr z.1))
theorem c_cpl {μ : jm} {v : vst} {set : Nat} (hw : WV v) (hv : CV μ 1 v) (hs : set < 2 ^ vn v) : ∃ m, cj 56 [jR 1 50, jR 8 1, jR 8 12, jI (nI set)] μ = some (some (jI (nI (cot v set (vn v)).1 - 1)), m) ∧ sc μ m := by
  have w3 : vn v ≤ 7 := hw.2.2.1
  obtain ⟨m0, c1, c2, c3⟩ := c_cpA (k1 := 12) (k2 := 1) (by omega) hw hv
  rw [e_Choir_bestCouple, c1, bV_some]
  obtain ⟨⟨q, m⟩, e1, e2, e3⟩ := lp_r (W := fun i (t : (Nat × Nat) × jm) => evj 56 14 [jR 1 50, jR 8 1, jR 8 12, jI (nI set), jI (nI t.1.1 - 1), jI (nI t.1.2 - 1), jI (nI i), jU, jU, jU] [] t.2) (n := 7) (fun i t => t.1 = cot v set i ∧ cI μ v t.2) (fun a t ha hI => by
    obtain ⟨q, m⟩ := t
    obtain ⟨hq, hI⟩ := hI
    have hq : q = cot v set a := hq
    have hI : cI μ v m := hI
    show ∃ a', evj _ _ [jR 1 50, jR 8 1, jR 8 12, jI (nI set), jI (nI q.1 - 1), jI (nI q.2 - 1), jI (nI a), jU, jU, jU] _ m = evj _ _ _ _ _ ∧ _
    have hcq : cq q := by rw [hq]; exact cq_cot (by omega) w3
    rw [e_Choir_bestCouple_14, li7, bk_le (by omega) (by omega), jbr_n (by omega), show nI a + (1 : Int32) = nI (a + 1) from nI_add a 1]
    obtain ⟨⟨q2, m2⟩, g1, g2, g3⟩ := lp_r (W := fun d (t : (Nat × Nat) × jm) => evj 56 27 [jR 1 50, jR 8 1, jR 8 12, jI (nI set), jI (nI t.1.1 - 1), jI (nI t.1.2 - 1), jI (nI a), jI (nI (a + 1 + d)), jU, jU] [] t.2) (n := 6 - a) (fun d t => t.1 = cin v set a d q ∧ cI μ v t.2) (fun d t hd hI => by
      obtain ⟨q3, m⟩ := t
      obtain ⟨hq3, hI⟩ := hI
      have hq3 : q3 = cin v set a d q := hq3
      have hI : cI μ v m := hI
      have hcq3 : cq q3 := by rw [hq3]; exact cq_cin (by omega) hcq
      obtain ⟨m', x1, x2⟩ := c_cst (a := a) (b := a + 1 + d) hw hI hs ha (by omega) (by omega) hcq3
      exact ⟨(cst v set a (a + 1 + d) q3, m'), x1, by show cst _ _ _ _ _ = _; rw [cin_s, hq3], x2⟩) (6 - a) 0 (q, m) (by omega) ⟨rfl, hI⟩
    have g2 : q2 = cin v set a (6 - a) q := g2
    refine ⟨(q2, m2), Eq.trans g1 ?_, ?_, g3⟩
    · show evj _ _ [jR 1 50, jR 8 1, jR 8 12, jI (nI set), jI (nI q2.1 - 1), jI (nI q2.2 - 1), jI (nI a), jI (nI (a + 1 + (6 - a))), jU, jU] _ m2 = _
      rw [e_Choir_bestCouple_27, li7, jbr_p (by rw [kI_le (by omega) (by omega)]; omega), show nI a + 1 = nI (a + 1) from nI_add a 1]
    · show q2 = _
      rw [g2, cin_x v hs w3 (by omega), cot_s, hq]) 7 0 ((0, 0), m0) (by omega) ⟨rfl, sc_ok c3, CV_of (fun a b _ _ => (c3 a b (by omega)).1) hv, _, _, c2⟩
  have e2 : q = cot v set 7 := e2
  refine ⟨m, Eq.trans e1 ?_, e3.1⟩
  show evj _ _ [jR 1 50, jR 8 1, jR 8 12, jI (nI set), jI (nI q.1 - 1), jI (nI q.2 - 1), jI (nI 7), jU, jU, jU] _ m = _
  rw [e_Choir_bestCouple_14, jbr_p (by decide), e2, cot_x v w3]
theorem fre_c {F G : Nat → Nat} {b p : Nat} (hb : F b = G b) (hp : F p = G p) : fre F b p = fre G b p := by
  unfold fre
  rw [hb]
  split
  · exact hp
  · by_cases e4 : p = G b - 1
    · rw [e4, vup_e, vup_e]
    · rw [vup_n _ _ e4, vup_n _ _ e4, hp]
def smr (μ m : jm) : Prop := ∀ a b, ¬ (a = 65 ∧ 420 ≤ b) → ¬ (a = 71) → m.1 a b = μ.1 a b ∧ m.2 a b = μ.2 a b
theorem smr_t {a b c : jm} (h : smr a b) (h2 : smr b c) : smr a c := fun x y h3 h4 => ⟨(h2 x y h3 h4).1.trans (h x y h3 h4).1, (h2 x y h3 h4).2.trans (h x y h3 h4).2⟩
theorem MV_smr {μ m : jm} {v : vst} (hw : WV v) (h : smr μ m) (hv : MV μ 0 v) : MV m 0 v := MV_of (fun b _ hb => (h 65 b (by omega) (by omega)).1) hw hv
set_option maxHeartbeats 1000000 in
theorem m_cst {μ m : jm} {v : vst} {set a b : Nat} {q : Nat × Nat} (hw : WV v) (hv : MV m 0 v) (hI : smr μ m) (hs : set < 2 ^ vn v) (ha : a < vn v) (hb : b < vn v) (hab : a ≠ b) (hq : cq q) : ∃ m', evj 207 40 [jR 10 64, jI (nI set), jI (nI q.1 - 1), jI (nI q.2 - 1), jI (nI a), jI (nI b), jU] [] m = evj 207 40 [jR 10 64, jI (nI set), jI (nI (cst v set a b q).1 - 1), jI (nI (cst v set a b q).2 - 1), jI (nI a), jI (nI (b + 1)), jU] [] m' ∧ smr μ m' := by
  have w3 : vn v ≤ 7 := hw.2.2.1
  have h27 : 2 ^ vn v ≤ 2 ^ 7 := Nat.pow_le_pow_right (by omega) w3
  have hq2 := hq.2
  have nx1 : nI b + 1 = nI (b + 1) := nI_add b 1
  have no : ¬ (set.testBit a = true ∧ set.testBit b = true ∧ ¬ vM v a = b + 1) → ∃ m', evj 207 209 [jR 10 64, jI (nI set), jI (nI q.1 - 1), jI (nI q.2 - 1), jI (nI a), jI (nI b), jU] [] m = evj 207 40 [jR 10 64, jI (nI set), jI (nI (cst v set a b q).1 - 1), jI (nI (cst v set a b q).2 - 1), jI (nI a), jI (nI (b + 1)), jU] [] m' ∧ smr μ m' := fun hn => by
    have e : cst v set a b q = q := if_neg hn
    rw [e, e_M_couple_209, nx1]
    exact ⟨m, rfl, hI⟩
  rw [e_M_couple_40, show inB (72 : Int32) 560 = true from by decide, jgd_t, show ix (72 : Int32) = 72 from by decide, show gI m 65 72 = nI (vn v) from hv.2.2.1, bk_le (by omega) (by omega), jbr_n (by omega), m_has (by omega) (by omega), bI_some]
  cases ta : set.testBit a
  · rw [bf_p rfl]
    exact no (fun z => by rw [ta] at z; exact absurd z.1 (by decide))
  · rw [bf_n rfl, m_has (by omega) (by omega), bI_some]
    cases tb : set.testBit b
    · rw [bf_p rfl]
      exact no (fun z => by rw [tb] at z; exact absurd z.2.1 (by decide))
    · have a4 := (hw.2.2.2.1 a ha).2.2.2.1
      have b4 := (hw.2.2.2.1 b hb).2.2.2.1
      have hMa : gI m 65 (94 + a) = nI (vM v a) - 1 := by have := (hv.2.2.2.1 a ha).2.2.2; rwa [show 0 + 94 + a = 94 + a from by omega] at this
      rw [bf_n rfl, show (94 : Int32) + nI a = nI (94 + a) from nI_add 94 a, inB_nI (by omega) (by omega), jgd_t, ixn (by omega), hMa, bk_nm (by omega) (by omega)]
      by_cases h3 : vM v a = b + 1
      · rw [jbr_n (fun z => z h3)]
        exact no (fun z => z.2.2 h3)
      · rw [jbr_p h3]
        obtain ⟨m1, c1, c2, c3⟩ := m_cp (r1 := 0) (r2 := 420) (by omega) (by omega) (by omega) m
        have v1 : MV m1 420 (setKM v (vK v) (vM v)) := MV_cp hw c2 hv
        obtain ⟨m2, d1, d2, d3⟩ := m_div (r := 420) (by omega) (WB_of hw) ha a4 v1
        have hb2 : dvo (vM v) a b ≤ vn v := by rw [dvo_p _ (by omega), fre_p hw ha hb]; split <;> omega
        obtain ⟨m3, f1, f2, f3⟩ := m_div (r := 420) (by omega) (WB_of hw) hb hb2 d2
        have hwb : WB v := WB_of hw
        have x1 := MV_setK (r := 420) a 2 (show WB (setKM v (vK v) (dvo (dvo (vM v) a) b)) from hwb) ha f2
        have x2 := MV_setK (r := 420) b 2 (show WB (setK (setKM v (vK v) (dvo (dvo (vM v) a) b)) a 2) from hwb) hb x1
        have x3 := MV_setM (r := 420) a (b + 1) (show WB (setK (setK (setKM v (vK v) (dvo (dvo (vM v) a) b)) a 2) b 2) from hwb) ha (nI_pred b).symm x2
        have x4 := MV_setM (r := 420) b (a + 1) (show WB (setM (setK (setK (setKM v (vK v) (dvo (dvo (vM v) a) b)) a 2) b 2) a (b + 1)) from hwb) hb (nI_pred a).symm x3
        have x5 : MV _ 420 (wd v a b) := MV_pt (v := v) (K := vup (vup (vK v) a 2) b 2) (M := vup (vup (dvo (dvo (vM v) a) b) a (b + 1)) b (a + 1)) (K' := wK v a b) (M' := wM v a b) (fun p hp => ⟨by
          unfold wK
          by_cases e2 : p = b
          · rw [e2, vup_e, if_pos (Or.inr rfl)]
          · rw [vup_n _ _ e2]
            by_cases e1 : p = a
            · rw [e1, vup_e, if_pos (Or.inl rfl)]
            · rw [vup_n _ _ e1, if_neg (by omega)], by
          unfold wM
          by_cases e2 : p = b
          · rw [e2, vup_e, if_neg (by omega), if_pos rfl]
          · rw [vup_n _ _ e2]
            by_cases e1 : p = a
            · rw [e1, vup_e, if_pos rfl]
            · rw [vup_n _ _ e1, if_neg e1, if_neg e2, dvo_p _ e2, ← fre_2 hw ha hb hp h3]
              exact fre_c (dvo_p _ (by omega)) (dvo_p _ e1)⟩) x4
        have hww := WV_wd hw ha hb hab
        obtain ⟨m4, g1, g2⟩ := m_sdb (r := 420) (by omega) hww x5 hs
        have hl := sdb_lt hww set
        have hpl := pop_le (sdb (wd v a b) set)
        have e : cst v set a b q = if pop (sdb (wd v a b) set) < q.2 then q else (10 * a + b + 1, pop (sdb (wd v a b) set) + 1) := if_pos ⟨ta, tb, h3⟩
        have ok : ∀ {x y : jm}, okM 420 x y → smr x y := fun h a b h1 h2 => h a b (by omega)
        have fin : smr μ m4 := smr_t hI (smr_t (ok c3) (smr_t (ok d3) (smr_t (ok f3) (smr_t (ok (okM_t (okM_t (okM_t (okM_sI 420 m3 (by omega) (by omega)) (okM_sI 420 _ (by omega) (by omega))) (okM_sI 420 _ (by omega) (by omega))) (okM_sI 420 _ (by omega) (by omega)))) (fun a b h1 h2 => g2 a b (by omega))))))
        have c1 : cj 168 [jR 10 64, jI (0 : Int32), jI (420 : Int32)] m = some (none, m1) := c1
        have d1 : cj 208 [jR 10 64, jI (420 : Int32), jI (nI a)] m1 = some (none, m2) := d1
        have f1 : cj 208 [jR 10 64, jI (420 : Int32), jI (nI b)] m2 = some (none, m3) := f1
        rw [c1, bV_some, d1, bV_some, f1, bV_some, show (493 : Int32) = nI 493 from rfl, show (514 : Int32) = nI 514 from rfl, nI_add, nI_add, nI_add, nI_add, inB_nI (by omega) (by omega), jgd_t, inB_nI (by omega) (by omega), jgd_t, inB_nI (by omega) (by omega), jgd_t, inB_nI (by omega) (by omega), jgd_t, ixn (by omega), ixn (by omega), ixn (by omega), ixn (by omega), li420, li2]
        rw [show 420 + 73 = 493 from rfl, show 420 + 94 = 514 from rfl] at g1
        rw [g1, bI_some, m_ones (by omega), bI_some, bk_lm (by omega) (by omega), e]
        by_cases h4 : pop (sdb (wd v a b) set) < q.2
        · rw [jbr_p h4, if_pos h4, e_M_couple_195, bk_lm (by omega) (by omega), jbr_p h4, e_M_couple_209, nx1]
          exact ⟨m4, rfl, fin⟩
        · rw [jbr_n h4, if_neg h4, e_M_couple_195, bk_lm (by omega) (by omega), jbr_n h4, e_M_couple_209, nx1]
          refine ⟨m4, ?_, fin⟩
          show _ = evj _ _ [jR 10 64, jI (nI set), jI (nI (10 * a + b + 1) - 1), jI (nI (pop (sdb (wd v a b) set) + 1) - 1), jI (nI a), jI (nI (b + 1)), jU] _ m4
          rw [nI_pred, nI_pred, li10, kI_mul, nI_add]
def fCo (x : Int32) (v : vst) : Int32 := if un x < 2 ^ vn v then nI (cot v (un x) (vn v)).1 - 1 else -2
theorem op_couple (x : Int32) : opI 128 207 [jI x] Rel := by
  refine opI_of (fun S => fCo x (sv S)) (fun S => tel S (fCo x (sv S))) (fun S h => WS_tel h _) ?_ ?_
  · intro μ S hW hC
    have w3 : vn (sv S) ≤ 7 := hW.1.2.2.1
    have h27 : 2 ^ vn (sv S) ≤ 2 ^ 7 := Nat.pow_le_pow_right (by omega) w3
    rw [e_N_couple, c_isSet 1 x μ w3 hC.1.2.2.1, bI_some]
    by_cases h1 : un x < 2 ^ vn (sv S)
    · have fe : fCo x (sv S) = _ := if_pos h1
      rw [fe, bt_p (decide_eq_true h1)]
      obtain ⟨set, hs, rfl⟩ := un_x h1 (by omega)
      obtain ⟨m, e1, e2⟩ := c_cpl hW.1 hC.1 hs
      have hq := (cq_cot (v := sv S) (set := set) w3 w3).1
      rw [e1, bI_some, un_nI (by omega), tel_p S (by omega)]
      exact ⟨_, rfl, CS_sc e2 hC, oc_sc e2⟩
    · have fe : fCo x (sv S) = _ := if_neg h1
      rw [fe, bt_n (decide_eq_false h1)]
      exact c_tel _ hC
  · intro μ S hW hM
    have hw := hW.1
    have hv := hM.1
    have w3 : vn (sv S) ≤ 7 := hW.1.2.2.1
    have h27 : 2 ^ vn (sv S) ≤ 2 ^ 7 := Nat.pow_le_pow_right (by omega) w3
    rw [e_M_couple, m_isSet x μ w3 hM.1.2.2.1, bI_some]
    by_cases h1 : un x < 2 ^ vn (sv S)
    · have fe : fCo x (sv S) = _ := if_pos h1
      rw [fe, bt_p (decide_eq_true h1)]
      obtain ⟨set, hs, rfl⟩ := un_x h1 (by omega)
      have hq := (cq_cot (v := sv S) (set := set) w3 w3).1
      rw [un_nI (by omega), tel_p S (by omega)]
      obtain ⟨⟨q, m⟩, e1, e2, e3⟩ := lp_r (W := fun i (t : (Nat × Nat) × jm) => evj 207 22 [jR 10 64, jI (nI set), jI (nI t.1.1 - 1), jI (nI t.1.2 - 1), jI (nI i), jU, jU] [] t.2) (n := vn (sv S)) (fun i t => t.1 = cot (sv S) set i ∧ smr μ t.2) (fun a t ha hI => by
        obtain ⟨q, m⟩ := t
        obtain ⟨hq, hI⟩ := hI
        have hq : q = cot (sv S) set a := hq
        have hI : smr μ m := hI
        show ∃ a', evj _ _ [jR 10 64, jI (nI set), jI (nI q.1 - 1), jI (nI q.2 - 1), jI (nI a), jU, jU] _ m = evj _ _ _ _ _ ∧ _
        have hcq : cq q := by rw [hq]; exact cq_cot (by omega) w3
        have hv1 := MV_smr hw hI hv
        rw [e_M_couple_22, show inB (72 : Int32) 560 = true from by decide, jgd_t, show ix (72 : Int32) = 72 from by decide, show gI m 65 72 = nI (vn (sv S)) from hv1.2.2.1, bk_le (by omega) (by omega), jbr_n (by omega), show nI a + (1 : Int32) = nI (a + 1) from nI_add a 1]
        obtain ⟨⟨q2, m2⟩, g1, g2, g3⟩ := lp_r (W := fun d (t : (Nat × Nat) × jm) => evj 207 40 [jR 10 64, jI (nI set), jI (nI t.1.1 - 1), jI (nI t.1.2 - 1), jI (nI a), jI (nI (a + 1 + d)), jU] [] t.2) (n := vn (sv S) - (a + 1)) (fun d t => t.1 = cin (sv S) set a d q ∧ smr μ t.2) (fun d t hd hI => by
          obtain ⟨q3, m⟩ := t
          obtain ⟨hq3, hI⟩ := hI
          have hq3 : q3 = cin (sv S) set a d q := hq3
          have hI : smr μ m := hI
          have hcq3 : cq q3 := by rw [hq3]; exact cq_cin (by omega) hcq
          obtain ⟨m', x1, x2⟩ := m_cst (a := a) (b := a + 1 + d) hw (MV_smr hw hI hv) hI hs ha (by omega) (by omega) hcq3
          exact ⟨(cst (sv S) set a (a + 1 + d) q3, m'), x1, by show cst _ _ _ _ _ = _; rw [cin_s, hq3], x2⟩) (vn (sv S) - (a + 1)) 0 (q, m) (by omega) ⟨rfl, hI⟩
        have g2 : q2 = cin (sv S) set a (vn (sv S) - (a + 1)) q := g2
        have g3 : smr μ m2 := g3
        have hv2 := MV_smr hw g3 hv
        refine ⟨(q2, m2), Eq.trans g1 ?_, ?_, g3⟩
        · show evj _ _ [jR 10 64, jI (nI set), jI (nI q2.1 - 1), jI (nI q2.2 - 1), jI (nI a), jI (nI (a + 1 + (vn (sv S) - (a + 1)))), jU] _ m2 = _
          rw [e_M_couple_40, show inB (72 : Int32) 560 = true from by decide, jgd_t, show ix (72 : Int32) = 72 from by decide, show gI m2 65 72 = nI (vn (sv S)) from hv2.2.2.1, jbr_p (by rw [kI_le (by omega) (by omega)]; omega), show nI a + 1 = nI (a + 1) from nI_add a 1]
        · show q2 = _
          rw [g2, cot_s, hq]) (vn (sv S)) 0 ((0, 0), μ) (by omega) ⟨rfl, fun a b _ _ => ⟨rfl, rfl⟩⟩
      have e2 : q = cot (sv S) set (vn (sv S)) := e2
      have e3 : smr μ m := e3
      have hv2 := MV_smr hw e3 hv
      refine ⟨m, Eq.trans e1 ?_, ?_, fun a b ha => e3 a b (by omega) (by omega)⟩
      · show evj _ _ [jR 10 64, jI (nI set), jI (nI q.1 - 1), jI (nI q.2 - 1), jI (nI (vn (sv S))), jU, jU] _ m = _
        rw [e_M_couple_22, show inB (72 : Int32) 560 = true from by decide, jgd_t, show ix (72 : Int32) = 72 from by decide, show gI m 65 72 = nI (vn (sv S)) from hv2.2.2.1, jbr_p (by rw [kI_le (by omega) (by omega)]; omega), e2]
      · have e : setV S (sv S) = S := rfl
        rw [← e]
        exact MS_setV hW hM hv2 (fun a b h _ => e3 a b (by omega) (by omega))
    · have fe : fCo x (sv S) = _ := if_neg h1
      rw [fe, bt_n (decide_eq_false h1)]
      exact m_tel _ hW hM
