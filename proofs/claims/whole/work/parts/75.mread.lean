/-! read: the reference's tokens -/
def TM (m : jm) (T : Nat → Nat) (l : Nat) : Prop := l ≤ 200 ∧ gI m 64 3 = nI l ∧ ∀ i, i < l → T i < 256 ∧ gI m 67 i = nI (T i)
def gT (m m' : jm) : Prop := ∀ a b, ¬ (a = 64 ∧ 10 ≤ b ∧ b ≤ 11) → m'.1 a b = m.1 a b ∧ m'.2 a b = m.2 a b
theorem gT_r (m : jm) : gT m m := fun _ _ _ => ⟨rfl, rfl⟩
theorem gT_t {a b c : jm} (h : gT a b) (h2 : gT b c) : gT a c := fun x y hx => ⟨(h2 x y hx).1.trans (h x y hx).1, (h2 x y hx).2.trans (h x y hx).2⟩
theorem gT_s (m : jm) {i : Nat} {y : Int32} (h1 : 10 ≤ i) (h2 : i ≤ 11) : gT m (sI m 64 i y) := fun a b h => ⟨if_neg (by omega), rfl⟩
theorem TM_g {m m' : jm} {T : Nat → Nat} {l : Nat} (h : gT m m') (hx : TM m T l) : TM m' T l := ⟨hx.1, (h 64 3 (by omega)).1.trans hx.2.1, fun i hi => ⟨(hx.2.2 i hi).1, (h 67 i (by omega)).1.trans (hx.2.2 i hi).2⟩⟩
theorem m_end {m : jm} {T : Nat → Nat} {l p : Nat} (hx : TM m T l) (h1 : gI m 64 10 = nI p) (hp : p ≤ l) : ∃ m', cj 161 [jR 10 64] m = some (some (jI (nI (bN (decide (skp T l p = l))))), m') ∧ gI m' 64 10 = nI (skp T l p) ∧ gI m' 64 11 = gI m 64 11 ∧ gT m m' := by
  obtain ⟨s1, s2, s3, s4⟩ := skp_p (T := T) (l := l) (p := p) hp
  have hl := hx.1
  have start : cj 161 [jR 10 64] m = evj 161 0 [jR 10 64] [] m := (e_M_isEnd m).trans (e_M_isEnd_0 m).symm
  rw [start]
  obtain ⟨m1, a1, -, a2, a3, a4⟩ := lp_r (W := fun u (m' : jm) => evj 161 0 [jR 10 64] [] m') (n := skp T l p) (fun u m' => p ≤ u ∧ gI m' 64 10 = nI u ∧ gI m' 64 11 = gI m 64 11 ∧ gT m m') (fun u m' hu hI => by
    obtain ⟨hpu, i1, i2, i3⟩ := hI
    show ∃ a', evj _ _ _ _ _ = evj _ _ _ _ _ ∧ _
    have hx1 := TM_g i3 hx
    obtain ⟨y1, y2⟩ := hx1.2.2 u (by omega)
    have hb : T u = 32 := of_decide_eq_true (s4 u hpu hu)
    rw [e_M_isEnd_0, hx1.2.1, i1, bk_le (by omega) (by omega), jbr_n (by omega), inB_nI (by omega) (by omega), jgd_t, ixn (by omega), y2, hb, jbr_m (show nI 32 = 32 from rfl), li1, nI_add]
    exact ⟨_, rfl, by omega, by rw [gI_eq], by rw [gI_ne _ (by omega)]; exact i2, gT_t i3 (gT_s m' (by omega) (by omega))⟩) (skp T l p - p) p m (by omega) ⟨Nat.le_refl p, h1, rfl, gT_r m⟩
  have hx1 := TM_g a4 hx
  refine ⟨m1, Eq.trans a1 ?_, a2, a3, a4⟩
  show evj _ _ _ _ _ = _
  rw [e_M_isEnd_0, hx1.2.1, a2]
  by_cases hz : skp T l p = l
  · rw [jbr_p (by rw [kI_le (by omega) (by omega)]; omega), hz, jbr_m rfl, decide_eq_true rfl]
    rfl
  · obtain ⟨y1, y2⟩ := hx1.2.2 (skp T l p) (by omega)
    have hb : ¬ T (skp T l p) = 32 := of_decide_eq_false (s3 (by omega))
    rw [bk_le (by omega) (by omega), jbr_n (by omega), inB_nI (by omega) (by omega), jgd_t, ixn (by omega), y2, show (32 : Int32) = nI 32 from rfl, bk_ne (by omega) (by omega), jbr_p hb, bk_ne (by omega) (by omega), jbr_p hz, decide_eq_false hz]
    rfl
/-- a word's letters as a number -/
def lcd (T : Nat → Nat) (q n : Nat) : Nat := itr (fun k x => if k < 6 then 32 * x + (T (q + k) - 96) else x) n 0 0
theorem lcd_s (T : Nat → Nat) (q n : Nat) : lcd T q (n + 1) = if n < 6 then 32 * lcd T q n + (T (q + n) - 96) else lcd T q n := by
  show itr _ (n + 1) 0 _ = _
  rw [itr_s, Nat.zero_add]
  rfl
def wcd (x : Nat) : Nat := if x = 146930 then 0 else if x = 8554067 then 1 else if x = 15813 then 2 else if x = 13684915 then 3 else if x = 3423812 then 4 else if x = 20317291 then 5 else 6
theorem mtc_i (T : Nat → Nat) (q e k : Nat) : mtc T q e k = true ↔ e - q = jwl k ∧ ∀ i, i < jwl k → T (q + i) = jwn k i := by
  unfold mtc
  rw [Bool.and_eq_true, decide_eq_true_eq, List.all_eq_true]
  exact and_congr Iff.rfl ⟨fun h i hi => of_decide_eq_true (h i (List.mem_range.mpr hi)), fun h i hi => decide_eq_true (h i (List.mem_range.mp hi))⟩
theorem wno_u (T : Nat → Nat) (q e : Nat) : wno T q e 6 = if mtc T q e 5 = true then 5 else if mtc T q e 4 = true then 4 else if mtc T q e 3 = true then 3 else if mtc T q e 2 = true then 2 else if mtc T q e 1 = true then 1 else if mtc T q e 0 = true then 0 else 6 := by
  rw [wno_s, wno_s, wno_s, wno_s, wno_s, wno_s]
  rfl
theorem mtc_0 (T : Nat → Nat) (q e : Nat) : mtc T q e 0 = true ↔ e - q = 4 ∧ T (q + 0) = 100 ∧ T (q + 1) = 111 ∧ T (q + 2) = 111 ∧ T (q + 3) = 114 := (mtc_i T q e 0).trans ⟨fun h => ⟨h.1, h.2 0 (by decide), h.2 1 (by decide), h.2 2 (by decide), h.2 3 (by decide)⟩, fun h => ⟨h.1, fun i hi => match i, (show i < 4 from hi) with | 0, _ => h.2.1 | 1, _ => h.2.2.1 | 2, _ => h.2.2.2.1 | 3, _ => h.2.2.2.2⟩⟩
theorem mtc_1 (T : Nat → Nat) (q e : Nat) : mtc T q e 1 = true ↔ e - q = 5 ∧ T (q + 0) = 104 ∧ T (q + 1) = 101 ∧ T (q + 2) = 97 ∧ T (q + 3) = 114 ∧ T (q + 4) = 115 := (mtc_i T q e 1).trans ⟨fun h => ⟨h.1, h.2 0 (by decide), h.2 1 (by decide), h.2 2 (by decide), h.2 3 (by decide), h.2 4 (by decide)⟩, fun h => ⟨h.1, fun i hi => match i, (show i < 5 from hi) with | 0, _ => h.2.1 | 1, _ => h.2.2.1 | 2, _ => h.2.2.2.1 | 3, _ => h.2.2.2.2.1 | 4, _ => h.2.2.2.2.2⟩⟩
theorem mtc_2 (T : Nat → Nat) (q e : Nat) : mtc T q e 2 = true ↔ e - q = 3 ∧ T (q + 0) = 111 ∧ T (q + 1) = 110 ∧ T (q + 2) = 101 := (mtc_i T q e 2).trans ⟨fun h => ⟨h.1, h.2 0 (by decide), h.2 1 (by decide), h.2 2 (by decide)⟩, fun h => ⟨h.1, fun i hi => match i, (show i < 3 from hi) with | 0, _ => h.2.1 | 1, _ => h.2.2.1 | 2, _ => h.2.2.2⟩⟩
theorem mtc_3 (T : Nat → Nat) (q e : Nat) : mtc T q e 3 = true ↔ e - q = 5 ∧ T (q + 0) = 109 ∧ T (q + 1) = 97 ∧ T (q + 2) = 116 ∧ T (q + 3) = 101 ∧ T (q + 4) = 115 := (mtc_i T q e 3).trans ⟨fun h => ⟨h.1, h.2 0 (by decide), h.2 1 (by decide), h.2 2 (by decide), h.2 3 (by decide), h.2 4 (by decide)⟩, fun h => ⟨h.1, fun i hi => match i, (show i < 5 from hi) with | 0, _ => h.2.1 | 1, _ => h.2.2.1 | 2, _ => h.2.2.2.1 | 3, _ => h.2.2.2.2.1 | 4, _ => h.2.2.2.2.2⟩⟩
theorem mtc_4 (T : Nat → Nat) (q e : Nat) : mtc T q e 4 = true ↔ e - q = 5 ∧ T (q + 0) = 99 ∧ T (q + 1) = 104 ∧ T (q + 2) = 111 ∧ T (q + 3) = 114 ∧ T (q + 4) = 100 := (mtc_i T q e 4).trans ⟨fun h => ⟨h.1, h.2 0 (by decide), h.2 1 (by decide), h.2 2 (by decide), h.2 3 (by decide), h.2 4 (by decide)⟩, fun h => ⟨h.1, fun i hi => match i, (show i < 5 from hi) with | 0, _ => h.2.1 | 1, _ => h.2.2.1 | 2, _ => h.2.2.2.1 | 3, _ => h.2.2.2.2.1 | 4, _ => h.2.2.2.2.2⟩⟩
theorem mtc_5 (T : Nat → Nat) (q e : Nat) : mtc T q e 5 = true ↔ e - q = 5 ∧ T (q + 0) = 115 ∧ T (q + 1) = 108 ∧ T (q + 2) = 97 ∧ T (q + 3) = 99 ∧ T (q + 4) = 107 := (mtc_i T q e 5).trans ⟨fun h => ⟨h.1, h.2 0 (by decide), h.2 1 (by decide), h.2 2 (by decide), h.2 3 (by decide), h.2 4 (by decide)⟩, fun h => ⟨h.1, fun i hi => match i, (show i < 5 from hi) with | 0, _ => h.2.1 | 1, _ => h.2.2.1 | 2, _ => h.2.2.2.1 | 3, _ => h.2.2.2.2.1 | 4, _ => h.2.2.2.2.2⟩⟩
theorem lcd_0 (T : Nat → Nat) (q : Nat) : lcd T q 0 = 0 := rfl
theorem wcd_e {T : Nat → Nat} {q n : Nat} (hT : ∀ i, i < n → 97 ≤ T (q + i) ∧ T (q + i) ≤ 122) : wcd (lcd T q n) = wno T q (q + n) 6 := by
  have hsub : q + n - q = n := by omega
  have m0 := mtc_0 T q (q + n)
  have m1 := mtc_1 T q (q + n)
  have m2 := mtc_2 T q (q + n)
  have m3 := mtc_3 T q (q + n)
  have m4 := mtc_4 T q (q + n)
  have m5 := mtc_5 T q (q + n)
  rw [hsub] at m0 m1 m2 m3 m4 m5
  rw [wno_u]
  by_cases h6 : 6 ≤ n
  · have e : lcd T q n = lcd T q 6 := itr_x h6 0 (fun j b hj => if_neg (by omega))
    have t0 := hT 0 (by omega)
    have t1 := hT 1 (by omega)
    have t2 := hT 2 (by omega)
    have t3 := hT 3 (by omega)
    have t4 := hT 4 (by omega)
    have t5 := hT 5 (by omega)
    have e6 : lcd T q 6 = 32 * (32 * (32 * (32 * (32 * (32 * 0 + (T (q + 0) - 96)) + (T (q + 1) - 96)) + (T (q + 2) - 96)) + (T (q + 3) - 96)) + (T (q + 4) - 96)) + (T (q + 5) - 96) := by
      rw [lcd_s, lcd_s, lcd_s, lcd_s, lcd_s, lcd_s, lcd_0]
      rfl
    rw [if_neg (fun z => by have := (m5.mp z).1; omega), if_neg (fun z => by have := (m4.mp z).1; omega), if_neg (fun z => by have := (m3.mp z).1; omega), if_neg (fun z => by have := (m2.mp z).1; omega), if_neg (fun z => by have := (m1.mp z).1; omega), if_neg (fun z => by have := (m0.mp z).1; omega)]
    unfold wcd
    rw [e, e6, if_neg (by omega), if_neg (by omega), if_neg (by omega), if_neg (by omega), if_neg (by omega), if_neg (by omega)]
  · have no : ∀ x, n ≠ 3 → n ≠ 4 → n ≠ 5 → (x ≠ 146930 ∧ x ≠ 8554067 ∧ x ≠ 15813 ∧ x ≠ 13684915 ∧ x ≠ 3423812 ∧ x ≠ 20317291) → wcd x = (if mtc T q (q + n) 5 = true then 5 else if mtc T q (q + n) 4 = true then 4 else if mtc T q (q + n) 3 = true then 3 else if mtc T q (q + n) 2 = true then 2 else if mtc T q (q + n) 1 = true then 1 else if mtc T q (q + n) 0 = true then 0 else 6) := fun x h3 h4 h5 hx => by
      rw [if_neg (fun z => h5 (m5.mp z).1), if_neg (fun z => h5 (m4.mp z).1), if_neg (fun z => h5 (m3.mp z).1), if_neg (fun z => h3 (m2.mp z).1), if_neg (fun z => h5 (m1.mp z).1), if_neg (fun z => h4 (m0.mp z).1)]
      unfold wcd
      rw [if_neg hx.1, if_neg hx.2.1, if_neg hx.2.2.1, if_neg hx.2.2.2.1, if_neg hx.2.2.2.2.1, if_neg hx.2.2.2.2.2]
    match n, h6 with
    | 0, _ => exact no _ (by omega) (by omega) (by omega) (by rw [lcd_0]; omega)
    | 1, _ =>
      have t0 := hT 0 (by omega)
      have e : lcd T q 1 = 32 * 0 + (T (q + 0) - 96) := by rw [lcd_s, lcd_0]; rfl
      exact no _ (by omega) (by omega) (by omega) (by rw [e]; omega)
    | 2, _ =>
      have t0 := hT 0 (by omega)
      have t1 := hT 1 (by omega)
      have e : lcd T q 2 = 32 * (32 * 0 + (T (q + 0) - 96)) + (T (q + 1) - 96) := by rw [lcd_s, lcd_s, lcd_0]; rfl
      exact no _ (by omega) (by omega) (by omega) (by rw [e]; omega)
    | 3, _ =>
      have t0 := hT 0 (by omega)
      have t1 := hT 1 (by omega)
      have t2 := hT 2 (by omega)
      have e : lcd T q 3 = 32 * (32 * (32 * 0 + (T (q + 0) - 96)) + (T (q + 1) - 96)) + (T (q + 2) - 96) := by rw [lcd_s, lcd_s, lcd_s, lcd_0]; rfl
      rw [if_neg (fun z => by have := (m5.mp z).1; omega), if_neg (fun z => by have := (m4.mp z).1; omega), if_neg (fun z => by have := (m3.mp z).1; omega)]
      unfold wcd
      rw [e, if_neg (by omega), if_neg (by omega)]
      by_cases hm : mtc T q (q + 3) 2 = true
      · obtain ⟨-, k1, k2, k3⟩ := m2.mp hm
        rw [if_pos hm, if_pos (by omega)]
      · rw [if_neg hm, if_neg (fun z => hm (m2.mpr ⟨rfl, by omega, by omega, by omega⟩)), if_neg (by omega), if_neg (by omega), if_neg (by omega), if_neg (fun z => by have := (m1.mp z).1; omega), if_neg (fun z => by have := (m0.mp z).1; omega)]
    | 4, _ =>
      have t0 := hT 0 (by omega)
      have t1 := hT 1 (by omega)
      have t2 := hT 2 (by omega)
      have t3 := hT 3 (by omega)
      have e : lcd T q 4 = 32 * (32 * (32 * (32 * 0 + (T (q + 0) - 96)) + (T (q + 1) - 96)) + (T (q + 2) - 96)) + (T (q + 3) - 96) := by rw [lcd_s, lcd_s, lcd_s, lcd_s, lcd_0]; rfl
      rw [if_neg (fun z => by have := (m5.mp z).1; omega), if_neg (fun z => by have := (m4.mp z).1; omega), if_neg (fun z => by have := (m3.mp z).1; omega), if_neg (fun z => by have := (m2.mp z).1; omega), if_neg (fun z => by have := (m1.mp z).1; omega)]
      unfold wcd
      rw [e]
      by_cases hm : mtc T q (q + 4) 0 = true
      · obtain ⟨-, k1, k2, k3, k4⟩ := m0.mp hm
        rw [if_pos hm, if_pos (by omega)]
      · rw [if_neg hm, if_neg (fun z => hm (m0.mpr ⟨rfl, by omega, by omega, by omega, by omega⟩)), if_neg (by omega), if_neg (by omega), if_neg (by omega), if_neg (by omega), if_neg (by omega)]
    | 5, _ =>
      have t0 := hT 0 (by omega)
      have t1 := hT 1 (by omega)
      have t2 := hT 2 (by omega)
      have t3 := hT 3 (by omega)
      have t4 := hT 4 (by omega)
      have e : lcd T q 5 = 32 * (32 * (32 * (32 * (32 * 0 + (T (q + 0) - 96)) + (T (q + 1) - 96)) + (T (q + 2) - 96)) + (T (q + 3) - 96)) + (T (q + 4) - 96) := by rw [lcd_s, lcd_s, lcd_s, lcd_s, lcd_s, lcd_0]; rfl
      have n2 : ¬ mtc T q (q + 5) 2 = true := fun z => by have := (m2.mp z).1; omega
      have n0 : ¬ mtc T q (q + 5) 0 = true := fun z => by have := (m0.mp z).1; omega
      unfold wcd
      rw [e, if_neg n2, if_neg n0, if_neg (by omega)]
      by_cases h5 : mtc T q (q + 5) 5 = true
      · obtain ⟨-, k1, k2, k3, k4, k5⟩ := m5.mp h5
        rw [if_pos h5, if_neg (by omega), if_neg (by omega), if_neg (by omega), if_neg (by omega), if_pos (by omega)]
      · rw [if_neg h5]
        by_cases h4 : mtc T q (q + 5) 4 = true
        · obtain ⟨-, k1, k2, k3, k4, k5⟩ := m4.mp h4
          rw [if_pos h4, if_neg (by omega), if_neg (by omega), if_neg (by omega), if_pos (by omega)]
        · rw [if_neg h4]
          by_cases h3 : mtc T q (q + 5) 3 = true
          · obtain ⟨-, k1, k2, k3, k4, k5⟩ := m3.mp h3
            rw [if_pos h3, if_neg (by omega), if_neg (by omega), if_pos (by omega)]
          · rw [if_neg h3]
            by_cases h1 : mtc T q (q + 5) 1 = true
            · obtain ⟨-, k1, k2, k3, k4, k5⟩ := m1.mp h1
              rw [if_pos h1, if_pos (by omega)]
            · rw [if_neg h1, if_neg (fun z => h1 (m1.mpr ⟨rfl, by omega, by omega, by omega, by omega, by omega⟩)), if_neg (by omega), if_neg (fun z => h3 (m3.mpr ⟨rfl, by omega, by omega, by omega, by omega, by omega⟩)), if_neg (fun z => h4 (m4.mpr ⟨rfl, by omega, by omega, by omega, by omega, by omega⟩)), if_neg (fun z => h5 (m5.mpr ⟨rfl, by omega, by omega, by omega, by omega, by omega⟩))]
    | n + 6, h => exact absurd (Nat.le_add_left 6 n) h
theorem lgE {a b : Nat} (ha : a < 9223372036854775808) (hb : b < 9223372036854775808) {x y : Option jr} : jbr (decide (¬ lg_cmp (lN a) (lN b) = 0)) x y = jbr (decide (¬ a = b)) x y := by
  by_cases h : a = b
  · subst h
    rw [jbr_m rfl, jbr_m (lg_self _)]
  · rw [jbr_q h, jbr_q (fun z => ?_)]
    have i1 : (lN a).toInt = (a : Int) := pk_lT ha
    have i2 : (lN b).toInt = (b : Int) := pk_lT hb
    by_cases hl : a < b
    · have := (lg_lt0 (lN a) (lN b)).mpr (by omega)
      rw [z] at this
      exact absurd this (by decide)
    · have := (lg_gt0 (lN a) (lN b)).mpr (by omega)
      rw [z] at this
      exact absurd this (by decide)
theorem m_wcd {x : Nat} (hx : x < 9223372036854775808) (μ : jm) : cj 164 [jL (lN x)] μ = some (some (jI (if wcd x < 6 then nI (wcd x) else -1)), μ) := by
  rw [e_M_wordOf, show (146930 : Int64) = lN 146930 from rfl, show (8554067 : Int64) = lN 8554067 from rfl, show (15813 : Int64) = lN 15813 from rfl, show (13684915 : Int64) = lN 13684915 from rfl, show (3423812 : Int64) = lN 3423812 from rfl, show (20317291 : Int64) = lN 20317291 from rfl, lgE hx (by omega), lgE hx (by omega), lgE hx (by omega), lgE hx (by omega), lgE hx (by omega), lgE hx (by omega), e_M_wordOf_73, e_M_wordOf_73, e_M_wordOf_73, e_M_wordOf_73, e_M_wordOf_73, e_M_wordOf_73, e_M_wordOf_73]
  unfold wcd
  by_cases h0 : x = 146930
  · rw [jbr_m h0, if_pos h0]; rfl
  · rw [jbr_q h0, if_neg h0]
    by_cases h1 : x = 8554067
    · rw [jbr_m h1, if_pos h1]; rfl
    · rw [jbr_q h1, if_neg h1]
      by_cases h2 : x = 15813
      · rw [jbr_m h2, if_pos h2]; rfl
      · rw [jbr_q h2, if_neg h2]
        by_cases h3 : x = 13684915
        · rw [jbr_m h3, if_pos h3]; rfl
        · rw [jbr_q h3, if_neg h3]
          by_cases h4 : x = 3423812
          · rw [jbr_m h4, if_pos h4]; rfl
          · rw [jbr_q h4, if_neg h4]
            by_cases h5 : x = 20317291
            · rw [jbr_m h5, if_pos h5]; rfl
            · rw [jbr_q h5, if_neg h5]; rfl
