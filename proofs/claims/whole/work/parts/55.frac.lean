/-! the fraction; swing -/
theorem lg_nz {b : Nat} (hb : b < 9223372036854775808) (h : ¬ b = 0) : ¬ lg_cmp (lN b) (0 : Int64) = 0 := fun z => by
  have hi : (lN b).toInt = (b : Int) := pk_lT hb
  have h1 := (lg_gt0 (lN b) 0).mpr (by rw [hi]; show (0 : Int) < _; omega)
  rw [z] at h1
  exact absurd h1 (by decide)
theorem lg_z0 : lg_cmp (lN 0) (0 : Int64) = 0 := lg_self _
theorem lgz {b : Nat} (hb : b < 9223372036854775808) {x y : Option jr} : jbr (decide (lg_cmp (lN b) (0 : Int64) = 0)) x y = jbr (decide (b = 0)) x y := by
  by_cases h : b = 0
  · subst h
    rw [jbr_p rfl, jbr_p lg_z0]
  · rw [jbr_n h, jbr_n (lg_nz hb h)]
theorem lgn {b : Nat} (hb : b < 9223372036854775808) {x y : Option jr} : jbr (decide (¬ lg_cmp (lN b) (0 : Int64) = 0)) x y = jbr (decide (¬ b = 0)) x y := by
  by_cases h : b = 0
  · subst h
    rw [jbr_m rfl, jbr_m lg_z0]
  · rw [jbr_q h, jbr_q (lg_nz hb h)]
theorem lgp {b : Nat} (hb : b < 9223372036854775808) {x y : Option jr} : jbr (decide (0 < lg_cmp (lN b) (0 : Int64))) x y = jbr (decide (0 < b)) x y := by
  have hi : (lN b).toInt = (b : Int) := pk_lT hb
  congr 1
  refine decide_eq_decide.mpr ((lg_gt0 (lN b) 0).trans ?_)
  rw [hi]
  show (0 : Int) < _ ↔ _
  omega
theorem lgl {b : Nat} (hb : b < 9223372036854775808) (h0 : 0 < b) {x y : Option jr} : jbr (decide (lg_cmp (lN b) (0 : Int64) ≤ 0)) x y = y := by
  have hi : (lN b).toInt = (b : Int) := pk_lT hb
  refine jbr_n (fun z => ?_)
  have h1 := (lg_gt0 (lN b) 0).mpr (by rw [hi]; show (0 : Int) < _; omega)
  exact absurd z (Int32.not_le.mpr h1)
theorem jgl {b : Nat} (hb : b < 9223372036854775808) (h0 : 0 < b) {x : Option jr} : jgd (decide (¬ lN b = 0)) x = x := by
  have hh : ¬ lN b = 0 := fun z => by
    have : lN b = lN 0 := z
    have := (pk_lEQ hb (by omega)).mp this
    omega
  rw [decide_eq_true hh]
  rfl
theorem mod_h {b r : Nat} (h0 : 0 < r) (h : r < b) : 2 * (b % r) < b := by
  have h1 := Nat.div_add_mod b r
  have h2 := Nat.mod_lt b h0
  have h3 : 1 ≤ b / r := (Nat.le_div_iff_mul_le h0).mpr (by omega)
  have h4 : r * 1 ≤ r * (b / r) := Nat.mul_le_mul_left r h3
  omega
theorem c_gcd (μ : jm) : ∀ (n a b i : Nat), a < 9223372036854775808 → b < 9223372036854775808 → b < 2 ^ n → i + 2 * n < 1000 → evj 45 9 [jU, jU, jU, jU, jL (lN a), jU, jL (lN b), jU, jI (nI i), jU, jU] [] μ = some (some (jL (lN (Nat.gcd b a))), μ)
  | 0, a, b, i, ha, hb, h, hi => by
    have e : b = 0 := by rw [Nat.pow_zero] at h; omega
    subst e
    rw [e_Fraction_commonDivisor_9, li1000, bk_le (by omega) (by omega), jbr_n (by omega), lgz hb, jbr_p rfl, Nat.gcd_zero_left]
  | n + 1, a, b, i, ha, hb, h, hi => by
    rw [e_Fraction_commonDivisor_9, li1000, bk_le (by omega) (by omega), jbr_n (by omega), lgz hb]
    by_cases e : b = 0
    · subst e
      rw [jbr_p rfl, Nat.gcd_zero_left]
    · have h0 : 0 < b := by omega
      have hm := Nat.mod_lt a h0
      rw [jbr_n e, jgl hb h0, pk_lRem ha h0 hb, li1, nI_add, e_Fraction_commonDivisor_9, li1000, bk_le (by omega) (by omega), jbr_n (by omega), lgz (by omega), Nat.gcd_rec b a]
      by_cases e2 : a % b = 0
      · rw [e2, jbr_p rfl, Nat.gcd_zero_left]
      · have h02 : 0 < a % b := by omega
        have hm2 := mod_h h02 hm
        rw [Nat.pow_succ] at h
        rw [jbr_n e2, jgl (by omega) h02, pk_lRem hb h02 (by omega), li1, nI_add, c_gcd μ n (a % b) (b % (a % b)) (i + 1 + 1) (by omega) (by omega) (by omega) (by omega), ← Nat.gcd_rec]
def gq (a b : Nat) : Int64 := lN (a / Nat.gcd b a)
def gp (a b : Nat) : Int64 := lN (b / Nat.gcd b a)
theorem c_become {a b : Nat} (ha : a < 9223372036854775808) (hb : b < 9223372036854775808) (h0 : 0 < b) (μ : jm) : cj 44 [jR 4 49, jL (lN a), jL (lN b)] μ = some (none, sL (sL μ 49 0 (gq a b)) 49 1 (gp a b)) := by
  have hg : 0 < Nat.gcd b a := Nat.gcd_pos_of_pos_left a h0
  have hl : Nat.gcd b a ≤ b := Nat.gcd_le_left a h0
  rw [e_Fraction_become, e_Fraction_commonDivisor, li0, c_gcd μ 63 a b 0 ha hb (by omega) (by omega), bL_some, ← li0, lgl (by omega) hg, jgl (by omega) hg, jgl (by omega) hg, pk_lDiv ha hg (by omega), pk_lDiv hb hg (by omega)]
  rfl
theorem m_share {x y : Nat} (hx : x < 9223372036854775808) (hy : y < 9223372036854775808) (μ : jm) : ∀ (n a b : Nat), b < n → a < 9223372036854775808 → b < 9223372036854775808 → 0 < Nat.gcd b a → Nat.gcd b a < 9223372036854775808 → evj 202 6 [jR 10 64, jL (lN x), jU, jL (lN y), jU, jL (lN a), jU, jL (lN b), jU, jU, jU] [] μ = some (some (jI 1), sL (sL μ 64 4 (lN (x / Nat.gcd b a))) 64 5 (lN (y / Nat.gcd b a)))
  | 0, a, b, h, ha, hb, hg, hl => absurd h (Nat.not_lt_zero b)
  | n + 1, a, b, h, ha, hb, hg, hl => by
    rw [e_M_share_6, lgz hb]
    by_cases e : b = 0
    · subst e
      rw [Nat.gcd_zero_left] at hg hl ⊢
      rw [jbr_p rfl, jgl hl hg, jgl hl hg, pk_lDiv hx hg hl, pk_lDiv hy hg hl]
    · have h0 : 0 < b := by omega
      have hm := Nat.mod_lt a h0
      rw [Nat.gcd_rec b a] at hg hl ⊢
      rw [jbr_n e, jgl hb h0, pk_lRem ha h0 hb]
      exact m_share hx hy μ n b (a % b) (by omega) hb (by omega) hg hl
theorem m_shar {a b : Nat} (ha : a < 9223372036854775808) (hb : b < 9223372036854775808) (h0 : 0 < b) (μ : jm) : cj 202 [jR 10 64, jL (lN a), jL (lN b)] μ = some (some (jI 1), sL (sL μ 64 4 (gq a b)) 64 5 (gp a b)) := by
  have hg : 0 < Nat.gcd b a := Nat.gcd_pos_of_pos_left a h0
  have hl : Nat.gcd b a ≤ b := Nat.gcd_le_left a h0
  rw [e_M_share, m_share ha hb μ (b + 1) a b (by omega) ha hb hg (by omega)]
  rfl
def setF (S : sst) (x y : Int64) : sst := (sv S, s0 S, s1 S, sk S, stl S, sT S, x, y, sr S)
theorem CS_setF {μ : jm} {S : sst} (x y : Int64) (hC : CS μ S) : CS (sL (sL μ 49 0 x) 49 1 y) (setF S x y) := by
  obtain ⟨h1, h2, h3, h4, h5, h6, h7, h8, h9, h10, h11⟩ := hC
  exact ⟨CV_of (fun a b _ _ => rfl) h1, CV_of (fun a b _ _ => rfl) h2, CV_of (fun a b _ _ => rfl) h3, h4, h5, h6, by rw [gL_sL, if_neg (by omega), gL_sL, if_pos ⟨rfl, rfl⟩]; rfl, by rw [gL_sL, if_pos ⟨rfl, rfl⟩]; rfl, h9, h10, h11⟩
theorem MS_setF {μ : jm} {S : sst} (x y : Int64) (hW : WS S) (hM : MS μ S) : MS (sL (sL μ 64 4 x) 64 5 y) (setF S x y) := by
  obtain ⟨h1, h2, h3, h4, h5, h6, h7, h8, h9, h10, h11, h12⟩ := hM
  exact ⟨MV_of (fun b _ _ => rfl) hW.1 h1, MV_of (fun b _ _ => rfl) hW.2.1 h2, MV_of (fun b _ _ => rfl) hW.2.2.1 h3, h4, h5, h6, h7, by rw [gL_sL, if_neg (by omega), gL_sL, if_pos ⟨rfl, rfl⟩]; rfl, by rw [gL_sL, if_pos ⟨rfl, rfl⟩]; rfl, h10, h11, h12⟩
/-- swing -/
theorem itr_cp (c : Nat → Bool) : ∀ n, itr (fun s k => if c s = true then k + 1 else k) n 0 0 = (List.range n).countP c
  | 0 => rfl
  | n + 1 => by
    rw [itr_s, itr_cp c n, Nat.zero_add, List.range_succ, List.countP_append, List.countP_singleton]
    cases c n
    · rw [if_neg (by decide), if_neg (by decide)]; rfl
    · rw [if_pos rfl, if_pos rfl]
def swc (v : vst) (m set p : Nat) (n : Nat) : Nat := itr (fun s k => if (decide (adn s (adn set (2 ^ p)) = 0) && (!say v s m && say v (s ||| 2 ^ p) m)) = true then k + 1 else k) n 0 0
def swm (v : vst) (m set p : Nat) (n : Nat) : Nat := itr (fun s k => if ((decide (adn s set = 0) && s.testBit p) && (say v s m && !say v (adn s (2 ^ p)) m)) = true then k + 1 else k) n 0 0
theorem swc_s (v : vst) (m set p n : Nat) : swc v m set p (n + 1) = if (decide (adn n (adn set (2 ^ p)) = 0) && (!say v n m && say v (n ||| 2 ^ p) m)) = true then swc v m set p n + 1 else swc v m set p n := by
  show itr _ (n + 1) 0 0 = _
  rw [itr_s, Nat.zero_add]
  rfl
theorem swm_s (v : vst) (m set p n : Nat) : swm v m set p (n + 1) = if ((decide (adn n set = 0) && n.testBit p) && (say v n m && !say v (adn n (2 ^ p)) m)) = true then swm v m set p n + 1 else swm v m set p n := by
  show itr _ (n + 1) 0 0 = _
  rw [itr_s, Nat.zero_add]
  rfl
theorem swm_le (v : vst) (m set p n : Nat) : swm v m set p n ≤ n := itr_I (n := n) (fun i b => b ≤ i) (fun i b _ h => by split <;> omega) (Nat.le_refl 0)
theorem swc_le (v : vst) (m set p n : Nat) : swc v m set p n ≤ n := itr_I (n := n) (fun i b => b ≤ i) (fun i b _ h => by split <;> omega) (Nat.le_refl 0)
theorem sw_d : ∀ set, set < 128 → ∀ p, p < 7 → (!set.testBit p || decide (((List.range (set + 1)).filter (fun s => decide (adn s set = 0) && s.testBit p)).map (fun s => adn s (2 ^ p)) = (List.range (adn set (2 ^ p) + 1)).filter (fun s => decide (adn s (adn set (2 ^ p)) = 0)))) = true := by decide +kernel
theorem adn_or {s p : Nat} (h : s.testBit p = true) : adn s (2 ^ p) ||| 2 ^ p = s := by
  apply Nat.eq_of_testBit_eq
  intro i
  rw [Nat.testBit_or, adn_tb, Nat.testBit_two_pow]
  by_cases e : p = i
  · subst e
    rw [decide_eq_true rfl, h]
    rfl
  · rw [decide_eq_false e, Bool.or_false, Bool.not_false, Bool.and_true]
theorem sw_e (v : vst) (m : Nat) {set p : Nat} (hs : set < 128) (hp : p < 7) (hb : set.testBit p = true) : swc v m set p (adn set (2 ^ p) + 1) = swm v m set p (set + 1) := by
  have h := sw_d set hs p hp
  rw [hb, Bool.not_true, Bool.false_or] at h
  have h := of_decide_eq_true h
  unfold swc swm
  rw [itr_cp, itr_cp]
  have e1 : ∀ (l : List Nat) (A B : Nat → Bool), l.countP (fun s => A s && B s) = (l.filter A).countP B := fun l A B => by
    rw [List.countP_filter]
    refine List.countP_congr (fun x _ => ?_)
    rw [Bool.and_comm]
  rw [e1 _ (fun s => decide (adn s (adn set (2 ^ p)) = 0)) (fun s => !say v s m && say v (s ||| 2 ^ p) m), e1 _ (fun s => decide (adn s set = 0) && s.testBit p) (fun s => say v s m && !say v (adn s (2 ^ p)) m), ← h, List.countP_map]
  refine List.countP_congr (fun x hx => ?_)
  have hx := (List.mem_filter.mp hx).2
  rw [Bool.and_eq_true] at hx
  show ((!say v (adn x (2 ^ p)) m && say v (adn x (2 ^ p) ||| 2 ^ p) m) = true) ↔ _
  rw [adn_or hx.2, Bool.and_comm]
theorem c_swc {k set p c : Nat} {μ : jm} {v : vst} (hk : k + 10 < 50) (hw : WV v) (hv : CV μ k v) (hs : set < 2 ^ vn v) (hp : p < vn v) (hc : c < vc v) : ∃ m, cj 55 [jR 1 50, jR 8 k, jI (nI set), jI (nI p), jI (nI c)] μ = some (some (jI (nI (swc v (vC v c) set p (adn set (2 ^ p) + 1)))), m) ∧ fI 51 52 μ m := by
  have w3 : vn v ≤ 7 := hw.2.2.1
  have h27 : 2 ^ vn v ≤ 2 ^ 7 := Nat.pow_le_pow_right (by omega) w3
  have ha := adn_le set (2 ^ p)
  have hpp : 2 ^ p < 2 ^ vn v := two_lt hp
  rw [e_Choir_setsSwungBy, kI_1 (by omega), kI_adn]
  obtain ⟨⟨b, m⟩, e1, e2, e3⟩ := lp_r (W := fun i (q : Nat × jm) => evj 55 19 [jR 1 50, jR 8 k, jU, jU, jI (nI c), jI (nI (2 ^ p)), jI (nI (adn set (2 ^ p))), jI (nI q.1), jI (nI i), jU] [] q.2) (n := adn set (2 ^ p) + 1) (fun i q => q.1 = swc v (vC v c) set p i ∧ fI 51 52 μ q.2) (fun s q hss hI => by
    obtain ⟨b, m⟩ := q
    obtain ⟨hb, hf⟩ := hI
    have hb : b = swc v (vC v c) set p s := hb
    have hf : fI 51 52 μ m := hf
    show ∃ a', evj _ _ [jR 1 50, jR 8 k, jU, jU, jI (nI c), jI (nI (2 ^ p)), jI (nI (adn set (2 ^ p))), jI (nI b), jI (nI s), jU] _ m = evj _ _ _ _ _ ∧ _
    have hv1 := CV_fI hf (by omega) hv
    have ha2 := adn_le s (adn set (2 ^ p))
    obtain ⟨m1, d1, d2⟩ := c_say hk hw hv1 (show s < 2 ^ vn v by omega) hc
    obtain ⟨m2, f1, f2⟩ := c_say hk hw (CV_fI d2 (by omega) hv1) (show s ||| 2 ^ p < 2 ^ vn v from or_lt _ (by omega) hpp) hc
    have no : ∀ m1, fI 51 52 μ m1 → ¬ ((decide (adn s (adn set (2 ^ p)) = 0) && (!say v s (vC v c) && say v (s ||| 2 ^ p) (vC v c))) = true) → ∃ a' : Nat × jm, evj 55 19 [jR 1 50, jR 8 k, jU, jU, jI (nI c), jI (nI (2 ^ p)), jI (nI (adn set (2 ^ p))), jI (nI b), jI (nI (s + 1)), jU] [] m1 = evj 55 19 [jR 1 50, jR 8 k, jU, jU, jI (nI c), jI (nI (2 ^ p)), jI (nI (adn set (2 ^ p))), jI (nI a'.1), jI (nI (s + 1)), jU] [] a'.2 ∧ a'.1 = swc v (vC v c) set p (s + 1) ∧ fI 51 52 μ a'.2 := fun m1 hf1 hn => ⟨(b, m1), rfl, by rw [swc_s, if_neg hn, hb], hf1⟩
    rw [e_Choir_setsSwungBy_19, bk_lt (by omega) (by omega), jbr_n (by omega), kI_adn, li0, bk_ne (by omega) (by omega)]
    by_cases g1 : adn s (adn set (2 ^ p)) = 0
    · rw [jbr_n (fun z => z g1), e_Choir_setsSwungBy_41, jbr_n (by decide), d1, bI_some]
      cases hy : say v s (vC v c)
      · rw [bt_n rfl, kI_or, f1, bI_some]
        cases hy2 : say v (s ||| 2 ^ p) (vC v c)
        · rw [bf_p rfl, li1, nI_add]
          exact no m2 (fI_t (fI_t hf d2) f2) (by rw [hy2, Bool.and_false, Bool.and_false]; decide)
        · rw [bf_n rfl, li1, nI_add, nI_add]
          exact ⟨(b + 1, m2), rfl, by rw [swc_s, if_pos (by rw [decide_eq_true g1, hy, hy2]; rfl), hb], fI_t (fI_t hf d2) f2⟩
      · rw [bt_p rfl, li1, nI_add]
        exact no m1 (fI_t hf d2) (by rw [hy, Bool.not_true, Bool.false_and, Bool.and_false]; decide)
    · rw [jbr_p g1, e_Choir_setsSwungBy_41, jbr_p (show nI 0 = 0 from rfl), li1, nI_add]
      exact no m hf (by rw [decide_eq_false g1, Bool.false_and]; decide)) (adn set (2 ^ p) + 1) 0 (0, μ) (by omega) ⟨rfl, fI_r _ _ _⟩
  have hb : b = swc v (vC v c) set p (adn set (2 ^ p) + 1) := e2
  refine ⟨m, e1.trans ?_, e3⟩
  show evj _ _ [jR 1 50, jR 8 k, jU, jU, jI (nI c), jI (nI (2 ^ p)), jI (nI (adn set (2 ^ p))), jI (nI b), jI (nI (adn set (2 ^ p) + 1)), jU] _ m = _
  rw [e_Choir_setsSwungBy_19, bk_lt (by omega) (by omega), jbr_p (by omega), hb]
theorem one_shl : ∀ k, k < 8 → (1 : Int64) <<< ((nI k).toInt64 &&& 63) = lN (2 ^ k) := by decide +kernel
abbrev wOk (x y z : Int32) (v : vst) : Prop := mem y x v ∧ un z < vc v
def upS (x y z : Int32) (v : vst) : Nat := swm v (vC v (un z)) (un x) (un y) (un x + 1)
def fSw (x y z : Int32) (S : sst) : Int32 := if wOk x y z (sv S) then 1 else -2
def gSw (x y z : Int32) (S : sst) : sst := if wOk x y z (sv S) then setF S (gq (upS x y z (sv S)) (2 ^ (pop (un x) - 1))) (gp (upS x y z (sv S)) (2 ^ (pop (un x) - 1))) else tel S (-2)
theorem pop_b : ∀ s, s < 128 → ∀ p, p < 7 → (!s.testBit p || decide (1 ≤ pop s)) = true := by decide +kernel
theorem op_swing (x y z : Int32) : opI 126 204 [jI x, jI y, jI z] Rel := by
  refine opI_of (fun S => fSw x y z S) (fun S => gSw x y z S) (fun S h => ?_) ?_ ?_
  · show WS (gSw x y z S)
    unfold gSw
    split
    · exact h
    · exact WS_tel h _
  · intro μ S hW hC
    have w3 : vn (sv S) ≤ 7 := hW.1.2.2.1
    have w5 : vc (sv S) ≤ 8 := hW.1.2.2.2.2.1
    have h27 : 2 ^ vn (sv S) ≤ 2 ^ 7 := Nat.pow_le_pow_right (by omega) w3
    rw [e_N_swing, c_mem y x hW.1 hC.1, bI_some]
    by_cases h1 : mem y x (sv S)
    · rw [bf_n (decide_eq_true h1), c_isChord 1 z μ (by omega) hC.1.2.2.2.2.1, bI_some]
      by_cases h2 : un z < vc (sv S)
      · have fe : fSw x y z S = _ := if_pos ⟨h1, h2⟩
        have ge : gSw x y z S = _ := if_pos ⟨h1, h2⟩
        rw [fe, ge, bt_p (decide_eq_true h2)]
        obtain ⟨c, hc, rfl⟩ := un_x h2 (by omega)
        obtain ⟨p, set, hp, hs, rfl, rfl, hb⟩ := un_p h1 w3
        obtain ⟨m, e1, e2⟩ := c_swc (k := 1) (by omega) hW.1 hC.1 hs hp hc
        have hl := swm_le (sv S) (vC (sv S) c) set p (set + 1)
        have hpb := pop_b set (by omega) p (by omega)
        rw [hb, Bool.not_true, Bool.false_or] at hpb
        have hpb := of_decide_eq_true hpb
        have hp7 := pop7 set (by omega)
        have h2p : 2 ^ (pop set - 1) < 2 ^ 7 := two_lt (by omega)
        have h0p := Nat.two_pow_pos (pop set - 1)
        unfold upS
        rw [c_bc (by omega), bI_some, e1, bI_some, sw_e _ _ (by omega) (by omega) hb, nI_l (by omega), show nI (pop set) - (1 : Int32) = nI (pop set - 1) from kI_sub hpb, one_shl _ (by omega), c_become (by omega) (by omega) h0p, bV_some, un_nI (by omega), un_nI (by omega), un_nI (by omega)]
        refine ⟨_, rfl, CS_setF _ _ (CS_fI e2 (by omega) hC), oc_t (oc_fI e2 (by omega)) (oc_t (oc_sL _ (by omega)) (oc_sL _ (by omega)))⟩
      · have fe : fSw x y z S = _ := if_neg (fun q => h2 q.2)
        have ge : gSw x y z S = _ := if_neg (fun q => h2 q.2)
        rw [fe, ge, bt_n (decide_eq_false h2)]
        exact c_tel _ hC
    · have fe : fSw x y z S = _ := if_neg (fun q => h1 q.1)
      have ge : gSw x y z S = _ := if_neg (fun q => h1 q.1)
      rw [fe, ge, bf_p (decide_eq_false h1)]
      exact c_tel _ hC
  · intro μ S hW hM
    have w3 : vn (sv S) ≤ 7 := hW.1.2.2.1
    have w5 : vc (sv S) ≤ 8 := hW.1.2.2.2.2.1
    have h27 : 2 ^ vn (sv S) ≤ 2 ^ 7 := Nat.pow_le_pow_right (by omega) w3
    rw [e_M_swing, m_isSet x μ w3 hM.1.2.2.1, bI_some]
    by_cases g1 : un x < 2 ^ vn (sv S)
    · rw [bf_n (decide_eq_true g1), show cj 147 [jR 10 64, jI (0 : Int32), jI y] μ = _ from m_isOne 0 (by omega) _ μ w3 hM.1.2.2.1, bI_some]
      by_cases g2 : un y < vn (sv S)
      · rw [bf_n (decide_eq_true g2)]
        obtain ⟨set, hs, rfl⟩ := un_x g1 (by omega)
        obtain ⟨p, hp, rfl⟩ := un_x g2 (by omega)
        rw [m_has (by omega) (by omega), bI_some]
        cases hb : set.testBit p
        · have nw : ¬ wOk (nI set) (nI p) z (sv S) := fun q => by
            have := q.1.2.2
            rw [un_nI (by omega), un_nI (by omega), hb] at this
            exact absurd this (by decide)
          have fe : fSw (nI set) (nI p) z S = _ := if_neg nw
          have ge : gSw (nI set) (nI p) z S = _ := if_neg nw
          rw [fe, ge, bf_p rfl]
          exact m_tel _ hW hM
        · rw [bf_n rfl, m_isChord z μ w5 hM.1.2.2.2.2.1, bI_some]
          by_cases h2 : un z < vc (sv S)
          · have w : wOk (nI set) (nI p) z (sv S) := ⟨⟨g1, g2, by rw [un_nI (by omega), un_nI (by omega)]; exact hb⟩, h2⟩
            have fe : fSw (nI set) (nI p) z S = _ := if_pos w
            have ge : gSw (nI set) (nI p) z S = _ := if_pos w
            rw [fe, ge, bt_p (decide_eq_true h2)]
            obtain ⟨c, hc, rfl⟩ := un_x h2 (by omega)
            have hpb := pop_b set (by omega) p (by omega)
            rw [hb, Bool.not_true, Bool.false_or] at hpb
            have hpb := of_decide_eq_true hpb
            have hp7 := pop7 set (by omega)
            have h2p : 2 ^ (pop set - 1) < 2 ^ 7 := two_lt (by omega)
            have h0p := Nat.two_pow_pos (pop set - 1)
            have hl := swm_le (sv S) (vC (sv S) c) set p (set + 1)
            obtain ⟨⟨b, m⟩, e1, e2, e3⟩ := lp_r (W := fun i (q : Nat × jm) => evj 204 46 [jR 10 64, jI (nI set), jI (nI p), jI (nI c), jL (lN q.1), jU, jI (nI i)] [] q.2) (n := set + 1) (fun i q => q.1 = swm (sv S) (vC (sv S) c) set p i ∧ fI 71 71 μ q.2) (fun s q hss hI => by
              obtain ⟨b, m⟩ := q
              obtain ⟨hb2, hf⟩ := hI
              have hb2 : b = swm (sv S) (vC (sv S) c) set p s := hb2
              have hf : fI 71 71 μ m := hf
              show ∃ a', evj _ _ [jR 10 64, jI (nI set), jI (nI p), jI (nI c), jL (lN b), jU, jI (nI s)] _ m = evj _ _ _ _ _ ∧ _
              have hv1 := MV_fI hf (by omega) hW.1 hM.1
              have ha1 := adn_le s set
              have ha2 := adn_le s (2 ^ p)
              obtain ⟨m1, d1, d2⟩ := m_say (r := 0) (by omega) hW.1 hv1 (show s < 2 ^ vn (sv S) by omega) hc
              obtain ⟨m2, f1, f2⟩ := m_say (r := 0) (by omega) hW.1 (MV_fI d2 (by omega) hW.1 hv1) (show adn s (2 ^ p) < 2 ^ vn (sv S) by omega) hc
              have no : ∀ m1, fI 71 71 μ m1 → ¬ (((decide (adn s set = 0) && s.testBit p) && (say (sv S) s (vC (sv S) c) && !say (sv S) (adn s (2 ^ p)) (vC (sv S) c))) = true) → ∃ a' : Nat × jm, evj 204 46 [jR 10 64, jI (nI set), jI (nI p), jI (nI c), jL (lN b), jU, jI (nI (s + 1))] [] m1 = evj 204 46 [jR 10 64, jI (nI set), jI (nI p), jI (nI c), jL (lN a'.1), jU, jI (nI (s + 1))] [] a'.2 ∧ a'.1 = swm (sv S) (vC (sv S) c) set p (s + 1) ∧ fI 71 71 μ a'.2 := fun m1 hf1 hn => ⟨(b, m1), rfl, by rw [swm_s, if_neg hn, hb2], hf1⟩
              rw [e_M_swing_46, bk_lt (by omega) (by omega), jbr_n (by omega), kI_adn, li0, bk_ne (by omega) (by omega)]
              by_cases g3 : adn s set = 0
              · rw [jbr_n (fun z => z g3), m_has (by omega) (by omega), bI_some]
                cases g4 : s.testBit p
                · rw [← li0, bf_p rfl, e_M_swing_108, li1, nI_add]
                  exact no m hf (by rw [g4, Bool.and_false, Bool.false_and]; decide)
                · rw [← li0, bf_n rfl, show cj 171 [jR 10 64, jI (0 : Int32), jI (nI s), jI (nI c)] m = _ from d1, bI_some]
                  cases hy : say (sv S) s (vC (sv S) c)
                  · rw [bf_p rfl, e_M_swing_108, li1, nI_add]
                    exact no m1 (fI_t hf d2) (by rw [hy, Bool.false_and, Bool.and_false]; decide)
                  · rw [bf_n rfl, kI_1 (by omega), kI_adn, show cj 171 [jR 10 64, jI (0 : Int32), jI (nI (adn s (2 ^ p))), jI (nI c)] m1 = _ from f1, bI_some]
                    cases hy2 : say (sv S) (adn s (2 ^ p)) (vC (sv S) c)
                    · rw [bf_p rfl, e_M_swing_105, e_M_swing_108, li1, nI_add, lN_1]
                      exact ⟨(b + 1, m2), rfl, by rw [swm_s, if_pos (by rw [decide_eq_true g3, g4, hy, hy2]; rfl), hb2], fI_t (fI_t hf d2) f2⟩
                    · rw [bf_n rfl, e_M_swing_105, e_M_swing_108, li1, nI_add, show lN b + (0 : Int64) = lN b from lN_add b 0]
                      exact no m2 (fI_t (fI_t hf d2) f2) (by rw [hy2, Bool.not_true, Bool.and_false, Bool.and_false]; decide)
              · rw [jbr_p g3, e_M_swing_108, li1, nI_add]
                exact no m hf (by rw [decide_eq_false g3, Bool.false_and, Bool.false_and]; decide)) (set + 1) 0 (0, μ) (by omega) ⟨rfl, fI_r _ _ _⟩
            have hb2 : b = swm (sv S) (vC (sv S) c) set p (set + 1) := e2
            have hf : fI 71 71 μ m := e3
            have e1 : evj 204 46 [jR 10 64, jI (nI set), jI (nI p), jI (nI c), jL (0 : Int64), jU, jI (0 : Int32)] [] μ = evj 204 46 [jR 10 64, jI (nI set), jI (nI p), jI (nI c), jL (lN b), jU, jI (nI (set + 1))] [] m := e1
            unfold upS
            rw [e1, e_M_swing_46, bk_lt (by omega) (by omega), jbr_p (by omega), m_ones (by omega), bI_some, show nI (pop set) - (1 : Int32) = nI (pop set - 1) from kI_sub hpb, one_shl _ (by omega), m_shar (by omega) (by omega) h0p, bI_some, un_nI (by omega), un_nI (by omega), un_nI (by omega), hb2]
            exact ⟨_, rfl, MS_setF _ _ hW (MS_fI hf (by omega) hW hM), om_t (om_fI hf (by omega) (by omega)) (om_t (om_sL _ (by omega) (by omega)) (om_sL _ (by omega) (by omega)))⟩
          · have fe : fSw (nI set) (nI p) z S = _ := if_neg (fun q => h2 q.2)
            have ge : gSw (nI set) (nI p) z S = _ := if_neg (fun q => h2 q.2)
            rw [fe, ge, bt_n (decide_eq_false h2)]
            exact m_tel _ hW hM
      · have fe : fSw x y z S = _ := if_neg (fun q => g2 q.1.2.1)
        have ge : gSw x y z S = _ := if_neg (fun q => g2 q.1.2.1)
        rw [fe, ge, bf_p (decide_eq_false g2)]
        exact m_tel _ hW hM
    · have fe : fSw x y z S = _ := if_neg (fun q => g1 q.1.1)
      have ge : gSw x y z S = _ := if_neg (fun q => g1 q.1.1)
      rw [fe, ge, bf_p (decide_eq_false g1)]
      exact m_tel _ hW hM
