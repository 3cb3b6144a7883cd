/-! who says a chord: by filling, by counting -/
def fb (F : Nat) (x y z : Bool) : Nat := ((if x then (F &&& 85) * 2 else 0) ||| (if y then (F &&& 51) * 4 else 0)) ||| (if z then (F &&& 15) * 16 else 0)
def stp (F : Nat) (x y z : Bool) (k : Nat) : Nat := itr (fun _ F => F ||| fb F x y z) k 0 F
def enc (x y z : Bool) : Nat := bN x ||| 2 * bN y ||| 4 * bN z
def dgt (c l : Nat) : Nat := c / 4 ^ (l - 1) % 4
def nx (c : Nat) (x y z : Bool) (k : Nat) : Nat := itr (fun j s => s + min (pop (j + 1)) (dgt c (j + 1) + (if enc x y z &&& (j + 1) = 0 then 0 else k)) * 4 ^ j) 7 0 0
def phi (c : Nat) : Nat := itr (fun S s => s + if (List.range 7).all (fun j => !(decide ((j + 1) &&& S = j + 1)) || decide (dgt c (j + 1) = pop (j + 1))) then 2 ^ S else 0) 8 0 0
def rea : List Nat := [0, 4369, 5140, 5397, 5440, 5457, 5460, 5461, 8737, 9509, 9765, 9809, 9825, 9829, 10276, 10533, 10580, 10596, 10597, 10789, 10816, 10833, 10836, 10837, 10849, 10852, 10853, 12833, 13861, 13921, 13925, 14372, 14629, 14692, 14693, 14885, 14912, 14929, 14932, 14933, 14945, 14948, 14949]
theorem rea_s : rea.all (fun c => [false, true].all (fun x => [false, true].all (fun y => [false, true].all (fun z => [1, 2].all (fun k => rea.contains (nx c x y z k) && decide (phi (nx c x y z k) = stp (phi c) x y z k) && (List.range 7).all (fun j => decide (dgt (nx c x y z k) (j + 1) = min (pop (j + 1)) (dgt c (j + 1) + (if enc x y z &&& (j + 1) = 0 then 0 else k))))))))) = true := by decide +kernel
theorem rea_7 : rea.all (fun c => decide ((phi c).testBit 7 = (List.range 7).all (fun j => decide (pop (j + 1) ≤ dgt c (j + 1)))) && decide (phi c < 256)) = true := by decide +kernel
theorem bl_m (b : Bool) : b ∈ [false, true] := by cases b <;> decide
theorem rea_st {c : Nat} (hc : c ∈ rea) (x y z : Bool) {k : Nat} (hk : k = 1 ∨ k = 2) : nx c x y z k ∈ rea ∧ phi (nx c x y z k) = stp (phi c) x y z k ∧ ∀ j, j < 7 → dgt (nx c x y z k) (j + 1) = min (pop (j + 1)) (dgt c (j + 1) + (if enc x y z &&& (j + 1) = 0 then 0 else k)) := by
  have h := List.all_eq_true.mp (List.all_eq_true.mp (List.all_eq_true.mp (List.all_eq_true.mp (List.all_eq_true.mp rea_s c hc) x (bl_m x)) y (bl_m y)) z (bl_m z)) k (by rcases hk with e | e <;> subst e <;> decide)
  rw [Bool.and_eq_true, Bool.and_eq_true] at h
  obtain ⟨⟨h1, h2⟩, h3⟩ := h
  exact ⟨List.contains_iff_mem.mp h1, of_decide_eq_true h2, fun j hj => of_decide_eq_true (List.all_eq_true.mp h3 j (List.mem_range.mpr hj))⟩
/-- filling and counting over a row of people -/
def dpF (X Y Z : Nat → Bool) (cp : Nat → Nat) (n : Nat) : Nat := itr (fun p F => stp F (X p) (Y p) (Z p) (cp p)) n 0 1
def cnt (X Y Z : Nat → Bool) (cp : Nat → Nat) (l n : Nat) : Nat := itr (fun p s => s + (if enc (X p) (Y p) (Z p) &&& l = 0 then 0 else cp p)) n 0 0
theorem dp_cnt (X Y Z : Nat → Bool) (cp : Nat → Nat) (hc : ∀ p, cp p = 1 ∨ cp p = 2) : ∀ n, ∃ c, c ∈ rea ∧ dpF X Y Z cp n = phi c ∧ ∀ j, j < 7 → dgt c (j + 1) = min (pop (j + 1)) (cnt X Y Z cp (j + 1) n)
  | 0 => ⟨0, by decide +kernel, (by decide +kernel : 1 = phi 0), fun j hj => by
    have : ∀ j, j < 7 → dgt 0 (j + 1) = min (pop (j + 1)) 0 := by decide +kernel
    exact this j hj⟩
  | n + 1 => by
    obtain ⟨c, h1, h2, h3⟩ := dp_cnt X Y Z cp hc n
    obtain ⟨s1, s2, s3⟩ := rea_st h1 (X n) (Y n) (Z n) (hc n)
    refine ⟨nx c (X n) (Y n) (Z n) (cp n), s1, ?_, fun j hj => ?_⟩
    · rw [s2, ← h2]
      unfold dpF
      rw [itr_s, Nat.zero_add]
    · rw [s3 j hj, h3 j hj]
      unfold cnt
      rw [itr_s, Nat.zero_add]
      omega
def hal (X Y Z : Nat → Bool) (cp : Nat → Nat) (n : Nat) : Bool := (List.range 7).all (fun j => decide (pop (j + 1) ≤ cnt X Y Z cp (j + 1) n))
theorem dp_hal (X Y Z : Nat → Bool) (cp : Nat → Nat) (hc : ∀ p, cp p = 1 ∨ cp p = 2) (n : Nat) : (dpF X Y Z cp n).testBit 7 = hal X Y Z cp n ∧ dpF X Y Z cp n < 256 := by
  obtain ⟨c, h1, h2, h3⟩ := dp_cnt X Y Z cp hc n
  have h := List.all_eq_true.mp rea_7 c h1
  rw [Bool.and_eq_true] at h
  refine ⟨?_, by rw [h2]; exact of_decide_eq_true h.2⟩
  rw [h2, of_decide_eq_true h.1]
  unfold hal
  rw [Bool.eq_iff_iff, List.all_eq_true, List.all_eq_true]
  refine ⟨fun a j hj => ?_, fun a j hj => ?_⟩
  · have q := of_decide_eq_true (a j hj)
    rw [h3 j (List.mem_range.mp hj)] at q
    exact decide_eq_true (by omega)
  · have q := of_decide_eq_true (a j hj)
    refine decide_eq_true ?_
    rw [h3 j (List.mem_range.mp hj)]
    omega
theorem itr_a {α : Type} {f : Nat → α → α} : ∀ d e i a, itr f (d + e) i a = itr f e (i + d) (itr f d i a)
  | 0, e, i, a => by rw [Nat.zero_add]; rfl
  | d + 1, e, i, a => by
    rw [show d + 1 + e = (d + e) + 1 from by omega]
    show itr f (d + e) (i + 1) (f i a) = _
    rw [itr_a d e (i + 1) (f i a), show i + 1 + d = i + (d + 1) from by omega]
    rfl
theorem itr_i {α : Type} {f : Nat → α → α} : ∀ d i a, (∀ j b, i ≤ j → f j b = b) → itr f d i a = a
  | 0, _, _, _ => rfl
  | d + 1, i, a, h => by
    show itr f d (i + 1) (f i a) = a
    rw [h i a (Nat.le_refl i)]
    exact itr_i d (i + 1) a (fun j b hj => h j b (by omega))
theorem itr_x {α : Type} {f : Nat → α → α} {n m : Nat} (h : n ≤ m) (a : α) (hi : ∀ j b, n ≤ j → f j b = b) : itr f m 0 a = itr f n 0 a := by
  rw [show m = n + (m - n) from by omega, itr_a, Nat.zero_add]
  exact itr_i _ _ _ hi
/-- the three notes of a chord -/
def nts (m i : Nat) : Nat := ((List.range 12).filter (fun x => m.testBit x)).getD i 0
theorem nts_b : ∀ a, a < 12 → ∀ b, b < 12 → ∀ c, c < 12 → a < b → b < c → (decide (nts (2 ^ a + 2 ^ b + 2 ^ c) 0 = a) && (decide (nts (2 ^ a + 2 ^ b + 2 ^ c) 1 = b) && decide (nts (2 ^ a + 2 ^ b + 2 ^ c) 2 = c))) = true := by decide +kernel
theorem nts_d (a : Nat) (ha : a < 12) (b : Nat) (hb : b < 12) (c : Nat) (hc : c < 12) (h1 : a < b) (h2 : b < c) : nts (2 ^ a + 2 ^ b + 2 ^ c) 0 = a ∧ nts (2 ^ a + 2 ^ b + 2 ^ c) 1 = b ∧ nts (2 ^ a + 2 ^ b + 2 ^ c) 2 = c := by
  have h := nts_b a ha b hb c hc h1 h2
  rw [Bool.and_eq_true, Bool.and_eq_true] at h
  exact ⟨of_decide_eq_true h.1, of_decide_eq_true h.2.1, of_decide_eq_true h.2.2⟩
/-- notes that one can fill; how many -/
def fil (v : vst) (set p : Nat) : Nat := if p < vn v ∧ set.testBit p = true then nea (snd v p set) (vl v) else 0
def cap (v : vst) (p : Nat) : Nat := if vK v p < 4 then 1 else 2
theorem cap_12 (v : vst) (p : Nat) : cap v p = 1 ∨ cap v p = 2 := by unfold cap; split <;> simp
theorem fil_lt {v : vst} (hw : WV v) (set p : Nat) : fil v set p < 4096 := by
  unfold fil
  split
  · rename_i h
    exact nea_lt _ (snd_lt _ (hw.2.2.2.1 p h.1).2.1)
  · omega
def say (v : vst) (set m : Nat) : Bool := hal (fun p => (fil v set p).testBit (nts m 0)) (fun p => (fil v set p).testBit (nts m 1)) (fun p => (fil v set p).testBit (nts m 2)) (cap v) 7
/-- one more note filled -/
theorem lmh_b : ∀ a, a < 12 → ∀ b, b < 12 → ∀ c, c < 12 → a < b → b < c → (decide (nI (2 ^ a + 2 ^ b + 2 ^ c) &&& -(nI (2 ^ a + 2 ^ b + 2 ^ c)) = nI (2 ^ a)) && (decide (nI (2 ^ a + 2 ^ b + 2 ^ c) &&& (nI (2 ^ a) ^^^ (-1 : Int32)) = nI (2 ^ b + 2 ^ c)) && (decide (nI (2 ^ b + 2 ^ c) &&& -(nI (2 ^ b + 2 ^ c)) = nI (2 ^ b)) && decide (nI (2 ^ b + 2 ^ c) &&& (nI (2 ^ b) ^^^ (-1 : Int32)) = nI (2 ^ c))))) = true := by decide +kernel
theorem lmh (a : Nat) (ha : a < 12) (b : Nat) (hb : b < 12) (c : Nat) (hc : c < 12) (h1 : a < b) (h2 : b < c) : nI (2 ^ a + 2 ^ b + 2 ^ c) &&& -(nI (2 ^ a + 2 ^ b + 2 ^ c)) = nI (2 ^ a) ∧ nI (2 ^ a + 2 ^ b + 2 ^ c) &&& (nI (2 ^ a) ^^^ (-1 : Int32)) = nI (2 ^ b + 2 ^ c) ∧ nI (2 ^ b + 2 ^ c) &&& -(nI (2 ^ b + 2 ^ c)) = nI (2 ^ b) ∧ nI (2 ^ b + 2 ^ c) &&& (nI (2 ^ b) ^^^ (-1 : Int32)) = nI (2 ^ c) := by
  have h := lmh_b a ha b hb c hc h1 h2
  rw [Bool.and_eq_true, Bool.and_eq_true, Bool.and_eq_true] at h
  exact ⟨of_decide_eq_true h.1, of_decide_eq_true h.2.1, of_decide_eq_true h.2.2.1, of_decide_eq_true h.2.2.2⟩
theorem and2 (w a : Nat) : w &&& 2 ^ a = if w.testBit a then 2 ^ a else 0 := by
  apply Nat.eq_of_testBit_eq
  intro i
  rw [Nat.testBit_and, Nat.testBit_two_pow]
  by_cases h : a = i
  · subst h
    rw [decide_eq_true rfl, Bool.and_true]
    cases w.testBit a
    · rw [if_neg (by decide), Nat.zero_testBit]
    · rw [if_pos rfl, Nat.testBit_two_pow, decide_eq_true rfl]
  · rw [decide_eq_false h, Bool.and_false]
    split
    · rw [Nat.testBit_two_pow, decide_eq_false h]
    · rw [Nat.zero_testBit]
theorem jb_and {w a : Nat} (ha : a < 12) {x y : Option jr} : jbr (decide (nI w &&& nI (2 ^ a) = 0)) x y = if w.testBit a = true then y else x := by
  have h := two_12 ha
  have h0 := Nat.two_pow_pos a
  rw [kI_and, and2, li0]
  cases w.testBit a
  · rfl
  · rw [if_pos rfl, if_pos rfl, bk_eq (by omega) (by omega), jbr_n (by omega)]
theorem c_fb {F w a b c : Nat} (hF : F < 256) (h1 : a < b) (h2 : b < c) (h3 : c < 12) (μ : jm) : cj 13 [jI (nI F), jI (nI w), jI (nI (2 ^ a + 2 ^ b + 2 ^ c))] μ = some (some (jI (nI (fb F (w.testBit a) (w.testBit b) (w.testBit c)))), μ) := by
  obtain ⟨e1, e2, e3, e4⟩ := lmh a (by omega) b (by omega) c h3 h1 h2
  have g1 : F &&& 85 ≤ 85 := Nat.and_le_right
  have g2 : F &&& 51 ≤ 51 := Nat.and_le_right
  have g3 : F &&& 15 ≤ 15 := Nat.and_le_right
  rw [e_Ring_filledByOneMore, e1, e2, e3, e4, e_Ring_filledByOneMore_49, e_Ring_filledByOneMore_49]
  simp only [jb_and (show a < 12 by omega), jb_and (show b < 12 by omega), jb_and h3]
  rw [show (85 : Int32) = nI 85 from rfl, show (51 : Int32) = nI 51 from rfl, show (15 : Int32) = nI 15 from rfl, kI_and, kI_and, kI_and, li0, show (1 : Int32) = nI 1 from rfl, show (2 : Int32) = nI 2 from rfl, show (4 : Int32) = nI 4 from rfl]
  rw [kI_shl (by omega) (by omega), kI_shl (by omega) (by omega), kI_shl (by omega) (by omega)]
  simp only [kI_or]
  unfold fb
  cases w.testBit a <;> cases w.testBit b <;> cases w.testBit c <;> simp
theorem stp_lt {F : Nat} (x y z : Bool) (k : Nat) (h : F < 256) : stp F x y z k < 256 := by
  refine itr_I (n := k) (fun _ F => F < 256) (fun i F _ h => ?_) h
  have g1 : F &&& 85 ≤ 85 := Nat.and_le_right
  have g2 : F &&& 51 ≤ 51 := Nat.and_le_right
  have g3 : F &&& 15 ≤ 15 := Nat.and_le_right
  refine or_lt 8 h (or_lt 8 (or_lt 8 ?_ ?_) ?_)
  · split <;> omega
  · split <;> omega
  · split <;> omega
/-- the class fills -/
def gat (μ : jm) (v : vst) (set : Nat) : Prop := ∀ p, p < 7 → gI μ 51 p = nI (fil v set p) ∧ (fil v set p = 0 ∨ gI μ 52 p = nI (cap v p))
theorem c_fills {μ : jm} {v : vst} {set a b c : Nat} (hw : WV v) (hg : gat μ v set) (h1 : a < b) (h2 : b < c) (h3 : c < 12) : cj 50 [jR 1 50, jI (nI (2 ^ a + 2 ^ b + 2 ^ c))] μ = some (some (jI (nI (bN (say v set (2 ^ a + 2 ^ b + 2 ^ c))))), μ) := by
  obtain ⟨n0, n1, n2⟩ := nts_d a (by omega) b (by omega) c h3 h1 h2
  obtain ⟨d1, d2⟩ := dp_hal (fun p => (fil v set p).testBit a) (fun p => (fil v set p).testBit b) (fun p => (fil v set p).testBit c) (cap v) (cap_12 v) 7
  have hm : 2 ^ a + 2 ^ b + 2 ^ c < 16384 := by
    have := two_12 (show a < 12 by omega)
    have := two_12 (show b < 12 by omega)
    have := two_12 h3
    omega
  unfold say
  rw [n0, n1, n2, ← d1, e_Choir_fillsAll]
  have L := lp_f (W := fun i F => evj 50 4 [jR 1 50, jI (nI (2 ^ a + 2 ^ b + 2 ^ c)), jI (nI F), jI (nI i), jU] [] μ) (f := fun p F => stp F ((fil v set p).testBit a) ((fil v set p).testBit b) ((fil v set p).testBit c) (cap v p)) (n := 7) (fun _ F => F < 256) (fun p F hp hF => by
    refine ⟨?_, stp_lt _ _ _ _ hF⟩
    show evj _ _ _ _ _ = evj _ _ _ _ _
    obtain ⟨g1, g2⟩ := hg p hp
    have hf := fil_lt hw set p
    rw [e_Choir_fillsAll_4, li7, bk_le (by omega) (by omega), jbr_n (by omega), inB_nI hp (by omega), jgd_t, ixn (by omega), g1, kI_and]
    have hx : fil v set p &&& (2 ^ a + 2 ^ b + 2 ^ c) ≤ fil v set p := Nat.and_le_left
    have hbits : fil v set p &&& (2 ^ a + 2 ^ b + 2 ^ c) = ((if (fil v set p).testBit a then 2 ^ a else 0) ||| (if (fil v set p).testBit b then 2 ^ b else 0)) ||| (if (fil v set p).testBit c then 2 ^ c else 0) := by
      rw [← c3_ch2 a (by omega) b (by omega) c h3 h1 h2, Nat.and_or_distrib_left, Nat.and_or_distrib_left, and2, and2, and2]
    by_cases hz : fil v set p &&& (2 ^ a + 2 ^ b + 2 ^ c) = 0
    · rw [hz, jbr_p (show nI 0 = 0 from rfl), li1, nI_add]
      have hb : (fil v set p).testBit a = false ∧ (fil v set p).testBit b = false ∧ (fil v set p).testBit c = false := by
        rw [hbits] at hz
        have t1 := Nat.two_pow_pos a
        have t2 := Nat.two_pow_pos b
        have t3 := Nat.two_pow_pos c
        have z1 := (Nat.or_eq_zero_iff.mp hz)
        have z2 := (Nat.or_eq_zero_iff.mp z1.1)
        refine ⟨?_, ?_, ?_⟩
        · cases h : (fil v set p).testBit a
          · rfl
          · rw [h, if_pos rfl] at z2; omega
        · cases h : (fil v set p).testBit b
          · rfl
          · rw [h, if_pos rfl] at z2; omega
        · cases h : (fil v set p).testBit c
          · rfl
          · rw [h, if_pos rfl] at z1; omega
      rw [hb.1, hb.2.1, hb.2.2]
      have : stp F false false false (cap v p) = F := itr_i _ _ _ (fun j b _ => by rw [show fb b false false false = 0 from by simp [fb]]; exact Nat.or_zero b)
      rw [this]
    · rw [li0, bk_eq (by omega) (by omega), jbr_n hz]
      have g3 : gI μ 52 p = nI (cap v p) := g2.resolve_left (fun e => hz (by rw [e, Nat.zero_and]))
      have hc := cap_12 v p
      have M := lp_f (W := fun i F => evj 50 24 [jR 1 50, jI (nI (2 ^ a + 2 ^ b + 2 ^ c)), jI (nI F), jI (nI p), jI (nI i)] [] μ) (f := fun _ F => F ||| fb F ((fil v set p).testBit a) ((fil v set p).testBit b) ((fil v set p).testBit c)) (n := cap v p) (fun _ F => F < 256) (fun i F hi hF => by
        refine ⟨?_, stp_lt _ _ _ 1 hF⟩
        show evj _ _ _ _ _ = evj _ _ _ _ _
        rw [e_Choir_fillsAll_24, inB_nI hp (by omega), jgd_t, ixn (by omega), g3, bk_le (by omega) (by omega), jbr_n (by omega), jgd_t, g1, c_fb hF h1 h2 h3, bI_some, kI_or, li1, nI_add]) (cap v p) 0 F (by omega) hF
      refine M.1.trans ?_
      show evj _ _ _ _ _ = _
      rw [e_Choir_fillsAll_24, inB_nI hp (by omega), jgd_t, ixn (by omega), g3, jbr_p (by rw [kI_le (by omega) (by omega)]; omega), li1, nI_add]
      rfl) 7 0 1 (by omega) (by omega)
  refine L.1.trans ?_
  show evj _ _ _ _ _ = _
  rw [e_Choir_fillsAll_4, jbr_p (by decide), e_Ring_isWholeChord]
  show bI (jbr (decide (((nI (dpF (fun p => (fil v set p).testBit a) (fun p => (fil v set p).testBit b) (fun p => (fil v set p).testBit c) (cap v) 7) >>> ((7 : Int32) &&& 31)) &&& (1 : Int32)) = 0)) _ _) _ = _
  rw [show (7 : Int32) = nI 7 from rfl, kI_tb (by omega) (by omega), jbr_bN, bI_some, bN_a]
theorem un_p {x y : Int32} {n : Nat} (h : un y < 2 ^ n ∧ un x < n ∧ (un y).testBit (un x) = true) (hn : n ≤ 7) : ∃ p set, p < n ∧ set < 2 ^ n ∧ x = nI p ∧ y = nI set ∧ set.testBit p = true := by
  have h2 : 2 ^ n < 2 ^ 8 := two_lt (by omega)
  obtain ⟨p, hp, rfl⟩ := un_x h.2.1 (by omega)
  obtain ⟨set, hs, rfl⟩ := un_x h.1 (by omega)
  rw [un_nI (by omega), un_nI (by omega)] at h
  exact ⟨p, set, hp, hs, rfl, rfl, h.2.2⟩
abbrev mem (x y : Int32) (v : vst) : Prop := un y < 2 ^ vn v ∧ un x < vn v ∧ (un y).testBit (un x) = true
theorem c_mem {k : Nat} (x y : Int32) {μ : jm} {v : vst} (hw : WV v) (hv : CV μ k v) : cj 25 [jR 8 k, jI x, jI y] μ = some (some (jI (nI (bN (decide (mem x y v))))), μ) := by
  have w3 : vn v ≤ 7 := hw.2.2.1
  have h2 : 2 ^ vn v < 2 ^ 8 := two_lt (by omega)
  rw [e_Valley_isMember, c_isSet k y μ w3 hv.2.2.1, bI_some]
  by_cases e1 : un y < 2 ^ vn v
  · rw [bf_n (decide_eq_true e1), c_isPerson k x μ (by omega) hv.2.2.1, bI_some]
    by_cases e2 : un x < vn v
    · rw [bf_n (decide_eq_true e2)]
      obtain ⟨p, hp, rfl⟩ := un_x e2 (by omega)
      obtain ⟨set, hs, rfl⟩ := un_x e1 (by omega)
      rw [kI_tb (by omega) (by omega), jbr_bN]
      congr 5
      unfold mem
      rw [un_nI (by omega), un_nI (by omega)]
      cases h : set.testBit p
      · exact congrArg bN (decide_eq_false (show ¬ (set < 2 ^ vn v ∧ p < vn v ∧ false = true) from fun z => absurd z.2.2 (by decide))).symm
      · exact congrArg bN (decide_eq_true (show set < 2 ^ vn v ∧ p < vn v ∧ true = true from ⟨hs, hp, rfl⟩)).symm
    · rw [bf_p (decide_eq_false e2), decide_eq_false (fun z => e2 z.2.1)]; rfl
  · rw [bf_p (decide_eq_false e1), decide_eq_false (fun z => e1 z.1)]; rfl
theorem c_gather {k set : Nat} {μ : jm} {v : vst} (hk : k + 10 < 50) (hw : WV v) (hv : CV μ k v) (hs : set < 2 ^ vn v) : ∃ m, cj 49 [jR 1 50, jR 8 k, jI (nI set)] μ = some (none, m) ∧ gat m v set ∧ fI 51 52 μ m := by
  have w3 : vn v ≤ 7 := hw.2.2.1
  have w7 : vl v ≤ 2 := hw.2.2.2.2.2.2.1
  have h2 : 2 ^ vn v < 2 ^ 8 := two_lt (by omega)
  have h27 : 2 ^ vn v ≤ 2 ^ 7 := Nat.pow_le_pow_right (by omega) w3
  rw [e_Choir_gather]
  obtain ⟨m, e1, e2⟩ := lp_r (W := fun i (m : jm) => evj 49 2 [jR 1 50, jR 8 k, jI (nI set), jI (nI i)] [] m) (n := 7) (fun i m => fI 51 52 μ m ∧ ∀ p, p < i → gI m 51 p = nI (fil v set p) ∧ (fil v set p = 0 ∨ gI m 52 p = nI (cap v p))) (fun p m hp hI => by
    obtain ⟨hf, hg⟩ := hI
    show ∃ a', evj _ _ _ _ _ = evj _ _ _ _ _ ∧ _
    have hf1 : fI 51 52 μ (sI m 51 p (0 : Int32)) := fI_t hf (fI_s m (by omega) (by omega))
    have hv1 := CV_fI hf1 (by omega) hv
    rw [e_Choir_gather_2, li7, bk_le (by omega) (by omega), jbr_n (by omega), inB_nI hp (by omega), jgd_t, ixn (by omega), c_mem _ _ hw hv1, bI_some]
    have key : ∀ (m' : jm) (x : Nat), fI 51 52 (sI m 51 p (0 : Int32)) m' → (∀ q, q ≠ p → gI m' 51 q = gI (sI m 51 p (0 : Int32)) 51 q ∧ gI m' 52 q = gI (sI m 51 p (0 : Int32)) 52 q) → gI m' 51 p = nI (fil v set p) → (fil v set p = 0 ∨ gI m' 52 p = nI (cap v p)) → fI 51 52 μ m' ∧ ∀ q, q < p + 1 → gI m' 51 q = nI (fil v set q) ∧ (fil v set q = 0 ∨ gI m' 52 q = nI (cap v q)) := fun m' x h1 h2 h3 h4 => ⟨fI_t hf1 h1, fun q hq => by
      by_cases e : q = p
      · subst e; exact ⟨h3, h4⟩
      · rw [(h2 q e).1, (h2 q e).2, gI_ne m (by omega), gI_ne m (by omega)]
        exact hg q (by omega)⟩
    by_cases hm : mem (nI p) (nI set) v
    · rw [bf_n (decide_eq_true hm)]
      have hm := hm
      unfold mem at hm
      rw [un_nI (by omega), un_nI (by omega)] at hm
      obtain ⟨-, hpn, hbit⟩ := hm
      obtain ⟨w41, w42, w43, w44, -⟩ := hw.2.2.2.1 p hpn
      have hK : gI m (k + 3) p = nI (vK v p) := by
        rw [← gI_ne m (k := 51) (i := p) (v := (0 : Int32)) (by omega)]
        exact (hv1.2.2.2.1 p hpn).1
      rw [c_snd hw hv1 hpn (by omega), bI_some, show gI (sI m 51 p (0 : Int32)) k 10 = nI (vl v) from hv1.2.2.2.2.2.2.1, c_nea (snd_lt _ w42) (by omega), bI_some, jgd_t, jgd_t, gI_ne _ (by omega), gI_ne _ (by omega), hK, li4, bk_lt (by omega) (by omega)]
      have hfil : fil v set p = nea (snd v p set) (vl v) := if_pos ⟨hpn, hbit⟩
      by_cases h4 : vK v p < 4
      · rw [jbr_p h4, jgd_t, li1, nI_add]
        have hcap : cap v p = 1 := if_pos h4
        refine ⟨_, rfl, key _ 0 (fI_t (fI_s _ (by omega) (by omega)) (fI_s _ (by omega) (by omega))) (fun q hq => ⟨?_, ?_⟩) ?_ (Or.inr ?_)⟩
        · rw [gI_ne _ (by omega), gI_ne _ (by omega)]
        · rw [gI_ne _ (by omega), gI_ne _ (by omega)]
        · rw [gI_ne _ (by omega), gI_eq, hfil]
        · rw [gI_eq, hcap]
      · rw [jbr_n h4, jgd_t, li1, nI_add]
        have hcap : cap v p = 2 := if_neg h4
        refine ⟨_, rfl, key _ 0 (fI_t (fI_s _ (by omega) (by omega)) (fI_s _ (by omega) (by omega))) (fun q hq => ⟨?_, ?_⟩) ?_ (Or.inr ?_)⟩
        · rw [gI_ne _ (by omega), gI_ne _ (by omega)]
        · rw [gI_ne _ (by omega), gI_ne _ (by omega)]
        · rw [gI_ne _ (by omega), gI_eq, hfil]
        · rw [gI_eq, hcap]; rfl
    · rw [bf_p (decide_eq_false hm), li1, nI_add]
      have hfil : fil v set p = 0 := if_neg (fun z => hm (by unfold mem; rw [un_nI (by omega), un_nI (by omega)]; exact ⟨hs, z⟩))
      exact ⟨_, rfl, key _ 0 (fI_r _ _ _) (fun q hq => ⟨rfl, rfl⟩) (by rw [gI_eq, hfil]; rfl) (Or.inl hfil)⟩) 7 0 μ (by omega) ⟨fI_r _ _ _, fun p hp => absurd hp (Nat.not_lt_zero p)⟩
  refine ⟨m, e1.trans ?_, e2.2, e2.1⟩
  show evj _ _ _ _ _ = _
  rw [e_Choir_gather_2, jbr_p (by decide)]
theorem c_say {k set c : Nat} {μ : jm} {v : vst} (hk : k + 10 < 50) (hw : WV v) (hv : CV μ k v) (hs : set < 2 ^ vn v) (hc : c < vc v) : ∃ m, cj 48 [jR 1 50, jR 8 k, jI (nI set), jI (nI c)] μ = some (some (jI (nI (bN (say v set (vC v c))))), m) ∧ fI 51 52 μ m := by
  have w5 : vc v ≤ 8 := hw.2.2.2.2.1
  obtain ⟨m, e1, e2, e3⟩ := c_gather hk hw hv hs
  have hv1 := CV_fI e3 (by omega) hv
  obtain ⟨⟨a, b, d, h1, h2, h3, h4⟩, -, -⟩ := hw.2.2.2.2.2.1 c hc
  refine ⟨m, ?_, e3⟩
  rw [e_Choir_canSay, e1, bV_some, c_isChord k _ m (by omega) hv1.2.2.2.2.1, bI_some, un_nI (by omega), bf_n (decide_eq_true hc), inB_nI (by omega) (by omega), jgd_t, ixn (by omega), (hv1.2.2.2.2.2.1 c hc).1, h4, c_fills hw e2 h1 h2 h3, bI_some, jbr_bN]
