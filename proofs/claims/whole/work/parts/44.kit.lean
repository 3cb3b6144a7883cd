/-! numbers and bits; loops -/
def bN (b : Bool) : Nat := if b then 1 else 0
theorem bN_le (b : Bool) : bN b ≤ 1 := by cases b <;> decide
def adn (a b : Nat) : Nat := a ^^^ (a &&& b)
theorem adn_tb (a b i : Nat) : (adn a b).testBit i = (a.testBit i && !b.testBit i) := by
  unfold adn
  rw [Nat.testBit_xor, Nat.testBit_and]
  cases a.testBit i <;> cases b.testBit i <;> rfl
theorem adn_le (a b : Nat) : adn a b ≤ a := by
  have h : adn a b = adn a b &&& a := by
    apply Nat.eq_of_testBit_eq
    intro i
    rw [Nat.testBit_and, adn_tb]
    cases a.testBit i <;> cases b.testBit i <;> rfl
  rw [h]
  exact Nat.and_le_right
theorem kI_bit {n i : Nat} (h : i < 32) : (nI n).toBitVec.getLsbD i = n.testBit i := by
  show (BitVec.ofNat 32 n).getLsbD i = n.testBit i
  rw [BitVec.getLsbD_ofNat, decide_eq_true h, Bool.true_and]
theorem kI_ext {x y : Int32} (h : ∀ i, i < 32 → x.toBitVec.getLsbD i = y.toBitVec.getLsbD i) : x = y := Int32.toBitVec_inj.mp (BitVec.eq_of_getLsbD_eq (fun i hi => h i hi))
theorem kI_and (a b : Nat) : nI a &&& nI b = nI (a &&& b) := kI_ext (fun i hi => by rw [Int32.toBitVec_and, BitVec.getLsbD_and, kI_bit hi, kI_bit hi, kI_bit hi, Nat.testBit_and])
theorem kI_or (a b : Nat) : nI a ||| nI b = nI (a ||| b) := kI_ext (fun i hi => by rw [Int32.toBitVec_or, BitVec.getLsbD_or, kI_bit hi, kI_bit hi, kI_bit hi, Nat.testBit_or])
theorem kI_m1 : ∀ i, i < 32 → (-1 : Int32).toBitVec.getLsbD i = true := by decide +kernel
theorem kI_adn (a b : Nat) : nI a &&& (nI b ^^^ (-1 : Int32)) = nI (adn a b) := kI_ext (fun i hi => by
  rw [Int32.toBitVec_and, BitVec.getLsbD_and, Int32.toBitVec_xor, BitVec.getLsbD_xor, kI_bit hi, kI_bit hi, kI_bit hi, kI_m1 i hi, adn_tb]
  cases a.testBit i <;> cases b.testBit i <;> rfl)
theorem ks_l : ∀ n, n < 32 → ((nI n &&& 31).toBitVec.smod 32).toNat = n := by decide +kernel
theorem kI_shr {n j : Nat} (h : n < 2147483648) (hj : j < 32) : nI n >>> (nI j &&& 31) = nI (n / 2 ^ j) := pk_shrN h _ j (ks_l j hj)
theorem kI_shl {n j : Nat} (hj : j < 32) (h : n * 2 ^ j < 4294967296) : nI n <<< (nI j &&& 31) = nI (n * 2 ^ j) := pk_shlN _ j (ks_l j hj) h
theorem kI_1 {j : Nat} (hj : j < 32) : (1 : Int32) <<< (nI j &&& 31) = nI (2 ^ j) := by
  have h : 2 ^ j < 2 ^ 32 := Nat.pow_lt_pow_right (by omega) hj
  have := kI_shl (n := 1) hj (by omega)
  rw [Nat.one_mul] at this
  exact this
theorem kI_tb {n j : Nat} (h : n < 2147483648) (hj : j < 32) : (nI n >>> (nI j &&& 31)) &&& (1 : Int32) = nI (bN (n.testBit j)) := by
  rw [kI_shr h hj, show (1 : Int32) = nI 1 from rfl, kI_and, Nat.and_one_is_mod]
  congr 1
  unfold bN
  rw [Nat.testBit_eq_decide_div_mod_eq]
  by_cases hb : n / 2 ^ j % 2 = 1
  · rw [decide_eq_true hb, hb]; rfl
  · rw [decide_eq_false hb]
    have : n / 2 ^ j % 2 = 0 := by omega
    rw [this]; rfl
theorem bN0 (b : Bool) : (nI (bN b) = 0) = (b = false) := by cases b <;> decide
theorem bN1 (b : Bool) : (nI (bN b) = 1) = (b = true) := by cases b <;> decide
theorem two_lt {j n : Nat} (h : j < n) : 2 ^ j < 2 ^ n := Nat.pow_lt_pow_right (by omega) h
theorem or_lt {a b : Nat} (n : Nat) (ha : a < 2 ^ n) (hb : b < 2 ^ n) : a ||| b < 2 ^ n := Nat.or_lt_two_pow ha hb
/-- for-loops -/
def itr {α : Type} (f : Nat → α → α) : Nat → Nat → α → α
  | 0, _, a => a
  | d + 1, i, a => itr f d (i + 1) (f i a)
theorem lp_f {α β : Type} {W : Nat → α → β} {f : Nat → α → α} {n : Nat} (I : Nat → α → Prop) (hs : ∀ i a, i < n → I i a → W i a = W (i + 1) (f i a) ∧ I (i + 1) (f i a)) : ∀ d i a, i + d = n → I i a → W i a = W n (itr f d i a) ∧ I n (itr f d i a)
  | 0, i, a, h, hI => by
    have : i = n := by omega
    subst this
    exact ⟨rfl, hI⟩
  | d + 1, i, a, h, hI => by
    obtain ⟨h1, h2⟩ := hs i a (by omega) hI
    rw [h1]
    exact lp_f I hs d (i + 1) (f i a) (by omega) h2
theorem lp_x {σ β : Type} {W : Nat → σ → β} {n : Nat} (Q : β → Prop) (I : Nat → σ → Prop) (hx : ∀ a, I n a → Q (W n a)) (hs : ∀ i a, i < n → I i a → (∃ a', W i a = W (i + 1) a' ∧ I (i + 1) a') ∨ Q (W i a)) : ∀ d i a, i + d = n → I i a → Q (W i a)
  | 0, i, a, h, hI => by
    have : i = n := by omega
    subst this
    exact hx a hI
  | d + 1, i, a, h, hI => by
    rcases hs i a (by omega) hI with ⟨a', h1, h2⟩ | h1
    · rw [h1]
      exact lp_x Q I hx hs d (i + 1) a' (by omega) h2
    · exact h1
theorem lp_r {σ β : Type} {W : Nat → σ → β} {n : Nat} (I : Nat → σ → Prop) (hs : ∀ i a, i < n → I i a → ∃ a', W i a = W (i + 1) a' ∧ I (i + 1) a') (d i : Nat) (a : σ) (h : i + d = n) (hI : I i a) : ∃ a', W i a = W n a' ∧ I n a' :=
  lp_x (W := W) (fun b => ∃ a', b = W n a' ∧ I n a') I (fun a ha => ⟨a, rfl, ha⟩) (fun i a hi ha => Or.inl (hs i a hi ha)) d i a h hI
theorem itr_I {α : Type} {f : Nat → α → α} {n : Nat} (I : Nat → α → Prop) (hs : ∀ i a, i < n → I i a → I (i + 1) (f i a)) {a : α} (h : I 0 a) : I n (itr f n 0 a) :=
  (lp_f (W := fun _ _ => ()) I (fun i a hi ha => ⟨rfl, hs i a hi ha⟩) n 0 a (by omega) h).2
theorem itr_c {α : Type} {f g : Nat → α → α} : ∀ d i a, (∀ j a, i ≤ j → j < i + d → f j a = g j a) → itr f d i a = itr g d i a
  | 0, _, _, _ => rfl
  | d + 1, i, a, h => by
    show itr f d (i + 1) (f i a) = itr g d (i + 1) (g i a)
    rw [h i a (by omega) (by omega)]
    exact itr_c d (i + 1) _ (fun j a h1 h2 => h j a (by omega) (by omega))
theorem itr_s {α : Type} {f : Nat → α → α} : ∀ d i a, itr f (d + 1) i a = f (i + d) (itr f d i a)
  | 0, i, a => rfl
  | d + 1, i, a => by
    show itr f (d + 1) (i + 1) (f i a) = _
    rw [itr_s d (i + 1) (f i a), show i + 1 + d = i + (d + 1) from by omega]
    rfl
/-- numbers of ints that are naturals: for rewriting with omega -/
theorem kI_lt {a b : Nat} (ha : a < 2147483648) (hb : b < 2147483648) : (nI a < nI b) = (a < b) := propext (nI_ltI ha hb)
theorem kI_le {a b : Nat} (ha : a < 2147483648) (hb : b < 2147483648) : (nI a ≤ nI b) = (a ≤ b) := propext (nI_leI ha hb)
theorem kI_eq {a b : Nat} (ha : a < 2147483648) (hb : b < 2147483648) : (nI a = nI b) = (a = b) := propext (nI_eq ha hb)
theorem kI_lt0 {a : Nat} (ha : a < 2147483648) : (nI a < 0) = False := eq_false (nI_pos ha)
theorem kI_sub {a b : Nat} (h : b ≤ a) : nI a - nI b = nI (a - b) := by
  obtain ⟨c, rfl⟩ : ∃ c, a = c + b := ⟨a - b, by omega⟩
  rw [Nat.add_sub_cancel, ← nI_add]
  exact Int32.add_sub_cancel _ _
theorem kI_mul (a b : Nat) : nI a * nI b = nI (a * b) := (Int32.ofNat_mul a b).symm
def ngc (n : Nat) : Int32 := -(nI n)
theorem ng1 : (-1 : Int32) = ngc 1 := rfl
theorem ng2 : (-2 : Int32) = ngc 2 := rfl
theorem ng3 : (-3 : Int32) = ngc 3 := rfl
theorem ng4 : (-4 : Int32) = ngc 4 := rfl
theorem ng5 : (-5 : Int32) = ngc 5 := rfl
theorem ng10 : (-10 : Int32) = ngc 10 := rfl
theorem ng1000 : (-1000 : Int32) = ngc 1000 := rfl
theorem li0 : (0 : Int32) = nI 0 := rfl
theorem li1 : (1 : Int32) = nI 1 := rfl
theorem li2 : (2 : Int32) = nI 2 := rfl
theorem li3 : (3 : Int32) = nI 3 := rfl
theorem li4 : (4 : Int32) = nI 4 := rfl
theorem li5 : (5 : Int32) = nI 5 := rfl
theorem li6 : (6 : Int32) = nI 6 := rfl
theorem li7 : (7 : Int32) = nI 7 := rfl
theorem li8 : (8 : Int32) = nI 8 := rfl
theorem li9 : (9 : Int32) = nI 9 := rfl
theorem li10 : (10 : Int32) = nI 10 := rfl
theorem li11 : (11 : Int32) = nI 11 := rfl
theorem li12 : (12 : Int32) = nI 12 := rfl
theorem li15 : (15 : Int32) = nI 15 := rfl
theorem li16 : (16 : Int32) = nI 16 := rfl
theorem li36 : (36 : Int32) = nI 36 := rfl
theorem li48 : (48 : Int32) = nI 48 := rfl
theorem li50 : (50 : Int32) = nI 50 := rfl
theorem li51 : (51 : Int32) = nI 51 := rfl
theorem li57 : (57 : Int32) = nI 57 := rfl
theorem li59 : (59 : Int32) = nI 59 := rfl
theorem li60 : (60 : Int32) = nI 60 := rfl
theorem li63 : (63 : Int32) = nI 63 := rfl
theorem li72 : (72 : Int32) = nI 72 := rfl
theorem li73 : (73 : Int32) = nI 73 := rfl
theorem li80 : (80 : Int32) = nI 80 := rfl
theorem li85 : (85 : Int32) = nI 85 := rfl
theorem li87 : (87 : Int32) = nI 87 := rfl
theorem li94 : (94 : Int32) = nI 94 := rfl
theorem li96 : (96 : Int32) = nI 96 := rfl
theorem li97 : (97 : Int32) = nI 97 := rfl
theorem li100 : (100 : Int32) = nI 100 := rfl
theorem li101 : (101 : Int32) = nI 101 := rfl
theorem li102 : (102 : Int32) = nI 102 := rfl
theorem li110 : (110 : Int32) = nI 110 := rfl
theorem li118 : (118 : Int32) = nI 118 := rfl
theorem li119 : (119 : Int32) = nI 119 := rfl
theorem li120 : (120 : Int32) = nI 120 := rfl
theorem li122 : (122 : Int32) = nI 122 := rfl
theorem li126 : (126 : Int32) = nI 126 := rfl
theorem li127 : (127 : Int32) = nI 127 := rfl
theorem li140 : (140 : Int32) = nI 140 := rfl
theorem li200 : (200 : Int32) = nI 200 := rfl
theorem li255 : (255 : Int32) = nI 255 := rfl
theorem li280 : (280 : Int32) = nI 280 := rfl
theorem li420 : (420 : Int32) = nI 420 := rfl
theorem li560 : (560 : Int32) = nI 560 := rfl
theorem li896 : (896 : Int32) = nI 896 := rfl
theorem li1000 : (1000 : Int32) = nI 1000 := rfl
theorem li4095 : (4095 : Int32) = nI 4095 := rfl
theorem qI_tb {n j : Nat} (h : n < 2147483648) (hj : j < 32) : (nI n >>> (nI j &&& 31)) &&& nI 1 = nI (bN (n.testBit j)) := kI_tb h hj
theorem qI_1 {j : Nat} (hj : j < 32) : nI 1 <<< (nI j &&& 31) = nI (2 ^ j) := kI_1 hj
theorem qI_adn (a b : Nat) : nI a &&& (nI b ^^^ ngc 1) = nI (adn a b) := kI_adn a b
theorem qN0 (b : Bool) : (nI (bN b) = nI 0) = (b = false) := bN0 b
theorem qN1 (b : Bool) : (nI (bN b) = nI 1) = (b = true) := bN1 b
theorem qI_lt0 {a : Nat} (ha : a < 2147483648) : (nI a < nI 0) = False := eq_false (nI_pos ha)
theorem qI_n {a n : Nat} (h : a + n < 2147483648 ∧ 0 < n) : (nI a = ngc n) = False := eq_false (fun e => by
  have h1 : nI a + nI n = nI 0 := by rw [e]; exact Int32.add_left_neg _
  rw [nI_add] at h1
  have := (nI_eq (by omega) (by omega)).mp h1
  omega)
theorem qm_1 {a : Nat} (ha : a < 1073741824) : (nI a - nI 1 = ngc 1) = (a = 0) := propext ⟨fun e => by
  by_cases h : a = 0
  · exact h
  · rw [kI_sub (by omega), qI_n (by omega)] at e
    exact e.elim, fun e => by subst e; rfl⟩
theorem gI_e2 (μ : jm) {k i a b : Nat} {v : Int32} (h : a = k ∧ b = i) : gI (sI μ k i v) a b = v := if_pos h
theorem jbr_T {x y : Option jr} : jbr (decide True) x y = x := rfl
theorem jbr_F {x y : Option jr} : jbr (decide False) x y = y := rfl
theorem kI_ush {n k : Nat} {q : Int32} (hq : q = nI k) (hn : n < 4294967296) (hk : k < 32) : ((nI n).toUInt32 >>> (q.toUInt32 &&& Int32.toUInt32 31)).toInt32 = nI (n / 2 ^ k) := by
  subst hq
  exact pk_ushrN hn _ k ((by decide +kernel : ∀ n, n < 32 → (((nI n).toUInt32 &&& Int32.toUInt32 31).toBitVec % 32).toNat = n) k hk)
def kb1 (x : Int32) : Int32 := x - ((x.toUInt32 >>> ((1 : Int32).toUInt32 &&& Int32.toUInt32 31)).toInt32 &&& (1431655765 : Int32))
def kb2 (x : Int32) : Int32 := (x &&& (858993459 : Int32)) + ((x.toUInt32 >>> ((2 : Int32).toUInt32 &&& Int32.toUInt32 31)).toInt32 &&& (858993459 : Int32))
def kb3 (x : Int32) : Int32 := (x + (x.toUInt32 >>> ((4 : Int32).toUInt32 &&& Int32.toUInt32 31)).toInt32) &&& (252645135 : Int32)
def kb4 (x : Int32) : Int32 := x + (x.toUInt32 >>> ((8 : Int32).toUInt32 &&& Int32.toUInt32 31)).toInt32
def kb5 (x : Int32) : Int32 := x + (x.toUInt32 >>> ((16 : Int32).toUInt32 &&& Int32.toUInt32 31)).toInt32
def nb1 (n : Nat) : Nat := n - (n / 2 ^ 1 &&& 1431655765)
def nb2 (n : Nat) : Nat := (n &&& 858993459) + (n / 2 ^ 2 &&& 858993459)
def nb3 (n : Nat) : Nat := (n + n / 2 ^ 4) &&& 252645135
def nb4 (n : Nat) : Nat := n + n / 2 ^ 8
def nb5 (n : Nat) : Nat := n + n / 2 ^ 16
theorem kb1_n {n : Nat} (h : n < 65536) : kb1 (nI n) = nI (nb1 n) ∧ nb1 n < 65536 := by
  unfold kb1 nb1
  have h1 : n / 2 ^ 1 &&& 1431655765 ≤ n / 2 ^ 1 := Nat.and_le_left
  have h2 : n / 2 ^ 1 ≤ n := Nat.div_le_self _ _
  rw [kI_ush (q := 1) (k := 1) rfl (by omega) (by omega), show (1431655765 : Int32) = nI 1431655765 from rfl, kI_and, kI_sub (by omega)]
  exact ⟨rfl, by omega⟩
theorem kb2_n {n : Nat} (h : n < 65536) : kb2 (nI n) = nI (nb2 n) ∧ nb2 n < 131072 := by
  unfold kb2 nb2
  have h1 : n &&& 858993459 ≤ n := Nat.and_le_left
  have h2 : n / 2 ^ 2 &&& 858993459 ≤ n / 2 ^ 2 := Nat.and_le_left
  rw [kI_ush (q := 2) (k := 2) rfl (by omega) (by omega), show (858993459 : Int32) = nI 858993459 from rfl, kI_and, kI_and, nI_add]
  exact ⟨rfl, by omega⟩
theorem kb3_n {n : Nat} (h : n < 131072) : kb3 (nI n) = nI (nb3 n) ∧ nb3 n < 262144 := by
  unfold kb3 nb3
  have h1 : (n + n / 2 ^ 4) &&& 252645135 ≤ n + n / 2 ^ 4 := Nat.and_le_left
  rw [kI_ush (q := 4) (k := 4) rfl (by omega) (by omega), show (252645135 : Int32) = nI 252645135 from rfl, nI_add, kI_and]
  exact ⟨rfl, by omega⟩
theorem kb4_n {n : Nat} (h : n < 262144) : kb4 (nI n) = nI (nb4 n) ∧ nb4 n < 524288 := by
  unfold kb4 nb4
  rw [kI_ush (q := 8) (k := 8) rfl (by omega) (by omega), nI_add]
  exact ⟨rfl, by omega⟩
theorem kb5_n {n : Nat} (h : n < 524288) : kb5 (nI n) = nI (nb5 n) := by
  unfold kb5 nb5
  rw [kI_ush (q := 16) (k := 16) rfl (by omega) (by omega), nI_add]
/-- how many bits -/
def pop (m : Nat) : Nat := itr (fun k n => n + bN (m.testBit k)) 31 0 0
theorem pop_nb2 : ∀ a, a < 64 → ∀ b, b < 64 → nb5 (nb4 (nb3 (nb2 (nb1 (64 * a + b))))) &&& 63 = pop (64 * a + b) := by decide +kernel
theorem pop_nb (n : Nat) (h : n < 4096) : nb5 (nb4 (nb3 (nb2 (nb1 n)))) &&& 63 = pop n := by
  have := pop_nb2 (n / 64) (by omega) (n % 64) (by omega)
  rw [show 64 * (n / 64) + n % 64 = n by omega] at this
  exact this
theorem c_bc {n : Nat} (h : n < 4096) (μ : jm) : cj 0 [jI (nI n)] μ = some (some (jI (nI (pop n))), μ) := by
  rw [e_Integer_bitCount]
  show some (some (jI (kb5 (kb4 (kb3 (kb2 (kb1 (nI n))))) &&& (63 : Int32))), μ) = _
  obtain ⟨a1, b1⟩ := kb1_n (n := n) (by omega)
  obtain ⟨a2, b2⟩ := kb2_n b1
  obtain ⟨a3, b3⟩ := kb3_n b2
  obtain ⟨a4, b4⟩ := kb4_n b3
  rw [a1, a2, a3, a4, kb5_n b4, show (63 : Int32) = nI 63 from rfl, kI_and, pop_nb n h]
theorem pop_le (m : Nat) : pop m ≤ 31 := itr_I (n := 31) (fun i a => a ≤ i) (fun i a _ h => by have := bN_le (m.testBit i); omega) (Nat.le_refl 0)
theorem m_ones {m : Nat} (h : m < 2147483648) (μ : jm) : cj 173 [jI (nI m)] μ = some (some (jI (nI (pop m))), μ) := by
  rw [e_M_ones]
  have := lp_f (W := fun i a => evj 173 4 [jI (nI m), jI (nI a), jI (nI i)] [] μ) (f := fun k n => n + bN (m.testBit k)) (n := 31) (fun i a => a ≤ i) (fun i a hi ha => by
    have := bN_le (m.testBit i)
    refine ⟨?_, by omega⟩
    show evj _ _ _ _ _ = evj _ _ _ _ _
    rw [e_M_ones_4, jbr_n (fun z => by have := (nI_leI (by omega) (by omega)).mp (show nI 31 ≤ nI i from z); omega)]
    simp (disch := omega) only [↓ng1, ↓ng2, ↓ng3, ↓ng4, ↓ng5, ↓ng10, ↓ng1000, li0, li1, li2, li3, li4, li5, li6, li7, li8, li9, li10, li11, li12, li15, li16, li36, li48, li50, li51, li57, li59, li60, li63, li72, li73, li80, li85, li87, li94, li96, li97, li100, li101, li102, li110, li118, li119, li120, li122, li126, li127, li140, li200, li255, li280, li420, li560, li896, li1000, li4095, qI_tb, qI_1, qI_adn, kI_and, kI_or, nI_add, kI_sub, kI_mul, qI_lt0, kI_lt, kI_le, kI_eq, qN0, qN1, qI_n, qm_1, ixn, inB_nI, jgd_t, bI_some, bL_some, bV_some, bR_some, gI_e2, gI_ne, gI_sL, jbr_p, jbr_n]) 31 0 0 (by omega) (Nat.le_refl 0)
  refine this.1.trans ?_
  show evj _ _ _ _ _ = _
  rw [e_M_ones_4, jbr_p (by decide)]
  rfl
