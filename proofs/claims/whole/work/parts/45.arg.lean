/-! arguments as naturals: an int below 0 is a great number -/
def un (x : Int32) : Nat := if x.toInt < 0 then 2147483648 else x.toInt.toNat
theorem un_nI {j : Nat} (h : j < 2147483648) : un (nI j) = j := by
  unfold un
  rw [nI_toInt (by omega), if_neg (by omega)]
  omega
theorem un_lt (x : Int32) {n : Nat} (hn : n ≤ 2147483648) : un x < n ↔ 0 ≤ x.toInt ∧ x.toInt < n := by
  unfold un
  split <;> omega
theorem un_c (x : Int32) (n : Nat) (hn : n < 2147483648) : (∃ j : Nat, j < n ∧ x = nI j) ∨ ¬ un x < n := by
  rcases nat_of x n hn with h | h
  · exact Or.inl h
  · exact Or.inr (fun z => by have := (un_lt x (by omega)).mp z; omega)
theorem un_n (x : Int32) : (∃ j : Nat, j < 2147483648 ∧ x = nI j) ∨ (x.toInt < 0 ∧ un x = 2147483648) := by
  by_cases h : x.toInt < 0
  · exact Or.inr ⟨h, if_pos h⟩
  · exact Or.inl (nI_of (fun z => h ((lt0 x).mp z)))
theorem ck1 {x N : Int32} {n : Nat} {A B : Option jr} (hN : N = nI n) (hn : n < 2147483648) : jbr (decide (x < 0)) A (jbr (decide (N ≤ x)) A B) = if un x < n then B else A := by
  subst hN
  by_cases h : un x < n
  · have := (un_lt x (by omega)).mp h
    rw [if_pos h, jbr_n (fun z => by have := (lt0 x).mp z; omega), jbr_n (fun z => by have := (nle x hn).mp z; omega)]
  · rw [if_neg h]
    by_cases h0 : x.toInt < 0
    · rw [jbr_p ((lt0 x).mpr h0)]
    · rw [jbr_n (fun z => h0 ((lt0 x).mp z)), jbr_p ((nle x hn).mpr (by have := mt (un_lt x (n := n) (by omega)).mpr h; omega))]
theorem ck2 {x N : Int32} {n : Nat} {A B : Option jr} (hN : N = nI n) (hn : n < 2147483647) : jbr (decide (x < 0)) A (jbr (decide (N < x)) A B) = if un x < n + 1 then B else A := by
  subst hN
  by_cases h : un x < n + 1
  · have := (un_lt x (by omega)).mp h
    rw [if_pos h, jbr_n (fun z => by have := (lt0 x).mp z; omega), jbr_n (fun z => by have := (nlt x (by omega)).mp z; omega)]
  · rw [if_neg h]
    by_cases h0 : x.toInt < 0
    · rw [jbr_p ((lt0 x).mpr h0)]
    · rw [jbr_n (fun z => h0 ((lt0 x).mp z)), jbr_p ((nlt x (by omega)).mpr (by have := mt (un_lt x (n := n + 1) (by omega)).mpr h; omega))]
theorem ck3 {x N : Int32} {n : Nat} {A B : Option jr} (hN : N = nI n) (hn : n < 2147483647) : jbr (decide (x < 0)) A (jbr (decide (x ≤ N)) B A) = if un x < n + 1 then B else A := by
  subst hN
  by_cases h : un x < n + 1
  · have := (un_lt x (by omega)).mp h
    rw [if_pos h, jbr_n (fun z => by have := (lt0 x).mp z; omega), jbr_p ((len_ x (by omega)).mpr (by omega))]
  · rw [if_neg h]
    by_cases h0 : x.toInt < 0
    · rw [jbr_p ((lt0 x).mpr h0)]
    · rw [jbr_n (fun z => h0 ((lt0 x).mp z)), jbr_n (fun z => by have := mt (un_lt x (n := n + 1) (by omega)).mpr h; have := (len_ x (by omega)).mp z; omega)]
theorem if_bN {c : Prop} [Decidable c] {μ : jm} : (if c then some (some (jI ((1 : Int32) &&& 1)), μ) else some (some (jI ((0 : Int32) &&& 1)), μ)) = (some (some (jI (nI (bN (decide c)))), μ) : Option jr) := by
  by_cases h : c
  · rw [if_pos h, decide_eq_true h]; rfl
  · rw [if_neg h, decide_eq_false h]; rfl
theorem c_isRoom (x : Int32) (μ : jm) : cj 95 [jI x] μ = some (some (jI (nI (bN (decide (un x < 6))))), μ) := by
  rw [e_N_isRoom, ck1 (N := 6) (n := 6) rfl (by omega), if_bN]
theorem c_isNote (x : Int32) (μ : jm) : cj 10 [jI x] μ = some (some (jI (nI (bN (decide (un x < 12))))), μ) := by
  rw [e_Ring_isNote, ck1 (N := 12) (n := 12) rfl (by omega), if_bN]
theorem c_isImage (x : Int32) (μ : jm) : cj 131 [jI x] μ = some (some (jI (nI (bN (decide (un x < 2))))), μ) := by
  rw [e_N_isImage, ck1 (N := 2) (n := 2) rfl (by omega), if_bN]
theorem c_isFog (x : Int32) (μ : jm) : cj 116 [jI x] μ = some (some (jI (nI (bN (decide (un x < 4))))), μ) := by
  rw [e_N_isFog, ck2 (N := 3) (n := 3) rfl (by omega), if_bN]
theorem c_isPerson (k : Nat) (x : Int32) (μ : jm) {n : Nat} (hn : n < 2147483648) (h : gI μ k 6 = nI n) : cj 20 [jR 8 k, jI x] μ = some (some (jI (nI (bN (decide (un x < n))))), μ) := by
  rw [e_Valley_isPerson, ck1 h hn, if_bN]
theorem c_isChord (k : Nat) (x : Int32) (μ : jm) {n : Nat} (hn : n < 2147483648) (h : gI μ k 9 = nI n) : cj 30 [jR 8 k, jI x] μ = some (some (jI (nI (bN (decide (un x < n))))), μ) := by
  rw [e_Valley_isChord, ck1 h hn, if_bN]
theorem c_isHole (k : Nat) (x : Int32) (μ : jm) {n : Nat} (hn : n < 2147483648) (h : gI μ k 14 = nI n) : cj 38 [jR 8 k, jI x] μ = some (some (jI (nI (bN (decide (un x < n))))), μ) := by
  rw [e_Valley_isHole, ck1 h hn, if_bN]
theorem c_isSet (k : Nat) (x : Int32) (μ : jm) {n : Nat} (hn : n ≤ 7) (h : gI μ k 6 = nI n) : cj 26 [jR 8 k, jI x] μ = some (some (jI (nI (bN (decide (un x < 2 ^ n))))), μ) := by
  have h2 : 2 ^ n < 2 ^ 8 := two_lt (by omega)
  rw [e_Valley_isSet, h, ck1 (n := 2 ^ n) (kI_1 (by omega)) (by omega), if_bN]
theorem m_in0 (x : Int32) (b : Int64) (n : Nat) (hn : n ≤ 2147483648) (hb : b.toInt = (n : Int) - 1) (μ : jm) : cj 140 [jL x.toInt64, jL 0, jL b] μ = some (some (jI (nI (bN (decide (un x < n))))), μ) := by
  rw [m_in, hb, show (0 : Int64).toInt = 0 from rfl]
  by_cases h : un x < n
  · rw [decide_eq_true h, if_pos (by have := (un_lt x hn).mp h; omega)]; rfl
  · rw [decide_eq_false h, if_neg (by have := mt (un_lt x hn).mpr h; omega)]; rfl
theorem bN_a (b : Bool) : nI (bN b) &&& (1 : Int32) = nI (bN b) := by cases b <;> rfl
theorem m_isRoom (x : Int32) (μ : jm) : cj 139 [jI x] μ = some (some (jI (nI (bN (decide (un x < 6))))), μ) := by
  rw [e_M_isRoom, m_in0 x 5 6 (by omega) rfl, bI_some, bN_a]
theorem pred_l {n : Nat} (hn : n < 1073741824) : (nI n - (1 : Int32)).toInt64.toInt = (n : Int) - 1 := by
  rw [Int32.toInt_toInt64]
  cases n with
  | zero => rfl
  | succ n => rw [nI_pred, nI_toInt (by omega)]; omega
theorem pred_q {n : Nat} (hn : n < 1073741824) : (nI n - nI 1).toInt64.toInt = (n : Int) - 1 := pred_l hn
theorem bN_q (b : Bool) : nI (bN b) &&& nI 1 = nI (bN b) := bN_a b
theorem jbr_q {c : Prop} [Decidable c] (h : ¬ c) {x y : Option jr} : jbr (decide (¬ c)) x y = x := jbr_p h
theorem jbr_m {c : Prop} [Decidable c] (h : c) {x y : Option jr} : jbr (decide (¬ c)) x y = y := jbr_n (fun z => z h)
theorem m_isOne (r : Nat) (hr : r ≤ 420) (x : Int32) (μ : jm) {n : Nat} (hn : n ≤ 7) (h : gI μ 65 (r + 72) = nI n) : cj 147 [jR 10 64, jI (nI r), jI x] μ = some (some (jI (nI (bN (decide (un x < n))))), μ) := by
  rw [e_M_isOne]
  simp (disch := omega) only [↓ng1, ↓ng2, ↓ng3, ↓ng4, ↓ng5, ↓ng10, ↓ng1000, li0, li1, li2, li3, li4, li5, li6, li7, li8, li9, li10, li11, li12, li15, li16, li36, li48, li50, li51, li57, li59, li60, li63, li72, li73, li80, li85, li87, li94, li96, li97, li100, li101, li102, li110, li118, li119, li120, li122, li126, li127, li140, li200, li255, li280, li420, li560, li896, li1000, li4095, qI_tb, qI_1, qI_adn, kI_and, kI_or, nI_add, kI_sub, kI_mul, qI_lt0, kI_lt, kI_le, kI_eq, qN0, qN1, qI_n, qm_1, ixn, inB_nI, jgd_t, bI_some, bL_some, bV_some, bR_some, gI_e2, gI_ne, gI_sL, jbr_p, jbr_n, h]
  rw [m_in0 x _ n (by omega) (pred_q (by omega)), bI_some, bN_q]
theorem m_isChord (x : Int32) (μ : jm) {n : Nat} (hn : n ≤ 8) (h : gI μ 65 101 = nI n) : cj 170 [jR 10 64, jI x] μ = some (some (jI (nI (bN (decide (un x < n))))), μ) := by
  rw [e_M_isChord]
  simp (disch := omega) only [↓ng1, ↓ng2, ↓ng3, ↓ng4, ↓ng5, ↓ng10, ↓ng1000, li0, li1, li2, li3, li4, li5, li6, li7, li8, li9, li10, li11, li12, li15, li16, li36, li48, li50, li51, li57, li59, li60, li63, li72, li73, li80, li85, li87, li94, li96, li97, li100, li101, li102, li110, li118, li119, li120, li122, li126, li127, li140, li200, li255, li280, li420, li560, li896, li1000, li4095, qI_tb, qI_1, qI_adn, kI_and, kI_or, nI_add, kI_sub, kI_mul, qI_lt0, kI_lt, kI_le, kI_eq, qN0, qN1, qI_n, qm_1, ixn, inB_nI, jgd_t, bI_some, bL_some, bV_some, bR_some, gI_e2, gI_ne, gI_sL, jbr_p, jbr_n, h]
  rw [m_in0 x _ n (by omega) (pred_q (by omega)), bI_some, bN_q]
theorem m_isHole (x : Int32) (μ : jm) {n : Nat} (hn : n ≤ 8) (h : gI μ 65 126 = nI n) : cj 197 [jR 10 64, jI x] μ = some (some (jI (nI (bN (decide (un x < n))))), μ) := by
  rw [e_M_isHole]
  simp (disch := omega) only [↓ng1, ↓ng2, ↓ng3, ↓ng4, ↓ng5, ↓ng10, ↓ng1000, li0, li1, li2, li3, li4, li5, li6, li7, li8, li9, li10, li11, li12, li15, li16, li36, li48, li50, li51, li57, li59, li60, li63, li72, li73, li80, li85, li87, li94, li96, li97, li100, li101, li102, li110, li118, li119, li120, li122, li126, li127, li140, li200, li255, li280, li420, li560, li896, li1000, li4095, qI_tb, qI_1, qI_adn, kI_and, kI_or, nI_add, kI_sub, kI_mul, qI_lt0, kI_lt, kI_le, kI_eq, qN0, qN1, qI_n, qm_1, ixn, inB_nI, jgd_t, bI_some, bL_some, bV_some, bR_some, gI_e2, gI_ne, gI_sL, jbr_p, jbr_n, h]
  rw [m_in0 x _ n (by omega) (pred_q (by omega)), bI_some, bN_q]
theorem m_isSet (x : Int32) (μ : jm) {n : Nat} (hn : n ≤ 7) (h : gI μ 65 72 = nI n) : cj 154 [jR 10 64, jI x] μ = some (some (jI (nI (bN (decide (un x < 2 ^ n))))), μ) := by
  have h2 : 2 ^ n < 2 ^ 8 := two_lt (by omega)
  rw [e_M_isSet]
  simp (disch := omega) only [↓ng1, ↓ng2, ↓ng3, ↓ng4, ↓ng5, ↓ng10, ↓ng1000, li0, li1, li2, li3, li4, li5, li6, li7, li8, li9, li10, li11, li12, li15, li16, li36, li48, li50, li51, li57, li59, li60, li63, li72, li73, li80, li85, li87, li94, li96, li97, li100, li101, li102, li110, li118, li119, li120, li122, li126, li127, li140, li200, li255, li280, li420, li560, li896, li1000, li4095, qI_tb, qI_1, qI_adn, kI_and, kI_or, nI_add, kI_sub, kI_mul, qI_lt0, kI_lt, kI_le, kI_eq, qN0, qN1, qI_n, qm_1, ixn, inB_nI, jgd_t, bI_some, bL_some, bV_some, bR_some, gI_e2, gI_ne, gI_sL, jbr_p, jbr_n, h]
  rw [m_in0 x _ (2 ^ n) (by omega) (pred_q (by omega)), bI_some, bN_q]
theorem m_has {m j : Nat} (h : m < 2147483648) (hj : j < 32) (μ : jm) : cj 155 [jI (nI m), jI (nI j)] μ = some (some (jI (nI (bN (m.testBit j)))), μ) := by
  rw [e_M_has, kI_tb h hj]
  cases m.testBit j <;> rfl
/-- refusals told -/
theorem tel_n (S : sst) {n : Nat} (h : n < 1073741824) : tel S (nI n) = S := by
  have f : ∀ k, 0 < k → k < 5 → ¬ nI n = ngc k := fun k h1 h2 e => by rw [qI_n (by omega)] at e; exact e
  unfold tel
  rw [ng2, ng3, ng4, if_neg (f 2 (by omega) (by omega)), if_neg (f 3 (by omega) (by omega)), if_neg (f 4 (by omega) (by omega))]
theorem c_tel {μ : jm} {S : sst} (x : Int32) (hC : CS μ S) : ∃ m1, bI (cj 96 [jR 9 0, jI x] μ) (fun r m => some (some (jI r), m)) = some (some (jI x), m1) ∧ CS m1 (tel S x) ∧ oc μ m1 := by
  obtain ⟨m1, h1, h2, h3⟩ := c_told x hC
  exact ⟨m1, by rw [h1, bI_some], h2, h3⟩
theorem m_tel {μ : jm} {S : sst} (x : Int32) (hW : WS S) (hM : MS μ S) : ∃ m1, bI (cj 141 [jR 10 64, jI x] μ) (fun r m => some (some (jI r), m)) = some (some (jI x), m1) ∧ MS m1 (tel S x) ∧ om μ m1 := by
  obtain ⟨m1, h1, h2, h3⟩ := m_told x hW hM
  exact ⟨m1, by rw [h1, bI_some], h2, h3⟩
theorem bt_p {b : Bool} (h : b = true) {x y : Option jr} : jbr (decide (¬ nI (bN b) = 0)) x y = x := by subst h; rfl
theorem bt_n {b : Bool} (h : b = false) {x y : Option jr} : jbr (decide (¬ nI (bN b) = 0)) x y = y := by subst h; rfl
theorem bf_p {b : Bool} (h : b = false) {x y : Option jr} : jbr (decide (nI (bN b) = 0)) x y = x := by subst h; rfl
theorem bf_n {b : Bool} (h : b = true) {x y : Option jr} : jbr (decide (nI (bN b) = 0)) x y = y := by subst h; rfl
/-- whole -/
theorem WV_vh0 {v : vst} (h : WV v) : WV (vh0 v) := by
  obtain ⟨w1, w2, w3, w4, w5, w6, w7, w8, w9, w10, w11⟩ := h
  exact ⟨w1, w2, w3, w4, w5, w6, w7, w8, w9, Nat.zero_le _, fun i hi => absurd hi (Nat.not_lt_zero i)⟩
theorem op_whole : opI 121 195 [] Rel := by
  refine opI_of (fun S => nI (vh (sv S))) (fun S => setV S (vh0 (sv S))) (fun S h => WS_setV h (WV_vh0 h.1)) ?_ ?_
  · intro μ S hW hC
    obtain ⟨h1, h2, h3, h4, h5, h6, h7, h8, h9, h10, h11⟩ := hC.1
    have g : ∀ a b, ¬ (a = 1 ∧ b = 14) → gI (sI μ 1 14 0) a b = gI μ a b := fun a b ha => gI_ne μ ha
    refine ⟨sI μ 1 14 0, by rw [e_N_whole, e_Valley_endHoles, bI_some, h10], CS_setV hC ?_ (fun a b ha => ⟨if_neg (by omega), rfl⟩), oc_sI μ (by omega)⟩
    exact ⟨fun a ha => by rw [g _ _ (by omega)]; exact h1 a ha, fun a ha => by rw [g _ _ (by omega)]; exact h2 a ha, by rw [g _ _ (by omega)]; exact h3, fun p hp => by rw [g _ _ (by omega), g _ _ (by omega), g _ _ (by omega), g _ _ (by omega)]; exact h4 p hp, by rw [g _ _ (by omega)]; exact h5, fun i hi => by rw [g _ _ (by omega), g _ _ (by omega)]; exact h6 i hi, by rw [g _ _ (by omega)]; exact h7, by rw [g _ _ (by omega)]; exact h8, fun i hi => by rw [g _ _ (by omega)]; exact h9 i hi, gI_eq μ 1 14 0, fun i hi => absurd hi (Nat.not_lt_zero i)⟩
  · intro μ S hW hM
    obtain ⟨h1, h2, h3, h4, h5, h6, h7, h8, h9, h10, h11⟩ := hM.1
    obtain ⟨-, -, w3, -, w5, -, -, w8, -, w10, -⟩ := hW.1
    have g : ∀ b, b ≠ 126 → gI (sI μ 65 126 0) 65 b = gI μ 65 b := fun b hb => gI_ne μ (fun z => hb z.2)
    refine ⟨sI μ 65 126 0, ?_, MS_setV hW hM ?_ (fun a b ha _ => ⟨if_neg (by omega), rfl⟩), om_sI μ (by omega) (by omega)⟩
    · rw [e_M_whole, show inB (126 : Int32) 560 = true from by decide, jgd_t, jgd_t, show ix (126 : Int32) = 0 + 126 from by decide, h10]
    · exact ⟨fun a b ha hb => by rw [g _ (by omega)]; exact h1 a b ha hb, fun a b ha hb => by rw [g _ (by omega)]; exact h2 a b ha hb, by rw [g _ (by omega)]; exact h3, fun p hp => by have hp : p < vn (sv S) := hp; rw [g _ (by omega), g _ (by omega), g _ (by omega), g _ (by omega)]; exact h4 p hp, by rw [g _ (by omega)]; exact h5, fun i hi => by have hi : i < vc (sv S) := hi; rw [g _ (by omega), g _ (by omega)]; exact h6 i hi, by rw [g _ (by omega)]; exact h7, by rw [g _ (by omega)]; exact h8, fun i hi => by have hi : i < vp (sv S) := hi; rw [g _ (by omega)]; exact h9 i hi, gI_eq μ 65 126 0, fun i hi => absurd hi (Nat.not_lt_zero i)⟩
/-- status -/
theorem op_status (x : Int32) : opI 133 212 [jI x] Rel := by
  rcases un_c x 3 (by omega) with ⟨j, hj, rfl⟩ | hx
  · refine opI_of (fun S => sr S j) (fun S => S) (fun S h => h) ?_ ?_
    · intro μ S hW hC
      obtain ⟨h1, h2, h3, h4, h5, h6, h7, h8, h9, h10, h11⟩ := id hC
      refine ⟨μ, ?_, hC, oc_r μ⟩
      rw [e_N_status]
      match j, hj with
      | 0, _ => rw [jbr_p (by decide), h9]
      | 1, _ => rw [jbr_n (by decide), jbr_p (by decide), h10]
      | 2, _ => rw [jbr_n (by decide), jbr_n (by decide), jbr_p (by decide), h11]
    · intro μ S hW hM
      obtain ⟨h1, h2, h3, h4, h5, h6, h7, h8, h9, h10, h11, h12⟩ := id hM
      refine ⟨μ, ?_, hM, om_r μ⟩
      rw [e_M_status, m_in0 _ 2 3 (by omega) rfl, bI_some, un_nI (by omega), bt_p (decide_eq_true hj), inB_nI hj (by omega), jgd_t, ixn (by omega)]
      match j, hj with
      | 0, _ => rw [h10]
      | 1, _ => rw [h11]
      | 2, _ => rw [h12]
  · refine opI_of (fun S => -1) (fun S => setR S 0) (fun S h => h) ?_ ?_
    · intro μ S hW hC
      refine ⟨_, ?_, CS_cnt (j := 0) hC (by omega), oc_sI μ (by omega)⟩
      rw [e_N_status, jbr_n (fun e => hx (by rw [e]; decide)), jbr_n (fun e => hx (by rw [e]; decide)), jbr_n (fun e => hx (by rw [e]; decide))]
    · intro μ S hW hM
      refine ⟨_, ?_, MS_cnt (j := 0) hW hM (by omega), om_sI μ (by omega) (by omega)⟩
      rw [e_M_status, m_in0 _ 2 3 (by omega) rfl, bI_some, bt_n (decide_eq_false hx)]
      rfl
/-- count -/
def amt (S : sst) (j : Nat) : Nat := if j = 0 then vn (sv S) else if j = 1 then vc (sv S) else if j = 2 then vp (sv S) else if j = 3 then vh (sv S) else stl S
theorem c_amt {μ : jm} {S : sst} (hC : CS μ S) {j : Nat} (hj : j < 5) : cj 135 [jR 9 0, jI (nI j)] μ = some (some (jI (nI (amt S j))), μ) := by
  obtain ⟨⟨-, -, h3, -, h5, -, -, h8, -, h10, -⟩, -, -, -, h46, -⟩ := id hC
  rw [e_N_amount]
  match j, hj with
  | 0, _ => rw [jbr_p (by decide), h3]; rfl
  | 1, _ => rw [jbr_n (by decide), jbr_p (by decide), h5]; rfl
  | 2, _ => rw [jbr_n (by decide), jbr_n (by decide), jbr_p (by decide), h8]; rfl
  | 3, _ => rw [jbr_n (by decide), jbr_n (by decide), jbr_n (by decide), jbr_p (by decide), h10]; rfl
  | 4, _ => rw [jbr_n (by decide), jbr_n (by decide), jbr_n (by decide), jbr_n (by decide), h46]; rfl
theorem m_amt {μ : jm} {S : sst} (hM : MS μ S) {j : Nat} (hj : j < 5) : cj 214 [jR 10 64, jI (nI j)] μ = some (some (jI (nI (amt S j))), μ) := by
  obtain ⟨⟨-, -, h3, -, h5, -, -, h8, -, h10, -⟩, -, -, -, -, h46, -⟩ := id hM
  have i1 : inB (72 : Int32) 560 = true := by decide
  have i2 : inB (101 : Int32) 560 = true := by decide
  have i3 : inB (119 : Int32) 560 = true := by decide
  have i4 : inB (126 : Int32) 560 = true := by decide
  rw [e_M_countOf, i1, i2, i3, i4, jgd_t, jgd_t, jgd_t, jgd_t, show ix (72 : Int32) = 0 + 72 from by decide, show ix (101 : Int32) = 0 + 101 from by decide, show ix (119 : Int32) = 0 + 119 from by decide, show ix (126 : Int32) = 0 + 126 from by decide, h3, h5, h8, h10, h46]
  match j, hj with
  | 0, _ => rw [jbr_n (by decide)]; rfl
  | 1, _ => rw [jbr_p (by decide), jbr_n (by decide)]; rfl
  | 2, _ => rw [jbr_p (by decide), jbr_p (by decide), jbr_n (by decide)]; rfl
  | 3, _ => rw [jbr_p (by decide), jbr_p (by decide), jbr_p (by decide), jbr_n (by decide)]; rfl
  | 4, _ => rw [jbr_p (by decide), jbr_p (by decide), jbr_p (by decide), jbr_p (by decide)]; rfl
theorem op_count (x : Int32) : opI 134 213 [jI x] Rel := by
  rcases un_c x 5 (by omega) with ⟨j, hj, rfl⟩ | hx
  · refine opI_of (fun S => nI (amt S j)) (fun S => S) (fun S h => h) ?_ ?_
    · intro μ S hW hC
      refine ⟨μ, ?_, hC, oc_r μ⟩
      rw [e_N_count, ck3 (N := 4) (n := 4) rfl (by omega), un_nI (by omega), if_pos hj, c_amt hC hj, bI_some]
    · intro μ S hW hM
      refine ⟨μ, ?_, hM, om_r μ⟩
      rw [e_M_count, m_in0 _ 4 5 (by omega) rfl, bI_some, un_nI (by omega), bf_n (decide_eq_true hj), m_amt hM hj, bI_some]
  · refine opI_of (fun S => -2) (fun S => tel S (-2)) (fun S h => WS_tel h _) ?_ ?_
    · intro μ S hW hC
      rw [e_N_count, ck3 (N := 4) (n := 4) rfl (by omega), if_neg hx]
      exact c_tel _ hC
    · intro μ S hW hM
      rw [e_M_count, m_in0 _ 4 5 (by omega) rfl, bI_some, bf_p (decide_eq_false hx)]
      exact m_tel _ hW hM
/-- part -/
theorem op_part (x : Int32) : opL 129 209 [jI x] Rel := by
  rcases un_c x 2 (by omega) with ⟨j, hj, rfl⟩ | hx
  · refine opL_of (fun S => if j = 0 then sa S else sb S) (fun S => S) (fun S h => h) ?_ ?_
    · intro μ S hW hC
      obtain ⟨h1, h2, h3, h4, h5, h6, h7, h8, h9, h10, h11⟩ := id hC
      refine ⟨μ, ?_, hC, oc_r μ⟩
      rw [e_N_part, ck3 (N := 1) (n := 1) rfl (by omega), un_nI (by omega), if_pos hj]
      match j, hj with
      | 0, _ => rw [jbr_n (by decide), h7]; rfl
      | 1, _ => rw [jbr_p (by decide), h8]; rfl
    · intro μ S hW hM
      obtain ⟨h1, h2, h3, h4, h5, h6, h7, h8, h9, h10, h11, h12⟩ := id hM
      refine ⟨μ, ?_, hM, om_r μ⟩
      rw [e_M_part]
      match j, hj with
      | 0, _ => rw [jbr_n (by decide), h8]; rfl
      | 1, _ => rw [jbr_p (by decide), jbr_n (by decide), h9]; rfl
  · refine opL_of (fun S => (-2 : Int32).toInt64) (fun S => tel S (-2)) (fun S h => WS_tel h _) ?_ ?_
    · intro μ S hW hC
      obtain ⟨m1, a1, a2, a3⟩ := c_told (-2) hC
      refine ⟨m1, ?_, a2, a3⟩
      rw [e_N_part, ck3 (N := 1) (n := 1) rfl (by omega), if_neg hx, a1, bI_some]
    · intro μ S hW hM
      obtain ⟨m1, a1, a2, a3⟩ := m_told (-2) hW hM
      refine ⟨m1, ?_, a2, a3⟩
      rw [e_M_part, jbr_q (fun e => hx (by rw [e]; decide)), jbr_q (fun e => hx (by rw [e]; decide)), a1, bI_some]
