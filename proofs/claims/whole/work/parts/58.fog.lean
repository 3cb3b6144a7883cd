/-! taken, drop -/
def nr (x y f : Nat) : Bool := decide ((if x < y then y - x else x - y) ≤ f) || decide (12 - (if x < y then y - x else x - y) ≤ f)
theorem nr_d : ∀ x, x < 12 → ∀ y, y < 12 → ∀ f, f < 7 → (nea (2 ^ x) f).testBit y = nr x y f := by decide +kernel
def tka (m1 m2 f k w n : Nat) : Bool := itr (fun i b => b && nr (nts m1 i) (nts m2 ((k + w * i) % 3)) f) n 0 true
def tk (m1 m2 f : Nat) : Bool := (List.range 3).any (fun k => (List.range 2).any (fun w => tka m1 m2 f k (w + 1) 3))
theorem itr_fo {α : Type} (f : Nat → α → α) (a : α) : ∀ n, itr f n 0 a = (List.range n).foldl (fun a i => f i a) a
  | 0 => rfl
  | n + 1 => by
    rw [itr_s, itr_fo f a n, Nat.zero_add, List.range_succ, List.foldl_append]
    rfl
theorem fl_b : ∀ a, a < 12 → ∀ b, b < 12 → ∀ c, c < 12 → a < b → b < c → decide ((List.range 12).filter (fun x => (2 ^ a + 2 ^ b + 2 ^ c).testBit x) = [a, b, c]) = true := by decide +kernel
theorem fl_d (a : Nat) (ha : a < 12) (b : Nat) (hb : b < 12) (c : Nat) (hc : c < 12) (h1 : a < b) (h2 : b < c) : (List.range 12).filter (fun x => (2 ^ a + 2 ^ b + 2 ^ c).testBit x) = [a, b, c] := of_decide_eq_true (fl_b a ha b hb c hc h1 h2)
theorem itr_3 {α : Type} (h : Nat → α → α) (s : α) {a b c : Nat} (h1 : a < b) (h2 : b < c) (h3 : c < 12) : itr (fun n F => if (2 ^ a + 2 ^ b + 2 ^ c).testBit n = true then h n F else F) 12 0 s = h c (h b (h a s)) := by
  have e := fl_d a (by omega) b (by omega) c h3 h1 h2
  have e2 : (List.foldl (fun F n => h n F) s ((List.range 12).filter (fun x => (2 ^ a + 2 ^ b + 2 ^ c).testBit x))) = h c (h b (h a s)) := by rw [e]; rfl
  rw [List.foldl_filter] at e2
  rw [itr_fo]
  exact e2
theorem pm_d : [false, true].all (fun x1 => [false, true].all (fun x2 => [false, true].all (fun x3 => [false, true].all (fun y1 => [false, true].all (fun y2 => [false, true].all (fun y3 => [false, true].all (fun z1 => [false, true].all (fun z2 => [false, true].all (fun z3 => decide ((fb (fb (fb 1 x1 x2 x3) y1 y2 y3) z1 z2 z3).testBit 7 = ((((true && x1) && y2) && z3) || (((true && x1) && y3) && z2) || (((true && x2) && y3) && z1) || (((true && x2) && y1) && z3) || (((true && x3) && y1) && z2) || (((true && x3) && y2) && z1))) && decide (fb (fb (fb 1 x1 x2 x3) y1 y2 y3) z1 z2 z3 < 256)))))))))) = true := by decide +kernel
theorem pm_e (x1 x2 x3 y1 y2 y3 z1 z2 z3 : Bool) : (fb (fb (fb 1 x1 x2 x3) y1 y2 y3) z1 z2 z3).testBit 7 = ((((true && x1) && y2) && z3) || (((true && x1) && y3) && z2) || (((true && x2) && y3) && z1) || (((true && x2) && y1) && z3) || (((true && x3) && y1) && z2) || (((true && x3) && y2) && z1)) ∧ fb (fb (fb 1 x1 x2 x3) y1 y2 y3) z1 z2 z3 < 256 := by
  have h := List.all_eq_true.mp (List.all_eq_true.mp (List.all_eq_true.mp (List.all_eq_true.mp (List.all_eq_true.mp (List.all_eq_true.mp (List.all_eq_true.mp (List.all_eq_true.mp (List.all_eq_true.mp pm_d x1 (bl_m _)) x2 (bl_m _)) x3 (bl_m _)) y1 (bl_m _)) y2 (bl_m _)) y3 (bl_m _)) z1 (bl_m _)) z2 (bl_m _)) z3 (bl_m _)
  rw [Bool.and_eq_true] at h
  exact ⟨of_decide_eq_true h.1, of_decide_eq_true h.2⟩
theorem any3 (g : Nat → Bool) : (List.range 3).any g = (g 0 || g 1 || g 2) := by
  show (g 0 || (g 1 || (g 2 || false))) = _
  rw [Bool.or_false, Bool.or_assoc]
theorem any2 (g : Nat → Bool) : (List.range 2).any g = (g 0 || g 1) := by
  show (g 0 || (g 1 || false)) = _
  rw [Bool.or_false]
theorem tk_e (m1 m2 f : Nat) : tk m1 m2 f = ((((true && nr (nts m1 0) (nts m2 0) f) && nr (nts m1 1) (nts m2 1) f) && nr (nts m1 2) (nts m2 2) f) || (((true && nr (nts m1 0) (nts m2 0) f) && nr (nts m1 1) (nts m2 2) f) && nr (nts m1 2) (nts m2 1) f) || (((true && nr (nts m1 0) (nts m2 1) f) && nr (nts m1 1) (nts m2 2) f) && nr (nts m1 2) (nts m2 0) f) || (((true && nr (nts m1 0) (nts m2 1) f) && nr (nts m1 1) (nts m2 0) f) && nr (nts m1 2) (nts m2 2) f) || (((true && nr (nts m1 0) (nts m2 2) f) && nr (nts m1 1) (nts m2 0) f) && nr (nts m1 2) (nts m2 1) f) || (((true && nr (nts m1 0) (nts m2 2) f) && nr (nts m1 1) (nts m2 1) f) && nr (nts m1 2) (nts m2 0) f)) := by
  unfold tk
  rw [any3, any2, any2, any2]
  simp only [Bool.or_assoc]
  rfl
theorem c_conf {a b c d e g f : Nat} (h1 : a < b) (h2 : b < c) (h3 : c < 12) (k1 : d < e) (k2 : e < g) (k3 : g < 12) (hf : f ≤ 3) (μ : jm) : cj 63 [jI (nI (2 ^ a + 2 ^ b + 2 ^ c)), jI (nI (2 ^ d + 2 ^ e + 2 ^ g)), jI (nI f)] μ = some (some (jI (nI (bN (tk (2 ^ a + 2 ^ b + 2 ^ c) (2 ^ d + 2 ^ e + 2 ^ g) f)))), μ) := by
  obtain ⟨n0, n1, n2⟩ := nts_d a (by omega) b (by omega) c h3 h1 h2
  obtain ⟨p0, p1, p2⟩ := nts_d d (by omega) e (by omega) g k3 k1 k2
  rw [e_Fog_confuses]
  have L := lp_f (W := fun n F => evj 63 5 [jI (nI (2 ^ a + 2 ^ b + 2 ^ c)), jI (nI (2 ^ d + 2 ^ e + 2 ^ g)), jI (nI f), jI (nI F), jI (nI n), jU] [] μ) (f := fun n F => if (2 ^ a + 2 ^ b + 2 ^ c).testBit n = true then fb F (nr n d f) (nr n e f) (nr n g f) else F) (n := 12) (fun _ F => F < 256) (fun n F hn hF => by
    refine ⟨?_, ?_⟩
    · show evj _ _ _ _ _ = evj _ _ _ _ _
      rw [e_Fog_confuses_5, li12, bk_le (by omega) (by omega), jbr_n (by omega), kI_1 (by omega), jb_and hn, kI_and, and2, show nI n + 1 = nI (n + 1) from nI_add n 1]
      cases ht : (2 ^ a + 2 ^ b + 2 ^ c).testBit n
      · rw [if_neg (by decide), if_neg (by decide)]
      · rw [if_pos rfl, if_pos rfl, if_pos rfl, c_nea (two_12 hn) (by omega), bI_some, c_fb hF k1 k2 k3, bI_some, nr_d n hn d (by omega) f (by omega), nr_d n hn e (by omega) f (by omega), nr_d n hn g (by omega) f (by omega)]
    · show (if _ then _ else _) < 256
      split
      · have g1 : F &&& 85 ≤ 85 := Nat.and_le_right
        have g2 : F &&& 51 ≤ 51 := Nat.and_le_right
        have g3 : F &&& 15 ≤ 15 := Nat.and_le_right
        refine or_lt 8 (or_lt 8 ?_ ?_) ?_
        · split <;> omega
        · split <;> omega
        · split <;> omega
      · exact hF) 12 0 1 (by omega) (by omega)
  rw [itr_3 (fun n F => fb F (nr n d f) (nr n e f) (nr n g f)) 1 h1 h2 h3] at L
  obtain ⟨q1, q2⟩ := pm_e (nr a d f) (nr a e f) (nr a g f) (nr b d f) (nr b e f) (nr b g f) (nr c d f) (nr c e f) (nr c g f)
  refine Eq.trans L.1 ?_
  show evj _ _ _ _ _ = _
  rw [e_Fog_confuses_5, jbr_p (by decide), e_Ring_isWholeChord, show (7 : Int32) = nI 7 from rfl, kI_tb (by omega) (by omega), jbr_bN, bI_some, bN_a, q1, tk_e, n0, n1, n2, p0, p1, p2]
/-- the reference's notes -/
def cbl (m n : Nat) : Nat := itr (fun x k => if m.testBit x = true then k + 1 else k) n 0 0
theorem cbl_s (m n : Nat) : cbl m (n + 1) = if m.testBit n = true then cbl m n + 1 else cbl m n := by
  show itr _ (n + 1) 0 0 = _
  rw [itr_s, Nat.zero_add]
  rfl
theorem cbl_d : ∀ a, a < 12 → ∀ b, b < 12 → ∀ c, c < 12 → a < b → b < c → (decide (cbl (2 ^ a + 2 ^ b + 2 ^ c) 12 = 3) && (List.range 12).all (fun x => !(2 ^ a + 2 ^ b + 2 ^ c).testBit x || decide (nts (2 ^ a + 2 ^ b + 2 ^ c) (cbl (2 ^ a + 2 ^ b + 2 ^ c) x) = x))) = true := by decide +kernel
theorem nI_m1 {l : Nat} (h : 1 ≤ l) : nI l + -1 = nI (l - 1) := by
  rw [← Int32.sub_eq_add_neg]
  exact kI_sub h
theorem m_note {i c : Nat} {μ : jm} {v : vst} (hw : WV v) (hv : MV μ 0 v) (hc : c < vc v) (hi : i < 3) : cj 188 [jR 10 64, jI (nI c), jI (nI i)] μ = some (some (jI (nI (nts (vC v c) i))), μ) := by
  have w5 : vc v ≤ 8 := hw.2.2.2.2.1
  obtain ⟨⟨a, b, d, h1, h2, h3, h4⟩, -, -⟩ := hw.2.2.2.2.2.1 c hc
  have hC : gI μ 65 (102 + c) = nI (vC v c) := by have := (hv.2.2.2.2.2.1 c hc).1; rwa [show 0 + 102 + c = 102 + c from by omega] at this
  have hl : vC v c < 4096 := isCh_lt (hw.2.2.2.2.2.1 c hc).1
  have hd := cbl_d a (by omega) b (by omega) d h3 h1 h2
  rw [← h4, Bool.and_eq_true] at hd
  have e12 := of_decide_eq_true hd.1
  rw [e_M_noteOf]
  refine lp_x (W := fun x (l : Nat) => evj 188 5 [jR 10 64, jI (nI c), jU, jI (nI l), jI (nI x)] [] μ) (n := 12) (fun o => o = some (some (jI (nI (nts (vC v c) i))), μ)) (fun x l => l + cbl (vC v c) x = i) (fun l hl => ?_) (fun x l hx hI => ?_) 12 0 i (by omega) rfl
  · omega
  · show (∃ a', evj _ _ _ _ _ = evj _ _ _ _ _ ∧ _) ∨ evj _ _ _ _ _ = _
    rw [e_M_noteOf_5, li12, bk_le (by omega) (by omega), jbr_n (by omega), li102, nI_add, inB_nI (by omega) (by omega), jgd_t, ixn (by omega), hC, m_has (by omega) (by omega), bI_some, show nI x + 1 = nI (x + 1) from nI_add x 1]
    cases ht : (vC v c).testBit x
    · rw [bf_p rfl]
      exact Or.inl ⟨l, rfl, by rw [cbl_s, ht, if_neg (by decide)]; exact hI⟩
    · rw [bf_n rfl, li0, bk_ne (by omega) (by omega)]
      by_cases e : l = 0
      · rw [jbr_n (fun z => z e)]
        refine Or.inr ?_
        have := List.all_eq_true.mp hd.2 x (List.mem_range.mpr hx)
        rw [ht, Bool.not_true, Bool.false_or] at this
        have := of_decide_eq_true this
        rw [show cbl (vC v c) x = i from by omega] at this
        rw [this]
      · rw [jbr_p e]
        refine Or.inl ⟨l - 1, ?_, ?_⟩
        · rw [nI_m1 (by omega)]
        · rw [cbl_s, ht, if_pos rfl]; omega
theorem m_near {x y f : Nat} (hx : x < 12) (hy : y < 12) (hf : f ≤ 6) (μ : jm) : cj 189 [jI (nI x), jI (nI y), jI (nI f)] μ = some (some (jI (nI (bN (nr x y f)))), μ) := by
  have key : ∀ d, d < 12 → evj 189 14 [jU, jU, jI (nI f), jU] [jI (nI d)] μ = some (some (jI (nI (bN (decide (d ≤ f) || decide (12 - d ≤ f))))), μ) := fun d hd => by
    rw [e_M_areNear_14, bk_le (by omega) (by omega)]
    by_cases e : d ≤ f
    · rw [jbr_p e, decide_eq_true e, Bool.true_or]; rfl
    · rw [jbr_n e, decide_eq_false e, Bool.false_or, li12, kI_sub (by omega), bk_lt (by omega) (by omega)]
      by_cases e2 : 12 - d ≤ f
      · rw [jbr_n (by omega), decide_eq_true e2]; rfl
      · rw [jbr_p (by omega), decide_eq_false e2]; rfl
  rw [e_M_areNear, bk_le (by omega) (by omega)]
  unfold nr
  by_cases e : x < y
  · rw [jbr_n (by omega), kI_sub (by omega), key _ (by omega), if_pos e]
  · rw [jbr_p (by omega), kI_sub (by omega), key _ (by omega), if_neg e]
theorem rem3 : ∀ n, n < 7 → nI n - nI n / 3 * 3 = nI (n % 3) := by decide +kernel
theorem nts_lt {m : Nat} (h : isCh m) {i : Nat} (hi : i < 3) : nts m i < 12 := by
  obtain ⟨a, b, c, h1, h2, h3, h4⟩ := h
  obtain ⟨n0, n1, n2⟩ := nts_d a (by omega) b (by omega) c h3 h1 h2
  rw [h4]
  match i, hi with
  | 0, _ => omega
  | 1, _ => omega
  | 2, _ => omega
theorem any_f {n : Nat} {g : Nat → Bool} (h : ∀ i, i < n → g i = false) : (List.range n).any g = false := by
  rw [List.any_eq_false]
  intro x hx
  rw [h x (List.mem_range.mp hx)]
  decide
theorem m_tk {c d f : Nat} {μ : jm} {v : vst} (hw : WV v) (hv : MV μ 0 v) (hc : c < vc v) (hd : d < vc v) (hf : f ≤ 3) : cj 187 [jR 10 64, jI (nI c), jI (nI d), jI (nI f)] μ = some (some (jI (nI (bN (tk (vC v c) (vC v d) f)))), μ) := by
  have w5 : vc v ≤ 8 := hw.2.2.2.2.1
  have c1 := (hw.2.2.2.2.2.1 c hc).1
  have c2 := (hw.2.2.2.2.2.1 d hd).1
  rw [e_M_areTaken]
  refine lp_x (W := fun k (_ : Unit) => evj 187 3 [jR 10 64, jI (nI c), jI (nI d), jI (nI f), jI (nI k), jU, jU, jU] [] μ) (n := 3) (fun o => o = some (some (jI (nI (bN (tk (vC v c) (vC v d) f)))), μ)) (fun k _ => ∀ j, j < k → ∀ w, w < 2 → tka (vC v c) (vC v d) f j (w + 1) 3 = false) (fun _ hI => ?_) (fun k _ hk hI => ?_) 3 0 () (by omega) (fun j hj => absurd hj (Nat.not_lt_zero j))
  · show evj _ _ _ _ _ = _
    rw [e_M_areTaken_3, jbr_p (by decide)]
    have : tk (vC v c) (vC v d) f = false := any_f (fun k hk => any_f (fun w hw => hI k hk w hw))
    rw [this]
    rfl
  · show (∃ a', evj _ _ _ _ _ = evj _ _ _ _ _ ∧ _) ∨ evj _ _ _ _ _ = _
    rw [e_M_areTaken_3, li3, bk_le (by omega) (by omega), jbr_n (by omega)]
    have M := lp_x (W := fun w (_ : Unit) => evj 187 12 [jR 10 64, jI (nI c), jI (nI d), jI (nI f), jI (nI k), jI (nI (w + 1)), jU, jU] [] μ) (n := 2) (fun o => (o = evj 187 3 [jR 10 64, jI (nI c), jI (nI d), jI (nI f), jI (nI (k + 1)), jU, jU, jU] [] μ ∧ ∀ w, w < 2 → tka (vC v c) (vC v d) f k (w + 1) 3 = false) ∨ o = some (some (jI (nI (bN (tk (vC v c) (vC v d) f)))), μ)) (fun w _ => ∀ j, j < w → tka (vC v c) (vC v d) f k (j + 1) 3 = false) (fun _ hI => ?_) (fun w _ hw2 hI => ?_) 2 0 () (by omega) (fun j hj => absurd hj (Nat.not_lt_zero j))
    · rcases M with ⟨e1, e2⟩ | e1
      · refine Or.inl ⟨(), e1, fun j hj w hw => ?_⟩
        by_cases e : j = k
        · subst e; exact e2 w hw
        · exact hI j (by omega) w hw
      · exact Or.inr e1
    · refine Or.inl ⟨?_, hI⟩
      show evj _ _ _ _ _ = _
      rw [e_M_areTaken_12, jbr_p (by decide), show nI k + 1 = nI (k + 1) from nI_add k 1]
    · show (∃ a', evj _ _ _ _ _ = evj _ _ _ _ _ ∧ _) ∨ (evj _ _ _ _ _ = _ ∧ _) ∨ evj _ _ _ _ _ = _
      have L := lp_f (W := fun i (b : Bool) => evj 187 24 [jR 10 64, jI (nI c), jI (nI d), jI (nI f), jI (nI k), jI (nI (w + 1)), jI (nI (bN b)), jI (nI i)] [] μ) (f := fun i b => b && nr (nts (vC v c) i) (nts (vC v d) ((k + (w + 1) * i) % 3)) f) (n := 3) (fun _ _ => True) (fun i b hi _ => by
        refine ⟨?_, trivial⟩
        show evj _ _ _ _ _ = evj _ _ _ _ _
        have hki : (w + 1) * i ≤ 2 * 2 := Nat.mul_le_mul (by omega) (by omega)
        have hm3 : (k + (w + 1) * i) % 3 < 3 := Nat.mod_lt _ (by omega)
        rw [e_M_areTaken_24, show (3 : Int32) = nI 3 from rfl, bk_le (by omega) (by omega), jbr_n (by omega), show nI i + 1 = nI (i + 1) from nI_add i 1]
        cases b
        · rw [bf_p rfl, Bool.false_and]
          rfl
        · rw [bf_n rfl, m_note hw hv hc hi, bI_some, show decide (¬ nI 3 = 0) = true from by decide, jgd_t, kI_mul, nI_add, show nI (k + (w + 1) * i) - nI (k + (w + 1) * i) / nI 3 * nI 3 = nI ((k + (w + 1) * i) % 3) from rem3 _ (by omega), m_note hw hv hd hm3, bI_some, m_near (nts_lt c1 hi) (nts_lt c2 hm3) (by omega), bI_some, Bool.true_and]
          cases nr (nts (vC v c) i) (nts (vC v d) ((k + (w + 1) * i) % 3)) f
          · rw [bf_p rfl]; rfl
          · rw [bf_n rfl]; rfl) 3 0 true (by omega) trivial
      rw [e_M_areTaken_12, show (3 : Int32) = nI 3 from rfl, bk_le (by omega) (by omega), jbr_n (by omega)]
      have L1 : evj 187 24 [jR 10 64, jI (nI c), jI (nI d), jI (nI f), jI (nI k), jI (nI (w + 1)), jI (1 : Int32), jI (0 : Int32)] [] μ = evj 187 24 [jR 10 64, jI (nI c), jI (nI d), jI (nI f), jI (nI k), jI (nI (w + 1)), jI (nI (bN (tka (vC v c) (vC v d) f k (w + 1) 3))), jI (nI 3)] [] μ := L.1
      rw [L1, e_M_areTaken_24, jbr_p (by decide)]
      cases ht : tka (vC v c) (vC v d) f k (w + 1) 3
      · rw [bf_p rfl, show nI (w + 1) + 1 = nI (w + 1 + 1) from nI_add (w + 1) 1]
        refine Or.inl ⟨(), rfl, fun j hj => ?_⟩
        by_cases e : j = w
        · subst e; exact ht
        · exact hI j (by omega)
      · rw [bf_n rfl]
        refine Or.inr (Or.inr ?_)
        have : tk (vC v c) (vC v d) f = true := List.any_eq_true.mpr ⟨k, List.mem_range.mpr hk, List.any_eq_true.mpr ⟨w, List.mem_range.mpr hw2, ht⟩⟩
        rw [this]
        rfl
/-- taken -/
abbrev tOk (x y z : Int32) (v : vst) : Prop := un x < vc v ∧ un y < vc v ∧ ¬ x = y ∧ un z < 4
def fTk (x y z : Int32) (v : vst) : Int32 := if tOk x y z v then nI (bN (tk (vC v (un x)) (vC v (un y)) (un z))) else -2
theorem un_3 {x : Int32} {μ : jm} : cj 140 [jL x.toInt64, jL 0, jL 3] μ = some (some (jI (nI (bN (decide (un x < 4))))), μ) := m_in0 x 3 4 (by omega) rfl μ
theorem c_confv {c d f : Nat} {k : Nat} {μ : jm} {v : vst} (hw : WV v) (hv : CV μ k v) (hc : c < vc v) (hd : d < vc v) (hf : f ≤ 3) : cj 63 [jI (gI μ (k + 7) c), jI (gI μ (k + 7) d), jI (nI f)] μ = some (some (jI (nI (bN (tk (vC v c) (vC v d) f)))), μ) := by
  obtain ⟨a1, a2, a3, b1, b2, b3, b4⟩ := (hw.2.2.2.2.2.1 c hc).1
  obtain ⟨d1, d2, d3, f1, f2, f3, f4⟩ := (hw.2.2.2.2.2.1 d hd).1
  rw [(hv.2.2.2.2.2.1 c hc).1, (hv.2.2.2.2.2.1 d hd).1, b4, f4]
  exact c_conf b1 b2 b3 f1 f2 f3 hf μ
theorem op_taken (x y z : Int32) : opI 115 186 [jI x, jI y, jI z] Rel := by
  refine opI_of (fun S => fTk x y z (sv S)) (fun S => tel S (fTk x y z (sv S))) (fun S h => WS_tel h _) ?_ ?_
  · intro μ S hW hC
    have w5 : vc (sv S) ≤ 8 := hW.1.2.2.2.2.1
    have bad : ¬ tOk x y z (sv S) → ∃ m1, evj 115 34 [jR 9 0, jU, jU, jU] [] μ = some (some (jI (fTk x y z (sv S))), m1) ∧ CS m1 (tel S (fTk x y z (sv S))) ∧ oc μ m1 := fun hn => by
      have fe : fTk x y z (sv S) = _ := if_neg hn
      rw [fe, e_N_taken_34]
      exact c_tel _ hC
    rw [e_N_taken, c_isChord 1 x μ (by omega) hC.1.2.2.2.2.1, bI_some]
    by_cases h1 : un x < vc (sv S)
    · rw [bf_n (decide_eq_true h1), c_isChord 1 y μ (by omega) hC.1.2.2.2.2.1, bI_some]
      by_cases h2 : un y < vc (sv S)
      · rw [bf_n (decide_eq_true h2)]
        by_cases h3 : x = y
        · rw [jbr_p h3]
          exact bad (fun q => q.2.2.1 h3)
        · rw [jbr_n h3, c_isFog, bI_some]
          by_cases h4 : un z < 4
          · have fe : fTk x y z (sv S) = _ := if_pos ⟨h1, h2, h3, h4⟩
            rw [fe, bt_p (decide_eq_true h4)]
            obtain ⟨c, hc, rfl⟩ := un_x h1 (by omega)
            obtain ⟨d, hd, rfl⟩ := un_x h2 (by omega)
            obtain ⟨f, hf, rfl⟩ := un_x h4 (by omega)
            have hb := bN_le (tk (vC (sv S) c) (vC (sv S) d) f)
            rw [inB_nI (by omega) (by omega), jgd_t, inB_nI (by omega) (by omega), jgd_t, ixn (by omega), ixn (by omega), c_confv (k := 1) hW.1 hC.1 hc hd (by omega), bI_some, e_N_taken_71, e_N_taken_71, jbr_b2, un_nI (by omega), un_nI (by omega), un_nI (by omega), tel_n S (by omega)]
            exact ⟨_, rfl, hC, oc_r μ⟩
          · rw [bt_n (decide_eq_false h4)]
            exact bad (fun q => h4 q.2.2.2)
      · rw [bf_p (decide_eq_false h2)]
        exact bad (fun q => h2 q.2.1)
    · rw [bf_p (decide_eq_false h1)]
      exact bad (fun q => h1 q.1)
  · intro μ S hW hM
    have w5 : vc (sv S) ≤ 8 := hW.1.2.2.2.2.1
    have bad : ¬ tOk x y z (sv S) → ∃ m1, evj 186 33 [jR 10 64, jU, jU, jU] [] μ = some (some (jI (fTk x y z (sv S))), m1) ∧ MS m1 (tel S (fTk x y z (sv S))) ∧ om μ m1 := fun hn => by
      have fe : fTk x y z (sv S) = _ := if_neg hn
      rw [fe, e_M_taken_33]
      exact m_tel _ hW hM
    rw [e_M_taken, m_isChord x μ w5 hM.1.2.2.2.2.1, bI_some]
    by_cases h1 : un x < vc (sv S)
    · rw [bf_n (decide_eq_true h1), m_isChord y μ w5 hM.1.2.2.2.2.1, bI_some]
      by_cases h2 : un y < vc (sv S)
      · rw [bf_n (decide_eq_true h2)]
        by_cases h3 : x = y
        · rw [jbr_p h3]
          exact bad (fun q => q.2.2.1 h3)
        · rw [jbr_n h3, un_3, bI_some]
          by_cases h4 : un z < 4
          · have fe : fTk x y z (sv S) = _ := if_pos ⟨h1, h2, h3, h4⟩
            rw [fe, bt_p (decide_eq_true h4)]
            obtain ⟨c, hc, rfl⟩ := un_x h1 (by omega)
            obtain ⟨d, hd, rfl⟩ := un_x h2 (by omega)
            obtain ⟨f, hf, rfl⟩ := un_x h4 (by omega)
            have hb := bN_le (tk (vC (sv S) c) (vC (sv S) d) f)
            rw [m_tk hW.1 hM.1 hc hd (by omega), bI_some, e_M_taken_55, e_M_taken_55, jbr_b2, un_nI (by omega), un_nI (by omega), un_nI (by omega), tel_n S (by omega)]
            exact ⟨_, rfl, hM, om_r μ⟩
          · rw [bt_n (decide_eq_false h4)]
            exact bad (fun q => h4 q.2.2.2)
      · rw [bf_p (decide_eq_false h2)]
        exact bad (fun q => h2 q.2.1)
    · rw [bf_p (decide_eq_false h1)]
      exact bad (fun q => h1 q.1)
