/-! doors and hearing: join, tie -/
def vup {α : Type} (f : Nat → α) (i : Nat) (x : α) : Nat → α := fun j => if j = i then x else f j
theorem vup_e {α : Type} (f : Nat → α) (i : Nat) (x : α) : vup f i x i = x := if_pos rfl
theorem vup_n {α : Type} (f : Nat → α) {i j : Nat} (x : α) (h : j ≠ i) : vup f i x j = f j := if_neg h
theorem un_x {x : Int32} {n : Nat} (h : un x < n) (hn : n < 2147483648) : ∃ a, a < n ∧ x = nI a := (un_c x n hn).resolve_right (fun z => z h)
theorem tb_or1 (m j i : Nat) : (m ||| 2 ^ j).testBit i = (m.testBit i || decide (j = i)) := by rw [Nat.testBit_or, Nat.testBit_two_pow]
abbrev jOk (x y : Int32) : Prop := un x < 6 ∧ un y < 6 ∧ ¬ x = y
def fJ (x y : Int32) (D : Nat → Nat) : Int32 := if jOk x y then (if (D (un x)).testBit (un y) then -3 else 1) else -2
def gJ (x y : Int32) (D : Nat → Nat) : Nat → Nat := if jOk x y then (if (D (un x)).testBit (un y) then D else vup (vup D (un x) (D (un x) ||| 2 ^ un y)) (un y) (D (un y) ||| 2 ^ un x)) else D
theorem c_join (kk : Nat) (x y : Int32) (μ : jm) (D : Nat → Nat) (hD : ∀ a, a < 6 → gI μ kk a = nI (D a)) (hd : ∀ a, a < 6 → D a < 64) : ∃ m1, cj 16 [jR 1006 kk, jI x, jI y] μ = some (some (jI (fJ x y D)), m1) ∧ (∀ a, a < 6 → gI m1 kk a = nI (gJ x y D a)) ∧ (∀ a b, a ≠ kk → m1.1 a b = μ.1 a b ∧ m1.2 a b = μ.2 a b) := by
  rw [e_Valley_join, c_isRoom, bI_some]
  by_cases h : jOk x y
  · have fe : fJ x y D = _ := if_pos h
    have ge : gJ x y D = _ := if_pos h
    rw [fe, ge]
    obtain ⟨hx, hy, hxy⟩ := h
    rw [bf_n (decide_eq_true hx), c_isRoom, bI_some, bf_n (decide_eq_true hy), jbr_p hxy]
    obtain ⟨a, ha, rfl⟩ := un_x hx (by omega)
    obtain ⟨b, hb, rfl⟩ := un_x hy (by omega)
    have hab : a ≠ b := fun e => hxy (by rw [e])
    rw [un_nI (by omega), un_nI (by omega)]
    have hDa := hd a ha
    have hDb := hd b hb
    cases ht : (D a).testBit b
    · refine ⟨sI (sI μ kk a (nI (D a ||| 2 ^ b))) kk b (nI (D b ||| 2 ^ a)), ?_, ?_, ?_⟩
      · simp (disch := omega) only [↓ng1, ↓ng2, ↓ng3, ↓ng4, ↓ng5, ↓ng10, ↓ng1000, li0, li1, li2, li3, li4, li5, li6, li7, li8, li9, li10, li11, li12, li15, li16, li36, li48, li50, li51, li57, li59, li60, li63, li72, li73, li80, li85, li87, li94, li96, li97, li100, li101, li102, li110, li118, li119, li120, li122, li126, li127, li140, li200, li255, li280, li420, li560, li896, li1000, li4095, qI_tb, qI_1, qI_adn, kI_and, kI_or, nI_add, kI_sub, kI_mul, qI_lt0, kI_lt, kI_le, kI_eq, qN0, qN1, qI_n, qm_1, ixn, inB_nI, jgd_t, bI_some, bL_some, bV_some, bR_some, gI_e2, gI_ne, gI_sL, jbr_p, jbr_n, hD, ht, jbr_T, jbr_F, if_false, Bool.false_eq_true]
      · intro c hc
        by_cases h1 : c = b
        · subst h1
          rw [gI_eq]
          show _ = nI (vup _ c _ c)
          rw [vup_e]
        · rw [gI_ne _ (by omega)]
          show _ = nI (vup _ b _ c)
          rw [vup_n _ _ h1]
          by_cases h2 : c = a
          · subst h2
            rw [gI_eq, vup_e]
          · rw [gI_ne _ (by omega), vup_n _ _ h2, hD c hc]
      · exact fun c d hcd => ⟨(if_neg (by omega)).trans (if_neg (by omega)), rfl⟩
    · refine ⟨μ, ?_, fun c hc => hD c hc, fun c d _ => ⟨rfl, rfl⟩⟩
      simp (disch := omega) only [↓ng1, ↓ng2, ↓ng3, ↓ng4, ↓ng5, ↓ng10, ↓ng1000, li0, li1, li2, li3, li4, li5, li6, li7, li8, li9, li10, li11, li12, li15, li16, li36, li48, li50, li51, li57, li59, li60, li63, li72, li73, li80, li85, li87, li94, li96, li97, li100, li101, li102, li110, li118, li119, li120, li122, li126, li127, li140, li200, li255, li280, li420, li560, li896, li1000, li4095, qI_tb, qI_1, qI_adn, kI_and, kI_or, nI_add, kI_sub, kI_mul, qI_lt0, kI_lt, kI_le, kI_eq, qN0, qN1, qI_n, qm_1, ixn, inB_nI, jgd_t, bI_some, bL_some, bV_some, bR_some, gI_e2, gI_ne, gI_sL, jbr_p, jbr_n, hD, ht, jbr_T, jbr_F, if_true, Bool.true_eq_false]
  · have fe : fJ x y D = _ := if_neg h
    have ge : gJ x y D = _ := if_neg h
    rw [fe, ge]
    refine ⟨μ, ?_, fun c hc => hD c hc, fun c d _ => ⟨rfl, rfl⟩⟩
    by_cases hx : un x < 6
    · rw [bf_n (decide_eq_true hx), c_isRoom, bI_some]
      by_cases hy : un y < 6
      · rw [bf_n (decide_eq_true hy), jbr_n (fun z => h ⟨hx, hy, z⟩)]
      · rw [bf_p (decide_eq_false hy)]
    · rw [bf_p (decide_eq_false hx)]
theorem m_tie (r o : Nat) (hr : r + o + 36 ≤ 560) (x y : Int32) (μ : jm) (D : Nat → Nat) (hD : ∀ a b, a < 6 → b < 6 → gI μ 65 (r + o + 6 * a + b) = nI (bN ((D a).testBit b))) : ∃ m1, cj 138 [jR 10 64, jI (nI r), jI (nI o), jI x, jI y] μ = some (some (jI (fJ x y D)), m1) ∧ (∀ a b, a < 6 → b < 6 → gI m1 65 (r + o + 6 * a + b) = nI (bN ((gJ x y D a).testBit b))) ∧ (∀ a b, ¬ (a = 65 ∧ r + o ≤ b ∧ b < r + o + 36) → m1.1 a b = μ.1 a b ∧ m1.2 a b = μ.2 a b) := by
  rw [e_M_tie, m_isRoom, bI_some]
  by_cases h : jOk x y
  · have fe : fJ x y D = _ := if_pos h
    have ge : gJ x y D = _ := if_pos h
    rw [fe, ge]
    obtain ⟨hx, hy, hxy⟩ := h
    rw [bf_n (decide_eq_true hx), m_isRoom, bI_some, bf_n (decide_eq_true hy), jbr_p hxy]
    obtain ⟨a, ha, rfl⟩ := un_x hx (by omega)
    obtain ⟨b, hb, rfl⟩ := un_x hy (by omega)
    have hab : a ≠ b := fun e => hxy (by rw [e])
    rw [un_nI (by omega), un_nI (by omega)]
    cases ht : (D a).testBit b
    · refine ⟨sI (sI μ 65 (r + o + 6 * a + b) (nI 1)) 65 (r + o + 6 * b + a) (nI 1), ?_, ?_, ?_⟩
      · simp (disch := omega) only [↓ng1, ↓ng2, ↓ng3, ↓ng4, ↓ng5, ↓ng10, ↓ng1000, li0, li1, li2, li3, li4, li5, li6, li7, li8, li9, li10, li11, li12, li15, li16, li36, li48, li50, li51, li57, li59, li60, li63, li72, li73, li80, li85, li87, li94, li96, li97, li100, li101, li102, li110, li118, li119, li120, li122, li126, li127, li140, li200, li255, li280, li420, li560, li896, li1000, li4095, qI_tb, qI_1, qI_adn, kI_and, kI_or, nI_add, kI_sub, kI_mul, qI_lt0, kI_lt, kI_le, kI_eq, qN0, qN1, qI_n, qm_1, ixn, inB_nI, jgd_t, bI_some, bL_some, bV_some, bR_some, gI_e2, gI_ne, gI_sL, jbr_p, jbr_n, hD, ht, jbr_T, jbr_F, if_false, Bool.false_eq_true, not_false_eq_true]
      · intro c d hc hd
        by_cases h1 : c = b
        · subst h1
          show _ = nI (bN (Nat.testBit (vup _ c _ c) d))
          rw [vup_e, tb_or1]
          by_cases h2 : d = a
          · subst h2
            rw [gI_eq, decide_eq_true rfl, Bool.or_true]
            rfl
          · rw [gI_ne _ (by omega), gI_ne _ (by omega), hD c d hc hd, decide_eq_false (fun z => h2 z.symm), Bool.or_false]
        · show _ = nI (bN (Nat.testBit (vup _ b _ c) d))
          rw [vup_n _ _ h1, gI_ne _ (by omega)]
          by_cases h2 : c = a
          · subst h2
            rw [vup_e, tb_or1]
            by_cases h3 : d = b
            · subst h3
              rw [gI_eq, decide_eq_true rfl, Bool.or_true]
              rfl
            · rw [gI_ne _ (by omega), hD c d hc hd, decide_eq_false (fun z => h3 z.symm), Bool.or_false]
          · rw [vup_n _ _ h2, gI_ne _ (by omega), hD c d hc hd]
      · exact fun c d hcd => ⟨(if_neg (by omega)).trans (if_neg (by omega)), rfl⟩
    · refine ⟨μ, ?_, fun c d hc hd => hD c d hc hd, fun c d _ => ⟨rfl, rfl⟩⟩
      simp (disch := omega) only [↓ng1, ↓ng2, ↓ng3, ↓ng4, ↓ng5, ↓ng10, ↓ng1000, li0, li1, li2, li3, li4, li5, li6, li7, li8, li9, li10, li11, li12, li15, li16, li36, li48, li50, li51, li57, li59, li60, li63, li72, li73, li80, li85, li87, li94, li96, li97, li100, li101, li102, li110, li118, li119, li120, li122, li126, li127, li140, li200, li255, li280, li420, li560, li896, li1000, li4095, qI_tb, qI_1, qI_adn, kI_and, kI_or, nI_add, kI_sub, kI_mul, qI_lt0, kI_lt, kI_le, kI_eq, qN0, qN1, qI_n, qm_1, ixn, inB_nI, jgd_t, bI_some, bL_some, bV_some, bR_some, gI_e2, gI_ne, gI_sL, jbr_p, jbr_n, hD, ht, jbr_T, jbr_F, if_true, not_true_eq_false]
  · have fe : fJ x y D = _ := if_neg h
    have ge : gJ x y D = _ := if_neg h
    rw [fe, ge]
    refine ⟨μ, ?_, fun c d hc hd => hD c d hc hd, fun c d _ => ⟨rfl, rfl⟩⟩
    by_cases hx : un x < 6
    · rw [bf_n (decide_eq_true hx), m_isRoom, bI_some]
      by_cases hy : un y < 6
      · rw [bf_n (decide_eq_true hy), jbr_n (fun z => h ⟨hx, hy, z⟩)]
      · rw [bf_p (decide_eq_false hy)]
    · rw [bf_p (decide_eq_false hx)]
def goodL (D : Nat → Nat) : Prop := ∀ a, a < 6 → D a < 64 ∧ ∀ b, b < 6 → (D a).testBit b = (D b).testBit a
theorem goodL_J {x y : Int32} {D : Nat → Nat} (h : goodL D) : goodL (gJ x y D) := by
  by_cases hj : jOk x y
  · have ge : gJ x y D = _ := if_pos hj
    rw [ge]
    obtain ⟨hx, hy, hxy⟩ := hj
    obtain ⟨a, ha, rfl⟩ := un_x hx (by omega)
    obtain ⟨b, hb, rfl⟩ := un_x hy (by omega)
    have hab : a ≠ b := fun e => hxy (by rw [e])
    rw [un_nI (by omega), un_nI (by omega)]
    split
    · exact h
    · have key : ∀ c, c < 6 → ∀ d, (vup (vup D a (D a ||| 2 ^ b)) b (D b ||| 2 ^ a) c).testBit d = ((D c).testBit d || (decide (c = a ∧ d = b) || decide (c = b ∧ d = a))) := by
        intro c hc d
        by_cases h1 : c = b
        · subst h1
          rw [vup_e, tb_or1, decide_eq_false (fun z : c = a ∧ d = c => hab z.1.symm), Bool.false_or]
          congr 1
          exact decide_eq_decide.mpr ⟨fun e => ⟨rfl, e.symm⟩, fun e => e.2.symm⟩
        · rw [vup_n _ _ h1, decide_eq_false (fun z : c = b ∧ d = a => h1 z.1), Bool.or_false]
          by_cases h2 : c = a
          · subst h2
            rw [vup_e, tb_or1]
            congr 1
            exact decide_eq_decide.mpr ⟨fun e => ⟨rfl, e.symm⟩, fun e => e.2.symm⟩
          · rw [vup_n _ _ h2, decide_eq_false (fun z : c = a ∧ d = b => h2 z.1), Bool.or_false]
      intro c hc
      refine ⟨?_, fun d hd => ?_⟩
      · have p6 : ∀ j, j < 6 → 2 ^ j < 2 ^ 6 := fun j hj => two_lt hj
        have hDc : D c < 2 ^ 6 := (h c hc).1
        have hDa : D a < 2 ^ 6 := (h a ha).1
        have hDb : D b < 2 ^ 6 := (h b hb).1
        show _ < 2 ^ 6
        by_cases h1 : c = b
        · subst h1
          rw [vup_e]
          exact or_lt 6 hDb (p6 a ha)
        · rw [vup_n _ _ h1]
          by_cases h2 : c = a
          · subst h2
            rw [vup_e]
            exact or_lt 6 hDa (p6 b hb)
          · rw [vup_n _ _ h2]
            exact hDc
      · rw [key c hc, key d hd, (h c hc).2 d hd]
        congr 1
        rw [Bool.or_comm]
        congr 1
        · exact decide_eq_decide.mpr ⟨fun e => ⟨e.2, e.1⟩, fun e => ⟨e.2, e.1⟩⟩
        · exact decide_eq_decide.mpr ⟨fun e => ⟨e.2, e.1⟩, fun e => ⟨e.2, e.1⟩⟩
  · have ge : gJ x y D = _ := if_neg hj
    rw [ge]
    exact h
/-- door -/
def gDo (x y : Int32) (v : vst) : vst := (gJ x y (vD v), vE v, vn v, vK v, vN v, vR v, vM v, vc v, vC v, vU v, vl v, vp v, vP v, vh v, vH v)
def gHe (x y : Int32) (v : vst) : vst := (vD v, gJ x y (vE v), vn v, vK v, vN v, vR v, vM v, vc v, vC v, vU v, vl v, vp v, vP v, vh v, vH v)
theorem WV_gDo (x y : Int32) {v : vst} (h : WV v) : WV (gDo x y v) := ⟨goodL_J h.1, h.2⟩
theorem WV_gHe (x y : Int32) {v : vst} (h : WV v) : WV (gHe x y v) := ⟨h.1, goodL_J h.2.1, h.2.2⟩
theorem c_door (k : Nat) (x y : Int32) (μ : jm) (v : vst) (hw : WV v) (hv : CV μ k v) : ∃ m1, cj 15 [jR 8 k, jI x, jI y] μ = some (some (jI (fJ x y (vD v))), m1) ∧ CV m1 k (gDo x y v) ∧ okC k μ m1 := by
  obtain ⟨m1, e1, e2, e3⟩ := c_join (k + 1) x y μ (vD v) hv.1 (fun a ha => (hw.1 a ha).1)
  rw [e_Valley_addDoor, e1, bI_some]
  obtain ⟨h1, h2, h3, h4, h5, h6, h7, h8, h9, h10, h11⟩ := hv
  have g : ∀ a b, a ≠ k + 1 → gI m1 a b = gI μ a b := fun a b ha => (e3 a b ha).1
  exact ⟨m1, rfl, ⟨e2, fun a ha => by rw [g _ _ (by omega)]; exact h2 a ha, by rw [g _ _ (by omega)]; exact h3, fun p hp => by rw [g _ _ (by omega), g _ _ (by omega), g _ _ (by omega), g _ _ (by omega)]; exact h4 p hp, by rw [g _ _ (by omega)]; exact h5, fun i hi => by rw [g _ _ (by omega), g _ _ (by omega)]; exact h6 i hi, by rw [g _ _ (by omega)]; exact h7, by rw [g _ _ (by omega)]; exact h8, fun i hi => by rw [g _ _ (by omega)]; exact h9 i hi, by rw [g _ _ (by omega)]; exact h10, fun i hi => by rw [g _ _ (by omega)]; exact h11 i hi⟩, fun a b ha => e3 a b (by omega)⟩
theorem c_hear (k : Nat) (x y : Int32) (μ : jm) (v : vst) (hw : WV v) (hv : CV μ k v) : ∃ m1, cj 17 [jR 8 k, jI x, jI y] μ = some (some (jI (fJ x y (vE v))), m1) ∧ CV m1 k (gHe x y v) ∧ okC k μ m1 := by
  obtain ⟨m1, e1, e2, e3⟩ := c_join (k + 2) x y μ (vE v) hv.2.1 (fun a ha => (hw.2.1 a ha).1)
  rw [e_Valley_addHearing, e1, bI_some]
  obtain ⟨h1, h2, h3, h4, h5, h6, h7, h8, h9, h10, h11⟩ := hv
  have g : ∀ a b, a ≠ k + 2 → gI m1 a b = gI μ a b := fun a b ha => (e3 a b ha).1
  exact ⟨m1, rfl, ⟨fun a ha => by rw [g _ _ (by omega)]; exact h1 a ha, e2, by rw [g _ _ (by omega)]; exact h3, fun p hp => by rw [g _ _ (by omega), g _ _ (by omega), g _ _ (by omega), g _ _ (by omega)]; exact h4 p hp, by rw [g _ _ (by omega)]; exact h5, fun i hi => by rw [g _ _ (by omega), g _ _ (by omega)]; exact h6 i hi, by rw [g _ _ (by omega)]; exact h7, by rw [g _ _ (by omega)]; exact h8, fun i hi => by rw [g _ _ (by omega)]; exact h9 i hi, by rw [g _ _ (by omega)]; exact h10, fun i hi => by rw [g _ _ (by omega)]; exact h11 i hi⟩, fun a b ha => e3 a b (by omega)⟩
theorem m_door (r : Nat) (hr : r ≤ 420) (x y : Int32) (μ : jm) (v : vst) (hw : WV v) (hv : MV μ r v) : ∃ m1, cj 138 [jR 10 64, jI (nI r), jI 0, jI x, jI y] μ = some (some (jI (fJ x y (vD v))), m1) ∧ MV m1 r (gDo x y v) ∧ okM r μ m1 := by
  obtain ⟨m1, e1, e2, e3⟩ := m_tie r 0 (by omega) x y μ (vD v) hv.1
  obtain ⟨h1, h2, h3, h4, h5, h6, h7, h8, h9, h10, h11⟩ := hv
  obtain ⟨-, -, w3, -, w5, -, -, w8, -, w10, -⟩ := hw
  have g : ∀ b, r + 36 ≤ b → gI m1 65 b = gI μ 65 b := fun b hb => (e3 65 b (by omega)).1
  exact ⟨m1, e1, ⟨e2, fun a b ha hb => by rw [g _ (by omega)]; exact h2 a b ha hb, by rw [g _ (by omega)]; exact h3, fun p hp => by have hp : p < vn v := hp; rw [g _ (by omega), g _ (by omega), g _ (by omega), g _ (by omega)]; exact h4 p hp, by rw [g _ (by omega)]; exact h5, fun i hi => by have hi : i < vc v := hi; rw [g _ (by omega), g _ (by omega)]; exact h6 i hi, by rw [g _ (by omega)]; exact h7, by rw [g _ (by omega)]; exact h8, fun i hi => by have hi : i < vp v := hi; rw [g _ (by omega)]; exact h9 i hi, by rw [g _ (by omega)]; exact h10, fun i hi => by have hi : i < vh v := hi; rw [g _ (by omega)]; exact h11 i hi⟩, fun a b ha => e3 a b (by omega)⟩
theorem m_hear (r : Nat) (hr : r ≤ 420) (x y : Int32) (μ : jm) (v : vst) (hw : WV v) (hv : MV μ r v) : ∃ m1, cj 138 [jR 10 64, jI (nI r), jI 36, jI x, jI y] μ = some (some (jI (fJ x y (vE v))), m1) ∧ MV m1 r (gHe x y v) ∧ okM r μ m1 := by
  obtain ⟨m1, e1, e2, e3⟩ := m_tie r 36 (by omega) x y μ (vE v) hv.2.1
  obtain ⟨h1, h2, h3, h4, h5, h6, h7, h8, h9, h10, h11⟩ := hv
  obtain ⟨-, -, w3, -, w5, -, -, w8, -, w10, -⟩ := hw
  have g : ∀ b, ¬ (r + 36 ≤ b ∧ b < r + 72) → gI m1 65 b = gI μ 65 b := fun b hb => (e3 65 b (by omega)).1
  exact ⟨m1, e1, ⟨fun a b ha hb => by rw [g _ (by omega)]; exact h1 a b ha hb, e2, by rw [g _ (by omega)]; exact h3, fun p hp => by have hp : p < vn v := hp; rw [g _ (by omega), g _ (by omega), g _ (by omega), g _ (by omega)]; exact h4 p hp, by rw [g _ (by omega)]; exact h5, fun i hi => by have hi : i < vc v := hi; rw [g _ (by omega), g _ (by omega)]; exact h6 i hi, by rw [g _ (by omega)]; exact h7, by rw [g _ (by omega)]; exact h8, fun i hi => by have hi : i < vp v := hi; rw [g _ (by omega)]; exact h9 i hi, by rw [g _ (by omega)]; exact h10, fun i hi => by have hi : i < vh v := hi; rw [g _ (by omega)]; exact h11 i hi⟩, fun a b ha => e3 a b (by omega)⟩
theorem op_door (x y : Int32) : opI 94 137 [jI x, jI y] Rel :=
  opI_of (fun S => fJ x y (vD (sv S))) (fun S => tel (setV S (gDo x y (sv S))) (fJ x y (vD (sv S)))) (fun S h => WS_tel (WS_setV h (WV_gDo x y h.1)) _)
    (c_val (f := fun v => fJ x y (vD v)) (fun μ => e_N_door x y μ) (fun μ v hw hv => c_door 1 x y μ v hw hv))
    (m_val (f := fun v => fJ x y (vD v)) (as2 := [jI 0, jI 0, jI x, jI y]) (fun μ => e_M_door x y μ) (fun v h => WV_gDo x y h) (fun μ v hw hv => m_door 0 (by omega) x y μ v hw hv))
theorem op_hears (x y : Int32) : opI 97 142 [jI x, jI y] Rel :=
  opI_of (fun S => fJ x y (vE (sv S))) (fun S => tel (setV S (gHe x y (sv S))) (fJ x y (vE (sv S)))) (fun S h => WS_tel (WS_setV h (WV_gHe x y h.1)) _)
    (c_val (f := fun v => fJ x y (vE v)) (fun μ => e_N_hears x y μ) (fun μ v hw hv => c_hear 1 x y μ v hw hv))
    (m_val (f := fun v => fJ x y (vE v)) (as2 := [jI 0, jI 36, jI x, jI y]) (fun μ => e_M_hears x y μ) (fun v h => WV_gHe x y h) (fun μ v hw hv => m_hear 0 (by omega) x y μ v hw hv))
