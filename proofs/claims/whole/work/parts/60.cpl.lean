/-! couple -/
def setKM (v : vst) (K M : Nat → Nat) : vst := (vD v, vE v, vn v, K, vN v, vR v, M, vc v, vC v, vU v, vl v, vp v, vP v, vh v, vH v)
theorem CV_pt {μ : jm} {k : Nat} {v : vst} {K M K' M' : Nat → Nat} (h : ∀ p, p < vn v → K p = K' p ∧ M p = M' p) (hv : CV μ k (setKM v K M)) : CV μ k (setKM v K' M') := by
  obtain ⟨h1, h2, h3, h4, h5, h6, h7, h8, h9, h10, h11⟩ := hv
  refine ⟨h1, h2, h3, fun p hp => ?_, h5, h6, h7, h8, h9, h10, h11⟩
  obtain ⟨q1, q2, q3, q4⟩ := h4 p hp
  have q1 : gI μ (k + 3) p = nI (K p) := q1
  have q4 : gI μ (k + 6) p = nI (M p) - 1 := q4
  rw [(h p hp).1] at q1
  rw [(h p hp).2] at q4
  exact ⟨q1, q2, q3, q4⟩
theorem MV_pt {μ : jm} {r : Nat} {v : vst} {K M K' M' : Nat → Nat} (h : ∀ p, p < vn v → K p = K' p ∧ M p = M' p) (hv : MV μ r (setKM v K M)) : MV μ r (setKM v K' M') := by
  obtain ⟨h1, h2, h3, h4, h5, h6, h7, h8, h9, h10, h11⟩ := hv
  refine ⟨h1, h2, h3, fun p hp => ?_, h5, h6, h7, h8, h9, h10, h11⟩
  obtain ⟨q1, q2, q3, q4⟩ := h4 p hp
  have q1 : gI μ 65 (r + 73 + p) = nI (K p) := q1
  have q4 : gI μ 65 (r + 94 + p) = nI (M p) - 1 := q4
  rw [(h p hp).1] at q1
  rw [(h p hp).2] at q4
  exact ⟨q1, q2, q3, q4⟩
/-- two wed: the kinds, the mates -/
def wK (v : vst) (a b p : Nat) : Nat := if p = a ∨ p = b then 2 else vK v p
def wM (v : vst) (a b p : Nat) : Nat := if p = a then b + 1 else if p = b then a + 1 else if vM v p = a + 1 ∨ vM v p = b + 1 then 0 else vM v p
def wd (v : vst) (a b : Nat) : vst := setKM v (wK v a b) (wM v a b)
theorem WV_wd {v : vst} (h : WV v) {a b : Nat} (ha : a < vn v) (hb : b < vn v) (hab : a ≠ b) : WV (wd v a b) := by
  obtain ⟨w1, w2, w3, w4, w5, w6, w7, w8, w9, w10, w11⟩ := h
  refine ⟨w1, w2, w3, fun p hp => ?_, w5, w6, w7, w8, w9, w10, w11⟩
  have hp : p < vn v := hp
  obtain ⟨q1, q2, q3, q4, q5⟩ := w4 p hp
  show wK v a b p ≤ 5 ∧ vN v p < 12 ∧ vR v p < 6 ∧ wM v a b p ≤ vn v ∧ (wM v a b p ≠ 0 → wM v a b p ≠ p + 1 ∧ wM v a b (wM v a b p - 1) = p + 1)
  refine ⟨?_, q2, q3, ?_, fun hz => ?_⟩
  · unfold wK; split <;> omega
  · unfold wM; split
    · omega
    · split
      · omega
      · split <;> omega
  · by_cases e1 : p = a
    · have e : wM v a b p = b + 1 := if_pos e1
      rw [e, Nat.add_sub_cancel]
      refine ⟨by omega, ?_⟩
      unfold wM
      rw [if_neg (by omega), if_pos rfl, e1]
    · by_cases e2 : p = b
      · have e : wM v a b p = a + 1 := by unfold wM; rw [if_neg e1, if_pos e2]
        rw [e, Nat.add_sub_cancel]
        refine ⟨by omega, ?_⟩
        unfold wM
        rw [if_pos rfl, e2]
      · by_cases e3 : vM v p = a + 1 ∨ vM v p = b + 1
        · exact absurd (show wM v a b p = 0 by unfold wM; rw [if_neg e1, if_neg e2, if_pos e3]) hz
        · have e : wM v a b p = vM v p := by unfold wM; rw [if_neg e1, if_neg e2, if_neg e3]
          rw [e] at hz ⊢
          obtain ⟨q6, q7⟩ := q5 hz
          refine ⟨q6, ?_⟩
          unfold wM
          rw [if_neg (by omega), if_neg (by omega), q7, if_neg (by omega)]
def fre (M : Nat → Nat) (a : Nat) : Nat → Nat := if M a = 0 then M else vup M (M a - 1) 0
theorem fre_p {v : vst} (h : WV v) {a p : Nat} (ha : a < vn v) (hp : p < vn v) : fre (vM v) a p = if vM v p = a + 1 then 0 else vM v p := by
  obtain ⟨-, -, -, w4, -⟩ := h
  obtain ⟨-, -, -, a4, a5⟩ := w4 a ha
  obtain ⟨-, -, -, p4, p5⟩ := w4 p hp
  unfold fre
  by_cases e : vM v a = 0
  · rw [if_pos e, if_neg (fun z => ?_)]
    obtain ⟨q1, q2⟩ := p5 (by omega)
    rw [z, Nat.add_sub_cancel] at q2
    omega
  · rw [if_neg e]
    obtain ⟨a6, a7⟩ := a5 e
    by_cases e2 : p = vM v a - 1
    · rw [e2, vup_e, a7, if_pos rfl]
    · rw [vup_n _ _ e2, if_neg (fun z => ?_)]
      obtain ⟨q1, q2⟩ := p5 (by omega)
      rw [z, Nat.add_sub_cancel] at q2
      omega
theorem fre_2 {v : vst} (h : WV v) {a b p : Nat} (ha : a < vn v) (hb : b < vn v) (hp : p < vn v) (hm : vM v a ≠ b + 1) : fre (fre (vM v) a) b p = if vM v p = a + 1 ∨ vM v p = b + 1 then 0 else vM v p := by
  have w4 := h.2.2.2.1
  obtain ⟨-, -, -, b4, b5⟩ := w4 b hb
  obtain ⟨-, -, -, p4, p5⟩ := w4 p hp
  have hb1 : fre (vM v) a b = vM v b := by
    rw [fre_p h ha hb, if_neg (fun z => ?_)]
    obtain ⟨q1, q2⟩ := b5 (by omega)
    rw [z, Nat.add_sub_cancel] at q2
    exact hm q2
  show (if fre (vM v) a b = 0 then fre (vM v) a else vup (fre (vM v) a) (fre (vM v) a b - 1) 0) p = _
  rw [hb1]
  by_cases e : vM v b = 0
  · rw [if_pos e, fre_p h ha hp]
    have : ¬ vM v p = b + 1 := fun z => by
      obtain ⟨q1, q2⟩ := p5 (by omega)
      rw [z, Nat.add_sub_cancel] at q2
      omega
    by_cases e3 : vM v p = a + 1
    · rw [if_pos e3, if_pos (Or.inl e3)]
    · rw [if_neg e3, if_neg (fun z => z.elim e3 this)]
  · rw [if_neg e]
    obtain ⟨b6, b7⟩ := b5 e
    by_cases e2 : p = vM v b - 1
    · rw [e2, vup_e, b7, if_pos (Or.inr rfl)]
    · rw [vup_n _ _ e2, fre_p h ha hp]
      have : ¬ vM v p = b + 1 := fun z => by
        obtain ⟨q1, q2⟩ := p5 (by omega)
        rw [z, Nat.add_sub_cancel] at q2
        omega
      by_cases e3 : vM v p = a + 1
      · rw [if_pos e3, if_pos (Or.inl e3)]
      · rw [if_neg e3, if_neg (fun z => z.elim e3 this)]
theorem c_free {k a : Nat} {μ : jm} {v : vst} {M : Nat → Nat} (hn : vn v ≤ 7) (ha : a < vn v) (hM : M a ≤ vn v) (hv : CV μ k (setKM v (vK v) M)) : ∃ m, cj 41 [jR 8 k, jI (nI a)] μ = some (none, m) ∧ CV m k (setKM v (vK v) (fre M a)) ∧ okC k μ m := by
  have h4 : gI μ (k + 6) a = nI (M a) - 1 := (hv.2.2.2.1 a ha).2.2.2
  have h3 : gI μ k 6 = nI (vn v) := hv.2.2.1
  rw [e_Valley_freeSpouseOf, inB_nI (by omega) (by omega), jgd_t, ixn (by omega), h4, c_isPerson k _ μ (by omega) h3, bI_some]
  unfold fre
  cases hm : M a with
  | zero =>
    rw [if_pos rfl, bf_p (decide_eq_false (fun z => by have := (un_lt (nI 0 - 1) (show vn v ≤ 2147483648 by omega)).mp z; exact absurd this.1 (by decide)))]
    exact ⟨μ, rfl, hv, okC_r k μ⟩
  | succ q =>
    rw [if_neg (by omega), nI_pred, un_nI (by omega), bf_n (decide_eq_true (by omega)), inB_nI (by omega) (by omega), jgd_t, ixn (by omega), Nat.add_sub_cancel]
    exact ⟨_, rfl, CV_setM q 0 rfl hv, okC_sI k μ (by omega) (by omega)⟩
theorem c_wed {k a b : Nat} {μ : jm} {v : vst} (hw : WV v) (hv : CV μ k v) (ha : a < vn v) (hb : b < vn v) (hab : a ≠ b) (hm : vM v a ≠ b + 1) : ∃ m, cj 40 [jR 8 k, jI (nI a), jI (nI b)] μ = some (none, m) ∧ CV m k (wd v a b) ∧ okC k μ m := by
  have w3 : vn v ≤ 7 := hw.2.2.1
  have a4 := (hw.2.2.2.1 a ha).2.2.2.1
  have b4 := (hw.2.2.2.1 b hb).2.2.2.1
  obtain ⟨m1, c1, c2, c3⟩ := c_free (M := vM v) w3 ha a4 hv
  have hb2 : fre (vM v) a b ≤ vn v := by rw [fre_p hw ha hb]; split <;> omega
  obtain ⟨m2, d1, d2, d3⟩ := c_free w3 hb hb2 c2
  rw [e_Valley_wed, c1, bV_some, d1, bV_some, inB_nI (by omega) (by omega), jgd_t, inB_nI (by omega) (by omega), jgd_t, jgd_t, jgd_t, ixn (by omega), ixn (by omega)]
  have x1 := CV_setK a 2 d2
  have x2 := CV_setK b 2 x1
  have x3 := CV_setM a (b + 1) (nI_pred b).symm x2
  have x4 := CV_setM b (a + 1) (nI_pred a).symm x3
  refine ⟨_, rfl, CV_pt (v := v) (K := vup (vup (vK v) a 2) b 2) (M := vup (vup (fre (fre (vM v) a) b) a (b + 1)) b (a + 1)) (fun p hp => ⟨?_, ?_⟩) x4, okC_t c3 (okC_t d3 (okC_t (okC_t (okC_t (okC_sI k _ (by omega) (by omega)) (okC_sI k _ (by omega) (by omega))) (okC_sI k _ (by omega) (by omega))) (okC_sI k _ (by omega) (by omega))))⟩
  · unfold wK
    by_cases e2 : p = b
    · rw [e2, vup_e, if_pos (Or.inr rfl)]
    · rw [vup_n _ _ e2]
      by_cases e1 : p = a
      · rw [e1, vup_e, if_pos (Or.inl rfl)]
      · rw [vup_n _ _ e1, if_neg (by omega)]
  · unfold wM
    by_cases e2 : p = b
    · rw [e2, vup_e, if_neg (by omega), if_pos rfl]
    · rw [vup_n _ _ e2]
      by_cases e1 : p = a
      · rw [e1, vup_e, if_pos rfl]
      · rw [vup_n _ _ e1, if_neg e1, if_neg e2]
        exact fre_2 hw ha hb hp hm
def dvo (M : Nat → Nat) (a : Nat) : Nat → Nat := if M a = 0 then M else vup (vup M (M a - 1) 0) a 0
theorem dvo_p (M : Nat → Nat) {a p : Nat} (h : p ≠ a) : dvo M a p = fre M a p := by
  unfold dvo fre
  split
  · rfl
  · rw [vup_n _ _ h]
theorem m_div {r a : Nat} (hr : r ≤ 420) {μ : jm} {v : vst} {M : Nat → Nat} (hw : WB v) (ha : a < vn v) (hM : M a ≤ vn v) (hv : MV μ r (setKM v (vK v) M)) : ∃ m, cj 208 [jR 10 64, jI (nI r), jI (nI a)] μ = some (none, m) ∧ MV m r (setKM v (vK v) (dvo M a)) ∧ okM r μ m := by
  have w3 : vn v ≤ 7 := hw.1
  have h4 : gI μ 65 (r + 94 + a) = nI (M a) - 1 := (hv.2.2.2.1 a ha).2.2.2
  rw [e_M_divorce, li94, nI_add, nI_add, inB_nI (by omega) (by omega), jgd_t, ixn (by omega), h4]
  unfold dvo
  rw [show ∀ x y : Option jr, jbr (decide (nI (M a) - (1 : Int32) = (-1 : Int32))) x y = jbr (decide (M a = 0)) x y from fun x y => bk_m1 (by omega)]
  cases hm : M a with
  | zero =>
    rw [if_pos rfl, jbr_p rfl]
    exact ⟨μ, rfl, hv, okM_r r μ⟩
  | succ q =>
    rw [if_neg (by omega), jbr_n (by omega), nI_pred, nI_add, inB_nI (by omega) (by omega), jgd_t, jgd_t, ixn (by omega), Nat.add_sub_cancel]
    have x1 := MV_setM (r := r) q 0 (y := (-1 : Int32)) (show WB (setKM v (vK v) M) from hw) (show q < vn v by omega) rfl hv
    have x2 := MV_setM (r := r) a 0 (y := (-1 : Int32)) (show WB (setM (setKM v (vK v) M) q 0) from hw) ha rfl x1
    exact ⟨_, rfl, x2, okM_t (okM_sI r μ (by omega) (by omega)) (okM_sI r _ (by omega) (by omega))⟩
