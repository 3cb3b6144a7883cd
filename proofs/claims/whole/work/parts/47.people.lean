/-! people: one, mates, goes -/
def addP (v : vst) (a b c : Nat) : vst := (vD v, vE v, vn v + 1, vup (vK v) (vn v) a, vup (vN v) (vn v) b, vup (vR v) (vn v) c, vup (vM v) (vn v) 0, vc v, vC v, vU v, vl v, vp v, vP v, vh v, vH v)
abbrev oOk (x y z : Int32) : Prop := un x < 6 ∧ un y < 12 ∧ un z < 6
def fOn (x y z : Int32) (v : vst) : Int32 := if oOk x y z then (if vn v < 7 then nI (vn v) else -4) else -2
def gOn (x y z : Int32) (v : vst) : vst := if oOk x y z then (if vn v < 7 then addP v (un x) (un y) (un z) else v) else v
theorem WV_addP {v : vst} (h : WV v) {a b c : Nat} (hn : vn v < 7) (ha : a < 6) (hb : b < 12) (hc : c < 6) : WV (addP v a b c) := by
  obtain ⟨w1, w2, w3, w4, w5, w6, w7, w8, w9, w10, w11⟩ := h
  refine ⟨w1, w2, show vn v + 1 ≤ 7 by omega, ?_, w5, w6, w7, w8, w9, w10, w11⟩
  intro p hp
  have hp : p < vn v + 1 := hp
  show vup (vK v) (vn v) a p ≤ 5 ∧ vup (vN v) (vn v) b p < 12 ∧ vup (vR v) (vn v) c p < 6 ∧ vup (vM v) (vn v) 0 p ≤ vn v + 1 ∧ (vup (vM v) (vn v) 0 p ≠ 0 → vup (vM v) (vn v) 0 p ≠ p + 1 ∧ vup (vM v) (vn v) 0 (vup (vM v) (vn v) 0 p - 1) = p + 1)
  by_cases h1 : p = vn v
  · subst h1
    rw [vup_e, vup_e, vup_e, vup_e]
    exact ⟨by omega, hb, hc, Nat.zero_le _, fun z => absurd rfl z⟩
  · rw [vup_n _ _ h1, vup_n _ _ h1, vup_n _ _ h1, vup_n _ _ h1]
    obtain ⟨q1, q2, q3, q4, q5⟩ := w4 p (by omega)
    refine ⟨q1, q2, q3, by omega, fun z => ?_⟩
    rw [vup_n _ _ (by omega)]
    exact q5 z
theorem WV_gOn (x y z : Int32) {v : vst} (h : WV v) : WV (gOn x y z v) := by
  unfold gOn
  split
  · rename_i h1
    split
    · exact WV_addP h (by assumption) h1.1 h1.2.1 h1.2.2
    · exact h
  · exact h
theorem CV_addP {μ : jm} {k : Nat} {v : vst} {a b c : Nat} (hv : CV μ k v) : CV (sI (sI (sI (sI (sI μ (k + 3) (vn v) (nI a)) (k + 4) (vn v) (nI b)) (k + 5) (vn v) (nI c)) (k + 6) (vn v) (ngc 1)) k 6 (nI (vn v + 1))) k (addP v a b c) := by
  obtain ⟨h1, h2, h3, h4, h5, h6, h7, h8, h9, h10, h11⟩ := hv
  have g : ∀ x y, ¬ ((x = k + 3 ∨ x = k + 4 ∨ x = k + 5 ∨ x = k + 6) ∧ y = vn v) → ¬ (x = k ∧ y = 6) → gI (sI (sI (sI (sI (sI μ (k + 3) (vn v) (nI a)) (k + 4) (vn v) (nI b)) (k + 5) (vn v) (nI c)) (k + 6) (vn v) (ngc 1)) k 6 (nI (vn v + 1))) x y = gI μ x y := fun x y h1 h2 => by
    rw [gI_ne _ (by omega), gI_ne _ (by omega), gI_ne _ (by omega), gI_ne _ (by omega), gI_ne _ (by omega)]
  refine ⟨fun a ha => ?_, fun a ha => ?_, gI_eq _ _ _ _, fun p hp => ?_, ?_, fun i hi => ?_, ?_, ?_, fun i hi => ?_, ?_, fun i hi => ?_⟩
  · rw [g _ _ (by omega) (by omega)]; exact h1 a ha
  · rw [g _ _ (by omega) (by omega)]; exact h2 a ha
  · have hp : p < vn v + 1 := hp
    show _ = nI (vup (vK v) (vn v) a p) ∧ _ = nI (vup (vN v) (vn v) b p) ∧ _ = nI (vup (vR v) (vn v) c p) ∧ _ = nI (vup (vM v) (vn v) 0 p) - 1
    by_cases hpn : p = vn v
    · subst hpn
      rw [vup_e, vup_e, vup_e, vup_e]
      refine ⟨?_, ?_, ?_, ?_⟩
      · rw [gI_ne _ (by omega), gI_ne _ (by omega), gI_ne _ (by omega), gI_ne _ (by omega), gI_eq]
      · rw [gI_ne _ (by omega), gI_ne _ (by omega), gI_ne _ (by omega), gI_eq]
      · rw [gI_ne _ (by omega), gI_ne _ (by omega), gI_eq]
      · rw [gI_ne _ (by omega), gI_eq]; rfl
    · rw [vup_n _ _ hpn, vup_n _ _ hpn, vup_n _ _ hpn, vup_n _ _ hpn, g _ _ (by omega) (by omega), g _ _ (by omega) (by omega), g _ _ (by omega) (by omega), g _ _ (by omega) (by omega)]
      exact h4 p (by omega)
  · rw [g _ _ (by omega) (by omega)]; exact h5
  · rw [g _ _ (by omega) (by omega), g _ _ (by omega) (by omega)]; exact h6 i hi
  · rw [g _ _ (by omega) (by omega)]; exact h7
  · rw [g _ _ (by omega) (by omega)]; exact h8
  · rw [g _ _ (by omega) (by omega)]; exact h9 i hi
  · rw [g _ _ (by omega) (by omega)]; exact h10
  · rw [g _ _ (by omega) (by omega)]; exact h11 i hi
theorem MV_addP {μ : jm} {r : Nat} {v : vst} {a b c : Nat} (hw : WV v) (hn : vn v < 7) (hv : MV μ r v) : MV (sI (sI (sI (sI (sI μ 65 (r + 73 + vn v) (nI a)) 65 (r + 80 + vn v) (nI b)) 65 (r + 87 + vn v) (nI c)) 65 (r + 94 + vn v) (ngc 1)) 65 (r + 72) (nI (vn v + 1))) r (addP v a b c) := by
  obtain ⟨h1, h2, h3, h4, h5, h6, h7, h8, h9, h10, h11⟩ := hv
  obtain ⟨-, -, w3, -, w5, -, -, w8, -, w10, -⟩ := hw
  have g : ∀ y, ¬ (y = r + 73 + vn v ∨ y = r + 80 + vn v ∨ y = r + 87 + vn v ∨ y = r + 94 + vn v ∨ y = r + 72) → gI (sI (sI (sI (sI (sI μ 65 (r + 73 + vn v) (nI a)) 65 (r + 80 + vn v) (nI b)) 65 (r + 87 + vn v) (nI c)) 65 (r + 94 + vn v) (ngc 1)) 65 (r + 72) (nI (vn v + 1))) 65 y = gI μ 65 y := fun y h1 => by
    rw [gI_ne _ (by omega), gI_ne _ (by omega), gI_ne _ (by omega), gI_ne _ (by omega), gI_ne _ (by omega)]
  refine ⟨fun a b ha hb => ?_, fun a b ha hb => ?_, gI_eq _ _ _ _, fun p hp => ?_, ?_, fun i hi => ?_, ?_, ?_, fun i hi => ?_, ?_, fun i hi => ?_⟩
  · rw [g _ (by omega)]; exact h1 a b ha hb
  · rw [g _ (by omega)]; exact h2 a b ha hb
  · have hp : p < vn v + 1 := hp
    show _ = nI (vup (vK v) (vn v) a p) ∧ _ = nI (vup (vN v) (vn v) b p) ∧ _ = nI (vup (vR v) (vn v) c p) ∧ _ = nI (vup (vM v) (vn v) 0 p) - 1
    by_cases hpn : p = vn v
    · subst hpn
      rw [vup_e, vup_e, vup_e, vup_e]
      refine ⟨?_, ?_, ?_, ?_⟩
      · rw [gI_ne _ (by omega), gI_ne _ (by omega), gI_ne _ (by omega), gI_ne _ (by omega), gI_eq]
      · rw [gI_ne _ (by omega), gI_ne _ (by omega), gI_ne _ (by omega), gI_eq]
      · rw [gI_ne _ (by omega), gI_ne _ (by omega), gI_eq]
      · rw [gI_ne _ (by omega), gI_eq]; rfl
    · rw [vup_n _ _ hpn, vup_n _ _ hpn, vup_n _ _ hpn, vup_n _ _ hpn, g _ (by omega), g _ (by omega), g _ (by omega), g _ (by omega)]
      exact h4 p (by omega)
  · rw [g _ (by omega)]; exact h5
  · have hi : i < vc v := hi
    rw [g _ (by omega), g _ (by omega)]; exact h6 i hi
  · rw [g _ (by omega)]; exact h7
  · rw [g _ (by omega)]; exact h8
  · have hi : i < vp v := hi
    rw [g _ (by omega)]; exact h9 i hi
  · rw [g _ (by omega)]; exact h10
  · have hi : i < vh v := hi
    rw [g _ (by omega)]; exact h11 i hi
theorem c_one (k : Nat) (x y z : Int32) (μ : jm) (v : vst) (hw : WV v) (hv : CV μ k v) : ∃ m1, cj 18 [jR 8 k, jI x, jI y, jI z] μ = some (some (jI (fOn x y z v)), m1) ∧ CV m1 k (gOn x y z v) ∧ okC k μ m1 := by
  rw [e_Valley_addPerson, ck2 (N := 5) (n := 5) rfl (by omega)]
  have w3 : vn v ≤ 7 := hw.2.2.1
  have h3 : gI μ k 6 = nI (vn v) := hv.2.2.1
  by_cases h : oOk x y z
  · have fe : fOn x y z v = _ := if_pos h
    have ge : gOn x y z v = _ := if_pos h
    rw [fe, ge]
    obtain ⟨hx, hy, hz⟩ := h
    rw [if_pos hx, c_isNote, bI_some, bf_n (decide_eq_true hy), c_isRoom, bI_some, bt_p (decide_eq_true hz)]
    obtain ⟨a, ha, rfl⟩ := un_x hx (by omega)
    obtain ⟨b, hb, rfl⟩ := un_x hy (by omega)
    obtain ⟨c, hc, rfl⟩ := un_x hz (by omega)
    rw [un_nI (by omega), un_nI (by omega), un_nI (by omega)]
    by_cases hn : vn v < 7
    · rw [if_pos hn, if_pos hn]
      refine ⟨_, ?_, CV_addP hv, ?_⟩
      · simp (disch := omega) only [↓ng1, ↓ng2, ↓ng3, ↓ng4, ↓ng5, ↓ng10, ↓ng1000, li0, li1, li2, li3, li4, li5, li6, li7, li8, li9, li10, li11, li12, li15, li16, li36, li48, li50, li51, li57, li59, li60, li63, li72, li73, li80, li85, li87, li94, li96, li97, li100, li101, li102, li110, li118, li119, li120, li122, li126, li127, li140, li200, li255, li280, li420, li560, li896, li1000, li4095, qI_tb, qI_1, qI_adn, kI_and, kI_or, nI_add, kI_sub, kI_mul, qI_lt0, kI_lt, kI_le, kI_eq, qN0, qN1, qI_n, qm_1, ixn, inB_nI, jgd_t, bI_some, bL_some, bV_some, bR_some, gI_e2, gI_ne, gI_sL, jbr_p, jbr_n, h3, Nat.add_sub_cancel]
      · exact okC_t (okC_t (okC_t (okC_t (okC_sI k μ (by omega) (by omega)) (okC_sI k _ (by omega) (by omega))) (okC_sI k _ (by omega) (by omega))) (okC_sI k _ (by omega) (by omega))) (okC_sI k _ (by omega) (by omega))
    · rw [if_neg hn, if_neg hn]
      refine ⟨μ, ?_, hv, okC_r k μ⟩
      simp (disch := omega) only [↓ng1, ↓ng2, ↓ng3, ↓ng4, ↓ng5, ↓ng10, ↓ng1000, li0, li1, li2, li3, li4, li5, li6, li7, li8, li9, li10, li11, li12, li15, li16, li36, li48, li50, li51, li57, li59, li60, li63, li72, li73, li80, li85, li87, li94, li96, li97, li100, li101, li102, li110, li118, li119, li120, li122, li126, li127, li140, li200, li255, li280, li420, li560, li896, li1000, li4095, qI_tb, qI_1, qI_adn, kI_and, kI_or, nI_add, kI_sub, kI_mul, qI_lt0, kI_lt, kI_le, kI_eq, qN0, qN1, qI_n, qm_1, ixn, inB_nI, jgd_t, bI_some, bL_some, bV_some, bR_some, gI_e2, gI_ne, gI_sL, jbr_p, jbr_n, h3]
  · have fe : fOn x y z v = _ := if_neg h
    have ge : gOn x y z v = _ := if_neg h
    rw [fe, ge]
    refine ⟨μ, ?_, hv, okC_r k μ⟩
    by_cases hx : un x < 6
    · rw [if_pos hx, c_isNote, bI_some]
      by_cases hy : un y < 12
      · rw [bf_n (decide_eq_true hy), c_isRoom, bI_some, bt_n (decide_eq_false (fun hz => h ⟨hx, hy, hz⟩)), e_Valley_addPerson_23]
      · rw [bf_p (decide_eq_false hy), e_Valley_addPerson_23]
    · rw [if_neg hx, e_Valley_addPerson_23]
theorem m_one (r : Nat) (hr : r ≤ 420) (x y z : Int32) (μ : jm) (v : vst) (hw : WV v) (hv : MV μ r v) : ∃ m1, cj 144 [jR 10 64, jI (nI r), jI x, jI y, jI z] μ = some (some (jI (fOn x y z v)), m1) ∧ MV m1 r (gOn x y z v) ∧ okM r μ m1 := by
  rw [e_M_addOne, m_in0 x 5 6 (by omega) rfl, bI_some]
  have w3 : vn v ≤ 7 := hw.2.2.1
  have h3 : gI μ 65 (r + 72) = nI (vn v) := hv.2.2.1
  by_cases h : oOk x y z
  · have fe : fOn x y z v = _ := if_pos h
    have ge : gOn x y z v = _ := if_pos h
    rw [fe, ge]
    obtain ⟨hx, hy, hz⟩ := h
    rw [bf_n (decide_eq_true hx), m_in0 y 11 12 (by omega) rfl, bI_some, bf_n (decide_eq_true hy), m_isRoom, bI_some, bt_p (decide_eq_true hz)]
    obtain ⟨a, ha, rfl⟩ := un_x hx (by omega)
    obtain ⟨b, hb, rfl⟩ := un_x hy (by omega)
    obtain ⟨c, hc, rfl⟩ := un_x hz (by omega)
    rw [un_nI (by omega), un_nI (by omega), un_nI (by omega)]
    by_cases hn : vn v < 7
    · rw [if_pos hn, if_pos hn]
      refine ⟨_, ?_, MV_addP hw hn hv, ?_⟩
      · simp (disch := omega) only [↓ng1, ↓ng2, ↓ng3, ↓ng4, ↓ng5, ↓ng10, ↓ng1000, li0, li1, li2, li3, li4, li5, li6, li7, li8, li9, li10, li11, li12, li15, li16, li36, li48, li50, li51, li57, li59, li60, li63, li72, li73, li80, li85, li87, li94, li96, li97, li100, li101, li102, li110, li118, li119, li120, li122, li126, li127, li140, li200, li255, li280, li420, li560, li896, li1000, li4095, qI_tb, qI_1, qI_adn, kI_and, kI_or, nI_add, kI_sub, kI_mul, qI_lt0, kI_lt, kI_le, kI_eq, qN0, qN1, qI_n, qm_1, ixn, inB_nI, jgd_t, bI_some, bL_some, bV_some, bR_some, gI_e2, gI_ne, gI_sL, jbr_p, jbr_n, h3]
      · exact okM_t (okM_t (okM_t (okM_t (okM_sI r μ (by omega) (by omega)) (okM_sI r _ (by omega) (by omega))) (okM_sI r _ (by omega) (by omega))) (okM_sI r _ (by omega) (by omega))) (okM_sI r _ (by omega) (by omega))
    · rw [if_neg hn, if_neg hn]
      refine ⟨μ, ?_, hv, okM_r r μ⟩
      simp (disch := omega) only [↓ng1, ↓ng2, ↓ng3, ↓ng4, ↓ng5, ↓ng10, ↓ng1000, li0, li1, li2, li3, li4, li5, li6, li7, li8, li9, li10, li11, li12, li15, li16, li36, li48, li50, li51, li57, li59, li60, li63, li72, li73, li80, li85, li87, li94, li96, li97, li100, li101, li102, li110, li118, li119, li120, li122, li126, li127, li140, li200, li255, li280, li420, li560, li896, li1000, li4095, qI_tb, qI_1, qI_adn, kI_and, kI_or, nI_add, kI_sub, kI_mul, qI_lt0, kI_lt, kI_le, kI_eq, qN0, qN1, qI_n, qm_1, ixn, inB_nI, jgd_t, bI_some, bL_some, bV_some, bR_some, gI_e2, gI_ne, gI_sL, jbr_p, jbr_n, h3]
  · have fe : fOn x y z v = _ := if_neg h
    have ge : gOn x y z v = _ := if_neg h
    rw [fe, ge]
    refine ⟨μ, ?_, hv, okM_r r μ⟩
    by_cases hx : un x < 6
    · rw [bf_n (decide_eq_true hx), m_in0 y 11 12 (by omega) rfl, bI_some]
      by_cases hy : un y < 12
      · rw [bf_n (decide_eq_true hy), m_isRoom, bI_some, bt_n (decide_eq_false (fun hz => h ⟨hx, hy, hz⟩))]
      · rw [bf_p (decide_eq_false hy)]
    · rw [bf_p (decide_eq_false hx)]
theorem op_one (x y z : Int32) : opI 98 143 [jI x, jI y, jI z] Rel :=
  opI_of (fun S => fOn x y z (sv S)) (fun S => tel (setV S (gOn x y z (sv S))) (fOn x y z (sv S))) (fun S h => WS_tel (WS_setV h (WV_gOn x y z h.1)) _)
    (c_val (f := fOn x y z) (fun μ => e_N_one x y z μ) (fun μ v hw hv => c_one 1 x y z μ v hw hv))
    (m_val (f := fOn x y z) (as2 := [jI 0, jI x, jI y, jI z]) (fun μ => e_M_one x y z μ) (fun v h => WV_gOn x y z h) (fun μ v hw hv => m_one 0 (by omega) x y z μ v hw hv))
/-- bounds alone -/
def WB (v : vst) : Prop := vn v ≤ 7 ∧ vc v ≤ 8 ∧ vp v ≤ 6 ∧ vh v ≤ 6
theorem WB_of {v : vst} (h : WV v) : WB v := ⟨h.2.2.1, h.2.2.2.2.1, h.2.2.2.2.2.2.2.1, h.2.2.2.2.2.2.2.2.2.1⟩
/-- spouses, rooms and kinds changed -/
def setM (v : vst) (p x : Nat) : vst := (vD v, vE v, vn v, vK v, vN v, vR v, vup (vM v) p x, vc v, vC v, vU v, vl v, vp v, vP v, vh v, vH v)
def setRo (v : vst) (p x : Nat) : vst := (vD v, vE v, vn v, vK v, vN v, vup (vR v) p x, vM v, vc v, vC v, vU v, vl v, vp v, vP v, vh v, vH v)
def setK (v : vst) (p x : Nat) : vst := (vD v, vE v, vn v, vup (vK v) p x, vN v, vR v, vM v, vc v, vC v, vU v, vl v, vp v, vP v, vh v, vH v)
theorem gI_vup (μ : jm) (k i j : Nat) (F : Nat → Nat) (x : Nat) (h : gI μ k j = nI (F j)) : gI (sI μ k i (nI x)) k j = nI (vup F i x j) := by
  by_cases e : j = i
  · subst e; rw [gI_eq, vup_e]
  · rw [gI_ne _ (by omega), vup_n _ _ e, h]
theorem gI_vups (μ : jm) (k o i j : Nat) (F : Nat → Nat) (x : Nat) (h : gI μ k (o + j) = nI (F j)) : gI (sI μ k (o + i) (nI x)) k (o + j) = nI (vup F i x j) := by
  by_cases e : j = i
  · subst e; rw [gI_eq, vup_e]
  · rw [gI_ne _ (by omega), vup_n _ _ e, h]
theorem gI_vupm (μ : jm) (k o i j : Nat) (F : Nat → Nat) (x : Nat) (y : Int32) (hy : y = nI x - 1) (h : gI μ k (o + j) = nI (F j) - 1) : gI (sI μ k (o + i) y) k (o + j) = nI (vup F i x j) - 1 := by
  by_cases e : j = i
  · subst e; rw [gI_eq, vup_e, hy]
  · rw [gI_ne _ (by omega), vup_n _ _ e, h]
theorem CV_setM {μ : jm} {k : Nat} {v : vst} (p x : Nat) {y : Int32} (hy : y = nI x - 1) (hv : CV μ k v) : CV (sI μ (k + 6) p y) k (setM v p x) := by
  obtain ⟨h1, h2, h3, h4, h5, h6, h7, h8, h9, h10, h11⟩ := hv
  have g : ∀ a b, a ≠ k + 6 → gI (sI μ (k + 6) p y) a b = gI μ a b := fun a b ha => gI_ne μ (fun z => ha z.1)
  exact ⟨fun a ha => by rw [g _ _ (by omega)]; exact h1 a ha, fun a ha => by rw [g _ _ (by omega)]; exact h2 a ha, by rw [g _ _ (by omega)]; exact h3, fun q hq => by obtain ⟨q1, q2, q3, q4⟩ := h4 q hq; exact ⟨by rw [g _ _ (by omega)]; exact q1, by rw [g _ _ (by omega)]; exact q2, by rw [g _ _ (by omega)]; exact q3, by have := gI_vupm μ (k + 6) 0 p q (vM v) x y hy (by rw [Nat.zero_add]; exact q4); rw [Nat.zero_add, Nat.zero_add] at this; exact this⟩, by rw [g _ _ (by omega)]; exact h5, fun i hi => by rw [g _ _ (by omega), g _ _ (by omega)]; exact h6 i hi, by rw [g _ _ (by omega)]; exact h7, by rw [g _ _ (by omega)]; exact h8, fun i hi => by rw [g _ _ (by omega)]; exact h9 i hi, by rw [g _ _ (by omega)]; exact h10, fun i hi => by rw [g _ _ (by omega)]; exact h11 i hi⟩
theorem CV_setRo {μ : jm} {k : Nat} {v : vst} (p x : Nat) (hv : CV μ k v) : CV (sI μ (k + 5) p (nI x)) k (setRo v p x) := by
  obtain ⟨h1, h2, h3, h4, h5, h6, h7, h8, h9, h10, h11⟩ := hv
  have g : ∀ a b, a ≠ k + 5 → gI (sI μ (k + 5) p (nI x)) a b = gI μ a b := fun a b ha => gI_ne μ (fun z => ha z.1)
  exact ⟨fun a ha => by rw [g _ _ (by omega)]; exact h1 a ha, fun a ha => by rw [g _ _ (by omega)]; exact h2 a ha, by rw [g _ _ (by omega)]; exact h3, fun q hq => by obtain ⟨q1, q2, q3, q4⟩ := h4 q hq; exact ⟨by rw [g _ _ (by omega)]; exact q1, by rw [g _ _ (by omega)]; exact q2, gI_vup μ _ p q (vR v) x q3, by rw [g _ _ (by omega)]; exact q4⟩, by rw [g _ _ (by omega)]; exact h5, fun i hi => by rw [g _ _ (by omega), g _ _ (by omega)]; exact h6 i hi, by rw [g _ _ (by omega)]; exact h7, by rw [g _ _ (by omega)]; exact h8, fun i hi => by rw [g _ _ (by omega)]; exact h9 i hi, by rw [g _ _ (by omega)]; exact h10, fun i hi => by rw [g _ _ (by omega)]; exact h11 i hi⟩
theorem CV_setK {μ : jm} {k : Nat} {v : vst} (p x : Nat) (hv : CV μ k v) : CV (sI μ (k + 3) p (nI x)) k (setK v p x) := by
  obtain ⟨h1, h2, h3, h4, h5, h6, h7, h8, h9, h10, h11⟩ := hv
  have g : ∀ a b, a ≠ k + 3 → gI (sI μ (k + 3) p (nI x)) a b = gI μ a b := fun a b ha => gI_ne μ (fun z => ha z.1)
  exact ⟨fun a ha => by rw [g _ _ (by omega)]; exact h1 a ha, fun a ha => by rw [g _ _ (by omega)]; exact h2 a ha, by rw [g _ _ (by omega)]; exact h3, fun q hq => by obtain ⟨q1, q2, q3, q4⟩ := h4 q hq; exact ⟨gI_vup μ _ p q (vK v) x q1, by rw [g _ _ (by omega)]; exact q2, by rw [g _ _ (by omega)]; exact q3, by rw [g _ _ (by omega)]; exact q4⟩, by rw [g _ _ (by omega)]; exact h5, fun i hi => by rw [g _ _ (by omega), g _ _ (by omega)]; exact h6 i hi, by rw [g _ _ (by omega)]; exact h7, by rw [g _ _ (by omega)]; exact h8, fun i hi => by rw [g _ _ (by omega)]; exact h9 i hi, by rw [g _ _ (by omega)]; exact h10, fun i hi => by rw [g _ _ (by omega)]; exact h11 i hi⟩
theorem MV_setM {μ : jm} {r : Nat} {v : vst} (p x : Nat) {y : Int32} (hw : WB v) (hp : p < vn v) (hy : y = nI x - 1) (hv : MV μ r v) : MV (sI μ 65 (r + 94 + p) y) r (setM v p x) := by
  obtain ⟨h1, h2, h3, h4, h5, h6, h7, h8, h9, h10, h11⟩ := hv
  obtain ⟨w3, w5, w8, w10⟩ := hw
  have g : ∀ b, b ≠ r + 94 + p → gI (sI μ 65 (r + 94 + p) y) 65 b = gI μ 65 b := fun b hb => gI_ne μ (fun z => hb z.2)
  exact ⟨fun a b ha hb => by rw [g _ (by omega)]; exact h1 a b ha hb, fun a b ha hb => by rw [g _ (by omega)]; exact h2 a b ha hb, by rw [g _ (by omega)]; exact h3, fun q hq => by have hq : q < vn v := hq; obtain ⟨q1, q2, q3, q4⟩ := h4 q hq; exact ⟨by rw [g _ (by omega)]; exact q1, by rw [g _ (by omega)]; exact q2, by rw [g _ (by omega)]; exact q3, gI_vupm μ 65 (r + 94) p q (vM v) x y hy q4⟩, by rw [g _ (by omega)]; exact h5, fun i hi => by have hi : i < vc v := hi; rw [g _ (by omega), g _ (by omega)]; exact h6 i hi, by rw [g _ (by omega)]; exact h7, by rw [g _ (by omega)]; exact h8, fun i hi => by have hi : i < vp v := hi; rw [g _ (by omega)]; exact h9 i hi, by rw [g _ (by omega)]; exact h10, fun i hi => by have hi : i < vh v := hi; rw [g _ (by omega)]; exact h11 i hi⟩
theorem MV_setRo {μ : jm} {r : Nat} {v : vst} (p x : Nat) (hw : WB v) (hp : p < vn v) (hv : MV μ r v) : MV (sI μ 65 (r + 87 + p) (nI x)) r (setRo v p x) := by
  obtain ⟨h1, h2, h3, h4, h5, h6, h7, h8, h9, h10, h11⟩ := hv
  obtain ⟨w3, w5, w8, w10⟩ := hw
  have g : ∀ b, b ≠ r + 87 + p → gI (sI μ 65 (r + 87 + p) (nI x)) 65 b = gI μ 65 b := fun b hb => gI_ne μ (fun z => hb z.2)
  exact ⟨fun a b ha hb => by rw [g _ (by omega)]; exact h1 a b ha hb, fun a b ha hb => by rw [g _ (by omega)]; exact h2 a b ha hb, by rw [g _ (by omega)]; exact h3, fun q hq => by have hq : q < vn v := hq; obtain ⟨q1, q2, q3, q4⟩ := h4 q hq; exact ⟨by rw [g _ (by omega)]; exact q1, by rw [g _ (by omega)]; exact q2, gI_vups μ 65 (r + 87) p q (vR v) x q3, by rw [g _ (by omega)]; exact q4⟩, by rw [g _ (by omega)]; exact h5, fun i hi => by have hi : i < vc v := hi; rw [g _ (by omega), g _ (by omega)]; exact h6 i hi, by rw [g _ (by omega)]; exact h7, by rw [g _ (by omega)]; exact h8, fun i hi => by have hi : i < vp v := hi; rw [g _ (by omega)]; exact h9 i hi, by rw [g _ (by omega)]; exact h10, fun i hi => by have hi : i < vh v := hi; rw [g _ (by omega)]; exact h11 i hi⟩
theorem MV_setK {μ : jm} {r : Nat} {v : vst} (p x : Nat) (hw : WB v) (hp : p < vn v) (hv : MV μ r v) : MV (sI μ 65 (r + 73 + p) (nI x)) r (setK v p x) := by
  obtain ⟨h1, h2, h3, h4, h5, h6, h7, h8, h9, h10, h11⟩ := hv
  obtain ⟨w3, w5, w8, w10⟩ := hw
  have g : ∀ b, b ≠ r + 73 + p → gI (sI μ 65 (r + 73 + p) (nI x)) 65 b = gI μ 65 b := fun b hb => gI_ne μ (fun z => hb z.2)
  exact ⟨fun a b ha hb => by rw [g _ (by omega)]; exact h1 a b ha hb, fun a b ha hb => by rw [g _ (by omega)]; exact h2 a b ha hb, by rw [g _ (by omega)]; exact h3, fun q hq => by have hq : q < vn v := hq; obtain ⟨q1, q2, q3, q4⟩ := h4 q hq; exact ⟨gI_vups μ 65 (r + 73) p q (vK v) x q1, by rw [g _ (by omega)]; exact q2, by rw [g _ (by omega)]; exact q3, by rw [g _ (by omega)]; exact q4⟩, by rw [g _ (by omega)]; exact h5, fun i hi => by have hi : i < vc v := hi; rw [g _ (by omega), g _ (by omega)]; exact h6 i hi, by rw [g _ (by omega)]; exact h7, by rw [g _ (by omega)]; exact h8, fun i hi => by have hi : i < vp v := hi; rw [g _ (by omega)]; exact h9 i hi, by rw [g _ (by omega)]; exact h10, fun i hi => by have hi : i < vh v := hi; rw [g _ (by omega)]; exact h11 i hi⟩
/-- mates -/
theorem qm_r {a : Nat} (ha : a < 1073741824) : (nI a - (1 : Int32) = (-1 : Int32)) = (a = 0) := qm_1 ha
abbrev aOk (x y : Int32) (v : vst) : Prop := un x < vn v ∧ un y < vn v ∧ ¬ x = y
def fMa (x y : Int32) (v : vst) : Int32 := if aOk x y v then (if vM v (un x) = 0 ∧ vM v (un y) = 0 then 1 else -3) else -2
def gMa (x y : Int32) (v : vst) : vst := if aOk x y v then (if vM v (un x) = 0 ∧ vM v (un y) = 0 then setM (setM v (un x) (un y + 1)) (un y) (un x + 1) else v) else v
theorem WV_mates {v : vst} (h : WV v) {a b : Nat} (ha : a < vn v) (hb : b < vn v) (hab : a ≠ b) (h1 : vM v a = 0) (h2 : vM v b = 0) : WV (setM (setM v a (b + 1)) b (a + 1)) := by
  obtain ⟨w1, w2, w3, w4, w5, w6, w7, w8, w9, w10, w11⟩ := h
  refine ⟨w1, w2, w3, ?_, w5, w6, w7, w8, w9, w10, w11⟩
  intro p hp
  have hp : p < vn v := hp
  obtain ⟨q1, q2, q3, q4, q5⟩ := w4 p hp
  refine ⟨q1, q2, q3, ?_⟩
  show vup (vup (vM v) a (b + 1)) b (a + 1) p ≤ vn v ∧ (vup (vup (vM v) a (b + 1)) b (a + 1) p ≠ 0 → vup (vup (vM v) a (b + 1)) b (a + 1) p ≠ p + 1 ∧ vup (vup (vM v) a (b + 1)) b (a + 1) (vup (vup (vM v) a (b + 1)) b (a + 1) p - 1) = p + 1)
  by_cases e1 : p = b
  · subst e1
    rw [vup_e, Nat.add_sub_cancel, vup_n _ _ hab, vup_e]
    exact ⟨by omega, fun _ => ⟨by omega, rfl⟩⟩
  · rw [vup_n _ _ e1]
    by_cases e2 : p = a
    · subst e2
      rw [vup_e, Nat.add_sub_cancel, vup_e]
      exact ⟨by omega, fun _ => ⟨by omega, rfl⟩⟩
    · rw [vup_n _ _ e2]
      refine ⟨q4, fun z => ?_⟩
      obtain ⟨z1, z2⟩ := q5 z
      have n1 : vM v p - 1 ≠ b := fun e => by rw [e, h2] at z2; omega
      have n2 : vM v p - 1 ≠ a := fun e => by rw [e, h1] at z2; omega
      rw [vup_n _ _ n1, vup_n _ _ n2]
      exact ⟨z1, z2⟩
theorem WV_gMa (x y : Int32) {v : vst} (h : WV v) : WV (gMa x y v) := by
  have w3 : vn v ≤ 7 := h.2.2.1
  unfold gMa
  split
  · rename_i h1
    split
    · rename_i h2
      obtain ⟨hx, hy, hxy⟩ := h1
      refine WV_mates h hx hy (fun e => hxy ?_) h2.1 h2.2
      obtain ⟨a, ha, rfl⟩ := un_x hx (by omega)
      obtain ⟨b, hb, rfl⟩ := un_x hy (by omega)
      rw [un_nI (by omega), un_nI (by omega)] at e
      rw [e]
    · exact h
  · exact h
theorem c_mates (k : Nat) (x y : Int32) (μ : jm) (v : vst) (hw : WV v) (hv : CV μ k v) : ∃ m1, cj 19 [jR 8 k, jI x, jI y] μ = some (some (jI (fMa x y v)), m1) ∧ CV m1 k (gMa x y v) ∧ okC k μ m1 := by
  have w3 : vn v ≤ 7 := hw.2.2.1
  have h3 : gI μ k 6 = nI (vn v) := hv.2.2.1
  have w4 : ∀ p, p < vn v → vM v p ≤ 7 := fun p hp => by have := (hw.2.2.2.1 p hp).2.2.2.1; omega
  have h4 : ∀ p, p < vn v → gI μ (k + 6) p = nI (vM v p) - 1 := fun p hp => (hv.2.2.2.1 p hp).2.2.2
  rw [e_Valley_addMates, c_isPerson k x μ (by omega) h3, bI_some]
  by_cases h : aOk x y v
  · have fe : fMa x y v = _ := if_pos h
    have ge : gMa x y v = _ := if_pos h
    rw [fe, ge]
    obtain ⟨hx, hy, hxy⟩ := h
    rw [bf_n (decide_eq_true hx), c_isPerson k y μ (by omega) h3, bI_some, bf_n (decide_eq_true hy), jbr_p hxy]
    obtain ⟨a, ha, rfl⟩ := un_x hx (by omega)
    obtain ⟨b, hb, rfl⟩ := un_x hy (by omega)
    have hab : a ≠ b := fun e => hxy (by rw [e])
    rw [un_nI (by omega), un_nI (by omega)]
    have wa := w4 a ha
    have wb := w4 b hb
    have ha7 : a < 7 := by omega
    have hb7 : b < 7 := by omega
    rw [inB_nI ha7 (by omega), jgd_t, ixn (by omega), h4 a ha]
    by_cases e1 : vM v a = 0
    · rw [jbr_m ((qm_r (by omega)).mpr e1), inB_nI hb7 (by omega), jgd_t, ixn (by omega), h4 b hb]
      by_cases e2 : vM v b = 0
      · rw [jbr_p ((qm_r (by omega)).mpr e2), jgd_t, jgd_t, if_pos ⟨e1, e2⟩, if_pos ⟨e1, e2⟩]
        refine ⟨_, rfl, CV_setM b (a + 1) (nI_pred a).symm (CV_setM a (b + 1) (nI_pred b).symm hv), okC_t (okC_sI k μ (by omega) (by omega)) (okC_sI k _ (by omega) (by omega))⟩
      · rw [jbr_n (fun z => e2 ((qm_r (by omega)).mp z)), if_neg (fun z => e2 z.2), if_neg (fun z => e2 z.2), e_Valley_addMates_44]
        exact ⟨μ, rfl, hv, okC_r k μ⟩
    · rw [jbr_q (fun z => e1 ((qm_r (by omega)).mp z)), if_neg (fun z => e1 z.1), if_neg (fun z => e1 z.1), e_Valley_addMates_44]
      exact ⟨μ, rfl, hv, okC_r k μ⟩
  · have fe : fMa x y v = _ := if_neg h
    have ge : gMa x y v = _ := if_neg h
    rw [fe, ge]
    refine ⟨μ, ?_, hv, okC_r k μ⟩
    by_cases hx : un x < vn v
    · rw [bf_n (decide_eq_true hx), c_isPerson k y μ (by omega) h3, bI_some]
      by_cases hy : un y < vn v
      · rw [bf_n (decide_eq_true hy), jbr_n (fun z => h ⟨hx, hy, z⟩), e_Valley_addMates_21]
      · rw [bf_p (decide_eq_false hy), e_Valley_addMates_21]
    · rw [bf_p (decide_eq_false hx), e_Valley_addMates_21]
theorem m_mates (r : Nat) (hr : r ≤ 420) (x y : Int32) (μ : jm) (v : vst) (hw : WV v) (hv : MV μ r v) : ∃ m1, cj 146 [jR 10 64, jI (nI r), jI x, jI y] μ = some (some (jI (fMa x y v)), m1) ∧ MV m1 r (gMa x y v) ∧ okM r μ m1 := by
  have w3 : vn v ≤ 7 := hw.2.2.1
  have h3 : gI μ 65 (r + 72) = nI (vn v) := hv.2.2.1
  have w4 : ∀ p, p < vn v → vM v p ≤ 7 := fun p hp => by have := (hw.2.2.2.1 p hp).2.2.2.1; omega
  have h4 : ∀ p, p < vn v → gI μ 65 (r + 94 + p) = nI (vM v p) - 1 := fun p hp => (hv.2.2.2.1 p hp).2.2.2
  rw [e_M_addMates, m_isOne r hr x μ w3 h3, bI_some]
  by_cases h : aOk x y v
  · have fe : fMa x y v = _ := if_pos h
    have ge : gMa x y v = _ := if_pos h
    rw [fe, ge]
    obtain ⟨hx, hy, hxy⟩ := h
    rw [bf_n (decide_eq_true hx), m_isOne r hr y μ w3 h3, bI_some, bf_n (decide_eq_true hy), jbr_p hxy]
    obtain ⟨a, ha, rfl⟩ := un_x hx (by omega)
    obtain ⟨b, hb, rfl⟩ := un_x hy (by omega)
    have hab : a ≠ b := fun e => hxy (by rw [e])
    rw [un_nI (by omega), un_nI (by omega)]
    have wa := w4 a ha
    have wb := w4 b hb
    rw [nI_p r 94 (z := 94) rfl, nI_add, nI_add, inB_nI (by omega) (by omega), jgd_t, jgd_t, ixn (by omega), h4 a ha]
    by_cases e1 : vM v a = 0
    · rw [jbr_m ((qm_r (by omega)).mpr e1), inB_nI (by omega) (by omega), jgd_t, jgd_t, ixn (by omega), h4 b hb]
      by_cases e2 : vM v b = 0
      · rw [jbr_p ((qm_r (by omega)).mpr e2), if_pos ⟨e1, e2⟩, if_pos ⟨e1, e2⟩]
        refine ⟨_, rfl, MV_setM b (a + 1) (show WB (setM v a (b + 1)) from (show WB v from WB_of hw)) hb (nI_pred a).symm (MV_setM a (b + 1) (WB_of hw) ha (nI_pred b).symm hv), okM_t (okM_sI r μ (by omega) (by omega)) (okM_sI r _ (by omega) (by omega))⟩
      · rw [jbr_n (fun z => e2 ((qm_r (by omega)).mp z)), if_neg (fun z => e2 z.2), if_neg (fun z => e2 z.2), e_M_addMates_56]
        exact ⟨μ, rfl, hv, okM_r r μ⟩
    · rw [jbr_q (fun z => e1 ((qm_r (by omega)).mp z)), if_neg (fun z => e1 z.1), if_neg (fun z => e1 z.1), e_M_addMates_56]
      exact ⟨μ, rfl, hv, okM_r r μ⟩
  · have fe : fMa x y v = _ := if_neg h
    have ge : gMa x y v = _ := if_neg h
    rw [fe, ge]
    refine ⟨μ, ?_, hv, okM_r r μ⟩
    by_cases hx : un x < vn v
    · rw [bf_n (decide_eq_true hx), m_isOne r hr y μ w3 h3, bI_some]
      by_cases hy : un y < vn v
      · rw [bf_n (decide_eq_true hy), jbr_n (fun z => h ⟨hx, hy, z⟩), e_M_addMates_23]
      · rw [bf_p (decide_eq_false hy), e_M_addMates_23]
    · rw [bf_p (decide_eq_false hx), e_M_addMates_23]
theorem op_mates (x y : Int32) : opI 99 145 [jI x, jI y] Rel :=
  opI_of (fun S => fMa x y (sv S)) (fun S => tel (setV S (gMa x y (sv S))) (fMa x y (sv S))) (fun S h => WS_tel (WS_setV h (WV_gMa x y h.1)) _)
    (c_val (f := fMa x y) (fun μ => e_N_mates x y μ) (fun μ v hw hv => c_mates 1 x y μ v hw hv))
    (m_val (f := fMa x y) (as2 := [jI 0, jI x, jI y]) (fun μ => e_M_mates x y μ) (fun v h => WV_gMa x y h) (fun μ v hw hv => m_mates 0 (by omega) x y μ v hw hv))
/-- goes -/
abbrev eOk (x y : Int32) (v : vst) : Prop := un x < vn v ∧ un y < 6
def fGo (x y : Int32) (v : vst) : Int32 := if eOk x y v then nI (vR v (un x)) else -2
def gGo (x y : Int32) (v : vst) : vst := if eOk x y v then setRo v (un x) (un y) else v
theorem WV_gGo (x y : Int32) {v : vst} (h : WV v) : WV (gGo x y v) := by
  unfold gGo
  split
  · rename_i h1
    obtain ⟨w1, w2, w3, w4, w5, w6, w7, w8, w9, w10, w11⟩ := h
    refine ⟨w1, w2, w3, ?_, w5, w6, w7, w8, w9, w10, w11⟩
    intro p hp
    obtain ⟨q1, q2, q3, q4⟩ := w4 p hp
    refine ⟨q1, q2, ?_, q4⟩
    show vup (vR v) (un x) (un y) p < 6
    by_cases e : p = un x
    · rw [e, vup_e]; exact h1.2
    · rw [vup_n _ _ e]; exact q3
  · exact h
theorem c_goes (k : Nat) (x y : Int32) (μ : jm) (v : vst) (hw : WV v) (hv : CV μ k v) : ∃ m1, cj 21 [jR 8 k, jI x, jI y] μ = some (some (jI (fGo x y v)), m1) ∧ CV m1 k (gGo x y v) ∧ okC k μ m1 := by
  have w3 : vn v ≤ 7 := hw.2.2.1
  have h3 : gI μ k 6 = nI (vn v) := hv.2.2.1
  have h4 : ∀ p, p < vn v → gI μ (k + 5) p = nI (vR v p) := fun p hp => (hv.2.2.2.1 p hp).2.2.1
  rw [e_Valley_move, c_isPerson k x μ (by omega) h3, bI_some]
  by_cases hx : un x < vn v
  · rw [bf_n (decide_eq_true hx), c_isRoom, bI_some]
    by_cases hy : un y < 6
    · rw [bt_p (decide_eq_true hy), fGo, gGo, if_pos ⟨hx, hy⟩, if_pos ⟨hx, hy⟩]
      obtain ⟨a, ha, rfl⟩ := un_x hx (by omega)
      obtain ⟨b, hb, rfl⟩ := un_x hy (by omega)
      have ha7 : a < 7 := by omega
      rw [un_nI (by omega), un_nI (by omega), inB_nI ha7 (by omega), jgd_t, jgd_t, ixn (by omega), h4 a ha]
      exact ⟨_, rfl, CV_setRo a b hv, okC_sI k μ (by omega) (by omega)⟩
    · rw [bt_n (decide_eq_false hy), fGo, gGo, if_neg (fun z => hy z.2), if_neg (fun z => hy z.2)]
      exact ⟨μ, rfl, hv, okC_r k μ⟩
  · rw [bf_p (decide_eq_false hx), fGo, gGo, if_neg (fun z => hx z.1), if_neg (fun z => hx z.1)]
    exact ⟨μ, rfl, hv, okC_r k μ⟩
theorem m_goes {μ : jm} {S : sst} (x y : Int32) (hW : WS S) (hM : MS μ S) : ∃ m1, cj 148 [jR 10 64, jI x, jI y] μ = some (some (jI (fGo x y (sv S))), m1) ∧ MS m1 (tel (setV S (gGo x y (sv S))) (fGo x y (sv S))) ∧ om μ m1 := by
  have w3 : vn (sv S) ≤ 7 := hW.1.2.2.1
  have h3 : gI μ 65 (0 + 72) = nI (vn (sv S)) := hM.1.2.2.1
  have h4 : ∀ p, p < vn (sv S) → gI μ 65 (0 + 87 + p) = nI (vR (sv S) p) := fun p hp => (hM.1.2.2.2.1 p hp).2.2.1
  rw [e_M_goes, show cj 147 [jR 10 64, jI 0, jI x] μ = _ from m_isOne 0 (by omega) x μ w3 h3, bI_some]
  by_cases hx : un x < vn (sv S)
  · rw [bf_n (decide_eq_true hx), m_isRoom, bI_some]
    by_cases hy : un y < 6
    · rw [bt_p (decide_eq_true hy), fGo, gGo, if_pos ⟨hx, hy⟩, if_pos ⟨hx, hy⟩]
      obtain ⟨a, ha, rfl⟩ := un_x hx (by omega)
      obtain ⟨b, hb, rfl⟩ := un_x hy (by omega)
      have wr := (hW.1.2.2.2.1 a ha).2.2.1
      rw [un_nI (by omega), un_nI (by omega), li87, nI_add, inB_nI (by omega) (by omega), jgd_t, jgd_t, ixn (by omega), show 87 + a = 0 + 87 + a by omega, h4 a ha, tel_n _ (by omega)]
      exact ⟨_, rfl, MS_setV hW hM (MV_setRo a b (WB_of hW.1) ha hM.1) (fun c d h _ => ⟨if_neg (by omega), rfl⟩), om_sI μ (by omega) (by omega)⟩
    · rw [bt_n (decide_eq_false hy), fGo, gGo, if_neg (fun z => hy z.2), if_neg (fun z => hy z.2)]
      exact m_tel _ hW hM
  · rw [bf_p (decide_eq_false hx), fGo, gGo, if_neg (fun z => hx z.1), if_neg (fun z => hx z.1)]
    exact m_tel _ hW hM
theorem op_goes (x y : Int32) : opI 100 148 [jI x, jI y] Rel :=
  opI_of (fun S => fGo x y (sv S)) (fun S => tel (setV S (gGo x y (sv S))) (fGo x y (sv S))) (fun S h => WS_tel (WS_setV h (WV_gGo x y h.1)) _)
    (c_val (f := fGo x y) (fun μ => e_N_goes x y μ) (fun μ v hw hv => c_goes 1 x y μ v hw hv))
    (fun μ S hW hM => m_goes x y hW hM)
