/-! speech, holes, chords grow -/
theorem bk_lt {a b : Nat} (ha : a < 2147483648) (hb : b < 2147483648) {x y : Option jr} : jbr (decide (nI a < nI b)) x y = jbr (decide (a < b)) x y := by congr 1; exact decide_eq_decide.mpr (nI_ltI ha hb)
theorem bk_le {a b : Nat} (ha : a < 2147483648) (hb : b < 2147483648) {x y : Option jr} : jbr (decide (nI a ≤ nI b)) x y = jbr (decide (a ≤ b)) x y := by congr 1; exact decide_eq_decide.mpr (nI_leI ha hb)
theorem bk_eq {a b : Nat} (ha : a < 2147483648) (hb : b < 2147483648) {x y : Option jr} : jbr (decide (nI a = nI b)) x y = jbr (decide (a = b)) x y := by congr 1; exact decide_eq_decide.mpr (nI_eq ha hb)
theorem bk_ne {a b : Nat} (ha : a < 2147483648) (hb : b < 2147483648) {x y : Option jr} : jbr (decide (¬ nI a = nI b)) x y = jbr (decide (¬ a = b)) x y := by congr 1; exact decide_eq_decide.mpr (not_congr (nI_eq ha hb))
theorem bk_m1 {a : Nat} (ha : a < 1073741824) {x y : Option jr} : jbr (decide (nI a - (1 : Int32) = (-1 : Int32))) x y = jbr (decide (a = 0)) x y := by congr 1; exact decide_eq_decide.mpr (iff_of_eq (qm_1 ha))
theorem bk_n1 {a : Nat} (ha : a < 1073741824) {x y : Option jr} : jbr (decide (¬ nI a - (1 : Int32) = (-1 : Int32))) x y = jbr (decide (¬ a = 0)) x y := by congr 1; exact decide_eq_decide.mpr (not_congr (iff_of_eq (qm_1 ha)))
def addS (v : vst) (c : Nat) : vst := (vD v, vE v, vn v, vK v, vN v, vR v, vM v, vc v, vC v, vU v, vl v, vp v + 1, vup (vP v) (vp v) c, vh v, vH v)
def addH (v : vst) (c : Nat) : vst := (vD v, vE v, vn v, vK v, vN v, vR v, vM v, vc v, vC v, vU v, vl v, vp v, vP v, vh v + 1, vup (vH v) (vh v) c)
def addC (v : vst) (c u : Nat) : vst := (vD v, vE v, vn v, vK v, vN v, vR v, vM v, vc v + 1, vup (vC v) (vc v) c, vup (vU v) (vc v) u, vl v, vp v, vP v, vh v, vH v)
theorem CV_addS {μ : jm} {k : Nat} {v : vst} (c : Nat) (hv : CV μ k v) : CV (sI (sI μ (k + 9) (vp v) (nI c)) k 12 (nI (vp v + 1))) k (addS v c) := by
  obtain ⟨h1, h2, h3, h4, h5, h6, h7, h8, h9, h10, h11⟩ := hv
  have g : ∀ a b, ¬ (a = k + 9 ∧ b = vp v ∨ a = k ∧ b = 12) → gI (sI (sI μ (k + 9) (vp v) (nI c)) k 12 (nI (vp v + 1))) a b = gI μ a b := fun a b ha => by rw [gI_ne _ (by omega), gI_ne _ (by omega)]
  refine ⟨fun a ha => by rw [g _ _ (by omega)]; exact h1 a ha, fun a ha => by rw [g _ _ (by omega)]; exact h2 a ha, by rw [g _ _ (by omega)]; exact h3, fun p hp => by rw [g _ _ (by omega), g _ _ (by omega), g _ _ (by omega), g _ _ (by omega)]; exact h4 p hp, by rw [g _ _ (by omega)]; exact h5, fun i hi => by rw [g _ _ (by omega), g _ _ (by omega)]; exact h6 i hi, by rw [g _ _ (by omega)]; exact h7, gI_eq _ _ _ _, fun i hi => ?_, by rw [g _ _ (by omega)]; exact h10, fun i hi => by rw [g _ _ (by omega)]; exact h11 i hi⟩
  have hi : i < vp v + 1 := hi
  show _ = nI (vup (vP v) (vp v) c i)
  by_cases e : i = vp v
  · subst e; rw [vup_e, gI_ne _ (by omega), gI_eq]
  · rw [vup_n _ _ e, g _ _ (by omega)]; exact h9 i (by omega)
theorem MV_addS {μ : jm} {r : Nat} {v : vst} (c : Nat) (hw : WB v) (hn : vp v < 6) (hv : MV μ r v) : MV (sI (sI μ 65 (r + 120 + vp v) (nI c)) 65 (r + 119) (nI (vp v + 1))) r (addS v c) := by
  obtain ⟨h1, h2, h3, h4, h5, h6, h7, h8, h9, h10, h11⟩ := hv
  obtain ⟨w3, w5, w8, w10⟩ := hw
  have g : ∀ b, ¬ (b = r + 120 + vp v ∨ b = r + 119) → gI (sI (sI μ 65 (r + 120 + vp v) (nI c)) 65 (r + 119) (nI (vp v + 1))) 65 b = gI μ 65 b := fun b ha => by rw [gI_ne _ (by omega), gI_ne _ (by omega)]
  refine ⟨fun a b ha hb => by rw [g _ (by omega)]; exact h1 a b ha hb, fun a b ha hb => by rw [g _ (by omega)]; exact h2 a b ha hb, by rw [g _ (by omega)]; exact h3, fun p hp => by have hp : p < vn v := hp; rw [g _ (by omega), g _ (by omega), g _ (by omega), g _ (by omega)]; exact h4 p hp, by rw [g _ (by omega)]; exact h5, fun i hi => by have hi : i < vc v := hi; rw [g _ (by omega), g _ (by omega)]; exact h6 i hi, by rw [g _ (by omega)]; exact h7, gI_eq _ _ _ _, fun i hi => ?_, by rw [g _ (by omega)]; exact h10, fun i hi => by have hi : i < vh v := hi; rw [g _ (by omega)]; exact h11 i hi⟩
  have hi : i < vp v + 1 := hi
  show _ = nI (vup (vP v) (vp v) c i)
  by_cases e : i = vp v
  · subst e; rw [vup_e, gI_ne _ (by omega), gI_eq]
  · rw [vup_n _ _ e, g _ (by omega)]; exact h9 i (by omega)
theorem CV_addH {μ : jm} {k : Nat} {v : vst} (c : Nat) (hv : CV μ k v) : CV (sI (sI μ (k + 10) (vh v) (nI c)) k 14 (nI (vh v + 1))) k (addH v c) := by
  obtain ⟨h1, h2, h3, h4, h5, h6, h7, h8, h9, h10, h11⟩ := hv
  have g : ∀ a b, ¬ (a = k + 10 ∧ b = vh v ∨ a = k ∧ b = 14) → gI (sI (sI μ (k + 10) (vh v) (nI c)) k 14 (nI (vh v + 1))) a b = gI μ a b := fun a b ha => by rw [gI_ne _ (by omega), gI_ne _ (by omega)]
  refine ⟨fun a ha => by rw [g _ _ (by omega)]; exact h1 a ha, fun a ha => by rw [g _ _ (by omega)]; exact h2 a ha, by rw [g _ _ (by omega)]; exact h3, fun p hp => by rw [g _ _ (by omega), g _ _ (by omega), g _ _ (by omega), g _ _ (by omega)]; exact h4 p hp, by rw [g _ _ (by omega)]; exact h5, fun i hi => by rw [g _ _ (by omega), g _ _ (by omega)]; exact h6 i hi, by rw [g _ _ (by omega)]; exact h7, by rw [g _ _ (by omega)]; exact h8, fun i hi => by rw [g _ _ (by omega)]; exact h9 i hi, gI_eq _ _ _ _, fun i hi => ?_⟩
  have hi : i < vh v + 1 := hi
  show _ = nI (vup (vH v) (vh v) c i)
  by_cases e : i = vh v
  · subst e; rw [vup_e, gI_ne _ (by omega), gI_eq]
  · rw [vup_n _ _ e, g _ _ (by omega)]; exact h11 i (by omega)
theorem MV_addH {μ : jm} {r : Nat} {v : vst} (c : Nat) (hw : WB v) (hn : vh v < 6) (hv : MV μ r v) : MV (sI (sI μ 65 (r + 127 + vh v) (nI c)) 65 (r + 126) (nI (vh v + 1))) r (addH v c) := by
  obtain ⟨h1, h2, h3, h4, h5, h6, h7, h8, h9, h10, h11⟩ := hv
  obtain ⟨w3, w5, w8, w10⟩ := hw
  have g : ∀ b, ¬ (b = r + 127 + vh v ∨ b = r + 126) → gI (sI (sI μ 65 (r + 127 + vh v) (nI c)) 65 (r + 126) (nI (vh v + 1))) 65 b = gI μ 65 b := fun b ha => by rw [gI_ne _ (by omega), gI_ne _ (by omega)]
  refine ⟨fun a b ha hb => by rw [g _ (by omega)]; exact h1 a b ha hb, fun a b ha hb => by rw [g _ (by omega)]; exact h2 a b ha hb, by rw [g _ (by omega)]; exact h3, fun p hp => by have hp : p < vn v := hp; rw [g _ (by omega), g _ (by omega), g _ (by omega), g _ (by omega)]; exact h4 p hp, by rw [g _ (by omega)]; exact h5, fun i hi => by have hi : i < vc v := hi; rw [g _ (by omega), g _ (by omega)]; exact h6 i hi, by rw [g _ (by omega)]; exact h7, by rw [g _ (by omega)]; exact h8, fun i hi => by have hi : i < vp v := hi; rw [g _ (by omega)]; exact h9 i hi, gI_eq _ _ _ _, fun i hi => ?_⟩
  have hi : i < vh v + 1 := hi
  show _ = nI (vup (vH v) (vh v) c i)
  by_cases e : i = vh v
  · subst e; rw [vup_e, gI_ne _ (by omega), gI_eq]
  · rw [vup_n _ _ e, g _ (by omega)]; exact h11 i (by omega)
theorem CV_addC {μ : jm} {k : Nat} {v : vst} (c u : Nat) (hv : CV μ k v) : CV (sI (sI (sI μ (k + 7) (vc v) (nI c)) (k + 8) (vc v) (nI u)) k 9 (nI (vc v + 1))) k (addC v c u) := by
  obtain ⟨h1, h2, h3, h4, h5, h6, h7, h8, h9, h10, h11⟩ := hv
  have g : ∀ a b, ¬ ((a = k + 7 ∨ a = k + 8) ∧ b = vc v ∨ a = k ∧ b = 9) → gI (sI (sI (sI μ (k + 7) (vc v) (nI c)) (k + 8) (vc v) (nI u)) k 9 (nI (vc v + 1))) a b = gI μ a b := fun a b ha => by rw [gI_ne _ (by omega), gI_ne _ (by omega), gI_ne _ (by omega)]
  refine ⟨fun a ha => by rw [g _ _ (by omega)]; exact h1 a ha, fun a ha => by rw [g _ _ (by omega)]; exact h2 a ha, by rw [g _ _ (by omega)]; exact h3, fun p hp => by rw [g _ _ (by omega), g _ _ (by omega), g _ _ (by omega), g _ _ (by omega)]; exact h4 p hp, gI_eq _ _ _ _, fun i hi => ?_, by rw [g _ _ (by omega)]; exact h7, by rw [g _ _ (by omega)]; exact h8, fun i hi => by rw [g _ _ (by omega)]; exact h9 i hi, by rw [g _ _ (by omega)]; exact h10, fun i hi => by rw [g _ _ (by omega)]; exact h11 i hi⟩
  have hi : i < vc v + 1 := hi
  show _ = nI (vup (vC v) (vc v) c i) ∧ _ = nI (vup (vU v) (vc v) u i)
  by_cases e : i = vc v
  · subst e; rw [vup_e, vup_e]; exact ⟨by rw [gI_ne _ (by omega), gI_ne _ (by omega), gI_eq], by rw [gI_ne _ (by omega), gI_eq]⟩
  · rw [vup_n _ _ e, vup_n _ _ e, g _ _ (by omega), g _ _ (by omega)]; exact h6 i (by omega)
theorem MV_addC {μ : jm} {r : Nat} {v : vst} (c u : Nat) (hw : WB v) (hn : vc v < 8) (hv : MV μ r v) : MV (sI (sI (sI μ 65 (r + 102 + vc v) (nI c)) 65 (r + 110 + vc v) (nI u)) 65 (r + 101) (nI (vc v + 1))) r (addC v c u) := by
  obtain ⟨h1, h2, h3, h4, h5, h6, h7, h8, h9, h10, h11⟩ := hv
  obtain ⟨w3, w5, w8, w10⟩ := hw
  have g : ∀ b, ¬ (b = r + 102 + vc v ∨ b = r + 110 + vc v ∨ b = r + 101) → gI (sI (sI (sI μ 65 (r + 102 + vc v) (nI c)) 65 (r + 110 + vc v) (nI u)) 65 (r + 101) (nI (vc v + 1))) 65 b = gI μ 65 b := fun b ha => by rw [gI_ne _ (by omega), gI_ne _ (by omega), gI_ne _ (by omega)]
  refine ⟨fun a b ha hb => by rw [g _ (by omega)]; exact h1 a b ha hb, fun a b ha hb => by rw [g _ (by omega)]; exact h2 a b ha hb, by rw [g _ (by omega)]; exact h3, fun p hp => by have hp : p < vn v := hp; rw [g _ (by omega), g _ (by omega), g _ (by omega), g _ (by omega)]; exact h4 p hp, gI_eq _ _ _ _, fun i hi => ?_, by rw [g _ (by omega)]; exact h7, by rw [g _ (by omega)]; exact h8, fun i hi => by have hi : i < vp v := hi; rw [g _ (by omega)]; exact h9 i hi, by rw [g _ (by omega)]; exact h10, fun i hi => by have hi : i < vh v := hi; rw [g _ (by omega)]; exact h11 i hi⟩
  have hi : i < vc v + 1 := hi
  show _ = nI (vup (vC v) (vc v) c i) ∧ _ = nI (vup (vU v) (vc v) u i)
  by_cases e : i = vc v
  · subst e; rw [vup_e, vup_e]; exact ⟨by rw [gI_ne _ (by omega), gI_ne _ (by omega), gI_eq], by rw [gI_ne _ (by omega), gI_eq]⟩
  · rw [vup_n _ _ e, vup_n _ _ e, g _ (by omega), g _ (by omega)]; exact h6 i (by omega)
/-- speak -/
def fSp (x : Int32) (v : vst) : Int32 := if un x < vc v then (if vp v < 6 then nI (vp v + 1) else -4) else -2
def gSp (x : Int32) (v : vst) : vst := if un x < vc v then (if vp v < 6 then addS v (un x) else v) else v
theorem WV_gSp (x : Int32) {v : vst} (h : WV v) : WV (gSp x v) := by
  unfold gSp
  split
  · rename_i h1
    split
    · obtain ⟨w1, w2, w3, w4, w5, w6, w7, w8, w9, w10, w11⟩ := h
      refine ⟨w1, w2, w3, w4, w5, w6, w7, show vp v + 1 ≤ 6 by omega, fun i hi => ?_, w10, w11⟩
      have hi : i < vp v + 1 := hi
      show vup (vP v) (vp v) (un x) i < vc v
      by_cases e : i = vp v
      · rw [e, vup_e]; exact h1
      · rw [vup_n _ _ e]; exact w9 i (by omega)
    · exact h
  · exact h
theorem c_speak (k : Nat) (x : Int32) (μ : jm) (v : vst) (hw : WV v) (hv : CV μ k v) : ∃ m1, cj 33 [jR 8 k, jI x] μ = some (some (jI (fSp x v)), m1) ∧ CV m1 k (gSp x v) ∧ okC k μ m1 := by
  obtain ⟨w3, w5, w8, w10⟩ := WB_of hw
  have h5 : gI μ k 9 = nI (vc v) := hv.2.2.2.2.1
  have h8 : gI μ k 12 = nI (vp v) := hv.2.2.2.2.2.2.2.1
  rw [e_Valley_addToSpeech, c_isChord k x μ (by omega) h5, bI_some]
  unfold fSp gSp
  by_cases hx : un x < vc v
  · rw [bt_p (decide_eq_true hx), if_pos hx, if_pos hx]
    obtain ⟨a, ha, rfl⟩ := un_x hx (by omega)
    rw [un_nI (by omega)]
    by_cases hn : vp v < 6
    · rw [if_pos hn, if_pos hn]
      refine ⟨_, ?_, CV_addS a hv, okC_t (okC_sI k μ (by omega) (by omega)) (okC_sI k _ (by omega) (by omega))⟩
      simp (disch := omega) only [↓ng1, ↓ng2, ↓ng3, ↓ng4, ↓ng5, ↓ng10, ↓ng1000, li0, li1, li2, li3, li4, li5, li6, li7, li8, li9, li10, li11, li12, li15, li16, li36, li48, li50, li51, li57, li59, li60, li63, li72, li73, li80, li85, li87, li94, li96, li97, li100, li101, li102, li110, li118, li119, li120, li122, li126, li127, li140, li200, li255, li280, li420, li560, li896, li1000, li4095, qI_tb, qI_1, qI_adn, kI_and, kI_or, nI_add, kI_sub, kI_mul, qI_lt0, kI_lt, kI_le, kI_eq, qN0, qN1, qI_n, qm_1, ixn, inB_nI, jgd_t, bI_some, bL_some, bV_some, bR_some, gI_e2, gI_ne, gI_sL, jbr_p, jbr_n, h8]
    · rw [if_neg hn, if_neg hn]
      refine ⟨μ, ?_, hv, okC_r k μ⟩
      simp (disch := omega) only [↓ng1, ↓ng2, ↓ng3, ↓ng4, ↓ng5, ↓ng10, ↓ng1000, li0, li1, li2, li3, li4, li5, li6, li7, li8, li9, li10, li11, li12, li15, li16, li36, li48, li50, li51, li57, li59, li60, li63, li72, li73, li80, li85, li87, li94, li96, li97, li100, li101, li102, li110, li118, li119, li120, li122, li126, li127, li140, li200, li255, li280, li420, li560, li896, li1000, li4095, qI_tb, qI_1, qI_adn, kI_and, kI_or, nI_add, kI_sub, kI_mul, qI_lt0, kI_lt, kI_le, kI_eq, qN0, qN1, qI_n, qm_1, ixn, inB_nI, jgd_t, bI_some, bL_some, bV_some, bR_some, gI_e2, gI_ne, gI_sL, jbr_p, jbr_n, h8]
  · rw [bt_n (decide_eq_false hx), if_neg hx, if_neg hx]
    exact ⟨μ, rfl, hv, okC_r k μ⟩
theorem tel_f (S : sst) {n : Nat} (h : n < 1073741824) {x : Int32} (e : x = nI n) : tel S x = S := by rw [e]; exact tel_n S h
theorem m_speak {μ : jm} {S : sst} (x : Int32) (hW : WS S) (hM : MS μ S) : ∃ m1, cj 179 [jR 10 64, jI x] μ = some (some (jI (fSp x (sv S))), m1) ∧ MS m1 (tel (setV S (gSp x (sv S))) (fSp x (sv S))) ∧ om μ m1 := by
  obtain ⟨w3, w5, w8, w10⟩ := WB_of hW.1
  have h5 : gI μ 65 101 = nI (vc (sv S)) := by have := hM.1.2.2.2.2.1; rw [Nat.zero_add] at this; exact this
  have h8 : gI μ 65 119 = nI (vp (sv S)) := by have := hM.1.2.2.2.2.2.2.2.1; rw [Nat.zero_add] at this; exact this
  rw [e_M_speak, m_isChord x μ w5 h5, bI_some]
  unfold fSp gSp
  by_cases hx : un x < vc (sv S)
  · rw [bt_p (decide_eq_true hx), if_pos hx, if_pos hx]
    obtain ⟨a, ha, rfl⟩ := un_x hx (by omega)
    rw [un_nI (by omega)]
    by_cases hn : vp (sv S) < 6
    · rw [if_pos hn, if_pos hn, tel_n _ (by omega)]
      refine ⟨_, ?_, MS_setV hW hM (MV_addS a (WB_of hW.1) hn hM.1) (fun c d h _ => ⟨(if_neg (by omega)).trans (if_neg (by omega)), rfl⟩), om_t (om_sI μ (by omega) (by omega)) (om_sI _ (by omega) (by omega))⟩
      simp (disch := omega) only [↓ng1, ↓ng2, ↓ng3, ↓ng4, ↓ng5, ↓ng10, ↓ng1000, li0, li1, li2, li3, li4, li5, li6, li7, li8, li9, li10, li11, li12, li15, li16, li36, li48, li50, li51, li57, li59, li60, li63, li72, li73, li80, li85, li87, li94, li96, li97, li100, li101, li102, li110, li118, li119, li120, li122, li126, li127, li140, li200, li255, li280, li420, li560, li896, li1000, li4095, qI_tb, qI_1, qI_adn, kI_and, kI_or, nI_add, kI_sub, kI_mul, qI_lt0, kI_lt, kI_le, kI_eq, qN0, qN1, qI_n, qm_1, ixn, inB_nI, jgd_t, bI_some, bL_some, bV_some, bR_some, gI_e2, gI_ne, gI_sL, jbr_p, jbr_n, h8, Nat.zero_add]
    · rw [if_neg hn, if_neg hn]
      obtain ⟨m1, q1, q2, q3⟩ := m_tel (-4) hW hM
      refine ⟨m1, ?_, q2, q3⟩
      rw [show (119 : Int32) = nI 119 from rfl, inB_nI (by omega) (by omega), jgd_t, ixn (by omega), h8, li6, bk_ne (by omega) (by omega), jbr_n (by omega)]
      exact q1
  · rw [bt_n (decide_eq_false hx), if_neg hx, if_neg hx]
    exact m_tel _ hW hM
theorem op_speak (x : Int32) : opI 111 179 [jI x] Rel :=
  opI_of (fun S => fSp x (sv S)) (fun S => tel (setV S (gSp x (sv S))) (fSp x (sv S))) (fun S h => WS_tel (WS_setV h (WV_gSp x h.1)) _)
    (c_val (f := fSp x) (fun μ => e_N_speak x μ) (fun μ v hw hv => c_speak 1 x μ v hw hv))
    (fun μ S hW hM => m_speak x hW hM)
/-- hole -/
abbrev hOk (x : Int32) : Prop := un x < 4096 ∧ pop (un x) ≤ 3
def fHo (x : Int32) (v : vst) : Int32 := if hOk x then (if vh v < 6 then nI (vh v) else -4) else -2
def gHo (x : Int32) (v : vst) : vst := if hOk x then (if vh v < 6 then addH v (un x) else v) else v
theorem WV_gHo (x : Int32) {v : vst} (h : WV v) : WV (gHo x v) := by
  unfold gHo
  split
  · rename_i h1
    split
    · obtain ⟨w1, w2, w3, w4, w5, w6, w7, w8, w9, w10, w11⟩ := h
      refine ⟨w1, w2, w3, w4, w5, w6, w7, w8, w9, show vh v + 1 ≤ 6 by omega, fun i hi => ?_⟩
      have hi : i < vh v + 1 := hi
      show vup (vH v) (vh v) (un x) i < 4096
      by_cases e : i = vh v
      · rw [e, vup_e]; exact h1.1
      · rw [vup_n _ _ e]; exact w11 i (by omega)
    · exact h
  · exact h
theorem c_hole (k : Nat) (x : Int32) (μ : jm) (v : vst) (hw : WV v) (hv : CV μ k v) : ∃ m1, cj 36 [jR 8 k, jI x] μ = some (some (jI (fHo x v)), m1) ∧ CV m1 k (gHo x v) ∧ okC k μ m1 := by
  obtain ⟨w3, w5, w8, w10⟩ := WB_of hw
  have h10 : gI μ k 14 = nI (vh v) := hv.2.2.2.2.2.2.2.2.2.1
  rw [e_Valley_addHole, ck2 (N := 4095) (n := 4095) rfl (by omega)]
  unfold fHo gHo
  by_cases hx : un x < 4096
  · rw [if_pos hx]
    obtain ⟨a, ha, rfl⟩ := un_x hx (by omega)
    have hp := pop_le a
    rw [c_bc ha, bI_some, li3]
    by_cases h3 : pop a ≤ 3
    · have ho : hOk (nI a) := ⟨hx, by rw [un_nI (by omega)]; exact h3⟩
      rw [if_pos ho, if_pos ho, un_nI (by omega), jbr_p ((nI_leI (by omega) (by omega)).mpr h3)]
      by_cases hn : vh v < 6
      · rw [if_pos hn, if_pos hn]
        refine ⟨_, ?_, CV_addH a hv, okC_t (okC_sI k μ (by omega) (by omega)) (okC_sI k _ (by omega) (by omega))⟩
        simp (disch := omega) only [↓ng1, ↓ng2, ↓ng3, ↓ng4, ↓ng5, ↓ng10, ↓ng1000, li0, li1, li2, li3, li4, li5, li6, li7, li8, li9, li10, li11, li12, li15, li16, li36, li48, li50, li51, li57, li59, li60, li63, li72, li73, li80, li85, li87, li94, li96, li97, li100, li101, li102, li110, li118, li119, li120, li122, li126, li127, li140, li200, li255, li280, li420, li560, li896, li1000, li4095, qI_tb, qI_1, qI_adn, kI_and, kI_or, nI_add, kI_sub, kI_mul, qI_lt0, kI_lt, kI_le, kI_eq, qN0, qN1, qI_n, qm_1, ixn, inB_nI, jgd_t, bI_some, bL_some, bV_some, bR_some, gI_e2, gI_ne, gI_sL, jbr_p, jbr_n, h10, Nat.add_sub_cancel]
      · rw [if_neg hn, if_neg hn]
        refine ⟨μ, ?_, hv, okC_r k μ⟩
        simp (disch := omega) only [↓ng1, ↓ng2, ↓ng3, ↓ng4, ↓ng5, ↓ng10, ↓ng1000, li0, li1, li2, li3, li4, li5, li6, li7, li8, li9, li10, li11, li12, li15, li16, li36, li48, li50, li51, li57, li59, li60, li63, li72, li73, li80, li85, li87, li94, li96, li97, li100, li101, li102, li110, li118, li119, li120, li122, li126, li127, li140, li200, li255, li280, li420, li560, li896, li1000, li4095, qI_tb, qI_1, qI_adn, kI_and, kI_or, nI_add, kI_sub, kI_mul, qI_lt0, kI_lt, kI_le, kI_eq, qN0, qN1, qI_n, qm_1, ixn, inB_nI, jgd_t, bI_some, bL_some, bV_some, bR_some, gI_e2, gI_ne, gI_sL, jbr_p, jbr_n, h10]
    · have ho : ¬ hOk (nI a) := fun z => h3 (by have := z.2; rw [un_nI (by omega)] at this; exact this)
      rw [if_neg ho, if_neg ho, jbr_n (fun z => h3 ((nI_leI (by omega) (by omega)).mp z))]
      exact ⟨μ, rfl, hv, okC_r k μ⟩
  · have ho : ¬ hOk x := fun z => hx z.1
    rw [if_neg hx, if_neg ho, if_neg ho]
    exact ⟨μ, rfl, hv, okC_r k μ⟩
theorem m_hole {μ : jm} {S : sst} (x : Int32) (hW : WS S) (hM : MS μ S) : ∃ m1, cj 194 [jR 10 64, jI x] μ = some (some (jI (fHo x (sv S))), m1) ∧ MS m1 (tel (setV S (gHo x (sv S))) (fHo x (sv S))) ∧ om μ m1 := by
  obtain ⟨w3, w5, w8, w10⟩ := WB_of hW.1
  have h10 : gI μ 65 126 = nI (vh (sv S)) := by have := hM.1.2.2.2.2.2.2.2.2.2.1; rw [Nat.zero_add] at this; exact this
  rw [e_M_hole, m_in0 x 4095 4096 (by omega) rfl, bI_some]
  unfold fHo gHo
  by_cases hx : un x < 4096
  · rw [bf_n (decide_eq_true hx)]
    obtain ⟨a, ha, rfl⟩ := un_x hx (by omega)
    have hp := pop_le a
    rw [m_ones (by omega), bI_some, li3]
    by_cases h3 : pop a ≤ 3
    · have ho : hOk (nI a) := ⟨hx, by rw [un_nI (by omega)]; exact h3⟩
      rw [if_pos ho, if_pos ho, un_nI (by omega), jbr_p ((nI_leI (by omega) (by omega)).mpr h3)]
      by_cases hn : vh (sv S) < 6
      · rw [if_pos hn, if_pos hn, tel_n _ (by omega)]
        refine ⟨_, ?_, MS_setV hW hM (MV_addH a (WB_of hW.1) hn hM.1) (fun c d h _ => ⟨(if_neg (by omega)).trans (if_neg (by omega)), rfl⟩), om_t (om_sI μ (by omega) (by omega)) (om_sI _ (by omega) (by omega))⟩
        simp (disch := omega) only [↓ng1, ↓ng2, ↓ng3, ↓ng4, ↓ng5, ↓ng10, ↓ng1000, li0, li1, li2, li3, li4, li5, li6, li7, li8, li9, li10, li11, li12, li15, li16, li36, li48, li50, li51, li57, li59, li60, li63, li72, li73, li80, li85, li87, li94, li96, li97, li100, li101, li102, li110, li118, li119, li120, li122, li126, li127, li140, li200, li255, li280, li420, li560, li896, li1000, li4095, qI_tb, qI_1, qI_adn, kI_and, kI_or, nI_add, kI_sub, kI_mul, qI_lt0, kI_lt, kI_le, kI_eq, qN0, qN1, qI_n, qm_1, ixn, inB_nI, jgd_t, bI_some, bL_some, bV_some, bR_some, gI_e2, gI_ne, gI_sL, jbr_p, jbr_n, h10, Nat.zero_add]
      · rw [if_neg hn, if_neg hn]
        obtain ⟨m1, q1, q2, q3⟩ := m_tel (-4) hW hM
        refine ⟨m1, ?_, q2, q3⟩
        rw [show (126 : Int32) = nI 126 from rfl, inB_nI (by omega) (by omega), jgd_t, ixn (by omega), h10, li6, bk_ne (by omega) (by omega), jbr_n (by omega)]
        exact q1
    · have ho : ¬ hOk (nI a) := fun z => h3 (by have := z.2; rw [un_nI (by omega)] at this; exact this)
      rw [if_neg ho, if_neg ho, jbr_n (fun z => h3 ((nI_leI (by omega) (by omega)).mp z))]
      exact m_tel _ hW hM
  · have ho : ¬ hOk x := fun z => hx z.1
    rw [bf_p (decide_eq_false hx), if_neg ho, if_neg ho]
    exact m_tel _ hW hM
theorem op_hole (x : Int32) : opI 120 194 [jI x] Rel :=
  opI_of (fun S => fHo x (sv S)) (fun S => tel (setV S (gHo x (sv S))) (fHo x (sv S))) (fun S h => WS_tel (WS_setV h (WV_gHo x h.1)) _)
    (c_val (f := fHo x) (fun μ => e_N_hole x μ) (fun μ v hw hv => c_hole 1 x μ v hw hv))
    (fun μ S hW hM => m_hole x hW hM)
/-- chord -/
def hasC (v : vst) (m : Nat) : Bool := (List.range (vc v)).any (fun i => decide (vC v i = m))
theorem hasC_t {v : vst} {m i : Nat} (hi : i < vc v) (h : vC v i = m) : hasC v m = true := List.any_eq_true.mpr ⟨i, List.mem_range.mpr hi, decide_eq_true h⟩
theorem hasC_f {v : vst} {m : Nat} (h : ∀ i, i < vc v → vC v i ≠ m) : hasC v m = false := by
  cases e : hasC v m with
  | false => rfl
  | true =>
    obtain ⟨i, h1, h2⟩ := List.any_eq_true.mp e
    exact absurd (of_decide_eq_true h2) (h i (List.mem_range.mp h1))
def c3 (a b c : Nat) : Nat := 2 ^ a ||| 2 ^ b ||| 2 ^ c
theorem c3_lt {a b c : Nat} (ha : a < 12) (hb : b < 12) (hc : c < 12) : c3 a b c < 4096 := or_lt 12 (or_lt 12 (two_lt ha) (two_lt hb)) (two_lt hc)
theorem c3_ch2 : ∀ a, a < 12 → ∀ b, b < 12 → ∀ c, c < 12 → a < b → b < c → 2 ^ a ||| 2 ^ b ||| 2 ^ c = 2 ^ a + 2 ^ b + 2 ^ c := by decide +kernel
theorem c3_ch {a b c : Nat} (h1 : a < b) (h2 : b < c) (h3 : c < 12) : isCh (c3 a b c) := ⟨a, b, c, h1, h2, h3, c3_ch2 a (by omega) b (by omega) c h3 h1 h2⟩
theorem isCh_lt {m : Nat} (h : isCh m) : m < 4096 := by
  obtain ⟨a, b, c, h1, h2, h3, rfl⟩ := h
  rw [← c3_ch2 a (by omega) b (by omega) c h3 h1 h2]
  exact c3_lt (by omega) (by omega) h3
theorem c_hasC (k : Nat) (m : Nat) (hm : m < 4096) (μ : jm) (v : vst) (hw : WV v) (hv : CV μ k v) : cj 23 [jR 8 k, jI (nI m)] μ = some (some (jI (nI (bN (hasC v m)))), μ) := by
  obtain ⟨w3, w5, w8, w10⟩ := WB_of hw
  have h5 : gI μ k 9 = nI (vc v) := hv.2.2.2.2.1
  have h6 : ∀ i, i < vc v → gI μ (k + 7) i = nI (vC v i) := fun i hi => (hv.2.2.2.2.2.1 i hi).1
  have w6 : ∀ i, i < vc v → vC v i < 4096 := fun i hi => isCh_lt (hw.2.2.2.2.2.1 i hi).1
  rw [e_Valley_hasChordOf]
  refine lp_x (W := fun i (_ : Unit) => evj 23 2 [jR 8 k, jI (nI m), jI (nI i)] [] μ) (n := vc v) (fun o => o = some (some (jI (nI (bN (hasC v m)))), μ)) (fun i _ => ∀ j, j < i → vC v j ≠ m) ?_ ?_ (vc v) 0 () (by omega) (fun j hj => absurd hj (Nat.not_lt_zero j))
  · intro _ hI
    show evj _ _ _ _ _ = _
    rw [e_Valley_hasChordOf_2, h5, jbr_p ((nI_leI (by omega) (by omega)).mpr (Nat.le_refl _)), hasC_f hI]
    rfl
  · intro i _ hi hI
    show (∃ a', evj _ _ _ _ _ = _ ∧ _) ∨ evj _ _ _ _ _ = _
    have hi8 : i < 8 := by omega
    have hc := w6 i hi
    rw [e_Valley_hasChordOf_2, h5, jbr_n (fun z => by have := (nI_leI (by omega) (by omega)).mp z; omega), inB_nI hi8 (by omega), jgd_t, ixn (by omega), h6 i hi]
    by_cases e : vC v i = m
    · rw [jbr_m (by rw [e]), hasC_t hi e]
      exact Or.inr rfl
    · rw [jbr_q (fun z => e ((nI_eq (by omega) (by omega)).mp z))]
      refine Or.inl ⟨(), ?_, fun j hj => ?_⟩
      · rw [show nI i + 1 = nI (i + 1) from nI_add i 1]
      · by_cases ej : j = i
        · rw [ej]; exact e
        · exact hI j (by omega)
abbrev kOk (x y z u : Int32) : Prop := un x < un y ∧ un y < un z ∧ un z < 12 ∧ 1 ≤ un u ∧ un u < 10
def fCh (x y z u : Int32) (v : vst) : Int32 := if kOk x y z u then (if hasC v (c3 (un x) (un y) (un z)) then -2 else if vc v < 8 then nI (vc v) else -4) else -2
def gCh (x y z u : Int32) (v : vst) : vst := if kOk x y z u then (if hasC v (c3 (un x) (un y) (un z)) then v else if vc v < 8 then addC v (c3 (un x) (un y) (un z)) (un u) else v) else v
theorem WV_gCh (x y z u : Int32) {v : vst} (h : WV v) : WV (gCh x y z u v) := by
  unfold gCh
  split
  · rename_i h1
    split
    · exact h
    · split
      · obtain ⟨w1, w2, w3, w4, w5, w6, w7, w8, w9, w10, w11⟩ := h
        obtain ⟨q1, q2, q3, q4, q5⟩ := h1
        refine ⟨w1, w2, w3, w4, show vc v + 1 ≤ 8 by omega, fun i hi => ?_, w7, w8, fun i hi => Nat.lt_succ_of_lt (w9 i hi), w10, w11⟩
        have hi : i < vc v + 1 := hi
        show isCh (vup (vC v) (vc v) _ i) ∧ 1 ≤ vup (vU v) (vc v) (un u) i ∧ vup (vU v) (vc v) (un u) i ≤ 9
        by_cases e : i = vc v
        · rw [e, vup_e, vup_e]
          exact ⟨c3_ch q1 q2 q3, q4, by omega⟩
        · rw [vup_n _ _ e, vup_n _ _ e]; exact w6 i (by omega)
      · exact h
  · exact h
theorem or3 {a b c : Nat} (ha : a < 12) (hb : b < 12) (hc : c < 12) : (((1 : Int32) <<< (nI a &&& 31)) ||| ((1 : Int32) <<< (nI b &&& 31))) ||| ((1 : Int32) <<< (nI c &&& 31)) = nI (c3 a b c) := by
  rw [kI_1 (by omega), kI_1 (by omega), kI_1 (by omega), kI_or, kI_or]
  rfl
theorem c_chord36 (k a b c : Nat) (ha : a < 12) (hb : b < 12) (hc : c < 12) (h1 : a < b) (h2 : b < c) (u : Int32) (μ : jm) (v : vst) (hw : WV v) (hv : CV μ k v) : ∃ m1, evj 22 36 [jR 8 k, jI (nI a), jI (nI b), jI (nI c), jI u, jU, jU] [jI 1] μ = some (some (jI (fCh (nI a) (nI b) (nI c) u v)), m1) ∧ CV m1 k (gCh (nI a) (nI b) (nI c) u v) ∧ okC k μ m1 := by
  obtain ⟨w3, w5, w8, w10⟩ := WB_of hw
  have h5 : gI μ k 9 = nI (vc v) := hv.2.2.2.2.1
  rw [e_Valley_addChord_36, jbr_n (by decide), or3 ha hb hc]
  by_cases hu : 1 ≤ un u ∧ un u < 10
  · have ho : kOk (nI a) (nI b) (nI c) u := by
      show un (nI a) < un (nI b) ∧ un (nI b) < un (nI c) ∧ un (nI c) < 12 ∧ 1 ≤ un u ∧ un u < 10
      rw [un_nI (by omega), un_nI (by omega), un_nI (by omega)]
      exact ⟨h1, h2, hc, hu.1, hu.2⟩
    have fe : fCh (nI a) (nI b) (nI c) u v = _ := if_pos ho
    have ge : gCh (nI a) (nI b) (nI c) u v = _ := if_pos ho
    rw [fe, ge, un_nI (by omega), un_nI (by omega), un_nI (by omega)]
    obtain ⟨d, hd, rfl⟩ := un_x hu.2 (by omega)
    rw [un_nI (by omega)] at hu
    rw [un_nI (by omega), li1, li9, jbr_n (fun z => by have := (nI_ltI (by omega) (by omega)).mp z; omega), jbr_p ((nI_leI (by omega) (by omega)).mpr (by omega)), c_hasC k _ (c3_lt ha hb hc) μ v hw hv, bI_some]
    cases he : hasC v (c3 a b c)
    · rw [bf_p rfl, if_neg (show ¬ (false = true) by decide), if_neg (show ¬ (false = true) by decide)]
      by_cases hn : vc v < 8
      · rw [if_pos hn, if_pos hn]
        refine ⟨_, ?_, CV_addC (c3 a b c) d hv, okC_t (okC_t (okC_sI k μ (by omega) (by omega)) (okC_sI k _ (by omega) (by omega))) (okC_sI k _ (by omega) (by omega))⟩
        simp (disch := omega) only [↓ng1, ↓ng2, ↓ng3, ↓ng4, ↓ng5, ↓ng10, ↓ng1000, li0, li1, li2, li3, li4, li5, li6, li7, li8, li9, li10, li11, li12, li15, li16, li36, li48, li50, li51, li57, li59, li60, li63, li72, li73, li80, li85, li87, li94, li96, li97, li100, li101, li102, li110, li118, li119, li120, li122, li126, li127, li140, li200, li255, li280, li420, li560, li896, li1000, li4095, qI_tb, qI_1, qI_adn, kI_and, kI_or, nI_add, kI_sub, kI_mul, qI_lt0, kI_lt, kI_le, kI_eq, qN0, qN1, qI_n, qm_1, ixn, inB_nI, jgd_t, bI_some, bL_some, bV_some, bR_some, gI_e2, gI_ne, gI_sL, jbr_p, jbr_n, h5, Nat.add_sub_cancel]
      · rw [if_neg hn, if_neg hn]
        refine ⟨μ, ?_, hv, okC_r k μ⟩
        simp (disch := omega) only [↓ng1, ↓ng2, ↓ng3, ↓ng4, ↓ng5, ↓ng10, ↓ng1000, li0, li1, li2, li3, li4, li5, li6, li7, li8, li9, li10, li11, li12, li15, li16, li36, li48, li50, li51, li57, li59, li60, li63, li72, li73, li80, li85, li87, li94, li96, li97, li100, li101, li102, li110, li118, li119, li120, li122, li126, li127, li140, li200, li255, li280, li420, li560, li896, li1000, li4095, qI_tb, qI_1, qI_adn, kI_and, kI_or, nI_add, kI_sub, kI_mul, qI_lt0, kI_lt, kI_le, kI_eq, qN0, qN1, qI_n, qm_1, ixn, inB_nI, jgd_t, bI_some, bL_some, bV_some, bR_some, gI_e2, gI_ne, gI_sL, jbr_p, jbr_n, h5]
    · rw [bf_n rfl, if_pos rfl, if_pos rfl]
      exact ⟨μ, rfl, hv, okC_r k μ⟩
  · have ho : ¬ kOk (nI a) (nI b) (nI c) u := fun z => hu ⟨z.2.2.2.1, z.2.2.2.2⟩
    have fe : fCh (nI a) (nI b) (nI c) u v = _ := if_neg ho
    have ge : gCh (nI a) (nI b) (nI c) u v = _ := if_neg ho
    rw [fe, ge]
    refine ⟨μ, ?_, hv, okC_r k μ⟩
    rw [li1, li9]
    by_cases hz : u < nI 1
    · rw [jbr_p hz]
    · rw [jbr_n hz, jbr_n (fun z => ?_)]
      have z1 := (len_ u (by omega)).mp z
      have z2 : ¬ u.toInt < ((1 : Nat) : Int) := fun q => hz ((ltn u (by omega)).mpr q)
      have : un u < 10 := (un_lt u (by omega)).mpr (by omega)
      refine hu ⟨?_, this⟩
      have : ¬ un u < 1 := fun q => by have := (un_lt u (by omega)).mp q; omega
      omega
theorem c_chord36b (k : Nat) (x y z u : Int32) (μ : jm) (v : vst) (ho : ¬ kOk x y z u) (hv : CV μ k v) : ∃ m1, evj 22 35 [jR 8 k, jI x, jI y, jI z, jI u, jU, jU] [] μ = some (some (jI (fCh x y z u v)), m1) ∧ CV m1 k (gCh x y z u v) ∧ okC k μ m1 := by
  have fe : fCh x y z u v = _ := if_neg ho
  have ge : gCh x y z u v = _ := if_neg ho
  rw [fe, ge, e_Valley_addChord_35, e_Valley_addChord_36, jbr_p (by decide)]
  exact ⟨μ, rfl, hv, okC_r k μ⟩
theorem c_chord (k : Nat) (x y z u : Int32) (μ : jm) (v : vst) (hw : WV v) (hv : CV μ k v) : ∃ m1, cj 22 [jR 8 k, jI x, jI y, jI z, jI u] μ = some (some (jI (fCh x y z u v)), m1) ∧ CV m1 k (gCh x y z u v) ∧ okC k μ m1 := by
  rw [e_Valley_addChord, c_isNote, bI_some]
  by_cases hx : un x < 12
  · rw [bf_n (decide_eq_true hx), c_isNote, bI_some]
    by_cases hy : un y < 12
    · rw [bf_n (decide_eq_true hy), c_isNote, bI_some]
      by_cases hz : un z < 12
      · rw [bf_n (decide_eq_true hz)]
        obtain ⟨a, ha, rfl⟩ := un_x hx (by omega)
        obtain ⟨b, hb, rfl⟩ := un_x hy (by omega)
        obtain ⟨c, hc, rfl⟩ := un_x hz (by omega)
        by_cases h1 : a < b
        · rw [jbr_n (fun z => by have := (nI_leI (by omega) (by omega)).mp z; omega)]
          by_cases h2 : b < c
          · rw [jbr_n (fun z => by have := (nI_leI (by omega) (by omega)).mp z; omega)]
            exact c_chord36 k a b c ha hb hc h1 h2 u μ v hw hv
          · rw [jbr_p ((nI_leI (by omega) (by omega)).mpr (by omega))]
            refine c_chord36b k _ _ _ u μ v (fun q => h2 ?_) hv
            have := q.2.1
            rw [un_nI (by omega), un_nI (by omega)] at this
            exact this
        · rw [jbr_p ((nI_leI (by omega) (by omega)).mpr (by omega))]
          refine c_chord36b k _ _ _ u μ v (fun q => h1 ?_) hv
          have := q.1
          rw [un_nI (by omega), un_nI (by omega)] at this
          exact this
      · rw [bf_p (decide_eq_false hz)]
        exact c_chord36b k _ _ _ u μ v (fun q => hz q.2.2.1) hv
    · rw [bf_p (decide_eq_false hy)]
      exact c_chord36b k _ _ _ u μ v (fun q => hy (by have := q.2.1; have := q.2.2.1; omega)) hv
  · rw [bf_p (decide_eq_false hx)]
    exact c_chord36b k _ _ _ u μ v (fun q => hx (by have := q.1; have := q.2.1; have := q.2.2.1; omega)) hv
theorem un_t {x : Int32} (h : un x < 12) : (un x : Int) = x.toInt ∧ 0 ≤ x.toInt := by
  unfold un at h ⊢
  split at h
  · omega
  · rename_i h1
    rw [if_neg h1]
    omega
theorem m_chord66 (r : Nat) (hr : r ≤ 420) (m u : Nat) (hm : m < 4096) (hu : u < 10) (μ : jm) (v : vst) (hw : WV v) (hv : MV μ r v) : ∃ m1, evj 150 66 [jR 10 64, jI (nI r), jU, jU, jU, jI (nI u), jI (nI m), jI (nI (vc v)), jI (nI 0)] [] μ = some (some (jI (if hasC v m then -2 else if vc v < 8 then nI (vc v) else -4)), m1) ∧ MV m1 r (if hasC v m then v else if vc v < 8 then addC v m u else v) ∧ okM r μ m1 := by
  obtain ⟨w3, w5, w8, w10⟩ := WB_of hw
  have h5 : gI μ 65 (r + 101) = nI (vc v) := hv.2.2.2.2.1
  have h6 : ∀ i, i < vc v → gI μ 65 (r + 102 + i) = nI (vC v i) := fun i hi => (hv.2.2.2.2.2.1 i hi).1
  have w6 : ∀ i, i < vc v → vC v i < 4096 := fun i hi => isCh_lt (hw.2.2.2.2.2.1 i hi).1
  refine lp_x (W := fun i (_ : Unit) => evj 150 66 [jR 10 64, jI (nI r), jU, jU, jU, jI (nI u), jI (nI m), jI (nI (vc v)), jI (nI i)] [] μ) (n := vc v) (fun o => ∃ m1, o = some (some (jI (if hasC v m then -2 else if vc v < 8 then nI (vc v) else -4)), m1) ∧ MV m1 r (if hasC v m then v else if vc v < 8 then addC v m u else v) ∧ okM r μ m1) (fun i _ => ∀ j, j < i → vC v j ≠ m) ?_ ?_ (vc v) 0 () (by omega) (fun j hj => absurd hj (Nat.not_lt_zero j))
  · intro _ hI
    show ∃ m1, evj _ _ _ _ _ = _ ∧ _
    rw [e_M_addChord_66, jbr_p ((nI_leI (by omega) (by omega)).mpr (Nat.le_refl _)), hasC_f hI, if_neg (show ¬ (false = true) by decide), if_neg (show ¬ (false = true) by decide)]
    by_cases hn : vc v < 8
    · rw [if_pos hn, if_pos hn]
      refine ⟨_, ?_, MV_addC m u (WB_of hw) hn hv, okM_t (okM_t (okM_sI r μ (by omega) (by omega)) (okM_sI r _ (by omega) (by omega))) (okM_sI r _ (by omega) (by omega))⟩
      simp (disch := omega) only [↓ng1, ↓ng2, ↓ng3, ↓ng4, ↓ng5, ↓ng10, ↓ng1000, li0, li1, li2, li3, li4, li5, li6, li7, li8, li9, li10, li11, li12, li15, li16, li36, li48, li50, li51, li57, li59, li60, li63, li72, li73, li80, li85, li87, li94, li96, li97, li100, li101, li102, li110, li118, li119, li120, li122, li126, li127, li140, li200, li255, li280, li420, li560, li896, li1000, li4095, qI_tb, qI_1, qI_adn, kI_and, kI_or, nI_add, kI_sub, kI_mul, qI_lt0, kI_lt, kI_le, kI_eq, qN0, qN1, qI_n, qm_1, ixn, inB_nI, jgd_t, bI_some, bL_some, bV_some, bR_some, gI_e2, gI_ne, gI_sL, jbr_p, jbr_n, h5]
    · rw [if_neg hn, if_neg hn]
      refine ⟨μ, ?_, hv, okM_r r μ⟩
      rw [li8, bk_ne (by omega) (by omega), jbr_n (by omega)]
  · intro i _ hi hI
    show (∃ a', evj _ _ _ _ _ = _ ∧ _) ∨ ∃ m1, evj _ _ _ _ _ = _ ∧ _
    have hc := w6 i hi
    rw [e_M_addChord_66, jbr_n (fun z => by have := (nI_leI (by omega) (by omega)).mp z; omega), nI_p r 102 (z := 102) rfl, nI_add, inB_nI (j := r + 102 + i) (by omega) (by omega), jgd_t, ixn (n := r + 102 + i) (by omega), h6 i hi]
    by_cases e : vC v i = m
    · rw [jbr_m (by rw [e]), hasC_t hi e, if_pos rfl, if_pos rfl]
      exact Or.inr ⟨μ, rfl, hv, okM_r r μ⟩
    · rw [jbr_q (fun z => e ((nI_eq (by omega) (by omega)).mp z))]
      refine Or.inl ⟨(), ?_, fun j hj => ?_⟩
      · rw [show nI i + 1 = nI (i + 1) from nI_add i 1]
      · by_cases ej : j = i
        · rw [ej]; exact e
        · exact hI j (by omega)
theorem m_chord (r : Nat) (hr : r ≤ 420) (x y z u : Int32) (μ : jm) (v : vst) (hw : WV v) (hv : MV μ r v) : ∃ m1, cj 150 [jR 10 64, jI (nI r), jI x, jI y, jI z, jI u] μ = some (some (jI (fCh x y z u v)), m1) ∧ MV m1 r (gCh x y z u v) ∧ okM r μ m1 := by
  obtain ⟨w3, w5, w8, w10⟩ := WB_of hw
  have bad : ¬ kOk x y z u → ∃ m1, (some (some (jI (-2 : Int32)), μ) : Option jr) = some (some (jI (fCh x y z u v)), m1) ∧ MV m1 r (gCh x y z u v) ∧ okM r μ m1 := fun ho => by
    have fe : fCh x y z u v = _ := if_neg ho
    have ge : gCh x y z u v = _ := if_neg ho
    rw [fe, ge]
    exact ⟨μ, rfl, hv, okM_r r μ⟩
  rw [e_M_addChord, e_M_addChord_35]
  by_cases h0 : x < 0
  · rw [jbr_p h0]
    refine bad (fun q => ?_)
    have := q.1; have := q.2.1; have := q.2.2.1
    have h2 := (un_lt x (n := 12) (by omega)).mp (by omega)
    have := (lt0 x).mp h0
    omega
  · rw [jbr_n h0]
    have h0 : ¬ x.toInt < 0 := fun z => h0 ((lt0 x).mpr z)
    by_cases h1 : y ≤ x
    · rw [jbr_p h1]
      refine bad (fun q => ?_)
      have := q.1; have := q.2.1; have := q.2.2.1
      have h1 := Int32.le_iff_toInt_le.mp h1
      have q1 := un_t (x := x) (by omega)
      have q2 := un_t (x := y) (by omega)
      omega
    · rw [jbr_n h1]
      have h1 : ¬ y.toInt ≤ x.toInt := fun z => h1 (Int32.le_iff_toInt_le.mpr z)
      by_cases h2 : z ≤ y
      · rw [jbr_p h2]
        refine bad (fun q => ?_)
        have := q.1; have := q.2.1; have := q.2.2.1
        have h2 := Int32.le_iff_toInt_le.mp h2
        have q1 := un_t (x := z) (by omega)
        have q2 := un_t (x := y) (by omega)
        omega
      · rw [jbr_n h2]
        have h2 : ¬ z.toInt ≤ y.toInt := fun z => h2 (Int32.le_iff_toInt_le.mpr z)
        by_cases h3 : 12 ≤ z
        · rw [jbr_p h3]
          refine bad (fun q => ?_)
          have h3 := (nle z (n := 12) (by omega)).mp h3
          have := (un_lt z (n := 12) (by omega)).mp q.2.2.1
          omega
        · rw [jbr_n h3]
          have h3 : ¬ ((12 : Nat) : Int) ≤ z.toInt := fun q => h3 ((nle z (n := 12) (by omega)).mpr q)
          rw [m_in, show (1 : Int64).toInt = 1 from rfl, show (9 : Int64).toInt = 9 from rfl, bI_some]
          have hx : un x < 12 := (un_lt x (by omega)).mpr (by omega)
          have hy : un y < 12 := (un_lt y (by omega)).mpr (by omega)
          have hz : un z < 12 := (un_lt z (by omega)).mpr (by omega)
          by_cases hu : 1 ≤ u.toInt ∧ u.toInt ≤ 9
          · have hu10 : un u < 10 := (un_lt u (by omega)).mpr (by omega)
            have hu1 : ¬ un u < 1 := fun q => by have := (un_lt u (by omega)).mp q; omega
            have h4 : un x < un y := by unfold un; split <;> split <;> omega
            have h5 : un y < un z := by unfold un; split <;> split <;> omega
            have ho : kOk x y z u := ⟨h4, h5, hz, by omega, hu10⟩
            have fe : fCh x y z u v = _ := if_pos ho
            have ge : gCh x y z u v = _ := if_pos ho
            rw [fe, ge, if_pos hu, jbr_p (by decide)]
            have hg5 : gI μ 65 (r + 101) = nI (vc v) := hv.2.2.2.2.1
            obtain ⟨a, ha, rfl⟩ := un_x hx (by omega)
            obtain ⟨b, hb, rfl⟩ := un_x hy (by omega)
            obtain ⟨c, hc, rfl⟩ := un_x hz (by omega)
            obtain ⟨d, hd, rfl⟩ := un_x hu10 (by omega)
            rw [or3 ha hb hc, nI_p r 101 (z := 101) rfl, inB_nI (by omega) (by omega), jgd_t, ixn (by omega), hg5, un_nI (by omega), un_nI (by omega), un_nI (by omega), un_nI (by omega)]
            exact m_chord66 r hr (c3 a b c) d (c3_lt ha hb hc) hd μ v hw hv
          · rw [if_neg hu, jbr_n (by decide), e_M_addChord_35]
            refine bad (fun q => hu ?_)
            have q1 := (un_lt u (n := 10) (by omega)).mp q.2.2.2.2
            have q2 : ¬ un u < 1 := by have := q.2.2.2.1; omega
            have q3 : ¬ (0 ≤ u.toInt ∧ u.toInt < ((1 : Nat) : Int)) := fun w => q2 ((un_lt u (by omega)).mpr w)
            omega
theorem op_chord (x y z u : Int32) : opI 101 149 [jI x, jI y, jI z, jI u] Rel :=
  opI_of (fun S => fCh x y z u (sv S)) (fun S => tel (setV S (gCh x y z u (sv S))) (fCh x y z u (sv S))) (fun S h => WS_tel (WS_setV h (WV_gCh x y z u h.1)) _)
    (c_val (f := fCh x y z u) (fun μ => e_N_chord x y z u μ) (fun μ v hw hv => c_chord 1 x y z u μ v hw hv))
    (m_val (f := fCh x y z u) (as2 := [jI 0, jI x, jI y, jI z, jI u]) (fun μ => e_M_chord x y z u μ) (fun v h => WV_gCh x y z u h) (fun μ v hw hv => m_chord 0 (by omega) x y z u μ v hw hv))
