/-! the refusals; clear, hush, whole, status, count, part -/
def setR (S : sst) (j : Nat) : sst := (sv S, s0 S, s1 S, sk S, stl S, sT S, sa S, sb S, fun i => if i = j then sr S i + 1 else sr S i)
def tel (S : sst) (x : Int32) : sst := if x = -2 then setR S 0 else if x = -3 then setR S 1 else if x = -4 then setR S 2 else S
theorem WS_tel {S : sst} (h : WS S) (x : Int32) : WS (tel S x) := by
  unfold tel
  split
  · exact h
  · split
    · exact h
    · split <;> exact h
theorem CS_cnt {μ : jm} {S : sst} (hC : CS μ S) {j : Nat} (hj : j < 3) : CS (sI μ 0 (6 + j) (gI μ 0 (6 + j) + 1)) (setR S j) := by
  obtain ⟨h1, h2, h3, h4, h5, h6, h7, h8, h9, h10, h11⟩ := hC
  have g : ∀ a b, a ≠ 0 → gI (sI μ 0 (6 + j) (gI μ 0 (6 + j) + 1)) a b = gI μ a b := fun a b ha => gI_ne μ (fun z => ha z.1)
  refine ⟨CV_of (fun a b _ _ => g a b (by omega)) h1, CV_of (fun a b _ _ => g a b (by omega)) h2, CV_of (fun a b _ _ => g a b (by omega)) h3, ?_, ?_, fun i hi => ?_, h7, h8, ?_⟩
  · rw [gI_ne μ (by omega)]; exact h4
  · rw [g _ _ (by omega)]; exact h5
  · rw [g _ _ (by omega)]; exact h6 i hi
  · match j, hj with
    | 0, _ => exact ⟨by rw [gI_eq, h9]; rfl, by rw [gI_ne μ (by omega)]; exact h10, by rw [gI_ne μ (by omega)]; exact h11⟩
    | 1, _ => exact ⟨by rw [gI_ne μ (by omega)]; exact h9, by rw [gI_eq, h10]; rfl, by rw [gI_ne μ (by omega)]; exact h11⟩
    | 2, _ => exact ⟨by rw [gI_ne μ (by omega)]; exact h9, by rw [gI_ne μ (by omega)]; exact h10, by rw [gI_eq, h11]; rfl⟩
theorem MS_cnt {μ : jm} {S : sst} (hW : WS S) (hM : MS μ S) {j : Nat} (hj : j < 3) : MS (sI μ 68 j (gI μ 68 j + 1)) (setR S j) := by
  obtain ⟨h1, h2, h3, h4, h5, h6, h7, h8, h9, h10, h11, h12⟩ := hM
  have g : ∀ a b, a ≠ 68 → gI (sI μ 68 j (gI μ 68 j + 1)) a b = gI μ a b := fun a b ha => gI_ne μ (fun z => ha z.1)
  refine ⟨MV_of (fun b _ _ => g 65 b (by omega)) hW.1 h1, MV_of (fun b _ _ => g 65 b (by omega)) hW.2.1 h2, MV_of (fun b _ _ => g 65 b (by omega)) hW.2.2.1 h3, ?_, ?_, ?_, fun i hi => ?_, h8, h9, ?_⟩
  · rw [g _ _ (by omega)]; exact h4
  · rw [g _ _ (by omega)]; exact h5
  · rw [g _ _ (by omega)]; exact h6
  · rw [g _ _ (by omega)]; exact h7 i hi
  · match j, hj with
    | 0, _ => exact ⟨by rw [gI_eq, h10]; rfl, by rw [gI_ne μ (by omega)]; exact h11, by rw [gI_ne μ (by omega)]; exact h12⟩
    | 1, _ => exact ⟨by rw [gI_ne μ (by omega)]; exact h10, by rw [gI_eq, h11]; rfl, by rw [gI_ne μ (by omega)]; exact h12⟩
    | 2, _ => exact ⟨by rw [gI_ne μ (by omega)]; exact h10, by rw [gI_ne μ (by omega)]; exact h11, by rw [gI_eq, h12]; rfl⟩
theorem c_told {μ : jm} {S : sst} (x : Int32) (hC : CS μ S) : ∃ m1, cj 96 [jR 9 0, jI x] μ = some (some (jI x), m1) ∧ CS m1 (tel S x) ∧ oc μ m1 := by
  rw [e_N_told]
  by_cases h2 : x = -2
  · rw [jbr_n (fun z => z h2), tel, if_pos h2]
    exact ⟨_, rfl, CS_cnt (j := 0) hC (by omega), oc_sI μ (by omega)⟩
  · rw [jbr_p h2, tel, if_neg h2]
    by_cases h3 : x = -3
    · rw [jbr_n (fun z => z h3), if_pos h3]
      exact ⟨_, rfl, CS_cnt (j := 1) hC (by omega), oc_sI μ (by omega)⟩
    · rw [jbr_p h3, if_neg h3]
      by_cases h4 : x = -4
      · rw [jbr_n (fun z => z h4), if_pos h4]
        exact ⟨_, rfl, CS_cnt (j := 2) hC (by omega), oc_sI μ (by omega)⟩
      · rw [jbr_p h4, if_neg h4]
        exact ⟨_, rfl, hC, oc_r μ⟩
theorem m_told {μ : jm} {S : sst} (x : Int32) (hW : WS S) (hM : MS μ S) : ∃ m1, cj 141 [jR 10 64, jI x] μ = some (some (jI x), m1) ∧ MS m1 (tel S x) ∧ om μ m1 := by
  rw [e_M_told]
  by_cases h2 : x = -2
  · subst h2
    rw [jbr_p rfl, tel, if_pos rfl, show inB ((-2 : Int32) - -2) 3 = true from by decide, jgd_t, jgd_t, show ix ((-2 : Int32) - -2) = 0 from by decide]
    exact ⟨_, rfl, MS_cnt hW hM (by omega), om_sI μ (by omega) (by omega)⟩
  · rw [jbr_n h2, tel, if_neg h2]
    by_cases h3 : x = -3
    · subst h3
      rw [jbr_p rfl, if_pos rfl, show inB ((-2 : Int32) - -3) 3 = true from by decide, jgd_t, jgd_t, show ix ((-2 : Int32) - -3) = 1 from by decide]
      exact ⟨_, rfl, MS_cnt hW hM (by omega), om_sI μ (by omega) (by omega)⟩
    · rw [jbr_n h3, if_neg h3]
      by_cases h4 : x = -4
      · subst h4
        rw [jbr_n (fun z => z rfl), if_pos rfl, show inB ((-2 : Int32) - -4) 3 = true from by decide, jgd_t, jgd_t, show ix ((-2 : Int32) - -4) = 2 from by decide]
        exact ⟨_, rfl, MS_cnt hW hM (by omega), om_sI μ (by omega) (by omega)⟩
      · rw [jbr_p h4, if_neg h4]
        exact ⟨_, rfl, hM, om_r μ⟩
/-- clear -/
def setTl (S : sst) (n : Nat) : sst := (sv S, s0 S, s1 S, sk S, n, sT S, sa S, sb S, sr S)
theorem op_clear : opI 105 159 [] Rel := by
  refine opI_of (fun S => nI (stl S)) (fun S => setTl S 0) (fun S h => ⟨h.1, h.2.1, h.2.2.1, h.2.2.2.1, Nat.zero_le _, fun i hi => absurd hi (Nat.not_lt_zero i)⟩) ?_ ?_
  · intro μ S hW hC
    obtain ⟨h1, h2, h3, h4, h5, h6, h7, h8, h9, h10, h11⟩ := hC
    have g : ∀ a b, a ≠ 46 → gI (sI μ 46 1 0) a b = gI μ a b := fun a b ha => gI_ne μ (fun z => ha z.1)
    refine ⟨sI μ 46 1 0, by rw [e_N_clear, e_Text_erase, bI_some, h5], ⟨CV_of (fun a b _ _ => g a b (by omega)) h1, CV_of (fun a b _ _ => g a b (by omega)) h2, CV_of (fun a b _ _ => g a b (by omega)) h3, ?_, gI_eq μ 46 1 0, fun i hi => absurd hi (Nat.not_lt_zero i), h7, h8, ?_, ?_, ?_⟩, oc_sI μ (by omega)⟩
    · rw [g _ _ (by omega)]; exact h4
    · rw [g _ _ (by omega)]; exact h9
    · rw [g _ _ (by omega)]; exact h10
    · rw [g _ _ (by omega)]; exact h11
  · intro μ S hW hM
    obtain ⟨h1, h2, h3, h4, h5, h6, h7, h8, h9, h10, h11, h12⟩ := hM
    have g : ∀ a b, a ≠ 64 → gI (sI μ 64 3 0) a b = gI μ a b := fun a b ha => gI_ne μ (fun z => ha z.1)
    refine ⟨sI μ 64 3 0, by rw [e_M_clear, h6], ⟨MV_of (fun b _ _ => g 65 b (by omega)) hW.1 h1, MV_of (fun b _ _ => g 65 b (by omega)) hW.2.1 h2, MV_of (fun b _ _ => g 65 b (by omega)) hW.2.2.1 h3, ?_, ?_, gI_eq μ 64 3 0, fun i hi => absurd hi (Nat.not_lt_zero i), h8, h9, ?_, ?_, ?_⟩, om_sI μ (by omega) (by omega)⟩
    · rw [g _ _ (by omega)]; exact h4
    · rw [g _ _ (by omega)]; exact h5
    · rw [g _ _ (by omega)]; exact h10
    · rw [g _ _ (by omega)]; exact h11
    · rw [g _ _ (by omega)]; exact h12
/-- the valley changed -/
def setV (S : sst) (v : vst) : sst := (v, s0 S, s1 S, sk S, stl S, sT S, sa S, sb S, sr S)
theorem WS_setV {S : sst} (h : WS S) {v : vst} (hv : WV v) : WS (setV S v) := ⟨hv, h.2⟩
/-- the class's valley written, nothing else of what counts -/
theorem CS_setV {μ μ' : jm} {S : sst} {v : vst} (hC : CS μ S) (hv : CV μ' 1 v) (h : ∀ a b, (a = 0 ∨ (24 ≤ a ∧ a ≤ 49)) → μ'.1 a b = μ.1 a b ∧ μ'.2 a b = μ.2 a b) : CS μ' (setV S v) := by
  obtain ⟨h1, h2, h3, h4, h5, h6, h7, h8, h9, h10, h11⟩ := hC
  have g : ∀ a b, (a = 0 ∨ (24 ≤ a ∧ a ≤ 49)) → gI μ' a b = gI μ a b := fun a b ha => (h a b ha).1
  have gl : ∀ a b, (a = 0 ∨ (24 ≤ a ∧ a ≤ 49)) → gL μ' a b = gL μ a b := fun a b ha => (h a b ha).2
  refine ⟨hv, CV_of (fun a b _ _ => g a b (by omega)) h2, CV_of (fun a b _ _ => g a b (by omega)) h3, ?_, ?_, fun i hi => ?_, ?_, ?_, ?_, ?_, ?_⟩
  · rw [g _ _ (by omega)]; exact h4
  · rw [g _ _ (by omega)]; exact h5
  · rw [g _ _ (by omega)]; exact h6 i hi
  · rw [gl _ _ (by omega)]; exact h7
  · rw [gl _ _ (by omega)]; exact h8
  · rw [g _ _ (by omega)]; exact h9
  · rw [g _ _ (by omega)]; exact h10
  · rw [g _ _ (by omega)]; exact h11
theorem MS_setV {μ μ' : jm} {S : sst} {v : vst} (hW : WS S) (hM : MS μ S) (hv : MV μ' 0 v) (h : ∀ a b, (a = 64 ∨ (a = 65 ∧ 140 ≤ b ∧ b < 420) ∨ a = 66 ∨ a = 67 ∨ a = 68) → (a = 64 → b = 3 ∨ b = 4 ∨ b = 5) → μ'.1 a b = μ.1 a b ∧ μ'.2 a b = μ.2 a b) : MS μ' (setV S v) := by
  obtain ⟨h1, h2, h3, h4, h5, h6, h7, h8, h9, h10, h11, h12⟩ := hM
  refine ⟨hv, MV_of (fun b _ _ => (h 65 b (by omega) (by omega)).1) hW.2.1 h2, MV_of (fun b _ _ => (h 65 b (by omega) (by omega)).1) hW.2.2.1 h3, ?_, ?_, ?_, fun i hi => ?_, ?_, ?_, ?_, ?_, ?_⟩
  · exact (h 66 0 (by omega) (by omega)).1.trans h4
  · exact (h 66 1 (by omega) (by omega)).1.trans h5
  · exact (h 64 3 (by omega) (by omega)).1.trans h6
  · exact (h 67 i (by omega) (by omega)).1.trans (h7 i hi)
  · exact (h 64 4 (by omega) (by omega)).2.trans h8
  · exact (h 64 5 (by omega) (by omega)).2.trans h9
  · exact (h 68 0 (by omega) (by omega)).1.trans h10
  · exact (h 68 1 (by omega) (by omega)).1.trans h11
  · exact (h 68 2 (by omega) (by omega)).1.trans h12
def vp0 (v : vst) : vst := (vD v, vE v, vn v, vK v, vN v, vR v, vM v, vc v, vC v, vU v, vl v, 0, vP v, vh v, vH v)
def vh0 (v : vst) : vst := (vD v, vE v, vn v, vK v, vN v, vR v, vM v, vc v, vC v, vU v, vl v, vp v, vP v, 0, vH v)
theorem op_hush : opI 112 180 [] Rel := by
  refine opI_of (fun S => nI (vp (sv S))) (fun S => setV S (vp0 (sv S))) (fun S h => WS_setV h ?_) ?_ ?_
  · obtain ⟨w1, w2, w3, w4, w5, w6, w7, w8, w9, w10, w11⟩ := h.1
    exact ⟨w1, w2, w3, w4, w5, w6, w7, Nat.zero_le _, fun i hi => absurd hi (Nat.not_lt_zero i), w10, w11⟩
  · intro μ S hW hC
    obtain ⟨h1, h2, h3, h4, h5, h6, h7, h8, h9, h10, h11⟩ := hC.1
    have g : ∀ a b, ¬ (a = 1 ∧ b = 12) → gI (sI μ 1 12 0) a b = gI μ a b := fun a b ha => gI_ne μ ha
    refine ⟨sI μ 1 12 0, by rw [e_N_hush, e_Valley_endSpeech, bI_some, h8], CS_setV hC ⟨fun a ha => ?_, fun a ha => ?_, ?_, fun p hp => ?_, ?_, fun i hi => ?_, ?_, gI_eq μ 1 12 0, fun i hi => absurd hi (Nat.not_lt_zero i), ?_, fun i hi => ?_⟩ (fun a b ha => ⟨if_neg (by omega), rfl⟩), oc_sI μ (by omega)⟩
    · rw [g _ _ (by omega)]; exact h1 a ha
    · rw [g _ _ (by omega)]; exact h2 a ha
    · rw [g _ _ (by omega)]; exact h3
    · rw [g _ _ (by omega), g _ _ (by omega), g _ _ (by omega), g _ _ (by omega)]; exact h4 p hp
    · rw [g _ _ (by omega)]; exact h5
    · rw [g _ _ (by omega), g _ _ (by omega)]; exact h6 i hi
    · rw [g _ _ (by omega)]; exact h7
    · rw [g _ _ (by omega)]; exact h10
    · rw [g _ _ (by omega)]; exact h11 i hi
  · intro μ S hW hM
    obtain ⟨h1, h2, h3, h4, h5, h6, h7, h8, h9, h10, h11⟩ := hM.1
    obtain ⟨-, -, w3, -, w5, -, -, w8, -, w10, -⟩ := hW.1
    have g : ∀ b, b ≠ 119 → gI (sI μ 65 119 0) 65 b = gI μ 65 b := fun b hb => gI_ne μ (fun z => hb z.2)
    refine ⟨sI μ 65 119 0, ?_, MS_setV hW hM ⟨fun a b ha hb => ?_, fun a b ha hb => ?_, ?_, fun p hp => ?_, ?_, fun i hi => ?_, ?_, gI_eq μ 65 119 0, fun i hi => absurd hi (Nat.not_lt_zero i), ?_, fun i hi => ?_⟩ (fun a b ha _ => ⟨if_neg (by omega), rfl⟩), om_sI μ (by omega) (by omega)⟩
    · rw [e_M_hush, show inB (119 : Int32) 560 = true from by decide, jgd_t, jgd_t, show ix (119 : Int32) = 0 + 119 from by decide, h8]
    · rw [g _ (by omega)]; exact h1 a b ha hb
    · rw [g _ (by omega)]; exact h2 a b ha hb
    · rw [g _ (by omega)]; exact h3
    · have hp : p < vn (sv S) := hp
      rw [g _ (by omega), g _ (by omega), g _ (by omega), g _ (by omega)]; exact h4 p hp
    · rw [g _ (by omega)]; exact h5
    · have hi : i < vc (sv S) := hi
      rw [g _ (by omega), g _ (by omega)]; exact h6 i hi
    · rw [g _ (by omega)]; exact h7
    · rw [g _ (by omega)]; exact h10
    · rw [g _ (by omega)]; exact h11 i hi
