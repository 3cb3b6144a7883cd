/-! type -/
def byt (w : Int64) : Nat := (w &&& 255).toBitVec.toNat
theorem byt_l (w : Int64) : w &&& 255 = lN (byt w) := by
  apply Int64.toBitVec_inj.mp
  show (w &&& 255).toBitVec = BitVec.ofNat 64 ((w &&& 255).toBitVec.toNat)
  rw [BitVec.ofNat_toNat, BitVec.setWidth_eq]
theorem byt_lt (w : Int64) : byt w < 256 := by
  unfold byt
  rw [Int64.toBitVec_and, BitVec.toNat_and]
  exact Nat.lt_of_le_of_lt Nat.and_le_right (by decide)
theorem byt_8 (w : Int64) : (w &&& 255).toInt32.toInt8 = w.toInt32.toInt8 := by
  apply Int8.toBitVec_inj.mp
  apply BitVec.eq_of_getLsbD_eq
  intro i hi
  have h255 : ∀ i, i < 8 → ((255 : Int64).toBitVec).getLsbD i = true := by decide
  rw [Int32.toBitVec_toInt8, Int32.toBitVec_toInt8, Int64.toBitVec_toInt32, Int64.toBitVec_toInt32, BitVec.getLsbD_signExtend, BitVec.getLsbD_signExtend, BitVec.getLsbD_signExtend, BitVec.getLsbD_signExtend, Int64.toBitVec_and, BitVec.getLsbD_and, h255 i hi, Bool.and_true]
  rw [if_pos (by omega), if_pos (by omega), if_pos (by omega), if_pos (by omega)]
theorem byt_c (w : Int64) : w.toInt32.toInt8.toInt32.toInt8.toInt32 = (nI (byt w)).toInt8.toInt32 := by
  rw [Int8.toInt8_toInt32, ← byt_8, byt_l, lN_i]
def bvv (v : Int64) (k : Nat) : Nat := byt (v >>> ((nI (8 * k)).toInt64 &&& 63))
def setTx (S : sst) (n : Nat) (T : Nat → Nat) : sst := (sv S, s0 S, s1 S, sk S, n, T, sa S, sb S, sr S)
def txT (v : Int64) (l n : Nat) (T : Nat → Nat) (j : Nat) : Nat → Nat := itr (fun j T => vup T (l + j) (bvv v (n - 1 - j))) j 0 T
theorem txT_s (v : Int64) (l n : Nat) (T : Nat → Nat) (j : Nat) : txT v l n T (j + 1) = vup (txT v l n T j) (l + j) (bvv v (n - 1 - j)) := by
  show itr _ (j + 1) 0 _ = _
  rw [itr_s, Nat.zero_add]
  rfl
theorem txT_l (v : Int64) (l n : Nat) {T : Nat → Nat} (hT : ∀ i, i < l → T i < 256) : ∀ j i, i < l + j → txT v l n T j i < 256
  | 0, i, h => hT i h
  | j + 1, i, h => by
    rw [txT_s]
    by_cases e : i = l + j
    · rw [e, vup_e]; exact byt_lt _
    · rw [vup_n _ _ e]; exact txT_l v l n hT j i (by omega)
theorem m1_m1 (a : Nat) : (nI (a + 1) - 1 : Int32) + -1 = nI a - 1 := by rw [nI_pred, ← Int32.sub_eq_add_neg]
theorem c_app {μ : jm} {v : Int64} {l n : Nat} {T : Nat → Nat} (hn : n ≤ 8) (hl : l + n ≤ 200) (h1 : gI μ 46 1 = nI l) (h2 : ∀ i, i < l → gI μ 47 i = (nI (T i)).toInt8.toInt32) : ∃ m, evj 82 34 [jR 7 46, jL v, jU, jU, jI (nI n - 1)] [] μ = some (some (jI (nI (l + n))), m) ∧ gI m 46 1 = nI (l + n) ∧ (∀ i, i < l + n → gI m 47 i = (nI (txT v l n T n i)).toInt8.toInt32) ∧ (∀ a b, ¬ (a = 47 ∨ (a = 46 ∧ b = 1)) → m.1 a b = μ.1 a b) ∧ ∀ a b, m.2 a b = μ.2 a b := by
  obtain ⟨m, e1, e2, e3, e4, e5⟩ := lp_r (W := fun j (m : jm) => evj 82 34 [jR 7 46, jL v, jU, jU, jI (nI (n - j) - 1)] [] m) (n := n) (fun j m => gI m 46 1 = nI (l + j) ∧ (∀ i, i < l + j → gI m 47 i = (nI (txT v l n T j i)).toInt8.toInt32) ∧ (∀ a b, ¬ (a = 47 ∨ (a = 46 ∧ b = 1)) → m.1 a b = μ.1 a b) ∧ ∀ a b, m.2 a b = μ.2 a b) (fun j m hj hI => by
    obtain ⟨i1, i2, i3, i4⟩ := hI
    show ∃ a', evj _ _ _ _ _ = evj _ _ _ _ _ ∧ _
    obtain ⟨a, ha⟩ : ∃ a, n - j = a + 1 := ⟨n - j - 1, by omega⟩
    rw [e_Text_append_34, bk_l0 (by omega), jbr_n (by omega), i1, inB_nI (by omega) (by omega), jgd_t, ixn (by omega), ha, m1_m1, nI_pred, show (8 : Int32) = nI 8 from rfl, kI_mul, byt_c, gI_ne _ (by omega), i1, li1, nI_add, show n - (j + 1) = a from by omega]
    refine ⟨_, rfl, by rw [gI_eq]; rfl, fun i hi => ?_, fun x y hxy => ?_, i4⟩
    · rw [gI_ne _ (by omega), txT_s]
      by_cases e : i = l + j
      · rw [e, gI_eq, vup_e, show n - 1 - j = a from by omega]
        rfl
      · rw [gI_ne _ (by omega), vup_n _ _ e]
        exact i2 i (by omega)
    · exact ((if_neg (by omega)).trans (if_neg (by omega))).trans (i3 x y hxy)) n 0 μ (by omega) ⟨h1, h2, fun _ _ _ => rfl, fun _ _ => rfl⟩
  refine ⟨m, Eq.trans e1 ?_, e2, e3, e4, e5⟩
  show evj _ _ _ _ _ = _
  rw [e_Text_append_34, bk_l0 (by omega), jbr_p (by omega), e2]
theorem m_app {μ : jm} {v : Int64} {l n : Nat} {T : Nat → Nat} (hn : n ≤ 8) (hl : l + n ≤ 200) (h1 : gI μ 64 3 = nI l) (h2 : ∀ i, i < l → gI μ 67 i = nI (T i)) : ∃ m, evj 158 43 [jR 10 64, jL v, jU, jU, jI (nI n - 1)] [] μ = some (some (jI (nI (l + n))), m) ∧ gI m 64 3 = nI (l + n) ∧ (∀ i, i < l + n → gI m 67 i = nI (txT v l n T n i)) ∧ (∀ a b, ¬ (a = 67 ∨ (a = 64 ∧ b = 3)) → m.1 a b = μ.1 a b) ∧ ∀ a b, m.2 a b = μ.2 a b := by
  obtain ⟨m, e1, e2, e3, e4, e5⟩ := lp_r (W := fun j (m : jm) => evj 158 43 [jR 10 64, jL v, jU, jU, jI (nI (n - j) - 1)] [] m) (n := n) (fun j m => gI m 64 3 = nI (l + j) ∧ (∀ i, i < l + j → gI m 67 i = nI (txT v l n T j i)) ∧ (∀ a b, ¬ (a = 67 ∨ (a = 64 ∧ b = 3)) → m.1 a b = μ.1 a b) ∧ ∀ a b, m.2 a b = μ.2 a b) (fun j m hj hI => by
    obtain ⟨i1, i2, i3, i4⟩ := hI
    show ∃ a', evj _ _ _ _ _ = evj _ _ _ _ _ ∧ _
    obtain ⟨a, ha⟩ : ∃ a, n - j = a + 1 := ⟨n - j - 1, by omega⟩
    rw [e_M_type_43, bk_l0 (by omega), jbr_n (by omega), i1, inB_nI (by omega) (by omega), jgd_t, ixn (by omega), ha, m1_m1, nI_pred, show (8 : Int32) = nI 8 from rfl, kI_mul, byt_l, lN_i, gI_ne _ (by omega), i1, li1, nI_add, show n - (j + 1) = a from by omega]
    refine ⟨_, rfl, by rw [gI_eq]; rfl, fun i hi => ?_, fun x y hxy => ?_, i4⟩
    · rw [gI_ne _ (by omega), txT_s]
      by_cases e : i = l + j
      · rw [e, gI_eq, vup_e, show n - 1 - j = a from by omega]
        rfl
      · rw [gI_ne _ (by omega), vup_n _ _ e]
        exact i2 i (by omega)
    · exact ((if_neg (by omega)).trans (if_neg (by omega))).trans (i3 x y hxy)) n 0 μ (by omega) ⟨h1, h2, fun _ _ _ => rfl, fun _ _ => rfl⟩
  refine ⟨m, Eq.trans e1 ?_, e2, e3, e4, e5⟩
  show evj _ _ _ _ _ = _
  rw [e_M_type_43, bk_l0 (by omega), jbr_p (by omega), e2]
abbrev yOk (n : Int32) : Prop := 1 ≤ un n ∧ un n < 9
def fTy (n : Int32) (S : sst) : Int32 := if yOk n then (if stl S + un n ≤ 200 then nI (stl S + un n) else -4) else -2
def gTy (v : Int64) (n : Int32) (S : sst) : sst := if yOk n then (if stl S + un n ≤ 200 then setTx S (stl S + un n) (txT v (stl S) (un n) (sT S) (un n)) else tel S (-4)) else tel S (-2)
theorem op_type (v : Int64) (n : Int32) : opI 104 158 [jL v, jI n] Rel := by
  refine opI_of (fun S => fTy n S) (fun S => gTy v n S) (fun S h => ?_) ?_ ?_
  · show WS (gTy v n S)
    unfold gTy
    split
    · split
      · rename_i h1 h2
        exact ⟨h.1, h.2.1, h.2.2.1, h.2.2.2.1, h2, fun i hi => txT_l v (stl S) (un n) h.2.2.2.2.2 (un n) i hi⟩
      · exact WS_tel h _
    · exact WS_tel h _
  · intro μ S hW hC
    have hl : stl S ≤ 200 := hW.2.2.2.2.1
    obtain ⟨h1, h2, h3, h4, h5, h6, h7, h8, h9, h10, h11⟩ := id hC
    rw [e_N_type, e_Text_append]
    by_cases hy : yOk n
    · have fe : fTy n S = _ := if_pos hy
      have ge : gTy v n S = _ := if_pos hy
      obtain ⟨y1, y2⟩ := hy
      obtain ⟨k, hk, rfl⟩ := un_x y2 (by omega)
      rw [un_nI (by omega)] at y1 fe ge
      rw [fe, ge, li1, bk_lt (by omega) (by omega), jbr_n (by omega), li8, bk_le (by omega) (by omega), jbr_p (by omega), h5, nI_add, li200, bk_le (by omega) (by omega)]
      by_cases hf : stl S + k ≤ 200
      · obtain ⟨m, a1, a2, a3, a4, a5⟩ := c_app (v := v) (n := k) (T := sT S) (by omega) hf h5 h6
        have a1 : evj 82 34 [jR 7 46, jL v, jU, jU, jI (nI k - nI 1)] [] μ = _ := a1
        have g : ∀ a b, ¬ (a = 47 ∨ (a = 46 ∧ b = 1)) → gI m a b = gI μ a b := a4
        have cs : CS m (setTx S (stl S + k) (txT v (stl S) k (sT S) k)) := ⟨CV_of (fun a b _ _ => g a b (by omega)) h1, CV_of (fun a b _ _ => g a b (by omega)) h2, CV_of (fun a b _ _ => g a b (by omega)) h3, by rw [g _ _ (by omega)]; exact h4, a2, a3, (a5 49 0).trans h7, (a5 49 1).trans h8, by rw [g _ _ (by omega)]; exact h9, by rw [g _ _ (by omega)]; exact h10, by rw [g _ _ (by omega)]; exact h11⟩
        rw [jbr_p hf, if_pos hf, if_pos hf, a1, bI_some]
        obtain ⟨m2, b1, b2, b3⟩ := c_tel (nI (stl S + k)) cs
        rw [tel_n _ (by omega)] at b2
        exact ⟨m2, b1, b2, oc_t (fun a b ha => ⟨a4 a b (by omega), a5 a b⟩) b3⟩
      · rw [jbr_n hf, if_neg hf, if_neg hf, bI_some]
        exact c_tel _ hC
    · have fe : fTy n S = _ := if_neg hy
      have ge : gTy v n S = _ := if_neg hy
      rw [fe, ge]
      have key : jbr (decide (n < (1 : Int32))) (some (some (jI (-2 : Int32)), μ)) (jbr (decide (n ≤ (8 : Int32))) (jbr (decide (((gI μ 46 1) + n) ≤ (200 : Int32))) (evj 82 34 [jR 7 46, jL v, jU, jU, jI (n - (1 : Int32))] [] μ) (some (some (jI (-4 : Int32)), μ))) (some (some (jI (-2 : Int32)), μ))) = some (some (jI (-2 : Int32)), μ) := by
        by_cases hz : n < (1 : Int32)
        · rw [jbr_p hz]
        · rw [jbr_n hz, jbr_n (fun z => hy ?_)]
          have z1 := (len_ n (n := 8) (by omega)).mp z
          have z2 : ¬ n.toInt < ((1 : Nat) : Int) := fun q => hz ((ltn n (n := 1) (by omega)).mpr q)
          refine ⟨?_, (un_lt n (by omega)).mpr (by omega)⟩
          have : ¬ un n < 1 := fun q => by have := (un_lt n (by omega)).mp q; omega
          omega
      rw [key, bI_some]
      exact c_tel _ hC
  · intro μ S hW hM
    have hl : stl S ≤ 200 := hW.2.2.2.2.1
    obtain ⟨h1, h2, h3, h4, h5, h6, h7, h8, h9, h10, h11, h12⟩ := id hM
    rw [e_M_type, m_in, show (1 : Int64).toInt = 1 from rfl, show (8 : Int64).toInt = 8 from rfl, bI_some]
    by_cases hy : yOk n
    · have fe : fTy n S = _ := if_pos hy
      have ge : gTy v n S = _ := if_pos hy
      obtain ⟨y1, y2⟩ := hy
      obtain ⟨k, hk, rfl⟩ := un_x y2 (by omega)
      rw [un_nI (by omega)] at y1 fe ge
      rw [fe, ge, if_pos (show 1 ≤ (nI k).toInt ∧ (nI k).toInt ≤ 8 by rw [nI_toInt (by omega)]; omega), jbr_p (by decide), h6, nI_add, li200, bk_le (by omega) (by omega)]
      by_cases hf : stl S + k ≤ 200
      · obtain ⟨m, a1, a2, a3, a4, a5⟩ := m_app (v := v) (n := k) (T := sT S) (by omega) hf h6 h7
        have g : ∀ a b, ¬ (a = 67 ∨ (a = 64 ∧ b = 3)) → gI m a b = gI μ a b := a4
        rw [jbr_p hf, if_pos hf, if_pos hf, a1]
        exact ⟨m, rfl, ⟨MV_of (fun b _ _ => g 65 b (by omega)) hW.1 h1, MV_of (fun b _ _ => g 65 b (by omega)) hW.2.1 h2, MV_of (fun b _ _ => g 65 b (by omega)) hW.2.2.1 h3, by rw [g _ _ (by omega)]; exact h4, by rw [g _ _ (by omega)]; exact h5, a2, a3, (a5 64 4).trans h8, (a5 64 5).trans h9, by rw [g _ _ (by omega)]; exact h10, by rw [g _ _ (by omega)]; exact h11, by rw [g _ _ (by omega)]; exact h12⟩, fun a b ha => ⟨a4 a b (by omega), a5 a b⟩⟩
      · rw [jbr_n hf, if_neg hf, if_neg hf]
        exact m_tel _ hW hM
    · have fe : fTy n S = _ := if_neg hy
      have ge : gTy v n S = _ := if_neg hy
      rw [fe, ge, if_neg (fun z => hy ?_), jbr_n (by decide)]
      · exact m_tel _ hW hM
      · refine ⟨?_, (un_lt n (by omega)).mpr (by omega)⟩
        have : ¬ un n < 1 := fun q => by have := (un_lt n (by omega)).mp q; omega
        omega
