/-! numbers in a range; calls that the valley answers -/
theorem fa_lt64 (a b : Int64) : a < b ↔ a.toInt < b.toInt := Int64.lt_iff_toInt_lt
theorem lg_lt0 (x y : Int64) : lg_cmp x y < 0 ↔ x.toInt < y.toInt := by
  unfold lg_cmp
  by_cases h1 : x > y
  · rw [if_pos h1]
    have h1 : y.toInt < x.toInt := Int64.lt_iff_toInt_lt.mp h1
    exact ⟨fun h => absurd h (by decide), fun h => by omega⟩
  · rw [if_neg h1]
    have h1 : ¬ y.toInt < x.toInt := fun z => h1 (Int64.lt_iff_toInt_lt.mpr z)
    by_cases h2 : x = y
    · rw [if_pos h2, h2]
      exact ⟨fun h => absurd h (by decide), fun h => by omega⟩
    · rw [if_neg h2]
      have h2 : x.toInt ≠ y.toInt := fun z => h2 (Int64.toInt_inj.mp z)
      exact ⟨fun _ => by omega, fun _ => by decide⟩
theorem lg_gt0 (x y : Int64) : 0 < lg_cmp x y ↔ y.toInt < x.toInt := by
  unfold lg_cmp
  by_cases h1 : x > y
  · rw [if_pos h1]
    have h1 : y.toInt < x.toInt := Int64.lt_iff_toInt_lt.mp h1
    exact ⟨fun _ => h1, fun h => by decide⟩
  · rw [if_neg h1]
    have h1 : ¬ y.toInt < x.toInt := fun z => h1 (Int64.lt_iff_toInt_lt.mpr z)
    by_cases h2 : x = y
    · rw [if_pos h2]
      exact ⟨fun h => absurd h (by decide), fun h => absurd h h1⟩
    · rw [if_neg h2]
      exact ⟨fun h => absurd h (by decide), fun h => absurd h h1⟩
/-- the reference's range check: 1 in it, 0 outside -/
theorem m_in (x : Int32) (a b : Int64) (μ : jm) : cj 140 [jL x.toInt64, jL a, jL b] μ = some (some (jI (if a.toInt ≤ x.toInt ∧ x.toInt ≤ b.toInt then 1 else 0)), μ) := by
  rw [e_M_in]
  by_cases h1 : x.toInt < a.toInt
  · rw [jbr_p ((lg_lt0 _ _).mpr (by rw [Int32.toInt_toInt64]; exact h1)), if_neg (by omega)]
    rfl
  · rw [jbr_n (fun z => h1 (by have := (lg_lt0 _ _).mp z; rw [Int32.toInt_toInt64] at this; exact this))]
    by_cases h2 : b.toInt < x.toInt
    · rw [jbr_p ((lg_gt0 _ _).mpr (by rw [Int32.toInt_toInt64]; exact h2)), if_neg (by omega)]
      rfl
    · rw [jbr_n (fun z => h2 (by have := (lg_gt0 _ _).mp z; rw [Int32.toInt_toInt64] at this; exact this)), if_pos (by omega)]
      rfl
/-- an int below a small number: itself a natural one, or outside -/
theorem nat_of (x : Int32) (n : Nat) (hn : n < 2147483648) : (∃ j : Nat, j < n ∧ x = nI j) ∨ (x.toInt < 0 ∨ (n : Int) ≤ x.toInt) := by
  by_cases h : x.toInt < 0 ∨ (n : Int) ≤ x.toInt
  · exact Or.inr h
  · refine Or.inl ⟨x.toInt.toNat, by omega, ?_⟩
    apply Int32.toInt_inj.mp
    rw [nI_toInt (by omega)]
    omega
theorem lt0 (x : Int32) : x < 0 ↔ x.toInt < 0 := by rw [Int32.lt_iff_toInt_lt, Int32.toInt_zero]
theorem ltn (x : Int32) {n : Nat} (hn : n < 2147483648) : x < nI n ↔ x.toInt < n := by rw [Int32.lt_iff_toInt_lt, nI_toInt hn]
theorem len_ (x : Int32) {n : Nat} (hn : n < 2147483648) : x ≤ nI n ↔ x.toInt ≤ n := by rw [Int32.le_iff_toInt_le, nI_toInt hn]
theorem nle (x : Int32) {n : Nat} (hn : n < 2147483648) : nI n ≤ x ↔ (n : Int) ≤ x.toInt := by rw [Int32.le_iff_toInt_le, nI_toInt hn]
theorem nlt (x : Int32) {n : Nat} (hn : n < 2147483648) : nI n < x ↔ (n : Int) < x.toInt := by rw [Int32.lt_iff_toInt_lt, nI_toInt hn]
/-- nothing changed but in a valley of the class; but in one of the reference -/
def okC (k : Nat) (μ m : jm) : Prop := ∀ a b, (a < k ∨ k + 10 < a) → m.1 a b = μ.1 a b ∧ m.2 a b = μ.2 a b
def okM (r : Nat) (μ m : jm) : Prop := ∀ a b, ¬ (a = 65 ∧ r ≤ b ∧ b < r + 140) → m.1 a b = μ.1 a b ∧ m.2 a b = μ.2 a b
theorem okC_r (k : Nat) (μ : jm) : okC k μ μ := fun _ _ _ => ⟨rfl, rfl⟩
theorem okM_r (r : Nat) (μ : jm) : okM r μ μ := fun _ _ _ => ⟨rfl, rfl⟩
theorem okC_sI (k : Nat) (μ : jm) {a i : Nat} {v : Int32} (h1 : k ≤ a) (h2 : a ≤ k + 10) : okC k μ (sI μ a i v) := fun x y h => ⟨if_neg (by omega), rfl⟩
theorem okM_sI (r : Nat) (μ : jm) {i : Nat} {v : Int32} (h1 : r ≤ i) (h2 : i < r + 140) : okM r μ (sI μ 65 i v) := fun x y h => ⟨if_neg (by omega), rfl⟩
theorem okC_t {k : Nat} {a b c : jm} (h : okC k a b) (h2 : okC k b c) : okC k a c := fun x y hx => ⟨(h2 x y hx).1.trans (h x y hx).1, (h2 x y hx).2.trans (h x y hx).2⟩
theorem okM_t {r : Nat} {a b c : jm} (h : okM r a b) (h2 : okM r b c) : okM r a c := fun x y hx => ⟨(h2 x y hx).1.trans (h x y hx).1, (h2 x y hx).2.trans (h x y hx).2⟩
/-- a call that asks the valley and tells its refusals -/
theorem c_val {X V : Nat} {as : List jv} {f : vst → Int32} {g : vst → vst} (hX : ∀ μ, cj X (jR 9 0 :: as) μ = bI (cj V (jR 8 1 :: as) μ) (fun r1 m1 => bI (cj 96 [jR 9 0, jI r1] m1) (fun r2 m2 => some (some (jI r2), m2)))) (hV : ∀ μ v, WV v → CV μ 1 v → ∃ m1, cj V (jR 8 1 :: as) μ = some (some (jI (f v)), m1) ∧ CV m1 1 (g v) ∧ okC 1 μ m1) : ∀ μ S, WS S → CS μ S → ∃ m1, cj X (jR 9 0 :: as) μ = some (some (jI (f (sv S))), m1) ∧ CS m1 (tel (setV S (g (sv S))) (f (sv S))) ∧ oc μ m1 := by
  intro μ S hW hC
  obtain ⟨m1, h1, h2, h3⟩ := hV μ (sv S) hW.1 hC.1
  have hC1 : CS m1 (setV S (g (sv S))) := CS_setV hC h2 (fun a b h => h3 a b (by omega))
  obtain ⟨m2, d1, d2, d3⟩ := c_told (f (sv S)) hC1
  refine ⟨m2, ?_, d2, oc_t (fun a b h => h3 a b (by omega)) d3⟩
  rw [hX, h1, bI_some, d1, bI_some]
theorem m_val {X V : Nat} {as as2 : List jv} {f : vst → Int32} {g : vst → vst} (hX : ∀ μ, cj X (jR 10 64 :: as) μ = bI (cj V (jR 10 64 :: as2) μ) (fun r1 m1 => bI (cj 141 [jR 10 64, jI r1] m1) (fun r2 m2 => some (some (jI r2), m2)))) (hg : ∀ v, WV v → WV (g v)) (hV : ∀ μ v, WV v → MV μ 0 v → ∃ m1, cj V (jR 10 64 :: as2) μ = some (some (jI (f v)), m1) ∧ MV m1 0 (g v) ∧ okM 0 μ m1) : ∀ μ S, WS S → MS μ S → ∃ m1, cj X (jR 10 64 :: as) μ = some (some (jI (f (sv S))), m1) ∧ MS m1 (tel (setV S (g (sv S))) (f (sv S))) ∧ om μ m1 := by
  intro μ S hW hM
  obtain ⟨m1, h1, h2, h3⟩ := hV μ (sv S) hW.1 hM.1
  have hM1 : MS m1 (setV S (g (sv S))) := MS_setV hW hM h2 (fun a b h _ => h3 a b (by omega))
  obtain ⟨m2, d1, d2, d3⟩ := m_told (f (sv S)) (WS_setV hW (hg _ hW.1)) hM1
  refine ⟨m2, ?_, d2, om_t (fun a b h => h3 a b (by omega)) d3⟩
  rw [hX, h1, bI_some, d1, bI_some]
/-- slack -/
def fSl (x : Int32) (v : vst) : Int32 := if 0 ≤ x.toInt ∧ x.toInt ≤ 2 then nI (vl v) else -2
def gSl (x : Int32) (v : vst) : vst := if 0 ≤ x.toInt ∧ x.toInt ≤ 2 then (vD v, vE v, vn v, vK v, vN v, vR v, vM v, vc v, vC v, vU v, x.toInt.toNat, vp v, vP v, vh v, vH v) else v
theorem WV_gSl (x : Int32) {v : vst} (h : WV v) : WV (gSl x v) := by
  unfold gSl
  split
  · obtain ⟨w1, w2, w3, w4, w5, w6, w7, w8, w9, w10, w11⟩ := h
    exact ⟨w1, w2, w3, w4, w5, w6, show x.toInt.toNat ≤ 2 by omega, w8, w9, w10, w11⟩
  · exact h
theorem c_slack (k : Nat) (x : Int32) (μ : jm) (v : vst) (hv : CV μ k v) : ∃ m1, cj 24 [jR 8 k, jI x] μ = some (some (jI (fSl x v)), m1) ∧ CV m1 k (gSl x v) ∧ okC k μ m1 := by
  rw [e_Valley_changeSlack, show (2 : Int32) = nI 2 from rfl]
  by_cases hx : 0 ≤ x.toInt ∧ x.toInt ≤ 2
  · rw [jbr_n (fun z => by have := (lt0 x).mp z; omega), jbr_p ((len_ x (n := 2) (by omega)).mpr hx.2), fSl, gSl, if_pos hx, if_pos hx]
    obtain ⟨h1, h2, h3, h4, h5, h6, h7, h8, h9, h10, h11⟩ := hv
    have g : ∀ a b, ¬ (a = k ∧ b = 10) → gI (sI μ k 10 x) a b = gI μ a b := fun a b ha => gI_ne μ ha
    have ex : x = nI x.toInt.toNat := Int32.toInt_inj.mp (by rw [nI_toInt (by omega)]; omega)
    exact ⟨_, by rw [h7], ⟨fun a ha => by rw [g _ _ (by omega)]; exact h1 a ha, fun a ha => by rw [g _ _ (by omega)]; exact h2 a ha, by rw [g _ _ (by omega)]; exact h3, fun p hp => by rw [g _ _ (by omega), g _ _ (by omega), g _ _ (by omega), g _ _ (by omega)]; exact h4 p hp, by rw [g _ _ (by omega)]; exact h5, fun i hi => by rw [g _ _ (by omega), g _ _ (by omega)]; exact h6 i hi, (gI_eq μ k 10 x).trans ex, by rw [g _ _ (by omega)]; exact h8, fun i hi => by rw [g _ _ (by omega)]; exact h9 i hi, by rw [g _ _ (by omega)]; exact h10, fun i hi => by rw [g _ _ (by omega)]; exact h11 i hi⟩, okC_sI k μ (by omega) (by omega)⟩
  · rw [fSl, gSl, if_neg hx, if_neg hx]
    by_cases h1 : x.toInt < 0
    · rw [jbr_p ((lt0 x).mpr h1)]
      exact ⟨_, rfl, hv, okC_r k μ⟩
    · rw [jbr_n (fun z => h1 ((lt0 x).mp z)), jbr_n (fun z => by have := (len_ x (n := 2) (by omega)).mp z; omega)]
      exact ⟨_, rfl, hv, okC_r k μ⟩
theorem ixn {n : Nat} (h : n < 2147483648) : ix (nI n) = n := nI_clamp h
theorem m_slack (r : Nat) (hr : r ≤ 420) (x : Int32) (μ : jm) (v : vst) (hw : WV v) (hv : MV μ r v) : ∃ m1, cj 152 [jR 10 64, jI (nI r), jI x] μ = some (some (jI (fSl x v)), m1) ∧ MV m1 r (gSl x v) ∧ okM r μ m1 := by
  rw [e_M_setSlack, m_in, bI_some, nI_p r 118 (z := 118) rfl, ixn (by omega), inB_nI (by omega) (by omega), jgd_t, jgd_t]
  have e0 : (0 : Int64).toInt = 0 := rfl
  have e2 : (2 : Int64).toInt = 2 := rfl
  rw [e0, e2]
  by_cases hx : 0 ≤ x.toInt ∧ x.toInt ≤ 2
  · rw [if_pos hx, jbr_p (by decide), fSl, gSl, if_pos hx, if_pos hx]
    obtain ⟨h1, h2, h3, h4, h5, h6, h7, h8, h9, h10, h11⟩ := hv
    obtain ⟨-, -, w3, -, w5, -, -, w8, -, w10, -⟩ := hw
    have g : ∀ b, b ≠ r + 118 → gI (sI μ 65 (r + 118) x) 65 b = gI μ 65 b := fun b hb => gI_ne μ (fun z => hb z.2)
    have ex : x = nI x.toInt.toNat := Int32.toInt_inj.mp (by rw [nI_toInt (by omega)]; omega)
    exact ⟨_, by rw [h7], ⟨fun a b ha hb => by rw [g _ (by omega)]; exact h1 a b ha hb, fun a b ha hb => by rw [g _ (by omega)]; exact h2 a b ha hb, by rw [g _ (by omega)]; exact h3, fun p hp => by have hp : p < vn v := hp; rw [g _ (by omega), g _ (by omega), g _ (by omega), g _ (by omega)]; exact h4 p hp, by rw [g _ (by omega)]; exact h5, fun i hi => by have hi : i < vc v := hi; rw [g _ (by omega), g _ (by omega)]; exact h6 i hi, (gI_eq μ 65 (r + 118) x).trans ex, by rw [g _ (by omega)]; exact h8, fun i hi => by have hi : i < vp v := hi; rw [g _ (by omega)]; exact h9 i hi, by rw [g _ (by omega)]; exact h10, fun i hi => by have hi : i < vh v := hi; rw [g _ (by omega)]; exact h11 i hi⟩, okM_sI r μ (by omega) (by omega)⟩
  · rw [if_neg hx, jbr_n (by decide), fSl, gSl, if_neg hx, if_neg hx]
    exact ⟨_, rfl, hv, okM_r r μ⟩
theorem op_slack (x : Int32) : opI 102 151 [jI x] Rel :=
  opI_of (fun S => fSl x (sv S)) (fun S => tel (setV S (gSl x (sv S))) (fSl x (sv S))) (fun S h => WS_tel (WS_setV h (WV_gSl x h.1)) _)
    (c_val (fun μ => e_N_slack x μ) (fun μ v _ hv => c_slack 1 x μ v hv))
    (m_val (as2 := [jI 0, jI x]) (fun μ => e_M_slack x μ) (fun v h => WV_gSl x h) (fun μ v hw hv => m_slack 0 (by omega) x μ v hw hv))
