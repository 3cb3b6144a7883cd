/-! THE STATE of class and reference, as numbers; what each holds of it -/
abbrev vst : Type := (Nat → Nat) × (Nat → Nat) × Nat × (Nat → Nat) × (Nat → Nat) × (Nat → Nat) × (Nat → Nat) × Nat × (Nat → Nat) × (Nat → Nat) × Nat × Nat × (Nat → Nat) × Nat × (Nat → Nat)
def vD (v : vst) : Nat → Nat := v.1
def vE (v : vst) : Nat → Nat := v.2.1
def vn (v : vst) : Nat := v.2.2.1
def vK (v : vst) : Nat → Nat := v.2.2.2.1
def vN (v : vst) : Nat → Nat := v.2.2.2.2.1
def vR (v : vst) : Nat → Nat := v.2.2.2.2.2.1
def vM (v : vst) : Nat → Nat := v.2.2.2.2.2.2.1
def vc (v : vst) : Nat := v.2.2.2.2.2.2.2.1
def vC (v : vst) : Nat → Nat := v.2.2.2.2.2.2.2.2.1
def vU (v : vst) : Nat → Nat := v.2.2.2.2.2.2.2.2.2.1
def vl (v : vst) : Nat := v.2.2.2.2.2.2.2.2.2.2.1
def vp (v : vst) : Nat := v.2.2.2.2.2.2.2.2.2.2.2.1
def vP (v : vst) : Nat → Nat := v.2.2.2.2.2.2.2.2.2.2.2.2.1
def vh (v : vst) : Nat := v.2.2.2.2.2.2.2.2.2.2.2.2.2.1
def vH (v : vst) : Nat → Nat := v.2.2.2.2.2.2.2.2.2.2.2.2.2.2
/-- a valley of the class at cell k -/
def CV (μ : jm) (k : Nat) (v : vst) : Prop :=
  (∀ a, a < 6 → gI μ (k + 1) a = nI (vD v a)) ∧ (∀ a, a < 6 → gI μ (k + 2) a = nI (vE v a)) ∧ gI μ k 6 = nI (vn v) ∧
  (∀ p, p < vn v → gI μ (k + 3) p = nI (vK v p) ∧ gI μ (k + 4) p = nI (vN v p) ∧ gI μ (k + 5) p = nI (vR v p) ∧ gI μ (k + 6) p = nI (vM v p) - 1) ∧
  gI μ k 9 = nI (vc v) ∧ (∀ i, i < vc v → gI μ (k + 7) i = nI (vC v i) ∧ gI μ (k + 8) i = nI (vU v i)) ∧ gI μ k 10 = nI (vl v) ∧
  gI μ k 12 = nI (vp v) ∧ (∀ i, i < vp v → gI μ (k + 9) i = nI (vP v i)) ∧ gI μ k 14 = nI (vh v) ∧ (∀ i, i < vh v → gI μ (k + 10) i = nI (vH v i))
/-- a valley of the reference from place r on -/
def MV (μ : jm) (r : Nat) (v : vst) : Prop :=
  (∀ a b, a < 6 → b < 6 → gI μ 65 (r + 6 * a + b) = nI (if (vD v a).testBit b then 1 else 0)) ∧ (∀ a b, a < 6 → b < 6 → gI μ 65 (r + 36 + 6 * a + b) = nI (if (vE v a).testBit b then 1 else 0)) ∧ gI μ 65 (r + 72) = nI (vn v) ∧
  (∀ p, p < vn v → gI μ 65 (r + 73 + p) = nI (vK v p) ∧ gI μ 65 (r + 80 + p) = nI (vN v p) ∧ gI μ 65 (r + 87 + p) = nI (vR v p) ∧ gI μ 65 (r + 94 + p) = nI (vM v p) - 1) ∧
  gI μ 65 (r + 101) = nI (vc v) ∧ (∀ i, i < vc v → gI μ 65 (r + 102 + i) = nI (vC v i) ∧ gI μ 65 (r + 110 + i) = nI (vU v i)) ∧ gI μ 65 (r + 118) = nI (vl v) ∧
  gI μ 65 (r + 119) = nI (vp v) ∧ (∀ i, i < vp v → gI μ 65 (r + 120 + i) = nI (vP v i)) ∧ gI μ 65 (r + 126) = nI (vh v) ∧ (∀ i, i < vh v → gI μ 65 (r + 127 + i) = nI (vH v i))
/-- three notes -/
def isCh (m : Nat) : Prop := ∃ a b c, a < b ∧ b < c ∧ c < 12 ∧ m = 2 ^ a + 2 ^ b + 2 ^ c
def WV (v : vst) : Prop :=
  (∀ a, a < 6 → vD v a < 64 ∧ ∀ b, b < 6 → (vD v a).testBit b = (vD v b).testBit a) ∧ (∀ a, a < 6 → vE v a < 64 ∧ ∀ b, b < 6 → (vE v a).testBit b = (vE v b).testBit a) ∧ vn v ≤ 7 ∧
  (∀ p, p < vn v → vK v p ≤ 5 ∧ vN v p < 12 ∧ vR v p < 6 ∧ vM v p ≤ vn v ∧ (vM v p ≠ 0 → vM v p ≠ p + 1 ∧ vM v (vM v p - 1) = p + 1)) ∧
  vc v ≤ 8 ∧ (∀ i, i < vc v → isCh (vC v i) ∧ 1 ≤ vU v i ∧ vU v i ≤ 9) ∧ vl v ≤ 2 ∧ vp v ≤ 6 ∧ (∀ i, i < vp v → vP v i < vc v) ∧ vh v ≤ 6 ∧ (∀ i, i < vh v → vH v i < 4096)
/-- all of it: the valley, the images, which are kept, the text, the fraction, the refusals -/
abbrev sst : Type := vst × vst × vst × Nat × Nat × (Nat → Nat) × Int64 × Int64 × (Nat → Int32)
def sv (S : sst) : vst := S.1
def s0 (S : sst) : vst := S.2.1
def s1 (S : sst) : vst := S.2.2.1
def sk (S : sst) : Nat := S.2.2.2.1
def stl (S : sst) : Nat := S.2.2.2.2.1
def sT (S : sst) : Nat → Nat := S.2.2.2.2.2.1
def sa (S : sst) : Int64 := S.2.2.2.2.2.2.1
def sb (S : sst) : Int64 := S.2.2.2.2.2.2.2.1
def sr (S : sst) : Nat → Int32 := S.2.2.2.2.2.2.2.2
def CS (μ : jm) (S : sst) : Prop := CV μ 1 (sv S) ∧ CV μ 24 (s0 S) ∧ CV μ 35 (s1 S) ∧ gI μ 0 3 = nI (sk S) ∧ gI μ 46 1 = nI (stl S) ∧ (∀ i, i < stl S → gI μ 47 i = (nI (sT S i)).toInt8.toInt32) ∧ gL μ 49 0 = sa S ∧ gL μ 49 1 = sb S ∧ gI μ 0 6 = sr S 0 ∧ gI μ 0 7 = sr S 1 ∧ gI μ 0 8 = sr S 2
def MS (μ : jm) (S : sst) : Prop := MV μ 0 (sv S) ∧ MV μ 140 (s0 S) ∧ MV μ 280 (s1 S) ∧ gI μ 66 0 = nI (sk S % 2) ∧ gI μ 66 1 = nI (sk S / 2) ∧ gI μ 64 3 = nI (stl S) ∧ (∀ i, i < stl S → gI μ 67 i = nI (sT S i)) ∧ gL μ 64 4 = sa S ∧ gL μ 64 5 = sb S ∧ gI μ 68 0 = sr S 0 ∧ gI μ 68 1 = sr S 1 ∧ gI μ 68 2 = sr S 2
def WS (S : sst) : Prop := WV (sv S) ∧ WV (s0 S) ∧ WV (s1 S) ∧ sk S < 4 ∧ stl S ≤ 200 ∧ ∀ i, i < stl S → sT S i < 256
def Rel (μ : jm) : Prop := ∃ S, WS S ∧ CS μ S ∧ MS μ S
/-- nothing changed but in the class's cells; but in the reference's -/
def oc (μ μ' : jm) : Prop := ∀ a b, 64 ≤ a → μ'.1 a b = μ.1 a b ∧ μ'.2 a b = μ.2 a b
def om (μ μ' : jm) : Prop := ∀ a b, (a < 64 ∨ 78 ≤ a) → μ'.1 a b = μ.1 a b ∧ μ'.2 a b = μ.2 a b
theorem oc_r (μ : jm) : oc μ μ := fun _ _ _ => ⟨rfl, rfl⟩
theorem om_r (μ : jm) : om μ μ := fun _ _ _ => ⟨rfl, rfl⟩
theorem oc_t {a b c : jm} (h : oc a b) (h2 : oc b c) : oc a c := fun x y hx => ⟨(h2 x y hx).1.trans (h x y hx).1, (h2 x y hx).2.trans (h x y hx).2⟩
theorem om_t {a b c : jm} (h : om a b) (h2 : om b c) : om a c := fun x y hx => ⟨(h2 x y hx).1.trans (h x y hx).1, (h2 x y hx).2.trans (h x y hx).2⟩
theorem gI_sI (μ : jm) (k i a b : Nat) (v : Int32) : gI (sI μ k i v) a b = if a = k ∧ b = i then v else gI μ a b := rfl
theorem gL_sL (μ : jm) (k i a b : Nat) (v : Int64) : gL (sL μ k i v) a b = if a = k ∧ b = i then v else gL μ a b := rfl
theorem gI_sL (μ : jm) (k i a b : Nat) (v : Int64) : gI (sL μ k i v) a b = gI μ a b := rfl
theorem gL_sI (μ : jm) (k i a b : Nat) (v : Int32) : gL (sI μ k i v) a b = gL μ a b := rfl
theorem gI_ne (μ : jm) {k i a b : Nat} {v : Int32} (h : ¬ (a = k ∧ b = i)) : gI (sI μ k i v) a b = gI μ a b := if_neg h
theorem gI_eq (μ : jm) (k i : Nat) (v : Int32) : gI (sI μ k i v) k i = v := if_pos ⟨rfl, rfl⟩
theorem oc_sI (μ : jm) {k i : Nat} {v : Int32} (hk : k < 64) : oc μ (sI μ k i v) := fun a b h => ⟨if_neg (by omega), rfl⟩
theorem om_sI (μ : jm) {k i : Nat} {v : Int32} (hk : 64 ≤ k) (hk2 : k < 78) : om μ (sI μ k i v) := fun a b h => ⟨if_neg (by omega), rfl⟩
theorem oc_sL (μ : jm) {k i : Nat} {v : Int64} (hk : k < 64) : oc μ (sL μ k i v) := fun a b h => ⟨rfl, if_neg (by omega)⟩
theorem om_sL (μ : jm) {k i : Nat} {v : Int64} (hk : 64 ≤ k) (hk2 : k < 78) : om μ (sL μ k i v) := fun a b h => ⟨rfl, if_neg (by omega)⟩
theorem CV_of {μ μ' : jm} {k : Nat} {v : vst} (h : ∀ a b, k ≤ a → a ≤ k + 10 → gI μ' a b = gI μ a b) (hv : CV μ k v) : CV μ' k v := by
  obtain ⟨h1, h2, h3, h4, h5, h6, h7, h8, h9, h10, h11⟩ := hv
  refine ⟨fun a ha => ?_, fun a ha => ?_, ?_, fun p hp => ?_, ?_, fun i hi => ?_, ?_, ?_, fun i hi => ?_, ?_, fun i hi => ?_⟩
  · rw [h _ _ (by omega) (by omega)]; exact h1 a ha
  · rw [h _ _ (by omega) (by omega)]; exact h2 a ha
  · rw [h _ _ (by omega) (by omega)]; exact h3
  · rw [h _ _ (by omega) (by omega), h _ _ (by omega) (by omega), h _ _ (by omega) (by omega), h _ _ (by omega) (by omega)]; exact h4 p hp
  · rw [h _ _ (by omega) (by omega)]; exact h5
  · rw [h _ _ (by omega) (by omega), h _ _ (by omega) (by omega)]; exact h6 i hi
  · rw [h _ _ (by omega) (by omega)]; exact h7
  · rw [h _ _ (by omega) (by omega)]; exact h8
  · rw [h _ _ (by omega) (by omega)]; exact h9 i hi
  · rw [h _ _ (by omega) (by omega)]; exact h10
  · rw [h _ _ (by omega) (by omega)]; exact h11 i hi
theorem MV_of {μ μ' : jm} {r : Nat} {v : vst} (h : ∀ b, r ≤ b → b < r + 140 → gI μ' 65 b = gI μ 65 b) (hw : WV v) (hv : MV μ r v) : MV μ' r v := by
  obtain ⟨h1, h2, h3, h4, h5, h6, h7, h8, h9, h10, h11⟩ := hv
  obtain ⟨-, -, w3, -, w5, -, -, w8, -, w10, -⟩ := hw
  refine ⟨fun a b ha hb => ?_, fun a b ha hb => ?_, ?_, fun p hp => ?_, ?_, fun i hi => ?_, ?_, ?_, fun i hi => ?_, ?_, fun i hi => ?_⟩
  · rw [h _ (by omega) (by omega)]; exact h1 a b ha hb
  · rw [h _ (by omega) (by omega)]; exact h2 a b ha hb
  · rw [h _ (by omega) (by omega)]; exact h3
  · rw [h _ (by omega) (by omega), h _ (by omega) (by omega), h _ (by omega) (by omega), h _ (by omega) (by omega)]; exact h4 p hp
  · rw [h _ (by omega) (by omega)]; exact h5
  · rw [h _ (by omega) (by omega), h _ (by omega) (by omega)]; exact h6 i hi
  · rw [h _ (by omega) (by omega)]; exact h7
  · rw [h _ (by omega) (by omega)]; exact h8
  · rw [h _ (by omega) (by omega)]; exact h9 i hi
  · rw [h _ (by omega) (by omega)]; exact h10
  · rw [h _ (by omega) (by omega)]; exact h11 i hi
theorem CS_of {μ μ' : jm} {S : sst} (h : ∀ a b, a < 64 → μ'.1 a b = μ.1 a b ∧ μ'.2 a b = μ.2 a b) (hs : CS μ S) : CS μ' S := by
  obtain ⟨h1, h2, h3, h4, h5, h6, h7, h8, h9, h10, h11⟩ := hs
  have g : ∀ a b, a < 64 → gI μ' a b = gI μ a b := fun a b ha => (h a b ha).1
  have gl : ∀ a b, a < 64 → gL μ' a b = gL μ a b := fun a b ha => (h a b ha).2
  refine ⟨CV_of (fun a b _ _ => g a b (by omega)) h1, CV_of (fun a b _ _ => g a b (by omega)) h2, CV_of (fun a b _ _ => g a b (by omega)) h3, ?_, ?_, fun i hi => ?_, ?_, ?_, ?_, ?_, ?_⟩
  · rw [g _ _ (by omega)]; exact h4
  · rw [g _ _ (by omega)]; exact h5
  · rw [g _ _ (by omega)]; exact h6 i hi
  · rw [gl _ _ (by omega)]; exact h7
  · rw [gl _ _ (by omega)]; exact h8
  · rw [g _ _ (by omega)]; exact h9
  · rw [g _ _ (by omega)]; exact h10
  · rw [g _ _ (by omega)]; exact h11
theorem MS_of {μ μ' : jm} {S : sst} (hw : WS S) (h : ∀ a b, 64 ≤ a → a < 78 → μ'.1 a b = μ.1 a b ∧ μ'.2 a b = μ.2 a b) (hs : MS μ S) : MS μ' S := by
  obtain ⟨h1, h2, h3, h4, h5, h6, h7, h8, h9, h10, h11, h12⟩ := hs
  have g : ∀ a b, 64 ≤ a → a < 78 → gI μ' a b = gI μ a b := fun a b ha hb => (h a b ha hb).1
  have gl : ∀ a b, 64 ≤ a → a < 78 → gL μ' a b = gL μ a b := fun a b ha hb => (h a b ha hb).2
  refine ⟨MV_of (fun b _ _ => g 65 b (by omega) (by omega)) hw.1 h1, MV_of (fun b _ _ => g 65 b (by omega) (by omega)) hw.2.1 h2, MV_of (fun b _ _ => g 65 b (by omega) (by omega)) hw.2.2.1 h3, ?_, ?_, ?_, fun i hi => ?_, ?_, ?_, ?_, ?_, ?_⟩
  · rw [g _ _ (by omega) (by omega)]; exact h4
  · rw [g _ _ (by omega) (by omega)]; exact h5
  · rw [g _ _ (by omega) (by omega)]; exact h6
  · rw [g _ _ (by omega) (by omega)]; exact h7 i hi
  · rw [gl _ _ (by omega) (by omega)]; exact h8
  · rw [gl _ _ (by omega) (by omega)]; exact h9
  · rw [g _ _ (by omega) (by omega)]; exact h10
  · rw [g _ _ (by omega) (by omega)]; exact h11
  · rw [g _ _ (by omega) (by omega)]; exact h12
/-- a call out of the two halves: both do the same to the state -/
theorem opI_of {X M : Nat} {as : List jv} (f : sst → Int32) (g : sst → sst) (hw : ∀ S, WS S → WS (g S)) (hc : ∀ μ S, WS S → CS μ S → ∃ m1, cj X (jR 9 0 :: as) μ = some (some (jI (f S)), m1) ∧ CS m1 (g S) ∧ oc μ m1) (hm : ∀ μ S, WS S → MS μ S → ∃ m2, cj M (jR 10 64 :: as) μ = some (some (jI (f S)), m2) ∧ MS m2 (g S) ∧ om μ m2) : opI X M as Rel := by
  intro μ ⟨S, hS, hC, hM⟩
  obtain ⟨m1, c1, c2, c3⟩ := hc μ S hS hC
  obtain ⟨m2, d1, d2, d3⟩ := hm m1 S hS (MS_of hS (fun a b ha _ => c3 a b ha) hM)
  exact ⟨f S, m1, m2, c1, d1, ⟨g S, hw S hS, CS_of (fun a b ha => d3 a b (Or.inl ha)) c2, d2⟩, fun i => (c3 99 i (by omega)).1, fun i => ((d3 99 i (Or.inr (by omega))).1).trans (c3 99 i (by omega)).1⟩
theorem opL_of {X M : Nat} {as : List jv} (f : sst → Int64) (g : sst → sst) (hw : ∀ S, WS S → WS (g S)) (hc : ∀ μ S, WS S → CS μ S → ∃ m1, cj X (jR 9 0 :: as) μ = some (some (jL (f S)), m1) ∧ CS m1 (g S) ∧ oc μ m1) (hm : ∀ μ S, WS S → MS μ S → ∃ m2, cj M (jR 10 64 :: as) μ = some (some (jL (f S)), m2) ∧ MS m2 (g S) ∧ om μ m2) : opL X M as Rel := by
  intro μ ⟨S, hS, hC, hM⟩
  obtain ⟨m1, c1, c2, c3⟩ := hc μ S hS hC
  obtain ⟨m2, d1, d2, d3⟩ := hm m1 S hS (MS_of hS (fun a b ha _ => c3 a b ha) hM)
  exact ⟨f S, m1, m2, c1, d1, ⟨g S, hw S hS, CS_of (fun a b ha => d3 a b (Or.inl ha)) c2, d2⟩, fun i => (c3 99 i (by omega)).1, fun i => ((d3 99 i (Or.inr (by omega))).1).trans (c3 99 i (by omega)).1⟩
/-- the start -/
def vst0 : vst := (fun _ => 0, fun _ => 0, 0, fun _ => 0, fun _ => 0, fun _ => 0, fun _ => 0, 0, fun _ => 0, fun _ => 0, 0, 0, fun _ => 0, 0, fun _ => 0)
def sst0 : sst := (vst0, vst0, vst0, 0, 0, fun _ => 0, 0, 1, fun _ => 0)
theorem WV0 : WV vst0 := ⟨fun a ha => ⟨show (0 : Nat) < 64 by omega, fun b hb => show (0 : Nat).testBit b = (0 : Nat).testBit a by simp⟩, fun a ha => ⟨show (0 : Nat) < 64 by omega, fun b hb => show (0 : Nat).testBit b = (0 : Nat).testBit a by simp⟩, by decide, fun p hp => absurd hp (Nat.not_lt_zero p), by decide, fun p hp => absurd hp (Nat.not_lt_zero p), by decide, by decide, fun p hp => absurd hp (Nat.not_lt_zero p), by decide, fun p hp => absurd hp (Nat.not_lt_zero p)⟩
theorem jm0_I (xs : Nat → Int32) {a b : Nat} (h : a ≠ 99) : gI (jm0 xs) a b = nI 0 := if_neg h
theorem Rel0 (xs : Nat → Int32) : Rel (jm0 xs) := by
  have hC : ∀ k, k + 10 < 99 → CV (jm0 xs) k vst0 := fun k hk => ⟨fun a ha => jm0_I xs (by omega), fun a ha => jm0_I xs (by omega), jm0_I xs (by omega), fun p hp => absurd hp (Nat.not_lt_zero p), jm0_I xs (by omega), fun p hp => absurd hp (Nat.not_lt_zero p), jm0_I xs (by omega), jm0_I xs (by omega), fun p hp => absurd hp (Nat.not_lt_zero p), jm0_I xs (by omega), fun p hp => absurd hp (Nat.not_lt_zero p)⟩
  have hz : ∀ b : Nat, (if (0 : Nat).testBit b then 1 else 0) = 0 := fun b => by simp
  have hM : ∀ r, MV (jm0 xs) r vst0 := fun r => ⟨fun a b ha hb => by rw [show vD vst0 a = 0 from rfl, hz]; exact jm0_I xs (by omega), fun a b ha hb => by rw [show vE vst0 a = 0 from rfl, hz]; exact jm0_I xs (by omega), jm0_I xs (by omega), fun p hp => absurd hp (Nat.not_lt_zero p), jm0_I xs (by omega), fun p hp => absurd hp (Nat.not_lt_zero p), jm0_I xs (by omega), jm0_I xs (by omega), fun p hp => absurd hp (Nat.not_lt_zero p), jm0_I xs (by omega), fun p hp => absurd hp (Nat.not_lt_zero p)⟩
  refine ⟨sst0, ⟨WV0, WV0, WV0, by decide, by decide, fun i hi => absurd hi (Nat.not_lt_zero i)⟩, ⟨hC 1 (by omega), hC 24 (by omega), hC 35 (by omega), jm0_I xs (by omega), jm0_I xs (by omega), fun p hp => absurd hp (Nat.not_lt_zero p), rfl, rfl, rfl, rfl, rfl⟩, ⟨hM 0, hM 140, hM 280, jm0_I xs (by omega), jm0_I xs (by omega), jm0_I xs (by omega), fun p hp => absurd hp (Nat.not_lt_zero p), rfl, rfl, rfl, rfl, rfl⟩⟩
