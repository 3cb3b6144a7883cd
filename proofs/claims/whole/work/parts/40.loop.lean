/-! THE LAW'S LOOP, over what its calls do -/
def R1 (o : Option jr) : Prop := ∃ μ, o = some (some (jI 1), μ)
theorem jgd_t {x : Option jr} : jgd true x = x := rfl
theorem jbr_t {x y : Option jr} : jbr true x y = x := rfl
theorem jbr_f {x y : Option jr} : jbr false x y = y := rfl
theorem jbr_p {c : Prop} [Decidable c] (h : c) {x y : Option jr} : jbr (decide c) x y = x := by rw [decide_eq_true h]; rfl
theorem jbr_n {c : Prop} [Decidable c] (h : ¬ c) {x y : Option jr} : jbr (decide c) x y = y := by rw [decide_eq_false h]; rfl
theorem R1_br {c : Prop} [Decidable c] {x y : Option jr} (h1 : c → R1 x) (h2 : ¬ c → R1 y) : R1 (jbr (decide c) x y) := by
  by_cases h : c
  · rw [jbr_p h]; exact h1 h
  · rw [jbr_n h]; exact h2 h
theorem R1_gd {g : Bool} {x : Option jr} (h : g = true) (hx : R1 x) : R1 (jgd g x) := by rw [h]; exact hx
theorem R1_bI {o : Option jr} {k : Int32 → jm → Option jr} {r : Int32} {m : jm} (h : o = some (some (jI r), m)) (hk : R1 (k r m)) : R1 (bI o k) := by rw [h]; exact hk
theorem R1_bL {o : Option jr} {k : Int64 → jm → Option jr} {r : Int64} {m : jm} (h : o = some (some (jL r), m)) (hk : R1 (k r m)) : R1 (bL o k) := by rw [h]; exact hk
theorem inB_nI {j n : Nat} (h : j < n) (hn : n < 2147483648) : inB (nI j) n = true := jin_iff.mpr (vp_in_nI h hn)
theorem lg_self (r : Int64) : lg_cmp r r = 0 := by simp [lg_cmp]
/-- a call of the class and of the reference: the same answer, and the states agree again -/
def opI (X M : Nat) (as : List jv) (Rel : jm → Prop) : Prop := ∀ μ, Rel μ → ∃ r m1 m2, cj X (jR 9 0 :: as) μ = some (some (jI r), m1) ∧ cj M (jR 10 64 :: as) m1 = some (some (jI r), m2) ∧ Rel m2 ∧ (∀ i, m1.1 99 i = μ.1 99 i) ∧ ∀ i, m2.1 99 i = μ.1 99 i
def opL (X M : Nat) (as : List jv) (Rel : jm → Prop) : Prop := ∀ μ, Rel μ → ∃ r m1 m2, cj X (jR 9 0 :: as) μ = some (some (jL r), m1) ∧ cj M (jR 10 64 :: as) m1 = some (some (jL r), m2) ∧ Rel m2 ∧ (∀ i, m1.1 99 i = μ.1 99 i) ∧ ∀ i, m2.1 99 i = μ.1 99 i
theorem nI_p (i k : Nat) {z : Int32} (hz : z = nI k) : nI i + z = nI (i + k) := by rw [hz]; exact nI_add i k
theorem lc_door {Rel : jm → Prop} (h : ∀ (a1 a2 : Int32), opI 94 137 [jI a1, jI a2] Rel) {L i : Nat} (hi : i + 5 ≤ L) (hL : L ≤ 320) {μ : jm} (hR : Rel μ) (next : ∀ m2, Rel m2 → (∀ j, m2.1 99 j = μ.1 99 j) → R1 (evj 218 18 [jR 96 L, jR 9 0, jR 10 64, jI (nI (i + 5))] [] m2)) : R1 (evj 218 196 [jR 96 L, jR 9 0, jR 10 64, jI (nI i)] [] μ) := by
  obtain ⟨r, m1, m2, h1, h2, h3, h4, h5⟩ := h (gI μ 99 (ix (nI (i + 1)))) (gI μ 99 (ix (nI (i + 2)))) μ hR
  rw [e_Law_law_196]
  rw [nI_p i 1 (z := 1) rfl, nI_p i 2 (z := 2) rfl]
  refine R1_gd (inB_nI (show i + 1 < L by omega) (by omega)) ?_
  refine R1_gd (inB_nI (show i + 2 < L by omega) (by omega)) ?_
  refine R1_bI h1 ?_
  refine R1_gd (inB_nI (show i + 1 < L by omega) (by omega)) ?_
  refine R1_gd (inB_nI (show i + 2 < L by omega) (by omega)) ?_
  rw [show gI m1 99 (ix (nI (i + 1))) = gI μ 99 (ix (nI (i + 1))) from h4 _, show gI m1 99 (ix (nI (i + 2))) = gI μ 99 (ix (nI (i + 2))) from h4 _]
  refine R1_bI h2 ?_
  refine R1_br (fun _ => ?_) (fun hc => absurd rfl hc)
  rw [e_Law_law_1259, nI_p i 5 (z := 5) rfl]
  exact next m2 h3 h5
theorem lc_hears {Rel : jm → Prop} (h : ∀ (a1 a2 : Int32), opI 97 142 [jI a1, jI a2] Rel) {L i : Nat} (hi : i + 5 ≤ L) (hL : L ≤ 320) {μ : jm} (hR : Rel μ) (next : ∀ m2, Rel m2 → (∀ j, m2.1 99 j = μ.1 99 j) → R1 (evj 218 18 [jR 96 L, jR 9 0, jR 10 64, jI (nI (i + 5))] [] m2)) : R1 (evj 218 229 [jR 96 L, jR 9 0, jR 10 64, jI (nI i)] [] μ) := by
  obtain ⟨r, m1, m2, h1, h2, h3, h4, h5⟩ := h (gI μ 99 (ix (nI (i + 1)))) (gI μ 99 (ix (nI (i + 2)))) μ hR
  rw [e_Law_law_229]
  rw [nI_p i 1 (z := 1) rfl, nI_p i 2 (z := 2) rfl]
  refine R1_gd (inB_nI (show i + 1 < L by omega) (by omega)) ?_
  refine R1_gd (inB_nI (show i + 2 < L by omega) (by omega)) ?_
  refine R1_bI h1 ?_
  refine R1_gd (inB_nI (show i + 1 < L by omega) (by omega)) ?_
  refine R1_gd (inB_nI (show i + 2 < L by omega) (by omega)) ?_
  rw [show gI m1 99 (ix (nI (i + 1))) = gI μ 99 (ix (nI (i + 1))) from h4 _, show gI m1 99 (ix (nI (i + 2))) = gI μ 99 (ix (nI (i + 2))) from h4 _]
  refine R1_bI h2 ?_
  refine R1_br (fun _ => ?_) (fun hc => absurd rfl hc)
  rw [e_Law_law_1259, nI_p i 5 (z := 5) rfl]
  exact next m2 h3 h5
theorem lc_one {Rel : jm → Prop} (h : ∀ (a1 a2 a3 : Int32), opI 98 143 [jI a1, jI a2, jI a3] Rel) {L i : Nat} (hi : i + 5 ≤ L) (hL : L ≤ 320) {μ : jm} (hR : Rel μ) (next : ∀ m2, Rel m2 → (∀ j, m2.1 99 j = μ.1 99 j) → R1 (evj 218 18 [jR 96 L, jR 9 0, jR 10 64, jI (nI (i + 5))] [] m2)) : R1 (evj 218 262 [jR 96 L, jR 9 0, jR 10 64, jI (nI i)] [] μ) := by
  obtain ⟨r, m1, m2, h1, h2, h3, h4, h5⟩ := h (gI μ 99 (ix (nI (i + 1)))) (gI μ 99 (ix (nI (i + 2)))) (gI μ 99 (ix (nI (i + 3)))) μ hR
  rw [e_Law_law_262]
  rw [nI_p i 1 (z := 1) rfl, nI_p i 2 (z := 2) rfl, nI_p i 3 (z := 3) rfl]
  refine R1_gd (inB_nI (show i + 1 < L by omega) (by omega)) ?_
  refine R1_gd (inB_nI (show i + 2 < L by omega) (by omega)) ?_
  refine R1_gd (inB_nI (show i + 3 < L by omega) (by omega)) ?_
  refine R1_bI h1 ?_
  refine R1_gd (inB_nI (show i + 1 < L by omega) (by omega)) ?_
  refine R1_gd (inB_nI (show i + 2 < L by omega) (by omega)) ?_
  refine R1_gd (inB_nI (show i + 3 < L by omega) (by omega)) ?_
  rw [show gI m1 99 (ix (nI (i + 1))) = gI μ 99 (ix (nI (i + 1))) from h4 _, show gI m1 99 (ix (nI (i + 2))) = gI μ 99 (ix (nI (i + 2))) from h4 _, show gI m1 99 (ix (nI (i + 3))) = gI μ 99 (ix (nI (i + 3))) from h4 _]
  refine R1_bI h2 ?_
  refine R1_br (fun _ => ?_) (fun hc => absurd rfl hc)
  rw [e_Law_law_1259, nI_p i 5 (z := 5) rfl]
  exact next m2 h3 h5
theorem lc_mates {Rel : jm → Prop} (h : ∀ (a1 a2 : Int32), opI 99 145 [jI a1, jI a2] Rel) {L i : Nat} (hi : i + 5 ≤ L) (hL : L ≤ 320) {μ : jm} (hR : Rel μ) (next : ∀ m2, Rel m2 → (∀ j, m2.1 99 j = μ.1 99 j) → R1 (evj 218 18 [jR 96 L, jR 9 0, jR 10 64, jI (nI (i + 5))] [] m2)) : R1 (evj 218 305 [jR 96 L, jR 9 0, jR 10 64, jI (nI i)] [] μ) := by
  obtain ⟨r, m1, m2, h1, h2, h3, h4, h5⟩ := h (gI μ 99 (ix (nI (i + 1)))) (gI μ 99 (ix (nI (i + 2)))) μ hR
  rw [e_Law_law_305]
  rw [nI_p i 1 (z := 1) rfl, nI_p i 2 (z := 2) rfl]
  refine R1_gd (inB_nI (show i + 1 < L by omega) (by omega)) ?_
  refine R1_gd (inB_nI (show i + 2 < L by omega) (by omega)) ?_
  refine R1_bI h1 ?_
  refine R1_gd (inB_nI (show i + 1 < L by omega) (by omega)) ?_
  refine R1_gd (inB_nI (show i + 2 < L by omega) (by omega)) ?_
  rw [show gI m1 99 (ix (nI (i + 1))) = gI μ 99 (ix (nI (i + 1))) from h4 _, show gI m1 99 (ix (nI (i + 2))) = gI μ 99 (ix (nI (i + 2))) from h4 _]
  refine R1_bI h2 ?_
  refine R1_br (fun _ => ?_) (fun hc => absurd rfl hc)
  rw [e_Law_law_1259, nI_p i 5 (z := 5) rfl]
  exact next m2 h3 h5
theorem lc_goes {Rel : jm → Prop} (h : ∀ (a1 a2 : Int32), opI 100 148 [jI a1, jI a2] Rel) {L i : Nat} (hi : i + 5 ≤ L) (hL : L ≤ 320) {μ : jm} (hR : Rel μ) (next : ∀ m2, Rel m2 → (∀ j, m2.1 99 j = μ.1 99 j) → R1 (evj 218 18 [jR 96 L, jR 9 0, jR 10 64, jI (nI (i + 5))] [] m2)) : R1 (evj 218 338 [jR 96 L, jR 9 0, jR 10 64, jI (nI i)] [] μ) := by
  obtain ⟨r, m1, m2, h1, h2, h3, h4, h5⟩ := h (gI μ 99 (ix (nI (i + 1)))) (gI μ 99 (ix (nI (i + 2)))) μ hR
  rw [e_Law_law_338]
  rw [nI_p i 1 (z := 1) rfl, nI_p i 2 (z := 2) rfl]
  refine R1_gd (inB_nI (show i + 1 < L by omega) (by omega)) ?_
  refine R1_gd (inB_nI (show i + 2 < L by omega) (by omega)) ?_
  refine R1_bI h1 ?_
  refine R1_gd (inB_nI (show i + 1 < L by omega) (by omega)) ?_
  refine R1_gd (inB_nI (show i + 2 < L by omega) (by omega)) ?_
  rw [show gI m1 99 (ix (nI (i + 1))) = gI μ 99 (ix (nI (i + 1))) from h4 _, show gI m1 99 (ix (nI (i + 2))) = gI μ 99 (ix (nI (i + 2))) from h4 _]
  refine R1_bI h2 ?_
  refine R1_br (fun _ => ?_) (fun hc => absurd rfl hc)
  rw [e_Law_law_1259, nI_p i 5 (z := 5) rfl]
  exact next m2 h3 h5
theorem lc_chord {Rel : jm → Prop} (h : ∀ (a1 a2 a3 a4 : Int32), opI 101 149 [jI a1, jI a2, jI a3, jI a4] Rel) {L i : Nat} (hi : i + 5 ≤ L) (hL : L ≤ 320) {μ : jm} (hR : Rel μ) (next : ∀ m2, Rel m2 → (∀ j, m2.1 99 j = μ.1 99 j) → R1 (evj 218 18 [jR 96 L, jR 9 0, jR 10 64, jI (nI (i + 5))] [] m2)) : R1 (evj 218 371 [jR 96 L, jR 9 0, jR 10 64, jI (nI i)] [] μ) := by
  obtain ⟨r, m1, m2, h1, h2, h3, h4, h5⟩ := h (gI μ 99 (ix (nI (i + 1)))) (gI μ 99 (ix (nI (i + 2)))) (gI μ 99 (ix (nI (i + 3)))) (gI μ 99 (ix (nI (i + 4)))) μ hR
  rw [e_Law_law_371]
  rw [nI_p i 1 (z := 1) rfl, nI_p i 2 (z := 2) rfl, nI_p i 3 (z := 3) rfl, nI_p i 4 (z := 4) rfl]
  refine R1_gd (inB_nI (show i + 1 < L by omega) (by omega)) ?_
  refine R1_gd (inB_nI (show i + 2 < L by omega) (by omega)) ?_
  refine R1_gd (inB_nI (show i + 3 < L by omega) (by omega)) ?_
  refine R1_gd (inB_nI (show i + 4 < L by omega) (by omega)) ?_
  refine R1_bI h1 ?_
  refine R1_gd (inB_nI (show i + 1 < L by omega) (by omega)) ?_
  refine R1_gd (inB_nI (show i + 2 < L by omega) (by omega)) ?_
  refine R1_gd (inB_nI (show i + 3 < L by omega) (by omega)) ?_
  refine R1_gd (inB_nI (show i + 4 < L by omega) (by omega)) ?_
  rw [show gI m1 99 (ix (nI (i + 1))) = gI μ 99 (ix (nI (i + 1))) from h4 _, show gI m1 99 (ix (nI (i + 2))) = gI μ 99 (ix (nI (i + 2))) from h4 _, show gI m1 99 (ix (nI (i + 3))) = gI μ 99 (ix (nI (i + 3))) from h4 _, show gI m1 99 (ix (nI (i + 4))) = gI μ 99 (ix (nI (i + 4))) from h4 _]
  refine R1_bI h2 ?_
  refine R1_br (fun _ => ?_) (fun hc => absurd rfl hc)
  rw [e_Law_law_1259, nI_p i 5 (z := 5) rfl]
  exact next m2 h3 h5
theorem lc_slack {Rel : jm → Prop} (h : ∀ (a1 : Int32), opI 102 151 [jI a1] Rel) {L i : Nat} (hi : i + 5 ≤ L) (hL : L ≤ 320) {μ : jm} (hR : Rel μ) (next : ∀ m2, Rel m2 → (∀ j, m2.1 99 j = μ.1 99 j) → R1 (evj 218 18 [jR 96 L, jR 9 0, jR 10 64, jI (nI (i + 5))] [] m2)) : R1 (evj 218 424 [jR 96 L, jR 9 0, jR 10 64, jI (nI i)] [] μ) := by
  obtain ⟨r, m1, m2, h1, h2, h3, h4, h5⟩ := h (gI μ 99 (ix (nI (i + 1)))) μ hR
  rw [e_Law_law_424]
  rw [nI_p i 1 (z := 1) rfl]
  refine R1_gd (inB_nI (show i + 1 < L by omega) (by omega)) ?_
  refine R1_bI h1 ?_
  refine R1_gd (inB_nI (show i + 1 < L by omega) (by omega)) ?_
  rw [show gI m1 99 (ix (nI (i + 1))) = gI μ 99 (ix (nI (i + 1))) from h4 _]
  refine R1_bI h2 ?_
  refine R1_br (fun _ => ?_) (fun hc => absurd rfl hc)
  rw [e_Law_law_1259, nI_p i 5 (z := 5) rfl]
  exact next m2 h3 h5
theorem lc_sounds {Rel : jm → Prop} (h : ∀ (a1 a2 : Int32), opI 103 153 [jI a1, jI a2] Rel) {L i : Nat} (hi : i + 5 ≤ L) (hL : L ≤ 320) {μ : jm} (hR : Rel μ) (next : ∀ m2, Rel m2 → (∀ j, m2.1 99 j = μ.1 99 j) → R1 (evj 218 18 [jR 96 L, jR 9 0, jR 10 64, jI (nI (i + 5))] [] m2)) : R1 (evj 218 447 [jR 96 L, jR 9 0, jR 10 64, jI (nI i)] [] μ) := by
  obtain ⟨r, m1, m2, h1, h2, h3, h4, h5⟩ := h (gI μ 99 (ix (nI (i + 1)))) (gI μ 99 (ix (nI (i + 2)))) μ hR
  rw [e_Law_law_447]
  rw [nI_p i 1 (z := 1) rfl, nI_p i 2 (z := 2) rfl]
  refine R1_gd (inB_nI (show i + 1 < L by omega) (by omega)) ?_
  refine R1_gd (inB_nI (show i + 2 < L by omega) (by omega)) ?_
  refine R1_bI h1 ?_
  refine R1_gd (inB_nI (show i + 1 < L by omega) (by omega)) ?_
  refine R1_gd (inB_nI (show i + 2 < L by omega) (by omega)) ?_
  rw [show gI m1 99 (ix (nI (i + 1))) = gI μ 99 (ix (nI (i + 1))) from h4 _, show gI m1 99 (ix (nI (i + 2))) = gI μ 99 (ix (nI (i + 2))) from h4 _]
  refine R1_bI h2 ?_
  refine R1_br (fun _ => ?_) (fun hc => absurd rfl hc)
  rw [e_Law_law_1259, nI_p i 5 (z := 5) rfl]
  exact next m2 h3 h5
theorem lc_type {Rel : jm → Prop} (h : ∀ (v : Int64) (n : Int32), opI 104 158 [jL v, jI n] Rel) {L i : Nat} (hi : i + 5 ≤ L) (hL : L ≤ 320) {μ : jm} (hR : Rel μ) (next : ∀ m2, Rel m2 → (∀ j, m2.1 99 j = μ.1 99 j) → R1 (evj 218 18 [jR 96 L, jR 9 0, jR 10 64, jI (nI (i + 5))] [] m2)) : R1 (evj 218 480 [jR 96 L, jR 9 0, jR 10 64, jI (nI i)] [] μ) := by
  obtain ⟨r, m1, m2, h1, h2, h3, h4, h5⟩ := h (((gI μ 99 (ix (nI (i + 1))) : Int32).toInt64 <<< (((32 : Int32) : Int32).toInt64 &&& 63)) ||| ((gI μ 99 (ix (nI (i + 2))) : Int32).toInt64 &&& (4294967295 : Int64))) (gI μ 99 (ix (nI (i + 3)))) μ hR
  rw [e_Law_law_480]
  rw [nI_p i 1 (z := 1) rfl, nI_p i 2 (z := 2) rfl, nI_p i 3 (z := 3) rfl]
  refine R1_gd (inB_nI (show i + 1 < L by omega) (by omega)) ?_
  refine R1_gd (inB_nI (show i + 2 < L by omega) (by omega)) ?_
  refine R1_gd (inB_nI (show i + 3 < L by omega) (by omega)) ?_
  refine R1_bI h1 ?_
  refine R1_gd (inB_nI (show i + 1 < L by omega) (by omega)) ?_
  refine R1_gd (inB_nI (show i + 2 < L by omega) (by omega)) ?_
  refine R1_gd (inB_nI (show i + 3 < L by omega) (by omega)) ?_
  rw [show gI m1 99 (ix (nI (i + 1))) = gI μ 99 (ix (nI (i + 1))) from h4 _, show gI m1 99 (ix (nI (i + 2))) = gI μ 99 (ix (nI (i + 2))) from h4 _, show gI m1 99 (ix (nI (i + 3))) = gI μ 99 (ix (nI (i + 3))) from h4 _]
  refine R1_bI h2 ?_
  refine R1_br (fun _ => ?_) (fun hc => absurd rfl hc)
  rw [e_Law_law_1259, nI_p i 5 (z := 5) rfl]
  exact next m2 h3 h5
theorem lc_clear {Rel : jm → Prop} (h : opI 105 159 [] Rel) {L i : Nat} (hi : i + 5 ≤ L) (hL : L ≤ 320) {μ : jm} (hR : Rel μ) (next : ∀ m2, Rel m2 → (∀ j, m2.1 99 j = μ.1 99 j) → R1 (evj 218 18 [jR 96 L, jR 9 0, jR 10 64, jI (nI (i + 5))] [] m2)) : R1 (evj 218 543 [jR 96 L, jR 9 0, jR 10 64, jI (nI i)] [] μ) := by
  obtain ⟨r, m1, m2, h1, h2, h3, h4, h5⟩ := h  μ hR
  rw [e_Law_law_543]
  refine R1_bI h1 ?_
  refine R1_bI h2 ?_
  refine R1_br (fun _ => ?_) (fun hc => absurd rfl hc)
  rw [e_Law_law_1259, nI_p i 5 (z := 5) rfl]
  exact next m2 h3 h5
theorem lc_read {Rel : jm → Prop} (h : opI 106 160 [] Rel) {L i : Nat} (hi : i + 5 ≤ L) (hL : L ≤ 320) {μ : jm} (hR : Rel μ) (next : ∀ m2, Rel m2 → (∀ j, m2.1 99 j = μ.1 99 j) → R1 (evj 218 18 [jR 96 L, jR 9 0, jR 10 64, jI (nI (i + 5))] [] m2)) : R1 (evj 218 556 [jR 96 L, jR 9 0, jR 10 64, jI (nI i)] [] μ) := by
  obtain ⟨r, m1, m2, h1, h2, h3, h4, h5⟩ := h  μ hR
  rw [e_Law_law_556]
  refine R1_bI h1 ?_
  refine R1_bI h2 ?_
  refine R1_br (fun _ => ?_) (fun hc => absurd rfl hc)
  rw [e_Law_law_1259, nI_p i 5 (z := 5) rfl]
  exact next m2 h3 h5
theorem lc_says {Rel : jm → Prop} (h : ∀ (a1 a2 : Int32), opI 107 169 [jI a1, jI a2] Rel) {L i : Nat} (hi : i + 5 ≤ L) (hL : L ≤ 320) {μ : jm} (hR : Rel μ) (next : ∀ m2, Rel m2 → (∀ j, m2.1 99 j = μ.1 99 j) → R1 (evj 218 18 [jR 96 L, jR 9 0, jR 10 64, jI (nI (i + 5))] [] m2)) : R1 (evj 218 569 [jR 96 L, jR 9 0, jR 10 64, jI (nI i)] [] μ) := by
  obtain ⟨r, m1, m2, h1, h2, h3, h4, h5⟩ := h (gI μ 99 (ix (nI (i + 1)))) (gI μ 99 (ix (nI (i + 2)))) μ hR
  rw [e_Law_law_569]
  rw [nI_p i 1 (z := 1) rfl, nI_p i 2 (z := 2) rfl]
  refine R1_gd (inB_nI (show i + 1 < L by omega) (by omega)) ?_
  refine R1_gd (inB_nI (show i + 2 < L by omega) (by omega)) ?_
  refine R1_bI h1 ?_
  refine R1_gd (inB_nI (show i + 1 < L by omega) (by omega)) ?_
  refine R1_gd (inB_nI (show i + 2 < L by omega) (by omega)) ?_
  rw [show gI m1 99 (ix (nI (i + 1))) = gI μ 99 (ix (nI (i + 1))) from h4 _, show gI m1 99 (ix (nI (i + 2))) = gI μ 99 (ix (nI (i + 2))) from h4 _]
  refine R1_bI h2 ?_
  refine R1_br (fun _ => ?_) (fun hc => absurd rfl hc)
  rw [e_Law_law_1259, nI_p i 5 (z := 5) rfl]
  exact next m2 h3 h5
theorem lc_said {Rel : jm → Prop} (h : ∀ (a1 : Int32), opI 108 174 [jI a1] Rel) {L i : Nat} (hi : i + 5 ≤ L) (hL : L ≤ 320) {μ : jm} (hR : Rel μ) (next : ∀ m2, Rel m2 → (∀ j, m2.1 99 j = μ.1 99 j) → R1 (evj 218 18 [jR 96 L, jR 9 0, jR 10 64, jI (nI (i + 5))] [] m2)) : R1 (evj 218 602 [jR 96 L, jR 9 0, jR 10 64, jI (nI i)] [] μ) := by
  obtain ⟨r, m1, m2, h1, h2, h3, h4, h5⟩ := h (gI μ 99 (ix (nI (i + 1)))) μ hR
  rw [e_Law_law_602]
  rw [nI_p i 1 (z := 1) rfl]
  refine R1_gd (inB_nI (show i + 1 < L by omega) (by omega)) ?_
  refine R1_bI h1 ?_
  refine R1_gd (inB_nI (show i + 1 < L by omega) (by omega)) ?_
  rw [show gI m1 99 (ix (nI (i + 1))) = gI μ 99 (ix (nI (i + 1))) from h4 _]
  refine R1_bI h2 ?_
  refine R1_br (fun _ => ?_) (fun hc => absurd rfl hc)
  rw [e_Law_law_1259, nI_p i 5 (z := 5) rfl]
  exact next m2 h3 h5
theorem lc_byDoor {Rel : jm → Prop} (h : ∀ (a1 a2 : Int32), opI 109 177 [jI a1, jI a2] Rel) {L i : Nat} (hi : i + 5 ≤ L) (hL : L ≤ 320) {μ : jm} (hR : Rel μ) (next : ∀ m2, Rel m2 → (∀ j, m2.1 99 j = μ.1 99 j) → R1 (evj 218 18 [jR 96 L, jR 9 0, jR 10 64, jI (nI (i + 5))] [] m2)) : R1 (evj 218 625 [jR 96 L, jR 9 0, jR 10 64, jI (nI i)] [] μ) := by
  obtain ⟨r, m1, m2, h1, h2, h3, h4, h5⟩ := h (gI μ 99 (ix (nI (i + 1)))) (gI μ 99 (ix (nI (i + 2)))) μ hR
  rw [e_Law_law_625]
  rw [nI_p i 1 (z := 1) rfl, nI_p i 2 (z := 2) rfl]
  refine R1_gd (inB_nI (show i + 1 < L by omega) (by omega)) ?_
  refine R1_gd (inB_nI (show i + 2 < L by omega) (by omega)) ?_
  refine R1_bI h1 ?_
  refine R1_gd (inB_nI (show i + 1 < L by omega) (by omega)) ?_
  refine R1_gd (inB_nI (show i + 2 < L by omega) (by omega)) ?_
  rw [show gI m1 99 (ix (nI (i + 1))) = gI μ 99 (ix (nI (i + 1))) from h4 _, show gI m1 99 (ix (nI (i + 2))) = gI μ 99 (ix (nI (i + 2))) from h4 _]
  refine R1_bI h2 ?_
  refine R1_br (fun _ => ?_) (fun hc => absurd rfl hc)
  rw [e_Law_law_1259, nI_p i 5 (z := 5) rfl]
  exact next m2 h3 h5
theorem lc_fewest {Rel : jm → Prop} (h : ∀ (a1 a2 : Int32), opI 110 178 [jI a1, jI a2] Rel) {L i : Nat} (hi : i + 5 ≤ L) (hL : L ≤ 320) {μ : jm} (hR : Rel μ) (next : ∀ m2, Rel m2 → (∀ j, m2.1 99 j = μ.1 99 j) → R1 (evj 218 18 [jR 96 L, jR 9 0, jR 10 64, jI (nI (i + 5))] [] m2)) : R1 (evj 218 658 [jR 96 L, jR 9 0, jR 10 64, jI (nI i)] [] μ) := by
  obtain ⟨r, m1, m2, h1, h2, h3, h4, h5⟩ := h (gI μ 99 (ix (nI (i + 1)))) (gI μ 99 (ix (nI (i + 2)))) μ hR
  rw [e_Law_law_658]
  rw [nI_p i 1 (z := 1) rfl, nI_p i 2 (z := 2) rfl]
  refine R1_gd (inB_nI (show i + 1 < L by omega) (by omega)) ?_
  refine R1_gd (inB_nI (show i + 2 < L by omega) (by omega)) ?_
  refine R1_bI h1 ?_
  refine R1_gd (inB_nI (show i + 1 < L by omega) (by omega)) ?_
  refine R1_gd (inB_nI (show i + 2 < L by omega) (by omega)) ?_
  rw [show gI m1 99 (ix (nI (i + 1))) = gI μ 99 (ix (nI (i + 1))) from h4 _, show gI m1 99 (ix (nI (i + 2))) = gI μ 99 (ix (nI (i + 2))) from h4 _]
  refine R1_bI h2 ?_
  refine R1_br (fun _ => ?_) (fun hc => absurd rfl hc)
  rw [e_Law_law_1259, nI_p i 5 (z := 5) rfl]
  exact next m2 h3 h5
theorem lc_speak {Rel : jm → Prop} (h : ∀ (a1 : Int32), opI 111 179 [jI a1] Rel) {L i : Nat} (hi : i + 5 ≤ L) (hL : L ≤ 320) {μ : jm} (hR : Rel μ) (next : ∀ m2, Rel m2 → (∀ j, m2.1 99 j = μ.1 99 j) → R1 (evj 218 18 [jR 96 L, jR 9 0, jR 10 64, jI (nI (i + 5))] [] m2)) : R1 (evj 218 691 [jR 96 L, jR 9 0, jR 10 64, jI (nI i)] [] μ) := by
  obtain ⟨r, m1, m2, h1, h2, h3, h4, h5⟩ := h (gI μ 99 (ix (nI (i + 1)))) μ hR
  rw [e_Law_law_691]
  rw [nI_p i 1 (z := 1) rfl]
  refine R1_gd (inB_nI (show i + 1 < L by omega) (by omega)) ?_
  refine R1_bI h1 ?_
  refine R1_gd (inB_nI (show i + 1 < L by omega) (by omega)) ?_
  rw [show gI m1 99 (ix (nI (i + 1))) = gI μ 99 (ix (nI (i + 1))) from h4 _]
  refine R1_bI h2 ?_
  refine R1_br (fun _ => ?_) (fun hc => absurd rfl hc)
  rw [e_Law_law_1259, nI_p i 5 (z := 5) rfl]
  exact next m2 h3 h5
theorem lc_hush {Rel : jm → Prop} (h : opI 112 180 [] Rel) {L i : Nat} (hi : i + 5 ≤ L) (hL : L ≤ 320) {μ : jm} (hR : Rel μ) (next : ∀ m2, Rel m2 → (∀ j, m2.1 99 j = μ.1 99 j) → R1 (evj 218 18 [jR 96 L, jR 9 0, jR 10 64, jI (nI (i + 5))] [] m2)) : R1 (evj 218 714 [jR 96 L, jR 9 0, jR 10 64, jI (nI i)] [] μ) := by
  obtain ⟨r, m1, m2, h1, h2, h3, h4, h5⟩ := h  μ hR
  rw [e_Law_law_714]
  refine R1_bI h1 ?_
  refine R1_bI h2 ?_
  refine R1_br (fun _ => ?_) (fun hc => absurd rfl hc)
  rw [e_Law_law_1259, nI_p i 5 (z := 5) rfl]
  exact next m2 h3 h5
theorem lc_fetch {Rel : jm → Prop} (h : ∀ (a1 : Int32), opI 113 181 [jI a1] Rel) {L i : Nat} (hi : i + 5 ≤ L) (hL : L ≤ 320) {μ : jm} (hR : Rel μ) (next : ∀ m2, Rel m2 → (∀ j, m2.1 99 j = μ.1 99 j) → R1 (evj 218 18 [jR 96 L, jR 9 0, jR 10 64, jI (nI (i + 5))] [] m2)) : R1 (evj 218 727 [jR 96 L, jR 9 0, jR 10 64, jI (nI i)] [] μ) := by
  obtain ⟨r, m1, m2, h1, h2, h3, h4, h5⟩ := h (gI μ 99 (ix (nI (i + 1)))) μ hR
  rw [e_Law_law_727]
  rw [nI_p i 1 (z := 1) rfl]
  refine R1_gd (inB_nI (show i + 1 < L by omega) (by omega)) ?_
  refine R1_bI h1 ?_
  refine R1_gd (inB_nI (show i + 1 < L by omega) (by omega)) ?_
  rw [show gI m1 99 (ix (nI (i + 1))) = gI μ 99 (ix (nI (i + 1))) from h4 _]
  refine R1_bI h2 ?_
  refine R1_br (fun _ => ?_) (fun hc => absurd rfl hc)
  rw [e_Law_law_1259, nI_p i 5 (z := 5) rfl]
  exact next m2 h3 h5
theorem lc_inTime {Rel : jm → Prop} (h : ∀ (a1 : Int32), opI 114 185 [jI a1] Rel) {L i : Nat} (hi : i + 5 ≤ L) (hL : L ≤ 320) {μ : jm} (hR : Rel μ) (next : ∀ m2, Rel m2 → (∀ j, m2.1 99 j = μ.1 99 j) → R1 (evj 218 18 [jR 96 L, jR 9 0, jR 10 64, jI (nI (i + 5))] [] m2)) : R1 (evj 218 750 [jR 96 L, jR 9 0, jR 10 64, jI (nI i)] [] μ) := by
  obtain ⟨r, m1, m2, h1, h2, h3, h4, h5⟩ := h (gI μ 99 (ix (nI (i + 1)))) μ hR
  rw [e_Law_law_750]
  rw [nI_p i 1 (z := 1) rfl]
  refine R1_gd (inB_nI (show i + 1 < L by omega) (by omega)) ?_
  refine R1_bI h1 ?_
  refine R1_gd (inB_nI (show i + 1 < L by omega) (by omega)) ?_
  rw [show gI m1 99 (ix (nI (i + 1))) = gI μ 99 (ix (nI (i + 1))) from h4 _]
  refine R1_bI h2 ?_
  refine R1_br (fun _ => ?_) (fun hc => absurd rfl hc)
  rw [e_Law_law_1259, nI_p i 5 (z := 5) rfl]
  exact next m2 h3 h5
theorem lc_taken {Rel : jm → Prop} (h : ∀ (a1 a2 a3 : Int32), opI 115 186 [jI a1, jI a2, jI a3] Rel) {L i : Nat} (hi : i + 5 ≤ L) (hL : L ≤ 320) {μ : jm} (hR : Rel μ) (next : ∀ m2, Rel m2 → (∀ j, m2.1 99 j = μ.1 99 j) → R1 (evj 218 18 [jR 96 L, jR 9 0, jR 10 64, jI (nI (i + 5))] [] m2)) : R1 (evj 218 773 [jR 96 L, jR 9 0, jR 10 64, jI (nI i)] [] μ) := by
  obtain ⟨r, m1, m2, h1, h2, h3, h4, h5⟩ := h (gI μ 99 (ix (nI (i + 1)))) (gI μ 99 (ix (nI (i + 2)))) (gI μ 99 (ix (nI (i + 3)))) μ hR
  rw [e_Law_law_773]
  rw [nI_p i 1 (z := 1) rfl, nI_p i 2 (z := 2) rfl, nI_p i 3 (z := 3) rfl]
  refine R1_gd (inB_nI (show i + 1 < L by omega) (by omega)) ?_
  refine R1_gd (inB_nI (show i + 2 < L by omega) (by omega)) ?_
  refine R1_gd (inB_nI (show i + 3 < L by omega) (by omega)) ?_
  refine R1_bI h1 ?_
  refine R1_gd (inB_nI (show i + 1 < L by omega) (by omega)) ?_
  refine R1_gd (inB_nI (show i + 2 < L by omega) (by omega)) ?_
  refine R1_gd (inB_nI (show i + 3 < L by omega) (by omega)) ?_
  rw [show gI m1 99 (ix (nI (i + 1))) = gI μ 99 (ix (nI (i + 1))) from h4 _, show gI m1 99 (ix (nI (i + 2))) = gI μ 99 (ix (nI (i + 2))) from h4 _, show gI m1 99 (ix (nI (i + 3))) = gI μ 99 (ix (nI (i + 3))) from h4 _]
  refine R1_bI h2 ?_
  refine R1_br (fun _ => ?_) (fun hc => absurd rfl hc)
  rw [e_Law_law_1259, nI_p i 5 (z := 5) rfl]
  exact next m2 h3 h5
theorem lc_drop {Rel : jm → Prop} (h : ∀ (a1 : Int32), opI 117 190 [jI a1] Rel) {L i : Nat} (hi : i + 5 ≤ L) (hL : L ≤ 320) {μ : jm} (hR : Rel μ) (next : ∀ m2, Rel m2 → (∀ j, m2.1 99 j = μ.1 99 j) → R1 (evj 218 18 [jR 96 L, jR 9 0, jR 10 64, jI (nI (i + 5))] [] m2)) : R1 (evj 218 816 [jR 96 L, jR 9 0, jR 10 64, jI (nI i)] [] μ) := by
  obtain ⟨r, m1, m2, h1, h2, h3, h4, h5⟩ := h (gI μ 99 (ix (nI (i + 1)))) μ hR
  rw [e_Law_law_816]
  rw [nI_p i 1 (z := 1) rfl]
  refine R1_gd (inB_nI (show i + 1 < L by omega) (by omega)) ?_
  refine R1_bI h1 ?_
  refine R1_gd (inB_nI (show i + 1 < L by omega) (by omega)) ?_
  rw [show gI m1 99 (ix (nI (i + 1))) = gI μ 99 (ix (nI (i + 1))) from h4 _]
  refine R1_bI h2 ?_
  refine R1_br (fun _ => ?_) (fun hc => absurd rfl hc)
  rw [e_Law_law_1259, nI_p i 5 (z := 5) rfl]
  exact next m2 h3 h5
theorem lc_news {Rel : jm → Prop} (h : ∀ (a1 a2 a3 : Int32), opI 118 191 [jI a1, jI a2, jI a3] Rel) {L i : Nat} (hi : i + 5 ≤ L) (hL : L ≤ 320) {μ : jm} (hR : Rel μ) (next : ∀ m2, Rel m2 → (∀ j, m2.1 99 j = μ.1 99 j) → R1 (evj 218 18 [jR 96 L, jR 9 0, jR 10 64, jI (nI (i + 5))] [] m2)) : R1 (evj 218 839 [jR 96 L, jR 9 0, jR 10 64, jI (nI i)] [] μ) := by
  obtain ⟨r, m1, m2, h1, h2, h3, h4, h5⟩ := h (gI μ 99 (ix (nI (i + 1)))) (gI μ 99 (ix (nI (i + 2)))) (gI μ 99 (ix (nI (i + 3)))) μ hR
  rw [e_Law_law_839]
  rw [nI_p i 1 (z := 1) rfl, nI_p i 2 (z := 2) rfl, nI_p i 3 (z := 3) rfl]
  refine R1_gd (inB_nI (show i + 1 < L by omega) (by omega)) ?_
  refine R1_gd (inB_nI (show i + 2 < L by omega) (by omega)) ?_
  refine R1_gd (inB_nI (show i + 3 < L by omega) (by omega)) ?_
  refine R1_bI h1 ?_
  refine R1_gd (inB_nI (show i + 1 < L by omega) (by omega)) ?_
  refine R1_gd (inB_nI (show i + 2 < L by omega) (by omega)) ?_
  refine R1_gd (inB_nI (show i + 3 < L by omega) (by omega)) ?_
  rw [show gI m1 99 (ix (nI (i + 1))) = gI μ 99 (ix (nI (i + 1))) from h4 _, show gI m1 99 (ix (nI (i + 2))) = gI μ 99 (ix (nI (i + 2))) from h4 _, show gI m1 99 (ix (nI (i + 3))) = gI μ 99 (ix (nI (i + 3))) from h4 _]
  refine R1_bI h2 ?_
  refine R1_br (fun _ => ?_) (fun hc => absurd rfl hc)
  rw [e_Law_law_1259, nI_p i 5 (z := 5) rfl]
  exact next m2 h3 h5
theorem lc_hole {Rel : jm → Prop} (h : ∀ (a1 : Int32), opI 120 194 [jI a1] Rel) {L i : Nat} (hi : i + 5 ≤ L) (hL : L ≤ 320) {μ : jm} (hR : Rel μ) (next : ∀ m2, Rel m2 → (∀ j, m2.1 99 j = μ.1 99 j) → R1 (evj 218 18 [jR 96 L, jR 9 0, jR 10 64, jI (nI (i + 5))] [] m2)) : R1 (evj 218 882 [jR 96 L, jR 9 0, jR 10 64, jI (nI i)] [] μ) := by
  obtain ⟨r, m1, m2, h1, h2, h3, h4, h5⟩ := h (gI μ 99 (ix (nI (i + 1)))) μ hR
  rw [e_Law_law_882]
  rw [nI_p i 1 (z := 1) rfl]
  refine R1_gd (inB_nI (show i + 1 < L by omega) (by omega)) ?_
  refine R1_bI h1 ?_
  refine R1_gd (inB_nI (show i + 1 < L by omega) (by omega)) ?_
  rw [show gI m1 99 (ix (nI (i + 1))) = gI μ 99 (ix (nI (i + 1))) from h4 _]
  refine R1_bI h2 ?_
  refine R1_br (fun _ => ?_) (fun hc => absurd rfl hc)
  rw [e_Law_law_1259, nI_p i 5 (z := 5) rfl]
  exact next m2 h3 h5
theorem lc_whole {Rel : jm → Prop} (h : opI 121 195 [] Rel) {L i : Nat} (hi : i + 5 ≤ L) (hL : L ≤ 320) {μ : jm} (hR : Rel μ) (next : ∀ m2, Rel m2 → (∀ j, m2.1 99 j = μ.1 99 j) → R1 (evj 218 18 [jR 96 L, jR 9 0, jR 10 64, jI (nI (i + 5))] [] m2)) : R1 (evj 218 905 [jR 96 L, jR 9 0, jR 10 64, jI (nI i)] [] μ) := by
  obtain ⟨r, m1, m2, h1, h2, h3, h4, h5⟩ := h  μ hR
  rw [e_Law_law_905]
  refine R1_bI h1 ?_
  refine R1_bI h2 ?_
  refine R1_br (fun _ => ?_) (fun hc => absurd rfl hc)
  rw [e_Law_law_1259, nI_p i 5 (z := 5) rfl]
  exact next m2 h3 h5
theorem lc_meant {Rel : jm → Prop} (h : ∀ (a1 : Int32), opI 122 196 [jI a1] Rel) {L i : Nat} (hi : i + 5 ≤ L) (hL : L ≤ 320) {μ : jm} (hR : Rel μ) (next : ∀ m2, Rel m2 → (∀ j, m2.1 99 j = μ.1 99 j) → R1 (evj 218 18 [jR 96 L, jR 9 0, jR 10 64, jI (nI (i + 5))] [] m2)) : R1 (evj 218 918 [jR 96 L, jR 9 0, jR 10 64, jI (nI i)] [] μ) := by
  obtain ⟨r, m1, m2, h1, h2, h3, h4, h5⟩ := h (gI μ 99 (ix (nI (i + 1)))) μ hR
  rw [e_Law_law_918]
  rw [nI_p i 1 (z := 1) rfl]
  refine R1_gd (inB_nI (show i + 1 < L by omega) (by omega)) ?_
  refine R1_bI h1 ?_
  refine R1_gd (inB_nI (show i + 1 < L by omega) (by omega)) ?_
  rw [show gI m1 99 (ix (nI (i + 1))) = gI μ 99 (ix (nI (i + 1))) from h4 _]
  refine R1_bI h2 ?_
  refine R1_br (fun _ => ?_) (fun hc => absurd rfl hc)
  rw [e_Law_law_1259, nI_p i 5 (z := 5) rfl]
  exact next m2 h3 h5
theorem lc_ways {Rel : jm → Prop} (h : opI 123 199 [] Rel) {L i : Nat} (hi : i + 5 ≤ L) (hL : L ≤ 320) {μ : jm} (hR : Rel μ) (next : ∀ m2, Rel m2 → (∀ j, m2.1 99 j = μ.1 99 j) → R1 (evj 218 18 [jR 96 L, jR 9 0, jR 10 64, jI (nI (i + 5))] [] m2)) : R1 (evj 218 941 [jR 96 L, jR 9 0, jR 10 64, jI (nI i)] [] μ) := by
  obtain ⟨r, m1, m2, h1, h2, h3, h4, h5⟩ := h  μ hR
  rw [e_Law_law_941]
  refine R1_bI h1 ?_
  refine R1_bI h2 ?_
  refine R1_br (fun _ => ?_) (fun hc => absurd rfl hc)
  rw [e_Law_law_1259, nI_p i 5 (z := 5) rfl]
  exact next m2 h3 h5
theorem lc_odds {Rel : jm → Prop} (h : ∀ (a1 a2 : Int32), opI 124 201 [jI a1, jI a2] Rel) {L i : Nat} (hi : i + 5 ≤ L) (hL : L ≤ 320) {μ : jm} (hR : Rel μ) (next : ∀ m2, Rel m2 → (∀ j, m2.1 99 j = μ.1 99 j) → R1 (evj 218 18 [jR 96 L, jR 9 0, jR 10 64, jI (nI (i + 5))] [] m2)) : R1 (evj 218 954 [jR 96 L, jR 9 0, jR 10 64, jI (nI i)] [] μ) := by
  obtain ⟨r, m1, m2, h1, h2, h3, h4, h5⟩ := h (gI μ 99 (ix (nI (i + 1)))) (gI μ 99 (ix (nI (i + 2)))) μ hR
  rw [e_Law_law_954]
  rw [nI_p i 1 (z := 1) rfl, nI_p i 2 (z := 2) rfl]
  refine R1_gd (inB_nI (show i + 1 < L by omega) (by omega)) ?_
  refine R1_gd (inB_nI (show i + 2 < L by omega) (by omega)) ?_
  refine R1_bI h1 ?_
  refine R1_gd (inB_nI (show i + 1 < L by omega) (by omega)) ?_
  refine R1_gd (inB_nI (show i + 2 < L by omega) (by omega)) ?_
  rw [show gI m1 99 (ix (nI (i + 1))) = gI μ 99 (ix (nI (i + 1))) from h4 _, show gI m1 99 (ix (nI (i + 2))) = gI μ 99 (ix (nI (i + 2))) from h4 _]
  refine R1_bI h2 ?_
  refine R1_br (fun _ => ?_) (fun hc => absurd rfl hc)
  rw [e_Law_law_1259, nI_p i 5 (z := 5) rfl]
  exact next m2 h3 h5
theorem lc_block {Rel : jm → Prop} (h : ∀ (a1 a2 : Int32), opI 125 203 [jI a1, jI a2] Rel) {L i : Nat} (hi : i + 5 ≤ L) (hL : L ≤ 320) {μ : jm} (hR : Rel μ) (next : ∀ m2, Rel m2 → (∀ j, m2.1 99 j = μ.1 99 j) → R1 (evj 218 18 [jR 96 L, jR 9 0, jR 10 64, jI (nI (i + 5))] [] m2)) : R1 (evj 218 987 [jR 96 L, jR 9 0, jR 10 64, jI (nI i)] [] μ) := by
  obtain ⟨r, m1, m2, h1, h2, h3, h4, h5⟩ := h (gI μ 99 (ix (nI (i + 1)))) (gI μ 99 (ix (nI (i + 2)))) μ hR
  rw [e_Law_law_987]
  rw [nI_p i 1 (z := 1) rfl, nI_p i 2 (z := 2) rfl]
  refine R1_gd (inB_nI (show i + 1 < L by omega) (by omega)) ?_
  refine R1_gd (inB_nI (show i + 2 < L by omega) (by omega)) ?_
  refine R1_bI h1 ?_
  refine R1_gd (inB_nI (show i + 1 < L by omega) (by omega)) ?_
  refine R1_gd (inB_nI (show i + 2 < L by omega) (by omega)) ?_
  rw [show gI m1 99 (ix (nI (i + 1))) = gI μ 99 (ix (nI (i + 1))) from h4 _, show gI m1 99 (ix (nI (i + 2))) = gI μ 99 (ix (nI (i + 2))) from h4 _]
  refine R1_bI h2 ?_
  refine R1_br (fun _ => ?_) (fun hc => absurd rfl hc)
  rw [e_Law_law_1259, nI_p i 5 (z := 5) rfl]
  exact next m2 h3 h5
theorem lc_swing {Rel : jm → Prop} (h : ∀ (a1 a2 a3 : Int32), opI 126 204 [jI a1, jI a2, jI a3] Rel) {L i : Nat} (hi : i + 5 ≤ L) (hL : L ≤ 320) {μ : jm} (hR : Rel μ) (next : ∀ m2, Rel m2 → (∀ j, m2.1 99 j = μ.1 99 j) → R1 (evj 218 18 [jR 96 L, jR 9 0, jR 10 64, jI (nI (i + 5))] [] m2)) : R1 (evj 218 1020 [jR 96 L, jR 9 0, jR 10 64, jI (nI i)] [] μ) := by
  obtain ⟨r, m1, m2, h1, h2, h3, h4, h5⟩ := h (gI μ 99 (ix (nI (i + 1)))) (gI μ 99 (ix (nI (i + 2)))) (gI μ 99 (ix (nI (i + 3)))) μ hR
  rw [e_Law_law_1020]
  rw [nI_p i 1 (z := 1) rfl, nI_p i 2 (z := 2) rfl, nI_p i 3 (z := 3) rfl]
  refine R1_gd (inB_nI (show i + 1 < L by omega) (by omega)) ?_
  refine R1_gd (inB_nI (show i + 2 < L by omega) (by omega)) ?_
  refine R1_gd (inB_nI (show i + 3 < L by omega) (by omega)) ?_
  refine R1_bI h1 ?_
  refine R1_gd (inB_nI (show i + 1 < L by omega) (by omega)) ?_
  refine R1_gd (inB_nI (show i + 2 < L by omega) (by omega)) ?_
  refine R1_gd (inB_nI (show i + 3 < L by omega) (by omega)) ?_
  rw [show gI m1 99 (ix (nI (i + 1))) = gI μ 99 (ix (nI (i + 1))) from h4 _, show gI m1 99 (ix (nI (i + 2))) = gI μ 99 (ix (nI (i + 2))) from h4 _, show gI m1 99 (ix (nI (i + 3))) = gI μ 99 (ix (nI (i + 3))) from h4 _]
  refine R1_bI h2 ?_
  refine R1_br (fun _ => ?_) (fun hc => absurd rfl hc)
  rw [e_Law_law_1259, nI_p i 5 (z := 5) rfl]
  exact next m2 h3 h5
theorem lc_song {Rel : jm → Prop} (h : ∀ (a1 a2 a3 : Int32), opI 127 205 [jI a1, jI a2, jI a3] Rel) {L i : Nat} (hi : i + 5 ≤ L) (hL : L ≤ 320) {μ : jm} (hR : Rel μ) (next : ∀ m2, Rel m2 → (∀ j, m2.1 99 j = μ.1 99 j) → R1 (evj 218 18 [jR 96 L, jR 9 0, jR 10 64, jI (nI (i + 5))] [] m2)) : R1 (evj 218 1063 [jR 96 L, jR 9 0, jR 10 64, jI (nI i)] [] μ) := by
  obtain ⟨r, m1, m2, h1, h2, h3, h4, h5⟩ := h (gI μ 99 (ix (nI (i + 1)))) (gI μ 99 (ix (nI (i + 2)))) (gI μ 99 (ix (nI (i + 3)))) μ hR
  rw [e_Law_law_1063]
  rw [nI_p i 1 (z := 1) rfl, nI_p i 2 (z := 2) rfl, nI_p i 3 (z := 3) rfl]
  refine R1_gd (inB_nI (show i + 1 < L by omega) (by omega)) ?_
  refine R1_gd (inB_nI (show i + 2 < L by omega) (by omega)) ?_
  refine R1_gd (inB_nI (show i + 3 < L by omega) (by omega)) ?_
  refine R1_bI h1 ?_
  refine R1_gd (inB_nI (show i + 1 < L by omega) (by omega)) ?_
  refine R1_gd (inB_nI (show i + 2 < L by omega) (by omega)) ?_
  refine R1_gd (inB_nI (show i + 3 < L by omega) (by omega)) ?_
  rw [show gI m1 99 (ix (nI (i + 1))) = gI μ 99 (ix (nI (i + 1))) from h4 _, show gI m1 99 (ix (nI (i + 2))) = gI μ 99 (ix (nI (i + 2))) from h4 _, show gI m1 99 (ix (nI (i + 3))) = gI μ 99 (ix (nI (i + 3))) from h4 _]
  refine R1_bI h2 ?_
  refine R1_br (fun _ => ?_) (fun hc => absurd rfl hc)
  rw [e_Law_law_1259, nI_p i 5 (z := 5) rfl]
  exact next m2 h3 h5
theorem lc_couple {Rel : jm → Prop} (h : ∀ (a1 : Int32), opI 128 207 [jI a1] Rel) {L i : Nat} (hi : i + 5 ≤ L) (hL : L ≤ 320) {μ : jm} (hR : Rel μ) (next : ∀ m2, Rel m2 → (∀ j, m2.1 99 j = μ.1 99 j) → R1 (evj 218 18 [jR 96 L, jR 9 0, jR 10 64, jI (nI (i + 5))] [] m2)) : R1 (evj 218 1106 [jR 96 L, jR 9 0, jR 10 64, jI (nI i)] [] μ) := by
  obtain ⟨r, m1, m2, h1, h2, h3, h4, h5⟩ := h (gI μ 99 (ix (nI (i + 1)))) μ hR
  rw [e_Law_law_1106]
  rw [nI_p i 1 (z := 1) rfl]
  refine R1_gd (inB_nI (show i + 1 < L by omega) (by omega)) ?_
  refine R1_bI h1 ?_
  refine R1_gd (inB_nI (show i + 1 < L by omega) (by omega)) ?_
  rw [show gI m1 99 (ix (nI (i + 1))) = gI μ 99 (ix (nI (i + 1))) from h4 _]
  refine R1_bI h2 ?_
  refine R1_br (fun _ => ?_) (fun hc => absurd rfl hc)
  rw [e_Law_law_1259, nI_p i 5 (z := 5) rfl]
  exact next m2 h3 h5
theorem lc_part {Rel : jm → Prop} (h : ∀ (a1 : Int32), opL 129 209 [jI a1] Rel) {L i : Nat} (hi : i + 5 ≤ L) (hL : L ≤ 320) {μ : jm} (hR : Rel μ) (next : ∀ m2, Rel m2 → (∀ j, m2.1 99 j = μ.1 99 j) → R1 (evj 218 18 [jR 96 L, jR 9 0, jR 10 64, jI (nI (i + 5))] [] m2)) : R1 (evj 218 1129 [jR 96 L, jR 9 0, jR 10 64, jI (nI i)] [] μ) := by
  obtain ⟨r, m1, m2, h1, h2, h3, h4, h5⟩ := h (gI μ 99 (ix (nI (i + 1)))) μ hR
  rw [e_Law_law_1129]
  rw [nI_p i 1 (z := 1) rfl]
  refine R1_gd (inB_nI (show i + 1 < L by omega) (by omega)) ?_
  refine R1_bL h1 ?_
  refine R1_gd (inB_nI (show i + 1 < L by omega) (by omega)) ?_
  rw [show gI m1 99 (ix (nI (i + 1))) = gI μ 99 (ix (nI (i + 1))) from h4 _]
  refine R1_bL h2 ?_
  refine R1_br (fun _ => ?_) (fun hc => absurd (lg_self r) hc)
  rw [e_Law_law_1259, nI_p i 5 (z := 5) rfl]
  exact next m2 h3 h5
theorem lc_image {Rel : jm → Prop} (h : ∀ (a1 : Int32), opI 130 210 [jI a1] Rel) {L i : Nat} (hi : i + 5 ≤ L) (hL : L ≤ 320) {μ : jm} (hR : Rel μ) (next : ∀ m2, Rel m2 → (∀ j, m2.1 99 j = μ.1 99 j) → R1 (evj 218 18 [jR 96 L, jR 9 0, jR 10 64, jI (nI (i + 5))] [] m2)) : R1 (evj 218 1153 [jR 96 L, jR 9 0, jR 10 64, jI (nI i)] [] μ) := by
  obtain ⟨r, m1, m2, h1, h2, h3, h4, h5⟩ := h (gI μ 99 (ix (nI (i + 1)))) μ hR
  rw [e_Law_law_1153]
  rw [nI_p i 1 (z := 1) rfl]
  refine R1_gd (inB_nI (show i + 1 < L by omega) (by omega)) ?_
  refine R1_bI h1 ?_
  refine R1_gd (inB_nI (show i + 1 < L by omega) (by omega)) ?_
  rw [show gI m1 99 (ix (nI (i + 1))) = gI μ 99 (ix (nI (i + 1))) from h4 _]
  refine R1_bI h2 ?_
  refine R1_br (fun _ => ?_) (fun hc => absurd rfl hc)
  rw [e_Law_law_1259, nI_p i 5 (z := 5) rfl]
  exact next m2 h3 h5
theorem lc_from {Rel : jm → Prop} (h : ∀ (a1 : Int32), opI 132 211 [jI a1] Rel) {L i : Nat} (hi : i + 5 ≤ L) (hL : L ≤ 320) {μ : jm} (hR : Rel μ) (next : ∀ m2, Rel m2 → (∀ j, m2.1 99 j = μ.1 99 j) → R1 (evj 218 18 [jR 96 L, jR 9 0, jR 10 64, jI (nI (i + 5))] [] m2)) : R1 (evj 218 1176 [jR 96 L, jR 9 0, jR 10 64, jI (nI i)] [] μ) := by
  obtain ⟨r, m1, m2, h1, h2, h3, h4, h5⟩ := h (gI μ 99 (ix (nI (i + 1)))) μ hR
  rw [e_Law_law_1176]
  rw [nI_p i 1 (z := 1) rfl]
  refine R1_gd (inB_nI (show i + 1 < L by omega) (by omega)) ?_
  refine R1_bI h1 ?_
  refine R1_gd (inB_nI (show i + 1 < L by omega) (by omega)) ?_
  rw [show gI m1 99 (ix (nI (i + 1))) = gI μ 99 (ix (nI (i + 1))) from h4 _]
  refine R1_bI h2 ?_
  refine R1_br (fun _ => ?_) (fun hc => absurd rfl hc)
  rw [e_Law_law_1259, nI_p i 5 (z := 5) rfl]
  exact next m2 h3 h5
theorem lc_status {Rel : jm → Prop} (h : ∀ (a1 : Int32), opI 133 212 [jI a1] Rel) {L i : Nat} (hi : i + 5 ≤ L) (hL : L ≤ 320) {μ : jm} (hR : Rel μ) (next : ∀ m2, Rel m2 → (∀ j, m2.1 99 j = μ.1 99 j) → R1 (evj 218 18 [jR 96 L, jR 9 0, jR 10 64, jI (nI (i + 5))] [] m2)) : R1 (evj 218 1199 [jR 96 L, jR 9 0, jR 10 64, jI (nI i)] [] μ) := by
  obtain ⟨r, m1, m2, h1, h2, h3, h4, h5⟩ := h (gI μ 99 (ix (nI (i + 1)))) μ hR
  rw [e_Law_law_1199]
  rw [nI_p i 1 (z := 1) rfl]
  refine R1_gd (inB_nI (show i + 1 < L by omega) (by omega)) ?_
  refine R1_bI h1 ?_
  refine R1_gd (inB_nI (show i + 1 < L by omega) (by omega)) ?_
  rw [show gI m1 99 (ix (nI (i + 1))) = gI μ 99 (ix (nI (i + 1))) from h4 _]
  refine R1_bI h2 ?_
  refine R1_br (fun _ => ?_) (fun hc => absurd rfl hc)
  rw [e_Law_law_1259, nI_p i 5 (z := 5) rfl]
  exact next m2 h3 h5
theorem lc_count {Rel : jm → Prop} (h : ∀ (a1 : Int32), opI 134 213 [jI a1] Rel) {L i : Nat} (hi : i + 5 ≤ L) (hL : L ≤ 320) {μ : jm} (hR : Rel μ) (next : ∀ m2, Rel m2 → (∀ j, m2.1 99 j = μ.1 99 j) → R1 (evj 218 18 [jR 96 L, jR 9 0, jR 10 64, jI (nI (i + 5))] [] m2)) : R1 (evj 218 1222 [jR 96 L, jR 9 0, jR 10 64, jI (nI i)] [] μ) := by
  obtain ⟨r, m1, m2, h1, h2, h3, h4, h5⟩ := h (gI μ 99 (ix (nI (i + 1)))) μ hR
  rw [e_Law_law_1222]
  rw [nI_p i 1 (z := 1) rfl]
  refine R1_gd (inB_nI (show i + 1 < L by omega) (by omega)) ?_
  refine R1_bI h1 ?_
  refine R1_gd (inB_nI (show i + 1 < L by omega) (by omega)) ?_
  rw [show gI m1 99 (ix (nI (i + 1))) = gI μ 99 (ix (nI (i + 1))) from h4 _]
  refine R1_bI h2 ?_
  refine R1_br (fun _ => ?_) (fun hc => absurd rfl hc)
  rw [e_Law_law_1259, nI_p i 5 (z := 5) rfl]
  exact next m2 h3 h5
theorem lc_digest {Rel : jm → Prop} (h : opL 136 215 [] Rel) {L i : Nat} (hi : i + 5 ≤ L) (hL : L ≤ 320) {μ : jm} (hR : Rel μ) (next : ∀ m2, Rel m2 → (∀ j, m2.1 99 j = μ.1 99 j) → R1 (evj 218 18 [jR 96 L, jR 9 0, jR 10 64, jI (nI (i + 5))] [] m2)) : R1 (evj 218 1245 [jR 96 L, jR 9 0, jR 10 64, jI (nI i)] [] μ) := by
  obtain ⟨r, m1, m2, h1, h2, h3, h4, h5⟩ := h  μ hR
  rw [e_Law_law_1245]
  refine R1_bL h1 ?_
  refine R1_bL h2 ?_
  refine R1_br (fun _ => ?_) (fun hc => absurd (lg_self r) hc)
  rw [e_Law_law_1259, nI_p i 5 (z := 5) rfl]
  exact next m2 h3 h5
/-- all 37 calls -/
def opsAll (Rel : jm → Prop) : Prop := (∀ (a1 a2 : Int32), opI 94 137 [jI a1, jI a2] Rel) ∧ (∀ (a1 a2 : Int32), opI 97 142 [jI a1, jI a2] Rel) ∧ (∀ (a1 a2 a3 : Int32), opI 98 143 [jI a1, jI a2, jI a3] Rel) ∧ (∀ (a1 a2 : Int32), opI 99 145 [jI a1, jI a2] Rel) ∧ (∀ (a1 a2 : Int32), opI 100 148 [jI a1, jI a2] Rel) ∧ (∀ (a1 a2 a3 a4 : Int32), opI 101 149 [jI a1, jI a2, jI a3, jI a4] Rel) ∧ (∀ (a1 : Int32), opI 102 151 [jI a1] Rel) ∧ (∀ (a1 a2 : Int32), opI 103 153 [jI a1, jI a2] Rel) ∧ (∀ (v : Int64) (n : Int32), opI 104 158 [jL v, jI n] Rel) ∧ (opI 105 159 [] Rel) ∧ (opI 106 160 [] Rel) ∧ (∀ (a1 a2 : Int32), opI 107 169 [jI a1, jI a2] Rel) ∧ (∀ (a1 : Int32), opI 108 174 [jI a1] Rel) ∧ (∀ (a1 a2 : Int32), opI 109 177 [jI a1, jI a2] Rel) ∧ (∀ (a1 a2 : Int32), opI 110 178 [jI a1, jI a2] Rel) ∧ (∀ (a1 : Int32), opI 111 179 [jI a1] Rel) ∧ (opI 112 180 [] Rel) ∧ (∀ (a1 : Int32), opI 113 181 [jI a1] Rel) ∧ (∀ (a1 : Int32), opI 114 185 [jI a1] Rel) ∧ (∀ (a1 a2 a3 : Int32), opI 115 186 [jI a1, jI a2, jI a3] Rel) ∧ (∀ (a1 : Int32), opI 117 190 [jI a1] Rel) ∧ (∀ (a1 a2 a3 : Int32), opI 118 191 [jI a1, jI a2, jI a3] Rel) ∧ (∀ (a1 : Int32), opI 120 194 [jI a1] Rel) ∧ (opI 121 195 [] Rel) ∧ (∀ (a1 : Int32), opI 122 196 [jI a1] Rel) ∧ (opI 123 199 [] Rel) ∧ (∀ (a1 a2 : Int32), opI 124 201 [jI a1, jI a2] Rel) ∧ (∀ (a1 a2 : Int32), opI 125 203 [jI a1, jI a2] Rel) ∧ (∀ (a1 a2 a3 : Int32), opI 126 204 [jI a1, jI a2, jI a3] Rel) ∧ (∀ (a1 a2 a3 : Int32), opI 127 205 [jI a1, jI a2, jI a3] Rel) ∧ (∀ (a1 : Int32), opI 128 207 [jI a1] Rel) ∧ (∀ (a1 : Int32), opL 129 209 [jI a1] Rel) ∧ (∀ (a1 : Int32), opI 130 210 [jI a1] Rel) ∧ (∀ (a1 : Int32), opI 132 211 [jI a1] Rel) ∧ (∀ (a1 : Int32), opI 133 212 [jI a1] Rel) ∧ (∀ (a1 : Int32), opI 134 213 [jI a1] Rel) ∧ (opL 136 215 [] Rel)
theorem law_round {Rel : jm → Prop} (h : opsAll Rel) {L i : Nat} (hi : i + 5 ≤ L) (hL : L ≤ 320) {μ : jm} (hR : Rel μ) (next : ∀ m2, Rel m2 → (∀ j, m2.1 99 j = μ.1 99 j) → R1 (evj 218 18 [jR 96 L, jR 9 0, jR 10 64, jI (nI (i + 5))] [] m2)) (hc : ¬ nI L - (5 : Int32) < nI i) : R1 (evj 218 18 [jR 96 L, jR 9 0, jR 10 64, jI (nI i)] [] μ) := by
  obtain ⟨h0, h1, h2, h3, h4, h5, h6, h7, h8, h9, h10, h11, h12, h13, h14, h15, h16, h17, h18, h19, h20, h21, h22, h23, h24, h25, h26, h27, h28, h29, h30, h31, h32, h33, h34, h35, h36⟩ := h
  rw [e_Law_law_18]
  rw [jbr_n hc]
  refine R1_gd (inB_nI (by omega) (by omega)) ?_
  refine R1_br (fun _ => lc_door h0 hi hL hR next) (fun _ => ?_)
  refine R1_br (fun _ => lc_hears h1 hi hL hR next) (fun _ => ?_)
  refine R1_br (fun _ => lc_one h2 hi hL hR next) (fun _ => ?_)
  refine R1_br (fun _ => lc_mates h3 hi hL hR next) (fun _ => ?_)
  refine R1_br (fun _ => lc_goes h4 hi hL hR next) (fun _ => ?_)
  refine R1_br (fun _ => lc_chord h5 hi hL hR next) (fun _ => ?_)
  refine R1_br (fun _ => lc_slack h6 hi hL hR next) (fun _ => ?_)
  refine R1_br (fun _ => lc_sounds h7 hi hL hR next) (fun _ => ?_)
  refine R1_br (fun _ => lc_type h8 hi hL hR next) (fun _ => ?_)
  refine R1_br (fun _ => lc_clear h9 hi hL hR next) (fun _ => ?_)
  refine R1_br (fun _ => lc_read h10 hi hL hR next) (fun _ => ?_)
  refine R1_br (fun _ => lc_says h11 hi hL hR next) (fun _ => ?_)
  refine R1_br (fun _ => lc_said h12 hi hL hR next) (fun _ => ?_)
  refine R1_br (fun _ => lc_byDoor h13 hi hL hR next) (fun _ => ?_)
  refine R1_br (fun _ => lc_fewest h14 hi hL hR next) (fun _ => ?_)
  refine R1_br (fun _ => lc_speak h15 hi hL hR next) (fun _ => ?_)
  refine R1_br (fun _ => lc_hush h16 hi hL hR next) (fun _ => ?_)
  refine R1_br (fun _ => lc_fetch h17 hi hL hR next) (fun _ => ?_)
  refine R1_br (fun _ => lc_inTime h18 hi hL hR next) (fun _ => ?_)
  refine R1_br (fun _ => lc_taken h19 hi hL hR next) (fun _ => ?_)
  refine R1_br (fun _ => lc_drop h20 hi hL hR next) (fun _ => ?_)
  refine R1_br (fun _ => lc_news h21 hi hL hR next) (fun _ => ?_)
  refine R1_br (fun _ => lc_hole h22 hi hL hR next) (fun _ => ?_)
  refine R1_br (fun _ => lc_whole h23 hi hL hR next) (fun _ => ?_)
  refine R1_br (fun _ => lc_meant h24 hi hL hR next) (fun _ => ?_)
  refine R1_br (fun _ => lc_ways h25 hi hL hR next) (fun _ => ?_)
  refine R1_br (fun _ => lc_odds h26 hi hL hR next) (fun _ => ?_)
  refine R1_br (fun _ => lc_block h27 hi hL hR next) (fun _ => ?_)
  refine R1_br (fun _ => lc_swing h28 hi hL hR next) (fun _ => ?_)
  refine R1_br (fun _ => lc_song h29 hi hL hR next) (fun _ => ?_)
  refine R1_br (fun _ => lc_couple h30 hi hL hR next) (fun _ => ?_)
  refine R1_br (fun _ => lc_part h31 hi hL hR next) (fun _ => ?_)
  refine R1_br (fun _ => lc_image h32 hi hL hR next) (fun _ => ?_)
  refine R1_br (fun _ => lc_from h33 hi hL hR next) (fun _ => ?_)
  refine R1_br (fun _ => lc_status h34 hi hL hR next) (fun _ => ?_)
  refine R1_br (fun _ => lc_count h35 hi hL hR next) (fun _ => ?_)
  refine R1_br (fun _ => lc_digest h36 hi hL hR next) (fun _ => ?_)
  rw [e_Law_law_1259, nI_p i 5 (z := 5) rfl]
  exact next μ hR (fun _ => rfl)
theorem law_cmp {L i : Nat} (hL : L ≤ 320) (hi : i ≤ 1000) : nI L - (5 : Int32) < nI i ↔ L < i + 5 := by
  rw [show (5 : Int32) = nI 5 from rfl, Int32.lt_iff_toInt_lt, pk_sub_toInt (by omega) (by omega), nI_toInt (by omega)]
  omega
theorem law_loop {Rel : jm → Prop} (h : opsAll Rel) {L : Nat} (hL : L ≤ 320) : ∀ (n i : Nat) (μ : jm), i ≤ L + 5 → L < i + n → Rel μ → R1 (evj 218 18 [jR 96 L, jR 9 0, jR 10 64, jI (nI i)] [] μ)
  | 0, i, μ, hi, hn, hR => by
    rw [e_Law_law_18]
    exact R1_br (fun _ => ⟨μ, rfl⟩) (fun hc => absurd ((law_cmp hL (by omega)).mpr (by omega)) hc)
  | n + 1, i, μ, hi, hn, hR => by
    by_cases hc : nI L - (5 : Int32) < nI i
    · rw [e_Law_law_18, jbr_p hc]
      exact ⟨μ, rfl⟩
    · have hc2 : ¬ L < i + 5 := fun z => hc ((law_cmp hL (by omega)).mpr z)
      exact law_round h (by omega) hL hR (fun m2 hR2 _ => law_loop h hL n (i + 5) m2 (by omega) (by omega) hR2) hc
theorem law_pure {Rel : jm → Prop} (h : opsAll Rel) {L : Nat} (hL : L ≤ 320) {μ : jm} (hR : Rel μ) : R1 (evj 218 16 [jR 96 L, jR 9 0, jR 10 64, jU] [] μ) := by
  rw [e_Law_law_16]
  exact law_loop h hL (L + 1) 0 μ (by omega) (by omega) hR
