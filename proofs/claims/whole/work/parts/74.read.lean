/-! read: all items; the class -/
def Sq (T : Nat → Nat) (l i : Nat) : Nat := itr (fun _ q => skp T l (itN T l q)) i 0 (skp T l 0)
theorem Sq_s (T : Nat → Nat) (l i : Nat) : Sq T l (i + 1) = skp T l (itN T l (Sq T l i)) := by
  show itr _ (i + 1) 0 _ = _
  rw [itr_s]
  rfl
def tlx (T : Nat → Nat) (l q : Nat) (k : Nat) : Int32 := nI (itV T l q k)
def TLs (T : Nat → Nat) (l i : Nat) (st : Nat × vst) : Nat × vst := if st.1 = 0 then (if tlf (tkv T l (Sq T l i)) (tlx T l (Sq T l i)) st.2 < 0 then (i + 1, tlg (tkv T l (Sq T l i)) (tlx T l (Sq T l i)) st.2) else (0, tlg (tkv T l (Sq T l i)) (tlx T l (Sq T l i)) st.2)) else st
def TL (T : Nat → Nat) (l i : Nat) : Nat × vst := itr (fun i st => TLs T l i st) i 0 (0, vst0)
theorem TL_s (T : Nat → Nat) (l i : Nat) : TL T l (i + 1) = TLs T l i (TL T l i) := by
  show itr _ (i + 1) 0 _ = _
  rw [itr_s, Nat.zero_add]
  rfl
theorem WV_TL (T : Nat → Nat) (l : Nat) : ∀ i, WV (TL T l i).2
  | 0 => WV0
  | i + 1 => by
    have ih := WV_TL T l i
    rw [TL_s]
    unfold TLs
    split
    · split
      · exact WV_tlg _ _ ih
      · exact WV_tlg _ _ ih
    · exact ih
theorem TL_le (T : Nat → Nat) (l : Nat) : ∀ i, (TL T l i).1 ≤ i
  | 0 => Nat.le_refl 0
  | i + 1 => by
    have ih := TL_le T l i
    rw [TL_s]
    unfold TLs
    split
    · split
      · exact Nat.le_refl _
      · exact Nat.zero_le _
    · omega
def stp2 (T : Nat → Nat) (l i : Nat) : Bool := decide (Sq T l i = l) || !decide (itF T l (Sq T l i) = 1000)
def nst (T : Nat → Nat) (l : Nat) : Nat := lst (stp2 T l) 41 0
theorem Sq_p {T : Nat → Nat} {l : Nat} (hl : l ≤ 200) : ∀ i, (∀ j, j < i → stp2 T l j = false) → Sq T l i ≤ l ∧ 5 * i ≤ Sq T l i
  | 0, _ => ⟨(skp_p (T := T) (Nat.zero_le l)).2.1, Nat.zero_le _⟩
  | i + 1, h => by
    obtain ⟨h1, h2⟩ := Sq_p hl i (fun j hj => h j (by omega))
    have h3 := h i (by omega)
    unfold stp2 at h3
    rw [Bool.or_eq_false_iff, Bool.not_eq_false'] at h3
    obtain ⟨-, -, -, k1, k2⟩ := it_ok h1 hl (of_decide_eq_true h3.2)
    have h4 := skp_p (T := T) k2
    rw [Sq_s]
    omega
theorem nst_p {T : Nat → Nat} {l : Nat} (hl : l ≤ 200) : nst T l < 41 ∧ stp2 T l (nst T l) = true ∧ (∀ u, u < nst T l → Sq T l u ≠ l ∧ itF T l (Sq T l u) = 1000) ∧ ∀ i, i ≤ nst T l → Sq T l i ≤ l ∧ 5 * i ≤ Sq T l i := by
  obtain ⟨k1, k2, k3, k4⟩ := lst_q (stp2 T l) 41 0
  have k4 : ∀ u, u < nst T l → stp2 T l u = false := fun u hu => k4 u (Nat.zero_le u) hu
  have hS : ∀ i, i ≤ nst T l → Sq T l i ≤ l ∧ 5 * i ≤ Sq T l i := fun i hi => Sq_p hl i (fun j hj => k4 j (by omega))
  have hlt : nst T l < 41 := by
    have h1 := hS (nst T l) (Nat.le_refl _)
    have h2 : nst T l ≤ 0 + 41 := k2
    omega
  refine ⟨hlt, k3 (by show nst T l < 0 + 41; omega), fun u hu => ?_, hS⟩
  have h3 := k4 u hu
  unfold stp2 at h3
  rw [Bool.or_eq_false_iff, Bool.not_eq_false'] at h3
  exact ⟨of_decide_eq_false h3.1, of_decide_eq_true h3.2⟩
def rdA (T : Nat → Nat) (l : Nat) : Int32 := if Sq T l (nst T l) = l then (if (TL T l (nst T l)).1 = 0 then nI (nst T l) else (-1000 : Int32) - nI ((TL T l (nst T l)).1 - 1)) else (-10 : Int32) - nI (itF T l (Sq T l (nst T l)))
theorem c_fill6 {k : Nat} (μ : jm) : ∃ m, cj 1 [jR 1006 k, jI (0 : Int32)] μ = some (none, m) ∧ (∀ c, c < 6 → gI m k c = nI 0) ∧ fI k k μ m := by
  rw [e_Arrays_fill_IIV]
  obtain ⟨m, e1, e2, e3⟩ := lp_r (W := fun i (m : jm) => evj 1 5 [jR 1006 k, jI (0 : Int32), jI (nI i), jI (nI 6)] [] m) (n := 6) (fun i m => (∀ c, c < i → gI m k c = nI 0) ∧ fI k k μ m) (fun i m hi hI => by
    obtain ⟨hc, hf⟩ := hI
    show ∃ a', evj _ _ _ _ _ = evj _ _ _ _ _ ∧ _
    rw [e_Arrays_fill_IIV_5, bk_le (by omega) (by omega), jbr_n (by omega), inB_nI (by omega) (by omega), jgd_t, ixn (by omega), show nI i + 1 = nI (i + 1) from nI_add i 1]
    refine ⟨_, rfl, fun c hc2 => ?_, fI_t hf (fI_s m (by omega) (by omega))⟩
    by_cases e : c = i
    · subst e; rw [gI_eq]; rfl
    · rw [gI_ne _ (by omega)]; exact hc c (by omega)) 6 0 μ (by omega) ⟨fun c hc => absurd hc (Nat.not_lt_zero c), fI_r _ _ _⟩
  refine ⟨m, e1.trans ?_, e2, e3⟩
  show evj _ _ _ _ _ = _
  rw [e_Arrays_fill_IIV_5, jbr_p (by decide)]
theorem c_emp (μ : jm) : ∃ m, cj 27 [jR 8 12] μ = some (none, m) ∧ CV m 12 vst0 ∧ okC 12 μ m := by
  obtain ⟨m1, a1, a2, a3⟩ := c_fill6 (k := 12 + 1) μ
  obtain ⟨m2, b1, b2, b3⟩ := c_fill6 (k := 12 + 2) m1
  rw [e_Valley_becomeEmpty, a1, bV_some, b1, bV_some]
  refine ⟨_, rfl, ⟨fun a ha => ?_, fun a ha => ?_, ?_, fun p hp => absurd hp (Nat.not_lt_zero p), ?_, fun p hp => absurd hp (Nat.not_lt_zero p), ?_, ?_, fun p hp => absurd hp (Nat.not_lt_zero p), ?_, fun p hp => absurd hp (Nat.not_lt_zero p)⟩, ?_⟩
  · rw [gI_ne _ (by omega), gI_ne _ (by omega), gI_ne _ (by omega), gI_ne _ (by omega), gI_ne _ (by omega), fI_g b3 (by omega)]
    exact a2 a ha
  · rw [gI_ne _ (by omega), gI_ne _ (by omega), gI_ne _ (by omega), gI_ne _ (by omega), gI_ne _ (by omega)]
    exact b2 a ha
  · rw [gI_ne _ (by omega), gI_ne _ (by omega), gI_ne _ (by omega), gI_ne _ (by omega), gI_eq]; rfl
  · rw [gI_ne _ (by omega), gI_ne _ (by omega), gI_ne _ (by omega), gI_eq]; rfl
  · rw [gI_ne _ (by omega), gI_ne _ (by omega), gI_eq]; rfl
  · rw [gI_ne _ (by omega), gI_eq]; rfl
  · rw [gI_eq]; rfl
  · exact okC_t (fun a b h => a3 a b (by omega)) (okC_t (fun a b h => b3 a b (by omega)) (okC_t (okC_t (okC_t (okC_t (okC_sI 12 _ (by omega) (by omega)) (okC_sI 12 _ (by omega) (by omega))) (okC_sI 12 _ (by omega) (by omega))) (okC_sI 12 _ (by omega) (by omega))) (okC_sI 12 _ (by omega) (by omega))))
def fX (m m' : jm) : Prop := ∀ a b, (a < 12 ∨ 22 < a) → ¬ (a = 46 ∧ 2 ≤ b ∧ b ≤ 6) → a ≠ 48 → m'.1 a b = m.1 a b ∧ m'.2 a b = m.2 a b
theorem fX_t {a b c : jm} (h : fX a b) (h2 : fX b c) : fX a c := fun x y h3 h4 h5 => ⟨(h2 x y h3 h4 h5).1.trans (h x y h3 h4 h5).1, (h2 x y h3 h4 h5).2.trans (h x y h3 h4 h5).2⟩
theorem fX_o {a b : jm} (h : okC 12 a b) : fX a b := fun x y h3 _ _ => h x y (by omega)
theorem fX_J {a b : jm} (h : fJ2 a b) : fX a b := fun x y _ h4 h5 => ⟨h.1 x y h4 h5, h.2 x y⟩
theorem TX_X {m m' : jm} {T : Nat → Nat} {l : Nat} (h : fX m m') (hx : TX m T l) : TX m' T l := ⟨hx.1, (h 46 1 (by omega) (by omega) (by omega)).1.trans hx.2.1, fun i hi => ⟨(hx.2.2 i hi).1, (h 47 i (by omega) (by omega) (by omega)).1.trans (hx.2.2 i hi).2⟩⟩
theorem AT_o {m m' : jm} {T : Nat → Nat} {l q : Nat} (h : okC 12 m m') (hA : AT m T l q) : AT m' T l q := ⟨(h 46 2 (by omega)).1.trans hA.1, (h 46 4 (by omega)).1.trans hA.2.1, (h 46 3 (by omega)).1.trans hA.2.2.1, fun z => (h 46 5 (by omega)).1.trans (hA.2.2.2 z)⟩
theorem CV_J {m m' : jm} {v : vst} {k : Nat} (h : fJ2 m m') (hk : k + 10 < 46 ∨ 48 < k) (hv : CV m k v) : CV m' k v := CV_of (fun a b _ _ => h.1 a b (by omega) (by omega)) hv
theorem c_tTo {μ : jm} {T : Nat → Nat} {l : Nat} (hx : TX μ T l) : ∃ m, cj 84 [jR 7 46, jR 8 12] μ = some (some (jI (rdA T l)), m) ∧ (Sq T l (nst T l) = l → CV m 12 (TL T l (nst T l)).2) ∧ fX μ m := by
  have hl := hx.1
  obtain ⟨n1, n2, n3, n4⟩ := nst_p (T := T) hl
  obtain ⟨m0, a1, a2, a3⟩ := c_emp μ
  have f0 : fX μ (sI m0 46 2 (0 : Int32)) := fX_t (fX_o a3) (fun a b _ h _ => ⟨if_neg (by omega), rfl⟩)
  obtain ⟨m1, b1, b2, b3, b4, b5, b6⟩ := c_tok (TX_X f0 hx) (p := 0) (by rw [gI_eq]; rfl) (Nat.zero_le l)
  have hA0 : AT m1 T l (Sq T l 0) := ⟨b2, b3, b4, b5⟩
  have hV0 : CV m1 12 (TL T l 0).2 := CV_J (fJ_T b6) (by omega) (CV_of (fun a b _ _ => gI_ne _ (by omega)) a2)
  have hf0 := fX_t f0 (fX_J (fJ_T b6))
  rw [e_Text_tellTo, a1, bV_some, b1, bV_some]
  have fin : ∀ m, AT m T l (Sq T l (nst T l)) → CV m 12 (TL T l (nst T l)).2 → fX μ m → ∃ m', evj 84 17 [jR 7 46, jR 8 12, jI (nI (nst T l)), jI (nI (TL T l (nst T l)).1 - 1)] [] m = some (some (jI (rdA T l)), m') ∧ (Sq T l (nst T l) = l → CV m' 12 (TL T l (nst T l)).2) ∧ fX μ m' := fun m hA hV hf => by
    have hb := tkn_b T l (Sq T l (nst T l))
    have hTl := TL_le T l (nst T l)
    have hSl := (n4 (nst T l) (Nat.le_refl _)).1
    rw [e_Text_tellTo_17, hA.2.2.1, li0, bk_eq (by omega) (by omega)]
    unfold rdA
    by_cases hz : Sq T l (nst T l) = l
    · rw [jbr_p (tkn_0.mpr hz), if_pos hz, e_Text_tellTo_71, bk_n1 (by omega)]
      by_cases hr : (TL T l (nst T l)).1 = 0
      · rw [jbr_m hr, if_pos hr]
        exact ⟨m, rfl, fun _ => hV, hf⟩
      · rw [jbr_q hr, if_neg hr, show (nI (TL T l (nst T l)).1 - 1 : Int32) = nI ((TL T l (nst T l)).1 - 1) from kI_sub (b := 1) (by omega)]
        exact ⟨m, rfl, fun _ => hV, hf⟩
    · have hst : itF T l (Sq T l (nst T l)) ≠ 1000 := by
        have h := n2
        unfold stp2 at h
        rw [decide_eq_false hz, Bool.false_or, Bool.not_eq_true'] at h
        exact of_decide_eq_false h
      obtain ⟨m', x1, x2, x3, x4⟩ := c_item (TX_X hf hx) hA hSl
      rw [jbr_n (fun z => hz (tkn_0.mp z)), li200, bk_lt (by omega) (by omega), jbr_n (by omega), x1, bI_some, ← li0, bt_n (decide_eq_false hst), if_neg hz, x2 hst]
      exact ⟨m', rfl, fun z => absurd z hz, fX_t hf (fX_J x4)⟩
  refine lp_x (W := fun i (m : jm) => evj 84 17 [jR 7 46, jR 8 12, jI (nI i), jI (nI (TL T l i).1 - 1)] [] m) (n := nst T l) (fun o => ∃ m', o = some (some (jI (rdA T l)), m') ∧ (Sq T l (nst T l) = l → CV m' 12 (TL T l (nst T l)).2) ∧ fX μ m') (fun i m => AT m T l (Sq T l i) ∧ CV m 12 (TL T l i).2 ∧ fX μ m) (fun m hI => fin m hI.1 hI.2.1 hI.2.2) (fun i m hi hI => ?_) (nst T l) 0 m1 (by omega) ⟨hA0, hV0, hf0⟩
  obtain ⟨hA, hV, hf⟩ := hI
  obtain ⟨hne, hok⟩ := n3 i hi
  obtain ⟨hSl, hS5⟩ := n4 i (by omega)
  have hb := tkn_b T l (Sq T l i)
  have hTl := TL_le T l i
  obtain ⟨o1, o2, o3, o4, o5⟩ := it_ok hSl hl hok
  obtain ⟨t1, t2, t3, t4, t5, t6⟩ := tkn_1 o1 hSl
  obtain ⟨m', x1, x2, x3, x4⟩ := c_item (TX_X hf hx) hA hSl
  obtain ⟨y1, y2, y3⟩ := x3 hok
  have hV1 := CV_J x4 (by omega) hV
  have go : ∀ (m2 : jm) (r : Nat), okC 12 m' m2 → r = (TL T l (i + 1)).1 → CV m2 12 (TL T l (i + 1)).2 → ∃ a' : jm, evj 84 61 [jR 7 46, jR 8 12, jI (nI i), jI (nI r - 1)] [] m2 = evj 84 17 [jR 7 46, jR 8 12, jI (nI (i + 1)), jI (nI (TL T l (i + 1)).1 - 1)] [] a' ∧ AT a' T l (Sq T l (i + 1)) ∧ CV a' 12 (TL T l (i + 1)).2 ∧ fX μ a' := fun m2 r ho hr hV2 => by
    have f2 : fX μ m2 := fX_t hf (fX_t (fX_J x4) (fX_o ho))
    obtain ⟨m3, z1, z2, z3, z4, z5, z6⟩ := c_tok (TX_X f2 hx) (p := itN T l (Sq T l i)) ((ho 46 2 (by omega)).1.trans y1) o5
    rw [e_Text_tellTo_61, z1, bV_some, show nI i + 1 = nI (i + 1) from nI_add i 1, hr]
    refine ⟨m3, rfl, ?_, CV_J (fJ_T z6) (by omega) hV2, fX_t f2 (fX_J (fJ_T z6))⟩
    rw [Sq_s]
    exact ⟨z2, z3, z4, z5⟩
  refine Or.inl ?_
  show ∃ a', evj _ _ _ _ _ = evj _ _ _ _ _ ∧ _
  rw [e_Text_tellTo_17, hA.2.2.1, li0, bk_eq (by omega) (by omega), jbr_n (by omega), li200, bk_lt (by omega) (by omega), jbr_n (by omega), x1, bI_some, ← li0, bt_p (decide_eq_true hok), bk_n1 (by omega)]
  by_cases hr : (TL T l i).1 = 0
  · obtain ⟨m2, w1, w2, w3⟩ := c_tell (x := tlx T l (Sq T l i)) (WV_TL T l i) hV1 t3 y2 y3
    rw [jbr_m hr, w1, bI_some]
    by_cases hneg : tlf (tkv T l (Sq T l i)) (tlx T l (Sq T l i)) (TL T l i).2 < 0
    · have e : TL T l (i + 1) = (i + 1, tlg (tkv T l (Sq T l i)) (tlx T l (Sq T l i)) (TL T l i).2) := by rw [TL_s]; unfold TLs; rw [if_pos hr, if_pos hneg]
      rw [jbr_n (fun z => absurd z (Int32.not_le.mpr hneg)), show jI (nI i) = jI (nI (i + 1) - 1) from by rw [nI_pred]]
      have := go m2 (i + 1) w3 (by rw [e]) (by rw [e]; exact w2)
      rw [nI_pred] at this ⊢
      exact this
    · have e : TL T l (i + 1) = (0, tlg (tkv T l (Sq T l i)) (tlx T l (Sq T l i)) (TL T l i).2) := by rw [TL_s]; unfold TLs; rw [if_pos hr, if_neg hneg]
      rw [jbr_p (Int32.not_lt.mp hneg), hr]
      exact go m2 0 w3 (by rw [e]) (by rw [e]; exact w2)
  · have e : TL T l (i + 1) = TL T l i := by rw [TL_s]; unfold TLs; rw [if_neg hr]
    rw [jbr_q hr]
    exact go m' (TL T l i).1 (okC_r 12 m') (by rw [e]) (by rw [e]; exact hV1)
theorem neg10 : ∀ a, a < 16 → ∀ b, b < 16 → ((-10 : Int32) - nI (16 * a + b)) < 0 := by decide +kernel
theorem neg1000 : ∀ a, a < 64 → ((-1000 : Int32) - nI a) < 0 := by decide +kernel
def gRd (S : sst) : sst := if Sq (sT S) (stl S) (nst (sT S) (stl S)) = stl S ∧ (TL (sT S) (stl S) (nst (sT S) (stl S))).1 = 0 then setV S (TL (sT S) (stl S) (nst (sT S) (stl S))).2 else S
theorem rdA_n {T : Nat → Nat} {l : Nat} (hl : l ≤ 200) : (rdA T l < 0) ↔ ¬ (Sq T l (nst T l) = l ∧ (TL T l (nst T l)).1 = 0) := by
  obtain ⟨n1, n2, n3, n4⟩ := nst_p (T := T) hl
  have hTl := TL_le T l (nst T l)
  have hSl := (n4 (nst T l) (Nat.le_refl _)).1
  unfold rdA
  by_cases hz : Sq T l (nst T l) = l
  · rw [if_pos hz]
    by_cases hr : (TL T l (nst T l)).1 = 0
    · rw [if_pos hr]
      refine ⟨fun h => absurd h (by rw [lt0, nI_toInt (by omega)]; omega), fun h => absurd ⟨hz, hr⟩ h⟩
    · rw [if_neg hr]
      exact ⟨fun _ z => hr z.2, fun _ => neg1000 _ (by omega)⟩
  · rw [if_neg hz]
    refine ⟨fun _ z => hz z.1, fun _ => ?_⟩
    have hst : itF T l (Sq T l (nst T l)) ≠ 1000 := by
      have h := n2
      unfold stp2 at h
      rw [decide_eq_false hz, Bool.false_or, Bool.not_eq_true'] at h
      exact of_decide_eq_false h
    have hb := itF_b hSl hst
    exact s16 (P := fun x => ((-10 : Int32) - nI x) < 0) neg10 (by omega)
theorem c_read {μ : jm} {S : sst} (hW : WS S) (hC : CS μ S) : ∃ m, cj 106 [jR 9 0] μ = some (some (jI (rdA (sT S) (stl S))), m) ∧ CS m (gRd S) ∧ oc μ m := by
  have hl : stl S ≤ 200 := hW.2.2.2.2.1
  have hx : TX μ (sT S) (stl S) := ⟨hl, hC.2.2.2.2.1, fun i hi => ⟨hW.2.2.2.2.2 i hi, hC.2.2.2.2.2.1 i hi⟩⟩
  obtain ⟨m, e1, e2, e3⟩ := c_tTo hx
  have hC1 : CS m S := by
    obtain ⟨h1, h2, h3, h4, h5, h6, h7, h8, h9, h10, h11⟩ := hC
    have g : ∀ a b, (a < 12 ∨ 22 < a) → ¬ (a = 46 ∧ 2 ≤ b ∧ b ≤ 6) → a ≠ 48 → gI m a b = gI μ a b := fun a b x y z => (e3 a b x y z).1
    exact ⟨CV_of (fun a b _ _ => g a b (by omega) (by omega) (by omega)) h1, CV_of (fun a b _ _ => g a b (by omega) (by omega) (by omega)) h2, CV_of (fun a b _ _ => g a b (by omega) (by omega) (by omega)) h3, by rw [g _ _ (by omega) (by omega) (by omega)]; exact h4, by rw [g _ _ (by omega) (by omega) (by omega)]; exact h5, fun i hi => by rw [g _ _ (by omega) (by omega) (by omega)]; exact h6 i hi, (e3 49 0 (by omega) (by omega) (by omega)).2.trans h7, (e3 49 1 (by omega) (by omega) (by omega)).2.trans h8, by rw [g _ _ (by omega) (by omega) (by omega)]; exact h9, by rw [g _ _ (by omega) (by omega) (by omega)]; exact h10, by rw [g _ _ (by omega) (by omega) (by omega)]; exact h11⟩
  have ho : oc μ m := fun a b ha => e3 a b (by omega) (by omega) (by omega)
  rw [e_N_read, e1, bI_some]
  unfold gRd
  by_cases hz : Sq (sT S) (stl S) (nst (sT S) (stl S)) = stl S ∧ (TL (sT S) (stl S) (nst (sT S) (stl S))).1 = 0
  · rw [jbr_n (fun z => (rdA_n hl).mp z hz), if_pos hz]
    obtain ⟨m2, c1, c2, c3⟩ := c_cpA (k1 := 1) (k2 := 12) (by omega) (WV_TL (sT S) (stl S) _) (e2 hz.1)
    rw [c1, bV_some]
    exact ⟨m2, rfl, CS_setV hC1 c2 (fun a b h => c3 a b (by omega)), oc_t ho (fun a b h => c3 a b (by omega))⟩
  · rw [jbr_p ((rdA_n hl).mpr hz), if_neg hz]
    exact ⟨m, rfl, hC1, ho⟩
