/-! read: the reference reads all; read -/
theorem TL_st {T : Nat → Nat} {l i : Nat} (h : (TL T l i).1 ≠ 0) : ∀ d, TL T l (i + d) = TL T l i
  | 0 => rfl
  | d + 1 => by
    have ih := TL_st h d
    rw [← Nat.add_assoc, TL_s, ih]
    unfold TLs
    rw [if_neg h]
theorem MV_z {μ : jm} (h : ∀ b, b < 140 → gI μ 65 (420 + b) = 0) : MV μ 420 vst0 := by
  have hz : ∀ b, nI (if Nat.testBit 0 b = true then 1 else 0) = (0 : Int32) := fun b => by rw [Nat.zero_testBit]; rfl
  refine ⟨fun a b ha hb => ?_, fun a b ha hb => ?_, h 72 (by omega), fun p hp => absurd hp (Nat.not_lt_zero p), h 101 (by omega), fun p hp => absurd hp (Nat.not_lt_zero p), h 118 (by omega), h 119 (by omega), fun p hp => absurd hp (Nat.not_lt_zero p), h 126 (by omega), fun p hp => absurd hp (Nat.not_lt_zero p)⟩
  · rw [show vD vst0 a = 0 from rfl, hz, Nat.add_assoc]
    exact h (6 * a + b) (by omega)
  · rw [show vE vst0 a = 0 from rfl, hz, Nat.add_assoc, Nat.add_assoc]
    exact h (36 + (6 * a + b)) (by omega)
def gR (m m' : jm) : Prop := ∀ a b, ¬ (a = 64 ∧ 9 ≤ b ∧ b ≤ 11) → a ≠ 69 → a ≠ 70 → m'.1 a b = m.1 a b ∧ m'.2 a b = m.2 a b
theorem gR_t {a b c : jm} (h : gR a b) (h2 : gR b c) : gR a c := fun x y h3 h4 h5 => ⟨(h2 x y h3 h4 h5).1.trans (h x y h3 h4 h5).1, (h2 x y h3 h4 h5).2.trans (h x y h3 h4 h5).2⟩
theorem gR_M {i : Nat} {a b : jm} (h : gM i a b) : gR a b := fun x y h3 _ _ => h x y h3 (by omega) (by omega)
theorem TM_R {m m' : jm} {T : Nat → Nat} {l : Nat} (h : gR m m') (hx : TM m T l) : TM m' T l := ⟨hx.1, (h 64 3 (by omega) (by omega) (by omega)).1.trans hx.2.1, fun j hj => ⟨(hx.2.2 j hj).1, (h 67 j (by omega) (by omega) (by omega)).1.trans (hx.2.2 j hj).2⟩⟩
/-- the items taken so far -/
def IT (m : jm) (T : Nat → Nat) (l i : Nat) : Prop := ∀ j, j < i → gI m 69 j = nI (tkv T l (Sq T l j)) ∧ ∀ k, k < cwn (tkv T l (Sq T l j)) → gI m 70 (4 * j + k) = nI (itV T l (Sq T l j) k)
theorem IT_M {m m' : jm} {T : Nat → Nat} {l i : Nat} (hc : ∀ j, j < i → cwn (tkv T l (Sq T l j)) ≤ 4) (h : gM i m m') (hI : IT m T l i) : IT m' T l i := fun j hj => by
  obtain ⟨h1, h2⟩ := hI j hj
  have h4 := hc j hj
  exact ⟨(h 69 j (by omega) (by omega) (by omega)).1.trans h1, fun k hk => (h 70 (4 * j + k) (by omega) (by omega) (by omega)).1.trans (h2 k hk)⟩
theorem m_take {μ : jm} {T : Nat → Nat} {l : Nat} (hx : TM μ T l) : ∃ m, gR μ m ∧ ((Sq T l (nst T l) = l ∧ cj 160 [jR 10 64] μ = evj 160 55 [jR 10 64, jI (0 : Int32)] [] m ∧ gI m 64 9 = nI (nst T l) ∧ IT m T l (nst T l)) ∨ (Sq T l (nst T l) ≠ l ∧ cj 160 [jR 10 64] μ = some (some (jI ((-10 : Int32) - nI (itF T l (Sq T l (nst T l))))), m))) := by
  have hl := hx.1
  obtain ⟨n1, n2, n3, n4⟩ := nst_p (T := T) hl
  have hc4 : ∀ i, i ≤ nst T l → ∀ j, j < i → cwn (tkv T l (Sq T l j)) ≤ 4 := fun i hi j hj => by
    obtain ⟨o1, -⟩ := it_ok (n4 j (by omega)).1 hl (n3 j (by omega)).2
    exact (cwn_d _ (tkn_1 o1 (n4 j (by omega)).1).2.2.1).2.2
  have f0 : gR μ (sI (sI (sI μ 64 10 (0 : Int32)) 64 9 (0 : Int32)) 64 11 (-1 : Int32)) := fun a b h _ _ => ⟨((if_neg (by omega)).trans (if_neg (by omega))).trans (if_neg (by omega)), rfl⟩
  obtain ⟨m1, a1, ⟨p, hp, a2, a3⟩, a4, a5, a6, a7⟩ := lp_r (W := fun (_ : Nat) (m : jm) => evj 160 15 [jR 10 64, jU] [] m) (n := nst T l) (fun i m => (∃ p, p ≤ l ∧ gI m 64 10 = nI p ∧ skp T l p = Sq T l i) ∧ gI m 64 9 = nI i ∧ gI m 64 11 = -1 ∧ IT m T l i ∧ gR μ m) (fun i m hi hI => by
    obtain ⟨⟨p, hp, i1, i2⟩, i3, i4, i5, i6⟩ := hI
    show ∃ a', evj _ _ _ _ _ = evj _ _ _ _ _ ∧ _
    obtain ⟨hne, hok⟩ := n3 i hi
    obtain ⟨hSl, hS5⟩ := n4 i (by omega)
    have hi40 : i < 40 := by omega
    obtain ⟨o1, o2, o3, o4, o5⟩ := it_ok hSl hl hok
    have hx1 := TM_R i6 hx
    obtain ⟨m2, x1, x2, x3, x4⟩ := m_end hx1 i1 hp
    rw [i2] at x1 x2
    obtain ⟨m3, y1, y2, y3, y4, y5⟩ := m_item (TM_g x4 hx1) x2 (x3.trans i4) ((x4 64 9 (by omega)).1.trans i3) hi40 (Nat.lt_of_le_of_ne hSl hne)
    obtain ⟨z1, z2, z3, z4⟩ := y4 hok
    rw [e_M_read_15, i4, jbr_m rfl, x1, bI_some, bt_n (decide_eq_false hne), y1, bV_some]
    refine ⟨m3, rfl, ⟨itN T l (Sq T l i), o5, z2, by rw [Sq_s]⟩, y2, z1, fun j hj => ?_, gR_t i6 (gR_M (gM_t (gM_g x4) y5))⟩
    by_cases e : j = i
    · subst e
      exact ⟨z3, z4⟩
    · exact IT_M (hc4 i (by omega)) (gM_t (gM_g x4) y5) i5 j (by omega)) (nst T l) 0 (sI (sI (sI μ 64 10 (0 : Int32)) 64 9 (0 : Int32)) 64 11 (-1 : Int32)) (by omega) ⟨⟨0, Nat.zero_le l, by rw [gI_ne _ (by omega), gI_ne _ (by omega), gI_eq]; rfl, rfl⟩, by rw [gI_ne _ (by omega), gI_eq]; rfl, gI_eq _ _ _ _, fun j hj => absurd hj (Nat.not_lt_zero j), f0⟩
  have a1 : evj 160 15 [jR 10 64, jU] [] (sI (sI (sI μ 64 10 (0 : Int32)) 64 9 (0 : Int32)) 64 11 (-1 : Int32)) = evj 160 15 [jR 10 64, jU] [] m1 := a1
  obtain ⟨hSl, hS5⟩ := n4 (nst T l) (Nat.le_refl _)
  have hx1 := TM_R a7 hx
  obtain ⟨m2, x1, x2, x3, x4⟩ := m_end hx1 a2 hp
  rw [a3] at x1 x2
  rw [e_M_read, a1, e_M_read_15, a5, jbr_m rfl, x1, bI_some]
  by_cases hz : Sq T l (nst T l) = l
  · refine ⟨m2, gR_t a7 (gR_M (gM_g (i := 0) x4)), Or.inl ⟨hz, ?_, (x4 64 9 (by omega)).1.trans a4, IT_M (hc4 _ (Nat.le_refl _)) (gM_g x4) a6⟩⟩
    rw [bt_p (decide_eq_true hz), x3, a5, jbr_p rfl]
  · have hst : itF T l (Sq T l (nst T l)) ≠ 1000 := by
      have h := n2
      unfold stp2 at h
      rw [decide_eq_false hz, Bool.false_or, Bool.not_eq_true'] at h
      exact of_decide_eq_false h
    have hF := itF_b hSl hst
    have hi40 : nst T l < 40 := by omega
    obtain ⟨m3, y1, y2, y3, y4, y5⟩ := m_item (TM_g x4 hx1) x2 (x3.trans a5) ((x4 64 9 (by omega)).1.trans a4) hi40 (Nat.lt_of_le_of_ne hSl hz)
    refine ⟨m3, gR_t a7 (gR_M (gM_t (gM_g x4) y5)), Or.inr ⟨hz, ?_⟩⟩
    rw [bt_n (decide_eq_false hz), y1, bV_some, e_M_read_15, y3 hst, jbr_q (nI_nm1 (by omega)), jbr_n (nI_nm1 (by omega))]
theorem m_zero (μ : jm) : ∃ m, evj 160 55 [jR 10 64, jI (0 : Int32)] [] μ = evj 160 81 [jR 10 64, jI (0 : Int32)] [] m ∧ MV m 420 vst0 ∧ okM 420 μ m := by
  obtain ⟨m, a1, a2, a3⟩ := lp_r (W := fun i (m : jm) => evj 160 55 [jR 10 64, jI (nI i)] [] m) (n := 140) (fun i m => (∀ b, b < i → gI m 65 (420 + b) = 0) ∧ okM 420 μ m) (fun i m hi hI => by
    obtain ⟨i1, i2⟩ := hI
    show ∃ a', evj _ _ _ _ _ = evj _ _ _ _ _ ∧ _
    rw [e_M_read_55, li140, bk_le (by omega) (by omega), jbr_n (by omega), li420, nI_add, inB_nI (by omega) (by omega), jgd_t, ixn (by omega), show nI i + 1 = nI (i + 1) from nI_add i 1]
    refine ⟨_, rfl, fun b hb => ?_, okM_t i2 (fun a b h => ⟨if_neg (by omega), rfl⟩)⟩
    by_cases e : b = i
    · rw [e, gI_eq]
    · rw [gI_ne _ (by omega)]; exact i1 b (by omega)) 140 0 μ (by omega) ⟨fun b hb => absurd hb (Nat.not_lt_zero b), okM_r 420 μ⟩
  refine ⟨m, Eq.trans a1 ?_, MV_z a2, a3⟩
  show evj _ _ _ _ _ = _
  rw [e_M_read_55, jbr_p (by decide)]
theorem m_read {μ : jm} {S : sst} (hW : WS S) (hM : MS μ S) : ∃ m, cj 160 [jR 10 64] μ = some (some (jI (rdA (sT S) (stl S))), m) ∧ MS m (gRd S) ∧ om μ m := by
  have hl : stl S ≤ 200 := hW.2.2.2.2.1
  have hx : TM μ (sT S) (stl S) := ⟨hl, hM.2.2.2.2.2.1, fun i hi => ⟨hW.2.2.2.2.2 i hi, hM.2.2.2.2.2.2.1 i hi⟩⟩
  obtain ⟨n1, n2, n3, n4⟩ := nst_p (T := sT S) hl
  obtain ⟨m0, f0, h⟩ := m_take hx
  have same : ∀ m, (∀ a b, ¬ (a = 64 ∧ 9 ≤ b ∧ b ≤ 11) → a ≠ 69 → a ≠ 70 → ¬ (a = 65 ∧ 420 ≤ b) → m.1 a b = μ.1 a b ∧ m.2 a b = μ.2 a b) → MS m S ∧ om μ m := fun m hm => ⟨MS_setV (v := sv S) hW hM (MV_of (fun b _ hb => (hm 65 b (by omega) (by omega) (by omega) (by omega)).1) hW.1 hM.1) (fun a b h1 h2 => hm a b (by omega) (by omega) (by omega) (by omega)), fun a b h1 => hm a b (by omega) (by omega) (by omega) (by omega)⟩
  rcases h with ⟨hz, e1, h9, hIT⟩ | ⟨hz, e1⟩
  · obtain ⟨m1, b1, b2, b3⟩ := m_zero m0
    rw [e1, b1]
    refine lp_x (W := fun i (m : jm) => evj 160 81 [jR 10 64, jI (nI i)] [] m) (n := nst (sT S) (stl S)) (fun o => ∃ m, o = some (some (jI (rdA (sT S) (stl S))), m) ∧ MS m (gRd S) ∧ om μ m) (fun i m => (TL (sT S) (stl S) i).1 = 0 ∧ MV m 420 (TL (sT S) (stl S) i).2 ∧ okM 420 m0 m) (fun m hI => ?_) (fun i m hi hI => ?_) (nst (sT S) (stl S)) 0 m1 (by omega) ⟨rfl, b2, b3⟩
    · obtain ⟨i1, i2, i3⟩ := hI
      show ∃ m', evj _ _ _ _ _ = _ ∧ _
      obtain ⟨m2, c1, c2, c3⟩ := m_cp (r1 := 420) (r2 := 0) (by omega) (by omega) (by omega) m
      have h92 : gI m 64 9 = nI (nst (sT S) (stl S)) := (i3 64 9 (by omega)).1.trans h9
      have c1 : cj 168 [jR 10 64, jI (420 : Int32), jI (0 : Int32)] m = some (none, m2) := c1
      have h93 : gI m2 64 9 = nI (nst (sT S) (stl S)) := (c3 64 9 (by omega)).1.trans h92
      rw [e_M_read_81, h92, bk_le (by omega) (by omega), jbr_p (Nat.le_refl _), c1, bV_some, h93]
      unfold rdA gRd
      rw [if_pos hz, if_pos i1, if_pos ⟨hz, i1⟩]
      refine ⟨m2, rfl, MS_setV hW hM (MV_cp (WV_TL (sT S) (stl S) _) c2 i2) (fun a b h1 h2 => ?_), fun a b h1 => ?_⟩
      · have q1 := c3 a b (by omega)
        have q2 := i3 a b (by omega)
        have q3 := f0 a b (by omega) (by omega) (by omega)
        exact ⟨q1.1.trans (q2.1.trans q3.1), q1.2.trans (q2.2.trans q3.2)⟩
      · have q1 := c3 a b (by omega)
        have q2 := i3 a b (by omega)
        have q3 := f0 a b (by omega) (by omega) (by omega)
        exact ⟨q1.1.trans (q2.1.trans q3.1), q1.2.trans (q2.2.trans q3.2)⟩
    · obtain ⟨i1, i2, i3⟩ := hI
      show (∃ a', evj _ _ _ _ _ = evj _ _ _ _ _ ∧ _) ∨ ∃ m', evj _ _ _ _ _ = _ ∧ _
      obtain ⟨hne, hok⟩ := n3 i hi
      obtain ⟨hSl, hS5⟩ := n4 i (by omega)
      obtain ⟨o1, o2, o3, o4, o5⟩ := it_ok hSl hl hok
      obtain ⟨t1, t2, t3, t4, t5, t6⟩ := tkn_1 o1 hSl
      obtain ⟨k1, k2⟩ := hIT i hi
      have h92 : gI m 64 9 = nI (nst (sT S) (stl S)) := (i3 64 9 (by omega)).1.trans h9
      obtain ⟨m2, w1, w2, w3⟩ := m_tell (x := tlx (sT S) (stl S) (Sq (sT S) (stl S) i)) (WV_TL (sT S) (stl S) i) i2 (show i < 40 by omega) t3 ((i3 69 i (by omega)).1.trans k1) (fun k hk => (i3 70 (4 * i + k) (by omega)).1.trans (k2 k hk))
      rw [e_M_read_81, h92, bk_le (by omega) (by omega), jbr_n (by omega), w1, bI_some]
      by_cases hneg : tlf (tkv (sT S) (stl S) (Sq (sT S) (stl S) i)) (tlx (sT S) (stl S) (Sq (sT S) (stl S) i)) (TL (sT S) (stl S) i).2 < 0
      · have e : TL (sT S) (stl S) (i + 1) = (i + 1, tlg (tkv (sT S) (stl S) (Sq (sT S) (stl S) i)) (tlx (sT S) (stl S) (Sq (sT S) (stl S) i)) (TL (sT S) (stl S) i).2) := by rw [TL_s]; unfold TLs; rw [if_pos i1, if_pos hneg]
        have e1 : (TL (sT S) (stl S) (i + 1)).1 = i + 1 := by rw [e]
        have e2 : (TL (sT S) (stl S) (nst (sT S) (stl S))).1 = i + 1 := by
          have := TL_st (T := sT S) (l := stl S) (i := i + 1) (by omega) (nst (sT S) (stl S) - (i + 1))
          rw [show i + 1 + (nst (sT S) (stl S) - (i + 1)) = nst (sT S) (stl S) from by omega] at this
          rw [this, e1]
        refine Or.inr ?_
        rw [jbr_n (fun z => absurd z (Int32.not_le.mpr hneg))]
        unfold rdA gRd
        rw [if_pos hz, e2, if_neg (by omega), if_neg (by omega)]
        refine ⟨m2, rfl, same m2 (fun a b h1 h2 h3 h4 => ?_)⟩
        have q1 := w3 a b (by omega)
        have q2 := i3 a b (by omega)
        have q3 := f0 a b h1 h2 h3
        exact ⟨q1.1.trans (q2.1.trans q3.1), q1.2.trans (q2.2.trans q3.2)⟩
      · have e : TL (sT S) (stl S) (i + 1) = (0, tlg (tkv (sT S) (stl S) (Sq (sT S) (stl S) i)) (tlx (sT S) (stl S) (Sq (sT S) (stl S) i)) (TL (sT S) (stl S) i).2) := by rw [TL_s]; unfold TLs; rw [if_pos i1, if_neg hneg]
        refine Or.inl ?_
        rw [jbr_p (Int32.not_lt.mp hneg), show nI i + 1 = nI (i + 1) from nI_add i 1]
        exact ⟨m2, rfl, by rw [e], by rw [e]; exact w2, okM_t i3 w3⟩
  · rw [e1]
    unfold rdA gRd
    rw [if_neg hz, if_neg (fun z => hz z.1)]
    exact ⟨m0, rfl, same m0 (fun a b h1 h2 h3 _ => f0 a b h1 h2 h3)⟩
theorem WS_gRd {S : sst} (h : WS S) : WS (gRd S) := by
  unfold gRd
  split
  · exact WS_setV h (WV_TL _ _ _)
  · exact h
theorem op_read : opI 106 160 [] Rel := opI_of (fun S => rdA (sT S) (stl S)) gRd (fun _ h => WS_gRd h) (fun _ _ hW hC => c_read hW hC) (fun _ _ hW hM => m_read hW hM)
