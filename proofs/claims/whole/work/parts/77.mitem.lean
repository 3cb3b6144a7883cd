/-! read: the reference's items -/
theorem m_nof {w : Nat} (hw : w < 6) (μ : jm) : cj 165 [jI (nI w)] μ = some (some (jI (nI (cwn w))), μ) := by
  rw [e_M_numbersOf]
  match w, hw with
  | 0, _ => rw [jbr_p (by decide), jbr_p (by decide), jbr_p (by decide)]; rfl
  | 1, _ => rw [jbr_p (by decide), jbr_p (by decide), jbr_p (by decide)]; rfl
  | 2, _ => rw [jbr_p (by decide), jbr_n (by decide)]; rfl
  | 3, _ => rw [jbr_p (by decide), jbr_p (by decide), jbr_p (by decide)]; rfl
  | 4, _ => rw [jbr_n (by decide)]; rfl
  | 5, _ => rw [jbr_p (by decide), jbr_p (by decide), jbr_n (by decide)]; rfl
theorem wno_no {T : Nat → Nat} {l q : Nat} (hq : q < l) (h : tkn T l q ≠ 1) : ¬ wno T q (wen T l q) 6 < 6 := fun hw => by
  cases hL : isl (T q)
  · obtain ⟨s1, s2, s3, s4⟩ := wen_p (T := T) (l := l) (p := q) (by omega)
    have he : wen T l q = q := by
      by_cases e : wen T l q = q
      · exact e
      · have := s4 q (Nat.le_refl q) (by omega)
        rw [hL] at this
        exact absurd this (by decide)
    rcases wno_6 T q (wen T l q) 6 (Nat.le_refl 6) with h6 | ⟨h6, hm⟩
    · omega
    · have := ((mtc_i T q (wen T l q) _).mp hm).1
      have hb := jwl_b _ h6
      omega
  · apply h
    unfold tkn
    rw [if_neg (by omega), hL, if_pos rfl, if_pos hw]
/-- only an item's rows changed, and the reading's fields -/
def gM (i : Nat) (m m' : jm) : Prop := ∀ a b, ¬ (a = 64 ∧ 9 ≤ b ∧ b ≤ 11) → ¬ (a = 69 ∧ b = i) → ¬ (a = 70 ∧ 4 * i ≤ b ∧ b < 4 * i + 4) → m'.1 a b = m.1 a b ∧ m'.2 a b = m.2 a b
theorem gM_t {i : Nat} {a b c : jm} (h : gM i a b) (h2 : gM i b c) : gM i a c := fun x y h3 h4 h5 => ⟨(h2 x y h3 h4 h5).1.trans (h x y h3 h4 h5).1, (h2 x y h3 h4 h5).2.trans (h x y h3 h4 h5).2⟩
theorem gM_g {i : Nat} {a b : jm} (h : gT a b) : gM i a b := fun x y h3 _ _ => h x y (by omega)
theorem gM_64 (i : Nat) (m : jm) {j : Nat} {y : Int32} (h1 : 9 ≤ j) (h2 : j ≤ 11) : gM i m (sI m 64 j y) := fun a b h _ _ => ⟨if_neg (by omega), rfl⟩
theorem gM_69 (i : Nat) (m : jm) {y : Int32} : gM i m (sI m 69 i y) := fun a b _ h _ => ⟨if_neg (by omega), rfl⟩
theorem gM_70 (i : Nat) (m : jm) {j : Nat} {y : Int32} (h1 : j < 4) : gM i m (sI m 70 (4 * i + j) y) := fun a b _ _ h => ⟨if_neg (by omega), rfl⟩
theorem TM_M {i : Nat} {m m' : jm} {T : Nat → Nat} {l : Nat} (h : gM i m m') (hx : TM m T l) : TM m' T l := ⟨hx.1, (h 64 3 (by omega) (by omega) (by omega)).1.trans hx.2.1, fun j hj => ⟨(hx.2.2 j hj).1, (h 67 j (by omega) (by omega) (by omega)).1.trans (hx.2.2 j hj).2⟩⟩
theorem m_i56 {μ m : jm} {i f : Nat} (hf : f < 1000000) (h9 : gI μ 64 9 = nI i) (h11 : gI μ 64 11 = nI f) (hg : gM i m μ) : ∃ m', evj 162 56 [jR 10 64, jU, jU] [] μ = some (none, m') ∧ gI m' 64 9 = nI (i + 1) ∧ gI m' 64 11 = nI f ∧ gM i m m' := by
  rw [e_M_takeItem_56, h11, jbr_q (nI_nm1 hf)]
  refine ⟨_, rfl, ?_, ?_, gM_t hg (gM_t (gM_64 i _ (by omega) (by omega)) (gM_64 i _ (by omega) (by omega)))⟩
  · rw [gI_eq, gI_ne _ (by omega), h9, li1, nI_add]
  · rw [gI_ne _ (by omega), gI_ne _ (by omega), h11]
theorem m_item {m : jm} {T : Nat → Nat} {l q i : Nat} (hx : TM m T l) (h10 : gI m 64 10 = nI q) (h11 : gI m 64 11 = -1) (h9 : gI m 64 9 = nI i) (hi : i < 40) (hq : q < l) : ∃ m', cj 162 [jR 10 64] m = some (none, m') ∧ gI m' 64 9 = nI (i + 1) ∧ (itF T l q ≠ 1000 → gI m' 64 11 = nI (itF T l q)) ∧ (itF T l q = 1000 → gI m' 64 11 = -1 ∧ gI m' 64 10 = nI (itN T l q) ∧ gI m' 69 i = nI (tkv T l q) ∧ ∀ k, k < cwn (tkv T l q) → gI m' 70 (4 * i + k) = nI (itV T l q k)) ∧ gM i m m' := by
  have hl := hx.1
  obtain ⟨m1, w1, w2, w3, w4⟩ := m_word hx h10 (Nat.le_of_lt hq)
  have h91 : gI m1 64 9 = nI i := (w4 64 9 (by omega)).1.trans h9
  have ht := tke_l (T := T) (Nat.le_of_lt hq)
  rw [e_M_takeItem, w1, bI_some, h91, inB_nI hi (by omega), jgd_t, ixn (by omega)]
  by_cases h1 : tkn T l q = 1
  · obtain ⟨a1, a2, a3, a4, a5, a6⟩ := tkn_1 h1 (Nat.le_of_lt hq)
    obtain ⟨c0, c1, c2⟩ := cwn_d _ a3
    rw [← a4, if_pos a3] at w3
    rw [← a4, if_pos a3]
    rw [← a5] at w2
    obtain ⟨k1, k2, k3, k4⟩ := lst_q (fun k => !decide (tkn T l (skp T l (Pk T l (tke T l q) k)) = 2)) (cwn (tkv T l q)) 0
    have k2 : jbd2 T l (tke T l q) (cwn (tkv T l q)) ≤ cwn (tkv T l q) := by unfold jbd2; omega
    have k4 : ∀ k, k < jbd2 T l (tke T l q) (cwn (tkv T l q)) → tkn T l (skp T l (Pk T l (tke T l q) k)) = 2 := fun k hk => by
      have : (!decide (tkn T l (skp T l (Pk T l (tke T l q) k)) = 2)) = false := k4 k (Nat.zero_le k) hk
      rw [Bool.not_eq_false'] at this
      exact of_decide_eq_true this
    have f0 : gM i m (sI m1 69 i (nI (tkv T l q))) := gM_t (gM_g w4) (gM_69 i m1)
    obtain ⟨m2, b1, b2, b3, b4, b5, b6, b7⟩ := lp_r (W := fun k (m' : jm) => evj 162 17 [jR 10 64, jI (nI (tkv T l q)), jI (nI k)] [] m') (n := jbd2 T l (tke T l q) (cwn (tkv T l q))) (fun k m' => gI m' 64 10 = nI (Pk T l (tke T l q) k) ∧ gI m' 64 11 = -1 ∧ gI m' 64 9 = nI i ∧ gI m' 69 i = nI (tkv T l q) ∧ (∀ j, j < k → gI m' 70 (4 * i + j) = nI (itV T l q j)) ∧ gM i m m') (fun k m' hk hI => by
      obtain ⟨i1, i2, i3, i4, i5, i6⟩ := hI
      show ∃ a', evj _ _ _ _ _ = evj _ _ _ _ _ ∧ _
      have hP := Pk_l (T := T) ht.2 k
      obtain ⟨x, m3, x1, x2, x3, x4⟩ := m_num (TM_M i6 hx) i1 hP.2
      obtain ⟨y1, y2, y3⟩ := x2 (k4 k hk)
      rw [e_M_takeItem_17, m_nof a3, bI_some, bk_le (by omega) (by omega), jbr_n (by omega), i2, jbr_m rfl, x1, bI_some, i3, li4, kI_mul, nI_add, inB_nI (by omega) (by omega), jgd_t, ixn (by omega), show nI k + 1 = nI (k + 1) from nI_add k 1]
      refine ⟨_, rfl, ?_, ?_, ?_, ?_, fun j hj => ?_, gM_t i6 (gM_t (gM_g x4) (gM_70 i m3 (by omega)))⟩
      · rw [gI_ne _ (by omega), y2, Pk_s]
      · rw [gI_ne _ (by omega), y3, i2]
      · rw [gI_ne _ (by omega)]
        exact (x4 64 9 (by omega)).1.trans i3
      · rw [gI_ne _ (by omega)]
        exact (x4 69 i (by omega)).1.trans i4
      · by_cases e : j = k
        · rw [e, gI_eq, y1]; rfl
        · rw [gI_ne _ (by omega)]
          exact (x4 70 (4 * i + j) (by omega)).1.trans (i5 j (by omega))) (jbd2 T l (tke T l q) (cwn (tkv T l q))) 0 (sI m1 69 i (nI (tkv T l q))) (by omega) ⟨by rw [gI_ne _ (by omega)]; exact w2, by rw [gI_ne _ (by omega), w3, h11], by rw [gI_ne _ (by omega)]; exact h91, gI_eq _ _ _ _, fun j hj => absurd hj (Nat.not_lt_zero j), f0⟩
    have b1 : evj 162 17 [jR 10 64, jI (nI (tkv T l q)), jI (0 : Int32)] [] (sI m1 69 i (nI (tkv T l q))) = evj 162 17 [jR 10 64, jI (nI (tkv T l q)), jI (nI (jbd2 T l (tke T l q) (cwn (tkv T l q))))] [] m2 := b1
    have hP := Pk_l (T := T) ht.2 (jbd2 T l (tke T l q) (cwn (tkv T l q)))
    have hsk := (skp_p (T := T) hP.2).2.1
    rw [b1, e_M_takeItem_17, m_nof a3, bI_some, bk_le (by omega) (by omega)]
    by_cases hj : jbd2 T l (tke T l q) (cwn (tkv T l q)) < cwn (tkv T l q)
    · have hbad : ¬ tkn T l (skp T l (Pk T l (tke T l q) (jbd2 T l (tke T l q) (cwn (tkv T l q))))) = 2 := by
        have : (!decide (tkn T l (skp T l (Pk T l (tke T l q) (jbd2 T l (tke T l q) (cwn (tkv T l q))))) = 2)) = true := k3 (by unfold jbd2 at hj; omega)
        rw [Bool.not_eq_true'] at this
        exact of_decide_eq_false this
      have eF : itF T l q = skp T l (Pk T l (tke T l q) (jbd2 T l (tke T l q) (cwn (tkv T l q)))) := by unfold itF; rw [if_pos h1, if_pos hj]
      have nF : itF T l q ≠ 1000 := by omega
      obtain ⟨x, m3, x1, x2, x3, x4⟩ := m_num (TM_M b7 hx) b2 hP.2
      have x3 := x3 hbad
      rw [← eF] at x3
      rw [jbr_n (by omega), b3, jbr_m rfl, x1, bI_some, b4, li4, kI_mul, nI_add, inB_nI (by omega) (by omega), jgd_t, ixn (by omega), show nI (jbd2 T l (tke T l q) (cwn (tkv T l q))) + 1 = nI (jbd2 T l (tke T l q) (cwn (tkv T l q)) + 1) from nI_add _ 1, e_M_takeItem_17, m_nof a3, bI_some, bk_le (by omega) (by omega), gI_ne _ (by omega), x3]
      obtain ⟨m', z1, z2, z3, z4⟩ := m_i56 (μ := sI m3 70 (4 * i + jbd2 T l (tke T l q) (cwn (tkv T l q))) x) (m := m) (i := i) (f := itF T l q) (by omega) (by rw [gI_ne _ (by omega)]; exact (x4 64 9 (by omega)).1.trans b4) (by rw [gI_ne _ (by omega)]; exact x3) (gM_t b7 (gM_t (gM_g x4) (gM_70 i m3 (by omega))))
      refine ⟨m', ?_, z2, fun _ => z3, fun z => absurd z nF, z4⟩
      by_cases hk : cwn (tkv T l q) ≤ jbd2 T l (tke T l q) (cwn (tkv T l q)) + 1
      · rw [jbr_p hk]; exact z1
      · rw [jbr_n hk, jbr_q (nI_nm1 (by omega))]; exact z1
    · have hjc : jbd2 T l (tke T l q) (cwn (tkv T l q)) = cwn (tkv T l q) := by omega
      have eE : itE T l q = Pk T l (tke T l q) (jbd2 T l (tke T l q) (cwn (tkv T l q))) := by rw [hjc]; rfl
      rw [← eE] at b2 hP hsk
      obtain ⟨m3, x1, x2, x3, x4⟩ := m_end (TM_M b7 hx) b2 hP.2
      have hx3 := TM_g x4 (TM_M b7 hx)
      have h93 : gI m3 64 9 = nI i := (x4 64 9 (by omega)).1.trans b4
      rw [jbr_p (by omega), e_M_takeItem_56, b3, jbr_m rfl, x1, bI_some]
      have bad : tkn T l (skp T l (itE T l q)) ≠ 3 → ∃ m', some (none, sI (sI (sI m3 64 11 (gI m3 64 10)) 64 10 ((gI (sI m3 64 11 (gI m3 64 10)) 64 10) + (1 : Int32))) 64 9 ((gI (sI (sI m3 64 11 (gI m3 64 10)) 64 10 ((gI (sI m3 64 11 (gI m3 64 10)) 64 10) + (1 : Int32))) 64 9) + (1 : Int32))) = (some (none, m') : Option jr) ∧ gI m' 64 9 = nI (i + 1) ∧ (itF T l q ≠ 1000 → gI m' 64 11 = nI (itF T l q)) ∧ (itF T l q = 1000 → gI m' 64 11 = -1 ∧ gI m' 64 10 = nI (itN T l q) ∧ gI m' 69 i = nI (tkv T l q) ∧ ∀ k, k < cwn (tkv T l q) → gI m' 70 (4 * i + k) = nI (itV T l q k)) ∧ gM i m m' := fun h33 => by
        have eF : itF T l q = skp T l (itE T l q) := by unfold itF; rw [if_pos h1, if_neg hj, if_neg h33]
        have nF : itF T l q ≠ 1000 := by omega
        refine ⟨_, rfl, ?_, fun _ => ?_, fun z => absurd z nF, gM_t b7 (gM_t (gM_g x4) (gM_t (gM_64 i _ (by omega) (by omega)) (gM_t (gM_64 i _ (by omega) (by omega)) (gM_64 i _ (by omega) (by omega)))))⟩
        · rw [gI_eq, gI_ne _ (by omega), gI_ne _ (by omega), h93, li1, nI_add]
        · rw [gI_ne _ (by omega), gI_ne _ (by omega), gI_eq, x2, eF]
      by_cases hz : skp T l (itE T l q) = l
      · rw [bt_p (decide_eq_true hz)]
        exact bad (fun z => by have := ((tkn_3 (q := skp T l (itE T l q)) hsk).mp z).1; omega)
      · obtain ⟨y1, y2⟩ := hx3.2.2 (skp T l (itE T l q)) (by omega)
        have y3 : gI m3 67 (ix (gI m3 64 10)) = nI (T (skp T l (itE T l q))) := by rw [x2, ixn (by omega)]; exact y2
        have y4 : inB (gI m3 64 10) 200 = true := by rw [x2]; exact inB_nI (by omega) (by omega)
        rw [bt_n (decide_eq_false hz), y4, jgd_t, y3, li59, bk_eq (by omega) (by omega)]
        by_cases h59 : T (skp T l (itE T l q)) = 59
        · have h33 : tkn T l (skp T l (itE T l q)) = 3 := (tkn_3 (q := skp T l (itE T l q)) hsk).mpr ⟨by omega, h59⟩
          have eF : itF T l q = 1000 := by unfold itF; rw [if_pos h1, if_neg hj, if_pos h33]
          rw [jbr_p h59]
          refine ⟨_, rfl, ?_, fun z => absurd eF z, fun _ => ⟨?_, ?_, ?_, fun k hk => ?_⟩, gM_t b7 (gM_t (gM_g x4) (gM_t (gM_64 i _ (by omega) (by omega)) (gM_64 i _ (by omega) (by omega))))⟩
          · rw [gI_eq, gI_ne _ (by omega), h93, li1, nI_add]
          · rw [gI_ne _ (by omega), gI_ne _ (by omega), x3]; exact b3
          · rw [gI_ne _ (by omega), gI_eq, x2, li1, nI_add]; rfl
          · rw [gI_ne _ (by omega), gI_ne _ (by omega)]
            exact (x4 69 i (by omega)).1.trans b5
          · rw [gI_ne _ (by omega), gI_ne _ (by omega)]
            exact (x4 70 (4 * i + k) (by omega)).1.trans (b6 k (by omega))
        · rw [jbr_n h59]
          exact bad (fun z => h59 ((tkn_3 (q := skp T l (itE T l q)) hsk).mp z).2)
  · have nw := wno_no hq h1
    have eF : itF T l q = q := if_neg h1
    have nF : itF T l q ≠ 1000 := by omega
    rw [if_neg nw] at w3
    rw [if_neg nw, e_M_takeItem_17, e_M_numbersOf, jbr_p (by decide), jbr_p (by decide), jbr_p (by decide), bI_some, jbr_n (by decide), gI_ne _ (by omega), w3, jbr_q (nI_nm1 (by omega))]
    obtain ⟨m', z1, z2, z3, z4⟩ := m_i56 (μ := sI m1 69 i (-1 : Int32)) (m := m) (i := i) (f := q) (by omega) (by rw [gI_ne _ (by omega)]; exact h91) (by rw [gI_ne _ (by omega)]; exact w3) (gM_t (gM_g w4) (gM_69 i m1))
    exact ⟨m', z1, z2, fun _ => by rw [eF]; exact z3, fun z => absurd z nF, z4⟩
theorem m_tell {m : jm} {v : vst} {w i : Nat} {x : Nat → Int32} (hw : WV v) (hv : MV m 420 v) (hi : i < 40) (hw6 : w < 6) (h69 : gI m 69 i = nI w) (hx : ∀ k, k < cwn w → gI m 70 (4 * i + k) = x k) : ∃ m', cj 167 [jR 10 64, jI (nI i)] m = some (some (jI (tlf w x v)), m') ∧ MV m' 420 (tlg w x v) ∧ okM 420 m m' := by
  have i4 : (4 : Int32) * nI i = nI (4 * i) := by rw [li4, kI_mul]
  rw [e_M_tellItem, i4, show nI (4 * i) + 1 = nI (4 * i + 1) from nI_add _ 1, show nI (4 * i) + 2 = nI (4 * i + 2) from nI_add _ 2, show nI (4 * i) + 3 = nI (4 * i + 3) from nI_add _ 3, ixn (n := 4 * i) (by omega), ixn (n := 4 * i + 1) (by omega), ixn (n := 4 * i + 2) (by omega), ixn (n := 4 * i + 3) (by omega), ixn (n := i) (by omega), inB_nI (j := 4 * i) (by omega) (by omega), inB_nI (j := 4 * i + 1) (by omega) (by omega), inB_nI (j := 4 * i + 2) (by omega) (by omega), inB_nI (j := 4 * i + 3) (by omega) (by omega), inB_nI (j := i) (by omega) (by omega), li420]
  simp only [jgd_t]
  rw [h69]
  match w, hw6 with
  | 0, _ =>
    obtain ⟨m', e1, e2, e3⟩ := m_door 420 (by omega) (x 0) (x 1) m v hw hv
    rw [jbr_p (by decide), show gI m 70 (4 * i) = x 0 from hx 0 (by decide), hx 1 (by decide), e1, bI_some]
    exact ⟨m', rfl, e2, e3⟩
  | 1, _ =>
    obtain ⟨m', e1, e2, e3⟩ := m_hear 420 (by omega) (x 0) (x 1) m v hw hv
    rw [jbr_n (by decide), jbr_p (by decide), show gI m 70 (4 * i) = x 0 from hx 0 (by decide), hx 1 (by decide), e1, bI_some]
    exact ⟨m', rfl, e2, e3⟩
  | 2, _ =>
    obtain ⟨m', e1, e2, e3⟩ := m_one 420 (by omega) (x 0) (x 1) (x 2) m v hw hv
    rw [jbr_n (by decide), jbr_n (by decide), jbr_p (by decide), show gI m 70 (4 * i) = x 0 from hx 0 (by decide), hx 1 (by decide), hx 2 (by decide), e1, bI_some]
    exact ⟨m', rfl, e2, e3⟩
  | 3, _ =>
    obtain ⟨m', e1, e2, e3⟩ := m_mates 420 (by omega) (x 0) (x 1) m v hw hv
    rw [jbr_n (by decide), jbr_n (by decide), jbr_n (by decide), jbr_p (by decide), show gI m 70 (4 * i) = x 0 from hx 0 (by decide), hx 1 (by decide), e1, bI_some]
    exact ⟨m', rfl, e2, e3⟩
  | 4, _ =>
    obtain ⟨m', e1, e2, e3⟩ := m_chord 420 (by omega) (x 0) (x 1) (x 2) (x 3) m v hw hv
    rw [jbr_n (by decide), jbr_n (by decide), jbr_n (by decide), jbr_n (by decide), jbr_p (by decide), show gI m 70 (4 * i) = x 0 from hx 0 (by decide), hx 1 (by decide), hx 2 (by decide), hx 3 (by decide), e1, bI_some]
    exact ⟨m', rfl, e2, e3⟩
  | 5, _ =>
    obtain ⟨m', e1, e2, e3⟩ := m_slack 420 (by omega) (x 0) m v hw hv
    rw [jbr_n (by decide), jbr_n (by decide), jbr_n (by decide), jbr_n (by decide), jbr_n (by decide), show gI m 70 (4 * i) = x 0 from hx 0 (by decide), e1, bI_some]
    exact ⟨m', rfl, e2, e3⟩
