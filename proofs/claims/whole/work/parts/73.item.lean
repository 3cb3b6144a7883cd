/-! items of the text; the class reads and tells them -/
def cwn (w : Nat) : Nat := [2, 2, 3, 2, 4, 1].getD w 0
theorem cwn_d : ∀ w, w < 6 → jnum w = nI (cwn w) ∧ 1 ≤ cwn w ∧ cwn w ≤ 4 := by decide
def Pk (T : Nat → Nat) (l e k : Nat) : Nat := itr (fun _ p => tke T l (skp T l p)) k 0 e
theorem Pk_s (T : Nat → Nat) (l e k : Nat) : Pk T l e (k + 1) = tke T l (skp T l (Pk T l e k)) := by
  show itr _ (k + 1) 0 _ = _
  rw [itr_s]
  rfl
def jbd2 (T : Nat → Nat) (l e c : Nat) : Nat := lst (fun k => !decide (tkn T l (skp T l (Pk T l e k)) = 2)) c 0
def itE (T : Nat → Nat) (l q : Nat) : Nat := Pk T l (tke T l q) (cwn (tkv T l q))
def itF (T : Nat → Nat) (l q : Nat) : Nat := if tkn T l q = 1 then (if jbd2 T l (tke T l q) (cwn (tkv T l q)) < cwn (tkv T l q) then skp T l (Pk T l (tke T l q) (jbd2 T l (tke T l q) (cwn (tkv T l q)))) else if tkn T l (skp T l (itE T l q)) = 3 then 1000 else skp T l (itE T l q)) else q
def itN (T : Nat → Nat) (l q : Nat) : Nat := skp T l (itE T l q) + 1
def itV (T : Nat → Nat) (l q k : Nat) : Nat := tkv T l (skp T l (Pk T l (tke T l q) k))
theorem wno_6 (T : Nat → Nat) (q e : Nat) : ∀ n, n ≤ 6 → wno T q e n = 6 ∨ (wno T q e n < 6 ∧ mtc T q e (wno T q e n) = true)
  | 0, _ => Or.inl rfl
  | n + 1, h => by
    rw [wno_s]
    split
    · rename_i hm
      exact Or.inr ⟨by omega, hm⟩
    · exact wno_6 T q e n (by omega)
theorem tke_l {T : Nat → Nat} {l q : Nat} (h : q ≤ l) : q ≤ tke T l q ∧ tke T l q ≤ l := by
  have h1 := wen_p (T := T) h
  have h2 := nen_p (T := T) h
  unfold tke
  split
  · omega
  · split
    · omega
    · split <;> omega
theorem Pk_l {T : Nat → Nat} {l e : Nat} (h : e ≤ l) : ∀ k, e ≤ Pk T l e k ∧ Pk T l e k ≤ l
  | 0 => ⟨Nat.le_refl _, h⟩
  | k + 1 => by
    have ih := Pk_l (T := T) h k
    have h1 := skp_p (T := T) ih.2
    have h2 := tke_l (T := T) h1.2.1
    rw [Pk_s]
    omega
theorem tkn_1 {T : Nat → Nat} {l q : Nat} (h : tkn T l q = 1) (hq : q ≤ l) : q < l ∧ isl (T q) = true ∧ tkv T l q < 6 ∧ tkv T l q = wno T q (wen T l q) 6 ∧ tke T l q = wen T l q ∧ q + 3 ≤ tke T l q := by
  unfold tkn at h
  by_cases h0 : q = l
  · rw [if_pos h0] at h; omega
  · rw [if_neg h0] at h
    cases h1 : isl (T q)
    · rw [h1, if_neg (by decide)] at h
      split at h
      · split at h <;> omega
      · split at h <;> omega
    · rw [h1, if_pos rfl] at h
      have hv : tkv T l q = wno T q (wen T l q) 6 := by unfold tkv; rw [h1, if_pos rfl]
      have he : tke T l q = wen T l q := by unfold tke; rw [if_neg h0, h1, if_pos rfl]
      by_cases hw : wno T q (wen T l q) 6 < 6
      · refine ⟨by omega, rfl, by omega, hv, he, ?_⟩
        obtain ⟨k1, k2⟩ := (wno_6 T q (wen T l q) 6 (Nat.le_refl 6)).resolve_left (by omega)
        unfold mtc at k2
        rw [Bool.and_eq_true] at k2
        have := of_decide_eq_true k2.1
        have := jwl_b _ k1
        omega
      · rw [if_neg hw] at h; omega
theorem tkn_2 {T : Nat → Nat} {l q : Nat} (h : tkn T l q = 2) (hq : q ≤ l) : q < l ∧ isl (T q) = false ∧ isf (T q) = true ∧ tkv T l q = nvl T q (nen T l q) ∧ tke T l q = nen T l q ∧ nen T l q - q ≤ 2 ∧ q + 1 ≤ tke T l q := by
  unfold tkn at h
  by_cases h0 : q = l
  · rw [if_pos h0] at h; omega
  · rw [if_neg h0] at h
    cases h1 : isl (T q)
    · rw [h1, if_neg (by decide)] at h
      cases h2 : isf (T q)
      · rw [h2, if_neg (by decide)] at h
        split at h <;> omega
      · rw [h2, if_pos rfl] at h
        have hv : tkv T l q = nvl T q (nen T l q) := by unfold tkv; rw [h1, if_neg (by decide)]
        have he : tke T l q = nen T l q := by unfold tke; rw [if_neg h0, h1, if_neg (by decide), h2, if_pos rfl]
        obtain ⟨s1, s2, s3, s4⟩ := nen_p (T := T) hq
        have hne : nen T l q ≠ q := fun z => by
          have := s3 (by omega)
          rw [z, h2] at this
          exact absurd this (by decide)
        split at h
        · exact ⟨by omega, rfl, rfl, hv, he, by omega, by omega⟩
        · omega
    · rw [h1, if_pos rfl] at h
      split at h <;> omega
theorem tkn_3 {T : Nat → Nat} {l q : Nat} (hq : q ≤ l) : tkn T l q = 3 ↔ q < l ∧ T q = 59 := by
  unfold tkn
  by_cases h0 : q = l
  · rw [if_pos h0]
    omega
  · rw [if_neg h0]
    constructor
    · intro h
      split at h
      · split at h <;> omega
      · split at h
        · split at h <;> omega
        · split at h
          · rename_i h59
            exact ⟨by omega, h59⟩
          · omega
    · intro h
      rw [h.2, show isl 59 = false from by decide, show isf 59 = false from by decide, if_neg (by decide), if_neg (by decide), if_pos rfl]
theorem tke_59 {T : Nat → Nat} {l q : Nat} (h1 : q < l) (h2 : T q = 59) : tke T l q = q + 1 := by
  unfold tke
  rw [if_neg (by omega), h2, show isl 59 = false from by decide, show isf 59 = false from by decide, if_neg (by decide), if_neg (by decide)]
theorem tkn_0 {T : Nat → Nat} {l q : Nat} : tkn T l q = 0 ↔ q = l := by
  unfold tkn
  by_cases h0 : q = l
  · rw [if_pos h0]; exact ⟨fun _ => h0, fun _ => rfl⟩
  · rw [if_neg h0]
    refine ⟨fun h => ?_, fun h => absurd h h0⟩
    repeat' split at h
    all_goals omega
/-- a whole item takes five signs at least -/
theorem it_ok {T : Nat → Nat} {l q : Nat} (hq : q ≤ l) (hl : l ≤ 200) (h : itF T l q = 1000) : tkn T l q = 1 ∧ (∀ k, k < cwn (tkv T l q) → tkn T l (skp T l (Pk T l (tke T l q) k)) = 2) ∧ tkn T l (skp T l (itE T l q)) = 3 ∧ q + 5 ≤ itN T l q ∧ itN T l q ≤ l := by
  unfold itF at h
  by_cases h1 : tkn T l q = 1
  · rw [if_pos h1] at h
    have ht := tke_l (T := T) hq
    obtain ⟨a1, a2, a3, a4, a5, a6⟩ := tkn_1 h1 hq
    obtain ⟨-, c1, c2⟩ := cwn_d _ a3
    by_cases hj : jbd2 T l (tke T l q) (cwn (tkv T l q)) < cwn (tkv T l q)
    · rw [if_pos hj] at h
      have := (skp_p (T := T) (Pk_l (T := T) ht.2 (jbd2 T l (tke T l q) (cwn (tkv T l q)))).2).2.1
      omega
    · rw [if_neg hj] at h
      obtain ⟨k1, k2, k3, k4⟩ := lst_q (fun k => !decide (tkn T l (skp T l (Pk T l (tke T l q) k)) = 2)) (cwn (tkv T l q)) 0
      have hall : ∀ k, k < cwn (tkv T l q) → tkn T l (skp T l (Pk T l (tke T l q) k)) = 2 := fun k hk => by
        have : (!decide (tkn T l (skp T l (Pk T l (tke T l q) k)) = 2)) = false := k4 k (Nat.zero_le k) (Nat.lt_of_lt_of_le hk (Nat.le_of_not_lt hj))
        rw [Bool.not_eq_false'] at this
        exact of_decide_eq_true this
      have hE := Pk_l (T := T) ht.2 (cwn (tkv T l q))
      have hE1 : itE T l q = Pk T l (tke T l q) (cwn (tkv T l q)) := rfl
      have hs := skp_p (T := T) hE.2
      by_cases h3 : tkn T l (skp T l (itE T l q)) = 3
      · have h3' : skp T l (itE T l q) < l ∧ T (skp T l (itE T l q)) = 59 := (tkn_3 (q := skp T l (itE T l q)) hs.2.1).mp h3
        refine ⟨h1, hall, h3, ?_, by unfold itN; omega⟩
        have m1 : tke T l q + 1 ≤ Pk T l (tke T l q) 1 := by
          rw [Pk_s]
          have z0 := hall 0 (by omega)
          have zz := skp_p (T := T) ht.2
          obtain ⟨-, -, -, -, -, -, b7⟩ := tkn_2 z0 zz.2.1
          show _ ≤ tke T l (skp T l (tke T l q))
          have b7 : skp T l (tke T l q) + 1 ≤ tke T l (skp T l (tke T l q)) := b7
          omega
        have m2 : ∀ k, 1 ≤ k → Pk T l (tke T l q) 1 ≤ Pk T l (tke T l q) k := fun k hk => by
          induction k with
          | zero => omega
          | succ k ih =>
            by_cases e : k = 0
            · rw [e]; exact Nat.le_refl _
            · have i1 := ih (by omega)
              have i2 := Pk_l (T := T) ht.2 k
              have i3 := skp_p (T := T) i2.2
              have i4 := tke_l (T := T) i3.2.1
              rw [Pk_s T l (tke T l q) k]
              omega
        have m3 := m2 _ c1
        unfold itN
        rw [hE1]
        omega
      · rw [if_neg h3] at h
        rw [hE1] at h
        omega
  · rw [if_neg h1] at h
    omega
theorem itF_b {T : Nat → Nat} {l q : Nat} (hq : q ≤ l) (h : itF T l q ≠ 1000) : itF T l q ≤ l := by
  have ht := tke_l (T := T) hq
  unfold itF at h ⊢
  split
  · rename_i h1
    rw [if_pos h1] at h
    split
    · exact (skp_p (T := T) (Pk_l (T := T) ht.2 _).2).2.1
    · rename_i h2
      rw [if_neg h2] at h
      split
      · rename_i h3
        rw [if_pos h3] at h
        exact absurd rfl h
      · exact (skp_p (T := T) (Pk_l (T := T) ht.2 _).2).2.1
  · exact hq
def fJ2 (m m' : jm) : Prop := (∀ a b, ¬ (a = 46 ∧ 2 ≤ b ∧ b ≤ 6) → a ≠ 48 → m'.1 a b = m.1 a b) ∧ ∀ a b, m'.2 a b = m.2 a b
theorem fJ_t {a b c : jm} (h : fJ2 a b) (h2 : fJ2 b c) : fJ2 a c := ⟨fun x y hx hy => (h2.1 x y hx hy).trans (h.1 x y hx hy), fun x y => (h2.2 x y).trans (h.2 x y)⟩
theorem fJ_T {a b : jm} (h : fT a b) : fJ2 a b := ⟨fun x y hx _ => h.1 x y (by omega), h.2⟩
theorem TX_J {m m' : jm} {T : Nat → Nat} {l : Nat} (h : fJ2 m m') (hx : TX m T l) : TX m' T l := ⟨hx.1, (h.1 46 1 (by omega) (by omega)).trans hx.2.1, fun i hi => ⟨(hx.2.2 i hi).1, (h.1 47 i (by omega) (by omega)).trans (hx.2.2 i hi).2⟩⟩
/-- a token stands read -/
def AT (m : jm) (T : Nat → Nat) (l q : Nat) : Prop := gI m 46 2 = nI (tke T l q) ∧ gI m 46 4 = nI q ∧ gI m 46 3 = nI (tkn T l q) ∧ (tkn T l q = 1 ∨ tkn T l q = 2 → gI m 46 5 = nI (tkv T l q))
theorem tkn_b (T : Nat → Nat) (l q : Nat) : tkn T l q ≤ 4 := by
  unfold tkn
  repeat' split
  all_goals omega
theorem c_item {m : jm} {T : Nat → Nat} {l q : Nat} (hx : TX m T l) (hA : AT m T l q) (hq : q ≤ l) : ∃ m', cj 92 [jR 7 46] m = some (some (jI (nI (bN (decide (itF T l q = 1000))))), m') ∧ (itF T l q ≠ 1000 → gI m' 46 4 = nI (itF T l q)) ∧ (itF T l q = 1000 → gI m' 46 2 = nI (itN T l q) ∧ gI m' 46 6 = nI (tkv T l q) ∧ ∀ k, k < cwn (tkv T l q) → gI m' 48 k = nI (itV T l q k)) ∧ fJ2 m m' := by
  have hl := hx.1
  obtain ⟨h2, h4, h3, h5⟩ := hA
  have hb := tkn_b T l q
  have ht := tke_l (T := T) hq
  rw [e_Text_readItem, h3, li1, bk_eq (by omega) (by omega)]
  by_cases h1 : tkn T l q = 1
  · obtain ⟨a1, a2, a3, a4, a5, a6⟩ := tkn_1 h1 hq
    obtain ⟨c0, c1, c2⟩ := cwn_d _ a3
    rw [jbr_p h1, h5 (Or.inl h1)]
    have f0 : fJ2 m (sI m 46 6 (nI (tkv T l q))) := ⟨fun a b hab _ => if_neg (by omega), fun _ _ => rfl⟩
    obtain ⟨k1, k2, k3, k4⟩ := lst_q (fun k => !decide (tkn T l (skp T l (Pk T l (tke T l q) k)) = 2)) (cwn (tkv T l q)) 0
    have k2 : jbd2 T l (tke T l q) (cwn (tkv T l q)) ≤ cwn (tkv T l q) := by unfold jbd2; omega
    have k4 : ∀ k, k < jbd2 T l (tke T l q) (cwn (tkv T l q)) → tkn T l (skp T l (Pk T l (tke T l q) k)) = 2 := fun k hk => by
      have : (!decide (tkn T l (skp T l (Pk T l (tke T l q) k)) = 2)) = false := k4 k (Nat.zero_le k) hk
      rw [Bool.not_eq_false'] at this
      exact of_decide_eq_true this
    obtain ⟨m1, b1, b2, b3, b4, b5⟩ := lp_r (W := fun k (m' : jm) => evj 92 20 [jR 7 46, jI (nI k)] [] m') (n := jbd2 T l (tke T l q) (cwn (tkv T l q))) (fun k m' => gI m' 46 2 = nI (Pk T l (tke T l q) k) ∧ gI m' 46 6 = nI (tkv T l q) ∧ (∀ j, j < k → gI m' 48 j = nI (itV T l q j)) ∧ fJ2 m m') (fun k m' hk hI => by
      obtain ⟨i1, i2, i3, i4⟩ := hI
      show ∃ a', evj _ _ _ _ _ = evj _ _ _ _ _ ∧ _
      have hP := Pk_l (T := T) ht.2 k
      obtain ⟨m2, x1, x2, x3, x4, x5, x6⟩ := c_tok (TX_J i4 hx) i1 hP.2
      have hk2 := k4 k hk
      rw [hk2] at x4 x5
      have i62 : gI m' 46 6 = nI (tkv T l q) := i2
      rw [e_Text_readItem_20, i2, inB_nI a3 (by omega), jgd_t, ixn (by omega), c0, bk_le (by omega) (by omega), jbr_n (by omega), x1, bV_some, x4, jbr_p (show nI 2 = 2 from rfl), inB_nI (by omega) (by omega), jgd_t, ixn (by omega), x5 (Or.inr rfl), show nI k + 1 = nI (k + 1) from nI_add k 1]
      refine ⟨_, rfl, ?_, ?_, fun j hj => ?_, fJ_t i4 (fJ_t (fJ_T x6) ⟨fun a b _ h48 => if_neg (by omega), fun _ _ => rfl⟩)⟩
      · rw [gI_ne _ (by omega), x2, Pk_s]
      · rw [gI_ne _ (by omega)]
        exact (x6.1 46 6 (by omega)).trans i2
      · by_cases e : j = k
        · rw [e, gI_eq]; rfl
        · rw [gI_ne _ (by omega)]
          exact (x6.1 48 j (by omega)).trans (i3 j (by omega))) (jbd2 T l (tke T l q) (cwn (tkv T l q))) 0 (sI m 46 6 (nI (tkv T l q))) (by omega) ⟨by rw [gI_ne _ (by omega)]; exact h2, gI_eq _ _ _ _, fun j hj => absurd hj (Nat.not_lt_zero j), f0⟩
    have b1 : evj 92 20 [jR 7 46, jI (0 : Int32)] [] (sI m 46 6 (nI (tkv T l q))) = evj 92 20 [jR 7 46, jI (nI (jbd2 T l (tke T l q) (cwn (tkv T l q))))] [] m1 := b1
    have hP := Pk_l (T := T) ht.2 (jbd2 T l (tke T l q) (cwn (tkv T l q)))
    obtain ⟨m2, x1, x2, x3, x4, x5, x6⟩ := c_tok (TX_J b5 hx) b2 hP.2
    have hb2 := tkn_b T l (skp T l (Pk T l (tke T l q) (jbd2 T l (tke T l q) (cwn (tkv T l q)))))
    have hsk := (skp_p (T := T) hP.2).2.1
    rw [b1, e_Text_readItem_20, b3, inB_nI a3 (by omega), jgd_t, ixn (by omega), c0, bk_le (by omega) (by omega), x1, bV_some, bV_some, x4]
    by_cases hj : jbd2 T l (tke T l q) (cwn (tkv T l q)) < cwn (tkv T l q)
    · have hbad : ¬ tkn T l (skp T l (Pk T l (tke T l q) (jbd2 T l (tke T l q) (cwn (tkv T l q))))) = 2 := by
        have : (!decide (tkn T l (skp T l (Pk T l (tke T l q) (jbd2 T l (tke T l q) (cwn (tkv T l q))))) = 2)) = true := k3 (by unfold jbd2 at hj; omega)
        rw [Bool.not_eq_true'] at this
        exact of_decide_eq_false this
      have eF : itF T l q = skp T l (Pk T l (tke T l q) (jbd2 T l (tke T l q) (cwn (tkv T l q)))) := by unfold itF; rw [if_pos h1, if_pos hj]
      have nF : itF T l q ≠ 1000 := by omega
      rw [jbr_n (by omega), li2, bk_eq (by omega) (by omega), jbr_n hbad, decide_eq_false nF]
      refine ⟨m2, rfl, fun _ => by rw [x3, eF], fun z => absurd z nF, fJ_t b5 (fJ_T x6)⟩
    · have hjc : jbd2 T l (tke T l q) (cwn (tkv T l q)) = cwn (tkv T l q) := by omega
      have eE : itE T l q = Pk T l (tke T l q) (jbd2 T l (tke T l q) (cwn (tkv T l q))) := by rw [hjc]; rfl
      rw [jbr_p (by omega), li3, bk_ne (by omega) (by omega)]
      by_cases h33 : tkn T l (skp T l (Pk T l (tke T l q) (jbd2 T l (tke T l q) (cwn (tkv T l q))))) = 3
      · have eF : itF T l q = 1000 := by unfold itF; rw [if_pos h1, if_neg hj, eE, if_pos h33]
        have h59 := (tkn_3 hsk).mp h33
        have tk1 := tke_59 h59.1 h59.2
        rw [jbr_n (fun z => z h33), decide_eq_true eF]
        refine ⟨m2, rfl, fun z => absurd eF z, fun _ => ⟨?_, ?_, fun k hk => ?_⟩, fJ_t b5 (fJ_T x6)⟩
        · rw [x2, tk1]
          unfold itN
          rw [eE]
        · exact (x6.1 46 6 (by omega)).trans b3
        · exact (x6.1 48 k (by omega)).trans (b4 k (by omega))
      · have eF : itF T l q = skp T l (itE T l q) := by unfold itF; rw [if_pos h1, if_neg hj, eE, if_neg h33]
        have nF : itF T l q ≠ 1000 := by rw [eF, eE]; omega
        rw [jbr_p h33, decide_eq_false nF]
        refine ⟨m2, rfl, fun _ => by rw [x3, eF, eE], fun z => absurd z nF, fJ_t b5 (fJ_T x6)⟩
  · have eF : itF T l q = q := if_neg h1
    have nF : itF T l q ≠ 1000 := by omega
    rw [jbr_n h1, decide_eq_false nF]
    exact ⟨m, rfl, fun _ => by rw [eF]; exact h4, fun z => absurd z nF, ⟨fun _ _ _ _ => rfl, fun _ _ => rfl⟩⟩
/-- an item told to a valley -/
def tlf (w : Nat) (x : Nat → Int32) (v : vst) : Int32 := if w = 0 then fJ (x 0) (x 1) (vD v) else if w = 1 then fJ (x 0) (x 1) (vE v) else if w = 2 then fOn (x 0) (x 1) (x 2) v else if w = 3 then fMa (x 0) (x 1) v else if w = 4 then fCh (x 0) (x 1) (x 2) (x 3) v else fSl (x 0) v
def tlg (w : Nat) (x : Nat → Int32) (v : vst) : vst := if w = 0 then gDo (x 0) (x 1) v else if w = 1 then gHe (x 0) (x 1) v else if w = 2 then gOn (x 0) (x 1) (x 2) v else if w = 3 then gMa (x 0) (x 1) v else if w = 4 then gCh (x 0) (x 1) (x 2) (x 3) v else gSl (x 0) v
theorem WV_tlg (w : Nat) (x : Nat → Int32) {v : vst} (h : WV v) : WV (tlg w x v) := by
  unfold tlg
  split
  · exact WV_gDo _ _ h
  · split
    · exact WV_gHe _ _ h
    · split
      · exact WV_gOn _ _ _ h
      · split
        · exact WV_gMa _ _ h
        · split
          · exact WV_gCh _ _ _ _ h
          · exact WV_gSl _ h
theorem c_tell {m : jm} {v : vst} {w : Nat} {x : Nat → Int32} (hw : WV v) (hv : CV m 12 v) (hw6 : w < 6) (h6 : gI m 46 6 = nI w) (hx : ∀ k, k < cwn w → gI m 48 k = x k) : ∃ m', cj 93 [jR 7 46, jR 8 12] m = some (some (jI (tlf w x v)), m') ∧ CV m' 12 (tlg w x v) ∧ okC 12 m m' := by
  have b0 : inB (0 : Int32) 4 = true := by decide
  have b1 : inB (1 : Int32) 4 = true := by decide
  have b2 : inB (2 : Int32) 4 = true := by decide
  have b3 : inB (3 : Int32) 4 = true := by decide
  have i1 : ix (1 : Int32) = 1 := by decide
  have i2 : ix (2 : Int32) = 2 := by decide
  have i3 : ix (3 : Int32) = 3 := by decide
  rw [e_Text_tellItem, h6, b0, b1, b2, b3, ix0, i1, i2, i3]
  simp only [jgd_t]
  match w, hw6 with
  | 0, _ =>
    obtain ⟨m', e1, e2, e3⟩ := c_door 12 (x 0) (x 1) m v hw hv
    rw [jbr_p (by decide), hx 0 (by decide), hx 1 (by decide), e1, bI_some]
    exact ⟨m', rfl, e2, e3⟩
  | 1, _ =>
    obtain ⟨m', e1, e2, e3⟩ := c_hear 12 (x 0) (x 1) m v hw hv
    rw [jbr_n (by decide), jbr_p (by decide), hx 0 (by decide), hx 1 (by decide), e1, bI_some]
    exact ⟨m', rfl, e2, e3⟩
  | 2, _ =>
    obtain ⟨m', e1, e2, e3⟩ := c_one 12 (x 0) (x 1) (x 2) m v hw hv
    rw [jbr_n (by decide), jbr_n (by decide), jbr_p (by decide), hx 0 (by decide), hx 1 (by decide), hx 2 (by decide), e1, bI_some]
    exact ⟨m', rfl, e2, e3⟩
  | 3, _ =>
    obtain ⟨m', e1, e2, e3⟩ := c_mates 12 (x 0) (x 1) m v hw hv
    rw [jbr_n (by decide), jbr_n (by decide), jbr_n (by decide), jbr_p (by decide), hx 0 (by decide), hx 1 (by decide), e1, bI_some]
    exact ⟨m', rfl, e2, e3⟩
  | 4, _ =>
    obtain ⟨m', e1, e2, e3⟩ := c_chord 12 (x 0) (x 1) (x 2) (x 3) m v hw hv
    rw [jbr_n (by decide), jbr_n (by decide), jbr_n (by decide), jbr_n (by decide), jbr_p (by decide), hx 0 (by decide), hx 1 (by decide), hx 2 (by decide), hx 3 (by decide), e1, bI_some]
    exact ⟨m', rfl, e2, e3⟩
  | 5, _ =>
    obtain ⟨m', e1, e2, e3⟩ := c_slack 12 (x 0) m v hv
    rw [jbr_n (by decide), jbr_n (by decide), jbr_n (by decide), jbr_n (by decide), jbr_n (by decide), hx 0 (by decide), e1, bI_some]
    exact ⟨m', rfl, e2, e3⟩
