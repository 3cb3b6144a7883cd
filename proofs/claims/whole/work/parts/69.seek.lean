/-! fetch: the class -/
def dcc (x : Nat) : Int32 := if x < 100 then nI x else -1
theorem dcc_m {x : Nat} (h : x ≤ 100) : dcc x = -1 ↔ x = 100 := by
  unfold dcc
  split
  · refine ⟨fun z => absurd (show nI x = ngc 1 from z) (by rw [qI_n (by omega)]; exact id), fun z => by omega⟩
  · exact ⟨fun _ => by omega, fun _ => rfl⟩
theorem or_sub {s d : Nat} (h : ∀ j, d.testBit j = true → s.testBit j = true) : s ||| d = s := by
  apply Nat.eq_of_testBit_eq
  intro i
  rw [Nat.testBit_or]
  cases h1 : d.testBit i
  · rw [Bool.or_false]
  · rw [h i h1]; rfl
theorem dsf_b (v : vst) (a b n : Nat) (hn : n ≤ 100) : dsf v a b n ≤ 100 := by
  rcases dsf_p v a b n hn with h | h
  · omega
  · omega
def FA (m : jm) (v : vst) (n : Nat) : Prop := ∀ a b, a < n → b < 6 → gI m 54 (a * 6 + b) = dcc (dst v a b)
theorem c_once {m : jm} {v : vst} {a d : Nat} (hw : WV v) (hv : CV m 1 v) (ha : a < 6) (hd : d < 6) (hF : FA m v a) (hr : ∀ b, b < 6 → gI m 54 (a * 6 + b) = dcc (dsf v a b d)) : ∃ m', cj 59 [jR 2 53, jR 8 1, jI (nI a), jI (nI (rcd v a d)), jI (nI d)] m = some (some (jI (nI (rcd v a (d + 1)))), m') ∧ FA m' v a ∧ (∀ b, b < 6 → gI m' 54 (a * 6 + b) = dcc (dsf v a b (d + 1))) ∧ fI 54 54 m m' := by
  have hrl := rcd_lt hw ha d
  rw [e_Errand_spreadOnce]
  obtain ⟨m1, a1, a2, a3, a4, a5⟩ := lp_r (W := fun t (m' : jm) => evj 59 6 [jR 2 53, jR 8 1, jI (nI a), jI (nI (rcd v a d)), jI (nI d), jI (nI (exr v (rcd v a d) t (rcd v a d))), jI (nI t), jU] [] m') (n := 6) (fun t m' => FA m' v a ∧ (∀ b, b < t → gI m' 54 (a * 6 + b) = dcc (dsf v a b (d + 1))) ∧ (∀ b, t ≤ b → b < 6 → gI m' 54 (a * 6 + b) = dcc (dsf v a b d)) ∧ fI 54 54 m m') (fun t m' ht hI => by
    obtain ⟨i1, i2, i3, i4⟩ := hI
    show ∃ a', evj _ _ _ _ _ = evj _ _ _ _ _ ∧ _
    have hv1 := CV_fI i4 (by omega) hv
    have hel := exr_lt hw (r := rcd v a d) hrl t (by omega)
    have hdb := dsf_b v a t d (by omega)
    have e : exr v (rcd v a d) (t + 1) (rcd v a d) = if (rcd v a d).testBit t = true then exr v (rcd v a d) t (rcd v a d) ||| vD v t else exr v (rcd v a d) t (rcd v a d) := by
      show itr _ (t + 1) 0 _ = _
      rw [itr_s, Nat.zero_add]
      rfl
    have same : exr v (rcd v a d) (t + 1) (rcd v a d) = exr v (rcd v a d) t (rcd v a d) → dsf v a t (d + 1) = dsf v a t d → ∃ a' : jm, evj 59 6 [jR 2 53, jR 8 1, jI (nI a), jI (nI (rcd v a d)), jI (nI d), jI (nI (exr v (rcd v a d) t (rcd v a d))), jI (nI (t + 1)), jU] [] m' = evj 59 6 [jR 2 53, jR 8 1, jI (nI a), jI (nI (rcd v a d)), jI (nI d), jI (nI (exr v (rcd v a d) (t + 1) (rcd v a d))), jI (nI (t + 1)), jU] [] a' ∧ FA a' v a ∧ (∀ b, b < t + 1 → gI a' 54 (a * 6 + b) = dcc (dsf v a b (d + 1))) ∧ (∀ b, t + 1 ≤ b → b < 6 → gI a' 54 (a * 6 + b) = dcc (dsf v a b d)) ∧ fI 54 54 m a' := fun h1 h2 => by
      rw [h1]
      refine ⟨m', rfl, i1, fun b hb => ?_, fun b hb1 hb2 => i3 b (by omega) hb2, i4⟩
      by_cases eb : b = t
      · rw [eb, h2]; exact i3 t (Nat.le_refl t) ht
      · exact i2 b (by omega)
    rw [e_Errand_spreadOnce_6, show (6 : Int32) = nI 6 from rfl, bk_le (by omega) (by omega), jbr_n (by omega), kI_tb (by omega) (by omega), show nI t + 1 = nI (t + 1) from nI_add t 1]
    cases hb : (rcd v a d).testBit t
    · rw [bf_p rfl]
      exact same (by rw [e, hb, if_neg (by decide)]) (by rw [dsf_s, hb, if_neg (fun z => absurd z.2 (by decide))])
    · rw [bf_n rfl, kI_mul, nI_add, inB_nI (by omega) (by omega), jgd_t, jgd_t, ixn (by omega), i3 t (Nat.le_refl t) ht]
      by_cases h100 : dsf v a t d = 100
      · rw [jbr_m ((dcc_m hdb).mpr h100), inB_nI ht (by omega), jgd_t, ixn (by omega), gI_ne _ (by omega), show gI m' (1 + 1) t = nI (vD v t) from hv1.1 t ht, kI_or]
        refine ⟨_, by rw [e, if_pos hb], fun a' b h1 h2 => ?_, fun b hb2 => ?_, fun b hb1 hb2 => ?_, fI_t i4 (fI_s _ (by omega) (by omega))⟩
        · rw [gI_ne _ (by omega)]; exact i1 a' b h1 h2
        · by_cases eb : b = t
          · rw [eb, gI_eq, dsf_s, if_pos ⟨h100, hb⟩]
            exact (if_pos (by omega)).symm
          · rw [gI_ne _ (by omega)]; exact i2 b (by omega)
        · rw [gI_ne _ (by omega)]; exact i3 b (by omega) hb2
      · rw [jbr_q (fun z => h100 ((dcc_m hdb).mp z))]
        refine same ?_ (by rw [dsf_s, if_neg (fun z => h100 z.1)])
        rw [e, if_pos hb]
        refine or_sub (fun j hj => ?_)
        rw [exr_t]
        obtain ⟨q1, q2, q3⟩ := (dsf_p v a t d (by omega)).resolve_left (fun z => h100 z.1)
        have : (rcd v a d).testBit j = true := rcd_m v a (show dsf v a t d + 1 ≤ d by omega) ((rcd_t v a (dsf v a t d) j).mpr (Or.inr ⟨t, ht, q2, hj⟩))
        rw [this, Bool.true_or]) 6 0 m (by omega) ⟨hF, fun b hb => absurd hb (Nat.not_lt_zero b), fun b _ hb => hr b hb, fI_r _ _ _⟩
  refine ⟨m1, Eq.trans a1 ?_, a2, a3, a5⟩
  show evj _ _ _ _ _ = _
  rw [e_Errand_spreadOnce_6, jbr_p (by decide)]
  rfl
theorem c_meas {μ : jm} {v : vst} (hw : WV v) (hv : CV μ 1 v) : ∃ m, cj 58 [jR 2 53, jR 8 1] μ = some (none, m) ∧ FA m v 6 ∧ fI 54 54 μ m := by
  rw [e_Errand_measure]
  obtain ⟨m, e1, e2, e3⟩ := lp_r (W := fun a (m : jm) => evj 58 2 [jR 2 53, jR 8 1, jI (nI a), jU, jU] [] m) (n := 6) (fun a m => FA m v a ∧ fI 54 54 μ m) (fun a m ha hI => by
    obtain ⟨i1, i2⟩ := hI
    show ∃ a', evj _ _ _ _ _ = evj _ _ _ _ _ ∧ _
    rw [e_Errand_measure_2, show (6 : Int32) = nI 6 from rfl, bk_le (by omega) (by omega), jbr_n (by omega)]
    obtain ⟨m1, a1, a2, a3, a4⟩ := lp_r (W := fun t (m : jm) => evj 58 10 [jR 2 53, jR 8 1, jI (nI a), jI (nI t), jU] [] m) (n := 6) (fun t m => FA m v a ∧ (∀ b, b < t → gI m 54 (a * 6 + b) = dcc (dsf v a b 0)) ∧ fI 54 54 μ m) (fun t m ht hI => by
      obtain ⟨j1, j2, j3⟩ := hI
      show ∃ a', evj _ _ _ _ _ = evj _ _ _ _ _ ∧ _
      rw [e_Errand_measure_10, show (6 : Int32) = nI 6 from rfl, bk_le (by omega) (by omega), jbr_n (by omega), kI_mul, nI_add, inB_nI (by omega) (by omega), jgd_t, ixn (by omega), show nI t + 1 = nI (t + 1) from nI_add t 1]
      refine ⟨_, rfl, fun a' b h1 h2 => ?_, fun b hb => ?_, fI_t j3 (fI_s m (by omega) (by omega))⟩
      · rw [gI_ne _ (by omega)]; exact j1 a' b h1 h2
      · by_cases e : b = t
        · subst e; rw [gI_eq]; rfl
        · rw [gI_ne _ (by omega)]; exact j2 b (by omega)) 6 0 m (by omega) ⟨i1, fun b hb => absurd hb (Nat.not_lt_zero b), i2⟩
    obtain ⟨m2, b1, b2, b3, b4⟩ := lp_r (W := fun d (m : jm) => evj 58 41 [jR 2 53, jR 8 1, jI (nI a), jI (nI (rcd v a d)), jI (nI d)] [] m) (n := 6) (fun d m => FA m v a ∧ (∀ b, b < 6 → gI m 54 (a * 6 + b) = dcc (dsf v a b d)) ∧ fI 54 54 μ m) (fun d m hd hI => by
      obtain ⟨j1, j2, j3⟩ := hI
      show ∃ a', evj _ _ _ _ _ = evj _ _ _ _ _ ∧ _
      obtain ⟨m', x1, x2, x3, x4⟩ := c_once hw (CV_fI j3 (by omega) hv) ha hd j1 j2
      rw [e_Errand_measure_41, show (6 : Int32) = nI 6 from rfl, bk_le (by omega) (by omega), jbr_n (by omega), x1, bI_some, show nI d + 1 = nI (d + 1) from nI_add d 1]
      exact ⟨m', rfl, x2, x3, fI_t j3 x4⟩) 6 0 m1 (by omega) ⟨a2, a3, a4⟩
    refine ⟨m2, Eq.trans a1 ?_, fun a' b h1 h2 => ?_, b4⟩
    · show evj _ _ _ _ _ = _
      rw [e_Errand_measure_10, jbr_p (by decide), kI_1 (by omega)]
      refine Eq.trans b1 ?_
      show evj _ _ _ _ _ = _
      rw [e_Errand_measure_41, jbr_p (by decide), show nI a + 1 = nI (a + 1) from nI_add a 1]
    · by_cases e : a' = a
      · subst e; exact b3 b h2
      · exact b2 a' b (by omega) h2) 6 0 μ (by omega) ⟨fun a b h => absurd h (Nat.not_lt_zero a), fI_r _ _ _⟩
  refine ⟨m, Eq.trans e1 ?_, e2, e3⟩
  show evj _ _ _ _ _ = _
  rw [e_Errand_measure_2, jbr_p (by decide)]
/-- all steps of a set to a room; 1000 and more: one can't, or takes too many -/
def sSf (v : vst) (s r t p : Nat) : Nat := if s.testBit p = true then (if dst v (vR v p) r ≤ t then dst v (vR v p) r else 1000) else 0
def sS (v : vst) (s r t : Nat) : Nat := sumn (sSf v s r t) (vn v)
def scc (x : Nat) : Int32 := if x < 1000 then nI x else -1
theorem scc_n {x : Nat} (h : x < 1000) : scc x = nI x := if_pos h
theorem scc_i {x : Nat} (h : ¬ x < 1000) : scc x = -1 := if_neg h
theorem nI_nm1 {x : Nat} (h : x < 1000000) : ¬ nI x = (-1 : Int32) := fun z => absurd (show nI x = ngc 1 from z) (by rw [qI_n (by omega)]; exact id)
theorem c_sTo {m : jm} {v : vst} {s r t : Nat} (hw : WV v) (hv : CV m 1 v) (hF : FA m v 6) (hr : r < 6) (hs : s < 2 ^ vn v) (ht : t ≤ 9) : cj 61 [jR 2 53, jR 8 1, jI (nI r), jI (nI s), jI (nI t)] m = some (some (jI (scc (sS v s r t))), m) := by
  have w3 : vn v ≤ 7 := hw.2.2.1
  have h27 : 2 ^ vn v ≤ 2 ^ 7 := Nat.pow_le_pow_right (by omega) w3
  have h6 : gI m 1 6 = nI (vn v) := hv.2.2.1
  rw [e_Errand_stepsTo]
  refine lp_x (W := fun p x => evj 61 6 [jR 2 53, jR 8 1, jI (nI r), jI (nI s), jI (nI t), jI (nI x), jI (nI p), jU] [] m) (n := vn v) (fun o => o = some (some (jI (scc (sS v s r t))), m)) (fun p x => x = sumn (sSf v s r t) p ∧ x ≤ 5 * p) (fun x hI => ?_) (fun p x hp hI => ?_) (vn v) 0 0 (by omega) ⟨rfl, Nat.le_refl 0⟩
  · show evj _ _ _ _ _ = _
    have hx : sS v s r t = x := hI.1.symm
    have := hI.2
    rw [e_Errand_stepsTo_6, h6, jbr_p (by rw [kI_le (by omega) (by omega)]; omega), hx, scc_n (by omega)]
  · show (∃ a', evj _ _ _ _ _ = evj _ _ _ _ _ ∧ _) ∨ evj _ _ _ _ _ = _
    obtain ⟨-, -, w43, -⟩ := hw.2.2.2.1 p hp
    have hd := dst_v v (vR v p) r
    have hx5 := hI.2
    rw [e_Errand_stepsTo_6, h6, bk_le (by omega) (by omega), jbr_n (by omega), kI_tb (by omega) (by omega), show nI p + 1 = nI (p + 1) from nI_add p 1]
    cases hb : s.testBit p
    · rw [bf_p rfl]
      exact Or.inl ⟨x, rfl, by rw [sumn_s, hI.1, show sSf v s r t p = 0 from if_neg (by rw [hb]; decide), Nat.add_zero], by omega⟩
    · rw [bf_n rfl, inB_nI (by omega) (by omega), jgd_t, ixn (by omega), show gI m (1 + 5) p = nI (vR v p) from (hv.2.2.2.1 p hp).2.2.1, show (6 : Int32) = nI 6 from rfl, kI_mul, nI_add, inB_nI (by omega) (by omega), jgd_t, ixn (by omega), hF _ _ w43 hr]
      have out : ¬ dst v (vR v p) r ≤ t → (some (some (jI (-1 : Int32)), m) : Option jr) = some (some (jI (scc (sS v s r t))), m) := fun hn => by
        have h1 : sSf v s r t p = 1000 := by unfold sSf; rw [if_pos hb, if_neg hn]
        have h2 : sSf v s r t p ≤ sS v s r t := sumn_ge (sSf v s r t) hp
        rw [scc_i (by omega)]
      by_cases h100 : dst v (vR v p) r = 100
      · rw [jbr_p (by rw [h100]; decide)]
        exact Or.inr (out (by omega))
      · have e : dcc (dst v (vR v p) r) = nI (dst v (vR v p) r) := if_pos (by omega)
        rw [e, jbr_n (nI_nm1 (by omega)), bk_le (by omega) (by omega)]
        by_cases ht2 : dst v (vR v p) r ≤ t
        · rw [jbr_p ht2, nI_add]
          exact Or.inl ⟨x + dst v (vR v p) r, rfl, by rw [sumn_s, hI.1, show sSf v s r t p = dst v (vR v p) r from by unfold sSf; rw [if_pos hb, if_pos ht2]], by omega⟩
        · rw [jbr_n ht2]
          exact Or.inr (out ht2)
def nrm (v : vst) (s t n : Nat) : Nat := itr (fun r b => if sS v s r t < 1000 ∧ (b = 0 ∨ sS v s r t < sS v s (b - 1) t) then r + 1 else b) n 0 0
theorem nrm_s (v : vst) (s t n : Nat) : nrm v s t (n + 1) = if sS v s n t < 1000 ∧ (nrm v s t n = 0 ∨ sS v s n t < sS v s (nrm v s t n - 1) t) then n + 1 else nrm v s t n := by
  show itr _ (n + 1) 0 _ = _
  rw [itr_s, Nat.zero_add]
  rfl
theorem nrm_p (v : vst) (s t : Nat) : ∀ n, nrm v s t n ≤ n ∧ (0 < nrm v s t n → sS v s (nrm v s t n - 1) t < 1000)
  | 0 => ⟨Nat.le_refl 0, fun h => absurd h (by show ¬ 0 < 0; omega)⟩
  | n + 1 => by
    obtain ⟨h1, h2⟩ := nrm_p v s t n
    rw [nrm_s]
    split
    · rename_i h
      exact ⟨Nat.le_refl _, fun _ => h.1⟩
    · exact ⟨by omega, h2⟩
theorem c_near {m : jm} {v : vst} {s t : Nat} (hw : WV v) (hv : CV m 1 v) (hF : FA m v 6) (hs : s < 2 ^ vn v) (ht : t ≤ 9) : cj 60 [jR 2 53, jR 8 1, jI (nI s), jI (nI t)] m = some (some (jI (nI (nrm v s t 6) - 1)), m) := by
  rw [e_Errand_nearestRoom]
  have L := lp_f (W := fun r (q : Nat × Nat) => evj 60 9 [jR 2 53, jR 8 1, jI (nI s), jI (nI t), jI (nI q.1 - 1), jI (nI q.2), jI (nI r), jU] [] m) (f := fun r q => if sS v s r t < 1000 ∧ (q.1 = 0 ∨ sS v s r t < sS v s (q.1 - 1) t) then (r + 1, sS v s r t) else q) (n := 6) (fun r q => q.1 = nrm v s t r ∧ (0 < q.1 → q.2 = sS v s (q.1 - 1) t) ∧ (q.1 = 0 → q.2 = 0)) (fun r q hr hI => by
    obtain ⟨i1, i2, i3⟩ := hI
    obtain ⟨n1, n2⟩ := nrm_p v s t r
    rw [← i1] at n1 n2
    refine ⟨?_, ?_⟩
    · show evj _ _ _ _ _ = evj _ _ _ _ _
      rw [e_Errand_nearestRoom_9, li6, bk_le (by omega) (by omega), jbr_n (by omega), c_sTo hw hv hF hr hs ht, bI_some, bk_m1 (by omega), show nI r + 1 = nI (r + 1) from nI_add r 1]
      by_cases h1 : sS v s r t < 1000
      · rw [scc_n h1, jbr_n (nI_nm1 (by omega))]
        by_cases h2 : q.1 = 0
        · rw [jbr_p h2, if_pos ⟨h1, Or.inl h2⟩]
          show evj _ _ _ _ _ = evj _ _ [jR 2 53, jR 8 1, jI (nI s), jI (nI t), jI (nI (r + 1) - 1), jI (nI (sS v s r t)), jI (nI (r + 1)), jU] _ _
          rw [nI_pred]
        · have hq2 := i2 (by omega)
          have hq3 := n2 (by omega)
          rw [jbr_n h2, hq2, bk_le (by omega) (by omega)]
          by_cases h3 : sS v s (q.1 - 1) t ≤ sS v s r t
          · rw [jbr_p h3, if_neg (fun z => by omega), ← hq2]
          · rw [jbr_n h3, if_pos ⟨h1, Or.inr (by omega)⟩]
            show evj _ _ _ _ _ = evj _ _ [jR 2 53, jR 8 1, jI (nI s), jI (nI t), jI (nI (r + 1) - 1), jI (nI (sS v s r t)), jI (nI (r + 1)), jU] _ _
            rw [nI_pred]
      · rw [scc_i h1, jbr_p rfl, if_neg (fun z => h1 z.1)]
    · show (if _ then _ else _ : Nat × Nat).1 = _ ∧ _
      rw [nrm_s, ← i1]
      split
      · exact ⟨rfl, fun _ => rfl, fun z => absurd z (by show ¬ (r + 1 = 0); omega)⟩
      · exact ⟨rfl, i2, i3⟩) 6 0 (0, 0) (by omega) ⟨rfl, fun h => absurd h (by show ¬ 0 < 0; omega), fun _ => rfl⟩
  obtain ⟨l1, l2, -⟩ := L
  refine Eq.trans l1 ?_
  show evj _ _ _ _ _ = _
  rw [e_Errand_nearestRoom_9, jbr_p (by decide), l2]
/-- better than the best so far -/
abbrev btr (x r s : Nat) (q : Nat × Nat × Nat) : Prop := x < q.1 ∨ (x = q.1 ∧ (r < q.2.1 ∨ (r = q.2.1 ∧ pop s < pop q.2.2)))
def QQ (v : vst) (q : Nat × Nat × Nat) : Prop := q.1 = 1000 ∨ (q.1 < 1000 ∧ q.2.1 < 6 ∧ q.2.2 < 2 ^ vn v)
def SB (m : jm) (q : Nat × Nat × Nat) : Prop := gI m 53 1 = scc q.1 ∧ (q.1 < 1000 → gI m 53 2 = nI q.2.1 ∧ gI m 53 3 = nI q.2.2)
theorem c_btr {m : jm} {v : vst} {x r s : Nat} {q : Nat × Nat × Nat} (hw : WV v) (hs : s < 2 ^ vn v) (hr : r < 6) (hx : x < 1000) (hq : QQ v q) (hm : SB m q) : cj 62 [jR 2 53, jI (nI x), jI (nI r), jI (nI s)] m = some (some (jI (nI (bN (decide (btr x r s q))))), m) := by
  have w3 : vn v ≤ 7 := hw.2.2.1
  have h27 : 2 ^ vn v ≤ 2 ^ 7 := Nat.pow_le_pow_right (by omega) w3
  obtain ⟨m1, m2⟩ := hm
  rw [e_Errand_isBetter, m1]
  rcases hq with h | ⟨h1, h2, h3⟩
  · rw [scc_i (by omega), jbr_p rfl, e_Errand_isBetter_16, m1, scc_i (by omega), jbr_p rfl, decide_eq_true (show btr x r s q from Or.inl (by omega))]
    rfl
  · obtain ⟨k1, k2⟩ := m2 h1
    have e16 : evj 62 16 [jR 2 53, jI (nI x), jU, jU] [] m = some (some (jI (nI (bN (decide (x < q.1))))), m) := by
      rw [e_Errand_isBetter_16, m1, scc_n h1, jbr_n (nI_nm1 (by omega)), bk_le (by omega) (by omega)]
      by_cases hc : q.1 ≤ x
      · rw [jbr_p hc, decide_eq_false (by omega)]; rfl
      · rw [jbr_n hc, decide_eq_true (by omega)]; rfl
    rw [scc_n h1, jbr_n (nI_nm1 (by omega)), bk_eq (by omega) (by omega)]
    by_cases hxe : x = q.1
    · rw [jbr_p hxe, k1, bk_eq (by omega) (by omega)]
      by_cases hre : r = q.2.1
      · have p1 := pop_le s
        have p2 := pop_le q.2.2
        rw [jbr_p hre, c_bc (by omega), bI_some, k2, c_bc (by omega), bI_some, bk_le (by omega) (by omega), e_Errand_isBetter_79, e_Errand_isBetter_79]
        by_cases hp : pop q.2.2 ≤ pop s
        · rw [jbr_p hp, decide_eq_false (by omega)]; rfl
        · rw [jbr_n hp, decide_eq_true (by omega)]; rfl
      · rw [jbr_n hre, bk_le (by omega) (by omega), e_Errand_isBetter_59, e_Errand_isBetter_59]
        by_cases hp : q.2.1 ≤ r
        · rw [jbr_p hp, decide_eq_false (by omega)]; rfl
        · rw [jbr_n hp, decide_eq_true (by omega)]; rfl
    · rw [jbr_n hxe, e16]
      congr 5
      exact congrArg bN (decide_eq_decide.mpr (by omega))
/-- the speech -/
def spw (v : vst) (n : Nat) : Nat := itr (fun i s => s ||| 2 ^ vP v i) n 0 0
theorem spw_lt {v : vst} (hw : WV v) : spw v (vp v) < 2 ^ vc v := itr_lt (n := vp v) (vc v) (fun i b hi hb => or_lt _ hb (two_lt (hw.2.2.2.2.2.2.2.2.1 i hi)))
theorem c_spw {k : Nat} {m : jm} {v : vst} (hw : WV v) (hv : CV m k v) : cj 35 [jR 8 k] m = some (some (jI (nI (spw v (vp v)))), m) := by
  obtain ⟨w3, w5, w8, w10⟩ := WB_of hw
  have h12 : gI m k 12 = nI (vp v) := hv.2.2.2.2.2.2.2.1
  rw [e_Valley_chordsOfSpeech]
  have L := lp_f (W := fun i x => evj 35 4 [jR 8 k, jI (nI x), jI (nI i)] [] m) (f := fun i s => s ||| 2 ^ vP v i) (n := vp v) (fun _ _ => True) (fun i x hi _ => by
    refine ⟨?_, trivial⟩
    show evj _ _ _ _ _ = evj _ _ _ _ _
    have := hw.2.2.2.2.2.2.2.2.1 i hi
    rw [e_Valley_chordsOfSpeech_4, h12, bk_le (by omega) (by omega), jbr_n (by omega), inB_nI (by omega) (by omega), jgd_t, ixn (by omega), hv.2.2.2.2.2.2.2.2.1 i hi, kI_1 (by omega), kI_or, show nI i + 1 = nI (i + 1) from nI_add i 1]) (vp v) 0 0 (by omega) trivial
  refine Eq.trans L.1 ?_
  show evj _ _ _ _ _ = _
  rw [e_Valley_chordsOfSpeech_4, h12, jbr_p (by rw [kI_le (by omega) (by omega)]; omega)]
  rfl
def sall (v : vst) (s w : Nat) : Bool := (List.range (vc v)).all (fun c => !w.testBit c || say v s (vC v c))
theorem c_sall {k s w : Nat} {μ : jm} {v : vst} (hk : k + 10 < 50) (hw : WV v) (hv : CV μ k v) (hs : s < 2 ^ vn v) (hwl : w < 2147483648) : ∃ m, cj 53 [jR 1 50, jR 8 k, jI (nI s), jI (nI w)] μ = some (some (jI (nI (bN (sall v s w)))), m) ∧ fI 51 52 μ m := by
  have w5 : vc v ≤ 8 := hw.2.2.2.2.1
  obtain ⟨m, e1, e2, e3⟩ := c_gather hk hw hv hs
  have hv1 := CV_fI e3 (by omega) hv
  have h9 : gI m k 9 = nI (vc v) := hv1.2.2.2.2.1
  refine ⟨m, ?_, e3⟩
  rw [e_Choir_canSayAll, e1, bV_some]
  refine lp_x (W := fun c (_ : Unit) => evj 53 9 [jR 1 50, jR 8 k, jU, jI (nI w), jI (nI c)] [] m) (n := vc v) (fun o => o = some (some (jI (nI (bN (sall v s w)))), m)) (fun c _ => ∀ j, j < c → (!w.testBit j || say v s (vC v j)) = true) (fun _ hI => ?_) (fun c _ hc hI => ?_) (vc v) 0 () (by omega) (fun j hj => absurd hj (Nat.not_lt_zero j))
  · show evj _ _ _ _ _ = _
    have : sall v s w = true := List.all_eq_true.mpr (fun j hj => hI j (List.mem_range.mp hj))
    rw [e_Choir_canSayAll_9, h9, jbr_p (by rw [kI_le (by omega) (by omega)]; omega), this]
    rfl
  · show (∃ a', evj _ _ _ _ _ = evj _ _ _ _ _ ∧ _) ∨ evj _ _ _ _ _ = _
    obtain ⟨⟨x, y, z, h1, h2, h3, h4⟩, -, -⟩ := hw.2.2.2.2.2.1 c hc
    have ext : (!w.testBit c || say v s (vC v c)) = true → ∀ j, j < c + 1 → (!w.testBit j || say v s (vC v j)) = true := fun h j hj => by
      by_cases e : j = c
      · rw [e]; exact h
      · exact hI j (by omega)
    rw [e_Choir_canSayAll_9, h9, bk_le (by omega) (by omega), jbr_n (by omega), kI_tb hwl (by omega), show nI c + 1 = nI (c + 1) from nI_add c 1]
    cases hb : w.testBit c
    · rw [bf_p rfl]
      exact Or.inl ⟨(), rfl, ext (by rw [hb]; rfl)⟩
    · rw [bf_n rfl, inB_nI (by omega) (by omega), jgd_t, ixn (by omega), (hv1.2.2.2.2.2.1 c hc).1, h4, c_fills hw e2 h1 h2 h3, bI_some, ← h4]
      cases hy : say v s (vC v c)
      · rw [bt_n rfl]
        refine Or.inr ?_
        have : sall v s w = false := by
          rw [← Bool.not_eq_true]
          intro q
          have := List.all_eq_true.mp q c (List.mem_range.mpr hc)
          rw [hb, hy] at this
          exact absurd this (by decide)
        rw [this]
        rfl
      · rw [bt_p rfl]
        exact Or.inl ⟨(), rfl, ext (by rw [hy, Bool.or_true])⟩
/-- the search -/
def skst (v : vst) (t w s : Nat) (q : Nat × Nat × Nat) : Nat × Nat × Nat := if 0 < nrm v s t 6 ∧ btr (sS v s (nrm v s t 6 - 1) t) (nrm v s t 6 - 1) s q ∧ sall v s w = true then (sS v s (nrm v s t 6 - 1) t, nrm v s t 6 - 1, s) else q
def skb (v : vst) (t n : Nat) : Nat × Nat × Nat := itr (fun s q => skst v t (spw v (vp v)) s q) n 0 (1000, 0, 0)
theorem skb_s (v : vst) (t n : Nat) : skb v t (n + 1) = skst v t (spw v (vp v)) n (skb v t n) := by
  show itr _ (n + 1) 0 _ = _
  rw [itr_s, Nat.zero_add]
  rfl
theorem QQ_s {v : vst} {t w s : Nat} {q : Nat × Nat × Nat} (hs : s < 2 ^ vn v) (h : QQ v q) : QQ v (skst v t w s q) := by
  obtain ⟨n1, n2⟩ := nrm_p v s t 6
  unfold skst
  split
  · rename_i hc
    exact Or.inr ⟨n2 hc.1, show nrm v s t 6 - 1 < 6 by omega, hs⟩
  · exact h
theorem QQ_b (v : vst) (t : Nat) : ∀ n, n ≤ 2 ^ vn v → QQ v (skb v t n)
  | 0, _ => Or.inl rfl
  | n + 1, h => by
    rw [skb_s]
    exact QQ_s (by omega) (QQ_b v t n (by omega))
theorem SB_f {m m' : jm} {q : Nat × Nat × Nat} {lo hi : Nat} (h : fI lo hi m m') (h2 : hi < 53 ∨ 53 < lo) (hs : SB m q) : SB m' q := ⟨by rw [fI_g h (by omega)]; exact hs.1, fun z => ⟨by rw [fI_g h (by omega)]; exact (hs.2 z).1, by rw [fI_g h (by omega)]; exact (hs.2 z).2⟩⟩
theorem c_seek {μ : jm} {v : vst} {t : Nat} (hw : WV v) (hv : CV μ 1 v) (ht : t ≤ 9) : ∃ m, cj 57 [jR 2 53, jR 8 1, jR 1 50, jI (nI t)] μ = some (some (jI (nI (bN (decide ((skb v t (2 ^ vn v)).1 < 1000))))), m) ∧ SB m (skb v t (2 ^ vn v)) ∧ fI 51 54 μ m := by
  have w3 : vn v ≤ 7 := hw.2.2.1
  have w5 : vc v ≤ 8 := hw.2.2.2.2.1
  have h27 : 2 ^ vn v ≤ 2 ^ 7 := Nat.pow_le_pow_right (by omega) w3
  have h28 : 2 ^ vc v ≤ 2 ^ 8 := Nat.pow_le_pow_right (by omega) w5
  have hwl := spw_lt hw
  obtain ⟨m0, d1, d2, d3⟩ := c_meas hw hv
  have f0 : fI 51 54 μ (sI m0 53 1 (-1 : Int32)) := fI_t (fI_w d3 (by omega) (by omega)) (fI_s _ (by omega) (by omega))
  have hv0 := CV_fI f0 (by omega) hv
  have hFA : FA (sI m0 53 1 (-1 : Int32)) v 6 := fun a b h1 h2 => by rw [gI_ne _ (by omega)]; exact d2 a b h1 h2
  rw [e_Errand_seek, d1, bV_some, c_spw hw hv0, bI_some, show gI (sI m0 53 1 (-1 : Int32)) 1 6 = nI (vn v) from hv0.2.2.1, kI_1 (by omega)]
  obtain ⟨m, e1, e2, e3, e4⟩ := lp_r (W := fun s (m : jm) => evj 57 27 [jR 2 53, jR 8 1, jR 1 50, jI (nI t), jI (nI (spw v (vp v))), jI (nI (2 ^ vn v)), jI (nI s), jU, jU] [] m) (n := 2 ^ vn v) (fun s m => SB m (skb v t s) ∧ FA m v 6 ∧ fI 51 54 μ m) (fun s m hs hI => by
    obtain ⟨i1, i2, i3⟩ := hI
    show ∃ a', evj _ _ _ _ _ = evj _ _ _ _ _ ∧ _
    have hv1 := CV_fI i3 (by omega) hv
    obtain ⟨n1, n2⟩ := nrm_p v s t 6
    have hQ := QQ_b v t s (by omega)
    have no : ∀ m', fI 51 52 m m' → ¬ (0 < nrm v s t 6 ∧ btr (sS v s (nrm v s t 6 - 1) t) (nrm v s t 6 - 1) s (skb v t s) ∧ sall v s (spw v (vp v)) = true) → ∃ a' : jm, evj 57 108 [jR 2 53, jR 8 1, jR 1 50, jI (nI t), jI (nI (spw v (vp v))), jI (nI (2 ^ vn v)), jI (nI s), jU, jU] [] m' = evj 57 27 [jR 2 53, jR 8 1, jR 1 50, jI (nI t), jI (nI (spw v (vp v))), jI (nI (2 ^ vn v)), jI (nI (s + 1)), jU, jU] [] a' ∧ SB a' (skb v t (s + 1)) ∧ FA a' v 6 ∧ fI 51 54 μ a' := fun m' hf hn => by
      rw [e_Errand_seek_108, show nI s + 1 = nI (s + 1) from nI_add s 1]
      have e : skb v t (s + 1) = skb v t s := by rw [skb_s]; exact if_neg hn
      rw [e]
      exact ⟨m', rfl, SB_f hf (by omega) i1, fun a b h1 h2 => by rw [fI_g hf (by omega)]; exact i2 a b h1 h2, fI_t i3 (fI_w hf (by omega) (by omega))⟩
    rw [e_Errand_seek_27, bk_le (by omega) (by omega), jbr_n (by omega), c_near hw hv1 i2 hs ht, bI_some, bk_n1 (by omega)]
    by_cases h0 : nrm v s t 6 = 0
    · rw [jbr_m h0]
      exact no m (fI_r _ _ _) (fun z => by omega)
    · obtain ⟨b, hbe⟩ : ∃ b, nrm v s t 6 = b + 1 := ⟨nrm v s t 6 - 1, by omega⟩
      have n2 := n2 (by omega)
      rw [hbe, Nat.add_sub_cancel] at n2
      rw [jbr_q h0, hbe, nI_pred, c_sTo hw hv1 i2 (show b < 6 by omega) hs ht, bI_some, scc_n n2, c_btr hw hs (by omega) n2 hQ i1, bI_some]
      rw [hbe, Nat.add_sub_cancel] at no
      by_cases hbt : btr (sS v s b t) b s (skb v t s)
      · rw [bf_n (decide_eq_true hbt)]
        obtain ⟨m', f1, f2⟩ := c_sall (k := 1) (by omega) hw hv1 hs (show spw v (vp v) < 2147483648 by omega)
        rw [f1, bI_some]
        cases hsa : sall v s (spw v (vp v))
        · rw [bf_p rfl]
          exact no m' f2 (fun z => by rw [hsa] at z; exact absurd z.2.2 (by decide))
        · rw [bf_n rfl, e_Errand_seek_108, show nI s + 1 = nI (s + 1) from nI_add s 1]
          have e : skb v t (s + 1) = (sS v s b t, b, s) := by
            rw [skb_s]
            unfold skst
            rw [hbe, Nat.add_sub_cancel, if_pos ⟨by omega, hbt, hsa⟩]
          rw [e]
          refine ⟨_, rfl, ⟨?_, fun _ => ⟨?_, ?_⟩⟩, fun a b h1 h2 => ?_, fI_t i3 (fI_t (fI_w f2 (by omega) (by omega)) (fI_t (fI_t (fI_s _ (by omega) (by omega)) (fI_s _ (by omega) (by omega))) (fI_s _ (by omega) (by omega))))⟩
          · rw [gI_ne _ (by omega), gI_ne _ (by omega), gI_eq]
            exact (scc_n n2).symm
          · rw [gI_ne _ (by omega), gI_eq]
          · rw [gI_eq]
          · rw [gI_ne _ (by omega), gI_ne _ (by omega), gI_ne _ (by omega), fI_g f2 (by omega)]
            exact i2 a b h1 h2
      · rw [bf_p (decide_eq_false hbt)]
        exact no m (fI_r _ _ _) (fun z => hbt z.2.1)) (2 ^ vn v) 0 (sI m0 53 1 (-1 : Int32)) (by omega) ⟨⟨by rw [gI_eq]; rfl, fun z => absurd z (by show ¬ (1000 < 1000); omega)⟩, hFA, f0⟩
  refine ⟨m, Eq.trans e1 ?_, e2, e4⟩
  show evj _ _ _ _ _ = _
  have hQ := QQ_b v t (2 ^ vn v) (Nat.le_refl _)
  rw [e_Errand_seek_27, jbr_p (by rw [kI_le (by omega) (by omega)]; omega), e2.1, e_Errand_seek_127, e_Errand_seek_127]
  by_cases hc : (skb v t (2 ^ vn v)).1 < 1000
  · rw [scc_n hc, jbr_n (nI_nm1 (by omega)), decide_eq_true hc]
    rfl
  · rw [scc_i hc, jbr_p rfl, decide_eq_false hc]
    rfl
