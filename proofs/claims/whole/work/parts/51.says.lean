/-! the reference counts; says, sounds -/
def rch (w m : Nat) : Nat × Nat := itr (fun x q => if m.testBit x = true then (q.1 ||| (if w.testBit x = true then 2 ^ q.2 else 0), q.2 + 1) else q) 12 0 (0, 0)
theorem rch_d : ∀ a, a < 12 → ∀ b, b < 12 → ∀ c, c < 12 → a < b → b < c → [false, true].all (fun x => [false, true].all (fun y => [false, true].all (fun z => decide ((rch (((if x then 2 ^ a else 0) ||| (if y then 2 ^ b else 0)) ||| (if z then 2 ^ c else 0)) (2 ^ a + 2 ^ b + 2 ^ c)).1 = enc x y z)))) = true := by decide +kernel
theorem rch_e {a b c : Nat} (w : Nat) (h1 : a < b) (h2 : b < c) (h3 : c < 12) : (rch w (2 ^ a + 2 ^ b + 2 ^ c)).1 = enc (w.testBit a) (w.testBit b) (w.testBit c) := by
  have e1 : rch w (2 ^ a + 2 ^ b + 2 ^ c) = rch (w &&& (2 ^ a + 2 ^ b + 2 ^ c)) (2 ^ a + 2 ^ b + 2 ^ c) := by
    unfold rch
    refine itr_c _ _ _ (fun j q _ _ => ?_)
    show (if _ then _ else _) = (if _ then _ else _)
    rw [Nat.testBit_and]
    cases h : (2 ^ a + 2 ^ b + 2 ^ c).testBit j
    · rfl
    · rw [Bool.and_true]
  have hbits : w &&& (2 ^ a + 2 ^ b + 2 ^ c) = ((if w.testBit a then 2 ^ a else 0) ||| (if w.testBit b then 2 ^ b else 0)) ||| (if w.testBit c then 2 ^ c else 0) := by
    rw [← c3_ch2 a (by omega) b (by omega) c h3 h1 h2, Nat.and_or_distrib_left, Nat.and_or_distrib_left, and2, and2, and2]
  rw [e1, hbits]
  exact of_decide_eq_true (List.all_eq_true.mp (List.all_eq_true.mp (List.all_eq_true.mp (rch_d a (by omega) b (by omega) c h3 h1 h2) _ (bl_m (w.testBit a))) _ (bl_m (w.testBit b))) _ (bl_m (w.testBit c)))
theorem m_reach {r p set a b c : Nat} (hr : r ≤ 420) {μ : jm} {v : vst} (hw : WV v) (hv : MV μ r v) (hp : p < vn v) (hs : set < 128) (h1 : a < b) (h2 : b < c) (h3 : c < 12) : cj 172 [jR 10 64, jI (nI r), jI (nI p), jI (nI set), jI (nI (2 ^ a + 2 ^ b + 2 ^ c))] μ = some (some (jI (nI (enc ((nea (snd v p set) (vl v)).testBit a) ((nea (snd v p set) (vl v)).testBit b) ((nea (snd v p set) (vl v)).testBit c)))), μ) := by
  have w7 : vl v ≤ 2 := hw.2.2.2.2.2.2.1
  obtain ⟨w41, w42, w43, w44, -⟩ := hw.2.2.2.1 p hp
  have hl : gI μ 65 (r + 118) = nI (vl v) := hv.2.2.2.2.2.2.1
  have hsn := snd_lt (v := v) (p := p) set w42
  have hne := nea_lt (vl v) hsn
  have hm : 2 ^ a + 2 ^ b + 2 ^ c < 16384 := by
    have := two_12 (show a < 12 by omega)
    have := two_12 (show b < 12 by omega)
    have := two_12 h3
    omega
  rw [e_M_reachOf, m_snd hr hw hv hp hs, bI_some, li1]
  have L := lp_f (W := fun i w => evj 172 16 [jR 10 64, jI (nI r), jU, jU, jI (nI (2 ^ a + 2 ^ b + 2 ^ c)), jI (nI (snd v p set)), jI (nI w), jI (nI (i + 1)), jU, jU] [] μ) (f := fun i w => w ||| (rot (snd v p set) (i + 1) ||| rot (snd v p set) (12 - (i + 1)))) (n := vl v) (fun _ _ => True) (fun i w hi _ => by
    refine ⟨?_, trivial⟩
    show evj _ _ _ _ _ = evj _ _ _ _ _
    rw [e_M_reachOf_16, li118, nI_add, inB_nI (by omega) (by omega), jgd_t, ixn (by omega), hl, bk_lt (by omega) (by omega), jbr_n (by omega), m_rot hsn (by omega), bI_some, li12, kI_sub (by omega), m_rot hsn (by omega), bI_some, kI_or, kI_or, li1, nI_add]) (vl v) 0 (snd v p set) (by omega) trivial
  refine L.1.trans ?_
  show evj _ _ _ _ _ = _
  rw [e_M_reachOf_16, li118, nI_add, inB_nI (by omega) (by omega), jgd_t, ixn (by omega), hl, bk_lt (by omega) (by omega), jbr_p (by omega)]
  have M := lp_f (W := fun x (q : Nat × Nat) => evj 172 68 [jU, jU, jU, jU, jI (nI (2 ^ a + 2 ^ b + 2 ^ c)), jU, jI (nI (nea (snd v p set) (vl v))), jI (nI q.1), jI (nI q.2), jI (nI x)] [] μ) (f := fun x q => if (2 ^ a + 2 ^ b + 2 ^ c).testBit x = true then (q.1 ||| (if (nea (snd v p set) (vl v)).testBit x = true then 2 ^ q.2 else 0), q.2 + 1) else q) (n := 12) (fun i q => q.2 ≤ i) (fun x q hx hq => by
    refine ⟨?_, by split <;> first | exact Nat.succ_le_succ hq | exact Nat.le_succ_of_le hq⟩
    show evj _ _ _ _ _ = evj _ _ _ _ _
    rw [e_M_reachOf_68, li12, bk_le (by omega) (by omega), jbr_n (by omega), m_has (by omega) (by omega), bI_some]
    cases hb : (2 ^ a + 2 ^ b + 2 ^ c).testBit x
    · rw [bf_p rfl, if_neg (by decide), li1, nI_add]
    · rw [bf_n rfl, if_pos rfl, m_has (by omega) (by omega), bI_some]
      cases hb2 : (nea (snd v p set) (vl v)).testBit x
      · rw [bf_p rfl, if_neg (by decide), li1, nI_add, nI_add, li0, kI_or]
      · rw [bf_n rfl, if_pos rfl, kI_1 (by omega), li1, nI_add, nI_add, kI_or]) 12 0 (0, 0) (by omega) (Nat.le_refl 0)
  refine M.1.trans ?_
  show evj _ _ _ _ _ = _
  rw [e_M_reachOf_68, jbr_p (by decide), ← rch_e _ h1 h2 h3]
  rfl
theorem enc_lt (x y z : Bool) : enc x y z < 8 := by cases x <;> cases y <;> cases z <;> decide
theorem m_say {r set c : Nat} (hr : r ≤ 420) {μ : jm} {v : vst} (hw : WV v) (hv : MV μ r v) (hs : set < 2 ^ vn v) (hc : c < vc v) : ∃ m, cj 171 [jR 10 64, jI (nI r), jI (nI set), jI (nI c)] μ = some (some (jI (nI (bN (say v set (vC v c))))), m) ∧ fI 71 71 μ m := by
  have w3 : vn v ≤ 7 := hw.2.2.1
  have w5 : vc v ≤ 8 := hw.2.2.2.2.1
  have h27 : 2 ^ vn v ≤ 2 ^ 7 := Nat.pow_le_pow_right (by omega) w3
  obtain ⟨⟨a, b, d, h1, h2, h3, h4⟩, -, -⟩ := hw.2.2.2.2.2.1 c hc
  rw [h4]
  obtain ⟨n0, n1, n2⟩ := nts_d a (by omega) b (by omega) d h3 h1 h2
  have hX : ∀ p, enc ((fil v set p).testBit a) ((fil v set p).testBit b) ((fil v set p).testBit d) = if p < vn v ∧ set.testBit p = true then enc ((nea (snd v p set) (vl v)).testBit a) ((nea (snd v p set) (vl v)).testBit b) ((nea (snd v p set) (vl v)).testBit d) else 0 := fun p => by
    unfold fil
    split
    · rfl
    · rw [Nat.zero_testBit, Nat.zero_testBit, Nat.zero_testBit]; rfl
  rw [e_M_doesSay]
  obtain ⟨m, e1, e2, e3⟩ := lp_r (W := fun i (m : jm) => evj 171 3 [jR 10 64, jI (nI r), jI (nI set), jI (nI c), jI (nI i), jU, jU] [] m) (n := vn v) (fun i m => fI 71 71 μ m ∧ ∀ p, p < i → gI m 71 p = nI (enc ((fil v set p).testBit a) ((fil v set p).testBit b) ((fil v set p).testBit d))) (fun p m hp hI => by
    obtain ⟨hf, hg⟩ := hI
    show ∃ a', evj _ _ _ _ _ = evj _ _ _ _ _ ∧ _
    have hv1 := MV_fI hf (by omega) hw hv
    have key : ∀ (x : Nat), x = enc ((fil v set p).testBit a) ((fil v set p).testBit b) ((fil v set p).testBit d) → fI 71 71 μ (sI m 71 p (nI x)) ∧ ∀ q, q < p + 1 → gI (sI m 71 p (nI x)) 71 q = nI (enc ((fil v set q).testBit a) ((fil v set q).testBit b) ((fil v set q).testBit d)) := fun x hx => ⟨fI_t hf (fI_s m (by omega) (by omega)), fun q hq => by
      by_cases e : q = p
      · subst e; rw [gI_eq, hx]
      · rw [gI_ne m (by omega)]; exact hg q (by omega)⟩
    rw [e_M_doesSay_3, li72, nI_add, inB_nI (by omega) (by omega), jgd_t, ixn (by omega), show gI m 65 (r + 72) = nI (vn v) from hv1.2.2.1, bk_le (by omega) (by omega), jbr_n (by omega), m_has (by omega) (by omega), bI_some]
    cases hb : set.testBit p
    · rw [bf_p rfl, inB_nI (by omega) (by omega), jgd_t, ixn (by omega), li0, li1, nI_add]
      exact ⟨_, rfl, key 0 (by rw [hX, if_neg (fun z => by rw [hb] at z; exact absurd z.2 (by decide))])⟩
    · rw [bf_n rfl, li102, nI_add, nI_add, inB_nI (by omega) (by omega), jgd_t, ixn (by omega), (hv1.2.2.2.2.2.1 c hc).1, h4, m_reach hr hw hv1 hp (by omega) h1 h2 h3, bI_some, inB_nI (by omega) (by omega), jgd_t, ixn (by omega), li1, nI_add]
      exact ⟨_, rfl, key _ (by rw [hX, if_pos ⟨hp, hb⟩])⟩) (vn v) 0 μ (by omega) ⟨fI_r _ _ _, fun p hp => absurd hp (Nat.not_lt_zero p)⟩
  have hv1 := MV_fI e2 (by omega) hw hv
  have h72 : gI m 65 (r + 72) = nI (vn v) := hv1.2.2.1
  refine ⟨m, e1.trans ?_, e2⟩
  show evj _ _ _ _ _ = _
  rw [e_M_doesSay_3, li72, nI_add, inB_nI (by omega) (by omega), jgd_t, ixn (by omega), h72, bk_le (by omega) (by omega), jbr_p (by omega), li1]
  unfold say
  rw [n0, n1, n2]
  have hcx : ∀ l, cnt (fun p => (fil v set p).testBit a) (fun p => (fil v set p).testBit b) (fun p => (fil v set p).testBit d) (cap v) l 7 = cnt (fun p => (fil v set p).testBit a) (fun p => (fil v set p).testBit b) (fun p => (fil v set p).testBit d) (cap v) l (vn v) := fun l => itr_x w3 0 (fun j q hj => by
    show q + (if enc ((fil v set j).testBit a) ((fil v set j).testBit b) ((fil v set j).testBit d) &&& l = 0 then 0 else cap v j) = q
    rw [hX j, if_neg (show ¬ (j < vn v ∧ set.testBit j = true) from fun z => absurd z.1 (by omega)), Nat.zero_and, if_pos rfl, Nat.add_zero])
  have hcl : ∀ l n, cnt (fun p => (fil v set p).testBit a) (fun p => (fil v set p).testBit b) (fun p => (fil v set p).testBit d) (cap v) l n ≤ 2 * n := fun l n => itr_I (n := n) (fun i s => s ≤ 2 * i) (fun i s _ h => by
    have := cap_12 v i
    show s + (if _ then _ else _) ≤ _
    split <;> omega) (Nat.le_refl 0)
  refine lp_x (W := fun i (_ : Unit) => evj 171 65 [jR 10 64, jI (nI r), jU, jU, jI (nI (i + 1)), jU, jU] [] m) (n := 7) (fun o => o = some (some (jI (nI (bN (hal (fun p => (fil v set p).testBit a) (fun p => (fil v set p).testBit b) (fun p => (fil v set p).testBit d) (cap v) 7)))), m)) (fun i _ => ∀ j, j < i → pop (j + 1) ≤ cnt (fun p => (fil v set p).testBit a) (fun p => (fil v set p).testBit b) (fun p => (fil v set p).testBit d) (cap v) (j + 1) 7) ?_ ?_ 7 0 () (by omega) (fun j hj => absurd hj (Nat.not_lt_zero j))
  · intro _ hI
    show evj _ _ _ _ _ = _
    rw [e_M_doesSay_65, jbr_p (by decide)]
    have : hal (fun p => (fil v set p).testBit a) (fun p => (fil v set p).testBit b) (fun p => (fil v set p).testBit d) (cap v) 7 = true := List.all_eq_true.mpr (fun j hj => decide_eq_true (hI j (List.mem_range.mp hj)))
    rw [this]
    rfl
  · intro l _ hl hI
    show (∃ a', evj _ _ _ _ _ = evj _ _ _ _ _ ∧ _) ∨ evj _ _ _ _ _ = _
    have M := lp_f (W := fun i s => evj 171 78 [jR 10 64, jI (nI r), jU, jU, jI (nI (l + 1)), jI (nI s), jI (nI i)] [] m) (f := fun p s => s + (if enc ((fil v set p).testBit a) ((fil v set p).testBit b) ((fil v set p).testBit d) &&& (l + 1) = 0 then 0 else cap v p)) (n := vn v) (fun i s => s ≤ 2 * i) (fun p s hp hs2 => by
      have hc12 := cap_12 v p
      obtain ⟨q1, q2, q3, q4⟩ := hv1.2.2.2.1 p hp
      obtain ⟨w41, w42, w43, w44, -⟩ := hw.2.2.2.1 p hp
      have hlt := enc_lt ((fil v set p).testBit a) ((fil v set p).testBit b) ((fil v set p).testBit d)
      have hle : enc ((fil v set p).testBit a) ((fil v set p).testBit b) ((fil v set p).testBit d) &&& (l + 1) ≤ enc ((fil v set p).testBit a) ((fil v set p).testBit b) ((fil v set p).testBit d) := Nat.and_le_left
      refine ⟨?_, by split <;> omega⟩
      show evj _ _ _ _ _ = evj _ _ _ _ _
      rw [e_M_doesSay_78, li72, nI_add, inB_nI (by omega) (by omega), jgd_t, ixn (by omega), h72, bk_le (by omega) (by omega), jbr_n (by omega), inB_nI (by omega) (by omega), jgd_t, ixn (by omega), e3 p hp, kI_and, li0, bk_ne (by omega) (by omega)]
      by_cases hz : enc ((fil v set p).testBit a) ((fil v set p).testBit b) ((fil v set p).testBit d) &&& (l + 1) = 0
      · rw [jbr_n (fun z => z hz), if_pos hz, nI_add, li1, nI_add]
      · rw [jbr_p hz, if_neg hz, li73, nI_add, nI_add, inB_nI (by omega) (by omega), jgd_t, ixn (by omega), q1, li4, bk_lt (by omega) (by omega)]
        by_cases h4 : vK v p < 4
        · rw [jbr_p h4, show cap v p = 1 from if_pos h4, li1, nI_add, nI_add]
        · rw [jbr_n h4, show cap v p = 2 from if_neg h4, li2, nI_add, li1, nI_add]) (vn v) 0 0 (by omega) (Nat.le_refl 0)
    have hM : evj 171 78 [jR 10 64, jI (nI r), jU, jU, jI (nI (l + 1)), jI (nI 0), jI (nI 0)] [] m = evj 171 78 [jR 10 64, jI (nI r), jU, jU, jI (nI (l + 1)), jI (nI (cnt (fun p => (fil v set p).testBit a) (fun p => (fil v set p).testBit b) (fun p => (fil v set p).testBit d) (cap v) (l + 1) 7)), jI (nI (vn v))] [] m := by rw [hcx]; exact M.1
    have hcn := hcl (l + 1) 7
    have hpp := pop_le (l + 1)
    rw [e_M_doesSay_65, li8, bk_le (by omega) (by omega), jbr_n (by omega), li0, hM, e_M_doesSay_78, li72, nI_add, inB_nI (by omega) (by omega), jgd_t, ixn (by omega), h72, jbr_p (by rw [kI_le (by omega) (by omega)]; omega), m_ones (by omega), bI_some, bk_le (by omega) (by omega)]
    by_cases hq : pop (l + 1) ≤ cnt (fun p => (fil v set p).testBit a) (fun p => (fil v set p).testBit b) (fun p => (fil v set p).testBit d) (cap v) (l + 1) 7
    · refine Or.inl ⟨(), ?_, fun j hj => ?_⟩
      · rw [jbr_p hq, li1, nI_add]
      · by_cases e : j = l
        · subst e; exact hq
        · exact hI j (by omega)
    · refine Or.inr ?_
      rw [jbr_n hq]
      have : hal (fun p => (fil v set p).testBit a) (fun p => (fil v set p).testBit b) (fun p => (fil v set p).testBit d) (cap v) 7 = false := by
        rw [← Bool.not_eq_true]
        intro z
        exact hq (of_decide_eq_true (List.all_eq_true.mp z l (List.mem_range.mpr hl)))
      rw [this]
      rfl
/-- sounds -/
def fSo (x y : Int32) (v : vst) : Int32 := if mem x y v then nI (snd v (un x) (un y)) else -2
theorem op_sounds (x y : Int32) : opI 103 153 [jI x, jI y] Rel := by
  refine opI_of (fun S => fSo x y (sv S)) (fun S => tel S (fSo x y (sv S))) (fun S h => WS_tel h _) ?_ ?_
  · intro μ S hW hC
    rw [e_N_sounds, c_mem x y hW.1 hC.1, bI_some]
    have w3 : vn (sv S) ≤ 7 := hW.1.2.2.1
    have h27 : 2 ^ vn (sv S) ≤ 2 ^ 7 := Nat.pow_le_pow_right (by omega) w3
    by_cases h : mem x y (sv S)
    · have fe : fSo x y (sv S) = _ := if_pos h
      rw [fe]
      obtain ⟨p, set, hp, hs, rfl, rfl, hb⟩ := un_p h w3
      have hlt := snd_lt (v := sv S) (p := p) set (hW.1.2.2.2.1 p hp).2.1
      rw [bt_p (decide_eq_true h), c_snd hW.1 hC.1 hp (by omega), bI_some, un_nI (by omega), un_nI (by omega), tel_n S (by omega)]
      exact ⟨_, rfl, hC, oc_r μ⟩
    · have fe : fSo x y (sv S) = _ := if_neg h
      rw [fe, bt_n (decide_eq_false h)]
      exact c_tel _ hC
  · intro μ S hW hM
    have w3 : vn (sv S) ≤ 7 := hW.1.2.2.1
    have h27 : 2 ^ vn (sv S) ≤ 2 ^ 7 := Nat.pow_le_pow_right (by omega) w3
    rw [e_M_sounds, m_isSet y μ w3 hM.1.2.2.1, bI_some]
    by_cases h : mem x y (sv S)
    · have fe : fSo x y (sv S) = _ := if_pos h
      rw [fe]
      obtain ⟨p, set, hp, hs, rfl, rfl, hb⟩ := un_p h w3
      have hlt := snd_lt (v := sv S) (p := p) set (hW.1.2.2.2.1 p hp).2.1
      rw [bf_n (decide_eq_true h.1), show cj 147 [jR 10 64, jI (0 : Int32), jI (nI p)] μ = _ from m_isOne 0 (by omega) _ μ w3 hM.1.2.2.1, bI_some, bf_n (decide_eq_true h.2.1), m_has (by omega) (by omega), bI_some, bt_p hb, show cj 156 [jR 10 64, jI (0 : Int32), jI (nI p), jI (nI set)] μ = _ from m_snd (r := 0) (by omega) hW.1 hM.1 hp (by omega), bI_some, un_nI (by omega), un_nI (by omega), tel_n S (by omega)]
      exact ⟨_, rfl, hM, om_r μ⟩
    · have fe : fSo x y (sv S) = _ := if_neg h
      rw [fe]
      by_cases h1 : un y < 2 ^ vn (sv S)
      · rw [bf_n (decide_eq_true h1), show cj 147 [jR 10 64, jI (0 : Int32), jI x] μ = _ from m_isOne 0 (by omega) _ μ w3 hM.1.2.2.1, bI_some]
        by_cases h2 : un x < vn (sv S)
        · rw [bf_n (decide_eq_true h2)]
          obtain ⟨p, hp, rfl⟩ := un_x h2 (by omega)
          obtain ⟨set, hs, rfl⟩ := un_x h1 (by omega)
          rw [m_has (by omega) (by omega), bI_some, bt_n]
          · exact m_tel _ hW hM
          · cases hb : set.testBit p
            · rfl
            · exact absurd ⟨h1, h2, by rw [un_nI (by omega), un_nI (by omega)]; exact hb⟩ h
        · rw [bf_p (decide_eq_false h2)]
          exact m_tel _ hW hM
      · rw [bf_p (decide_eq_false h1)]
        exact m_tel _ hW hM
/-- says -/
abbrev sOk (x y : Int32) (v : vst) : Prop := un x < 2 ^ vn v ∧ un y < vc v
def fSy (x y : Int32) (v : vst) : Int32 := if sOk x y v then nI (bN (say v (un x) (vC v (un y)))) else -2
theorem jbr_b2 {b : Bool} {μ : jm} : jbr (decide (nI (bN b) = 0)) (some (some (jI (0 : Int32)), μ)) (some (some (jI (1 : Int32)), μ)) = (some (some (jI (nI (bN b))), μ) : Option jr) := by cases b <;> rfl
theorem op_says (x y : Int32) : opI 107 169 [jI x, jI y] Rel := by
  refine opI_of (fun S => fSy x y (sv S)) (fun S => tel S (fSy x y (sv S))) (fun S h => WS_tel h _) ?_ ?_
  · intro μ S hW hC
    have w3 : vn (sv S) ≤ 7 := hW.1.2.2.1
    have w5 : vc (sv S) ≤ 8 := hW.1.2.2.2.2.1
    have h27 : 2 ^ vn (sv S) ≤ 2 ^ 7 := Nat.pow_le_pow_right (by omega) w3
    rw [e_N_says, c_isSet 1 x μ w3 hC.1.2.2.1, bI_some]
    by_cases h1 : un x < 2 ^ vn (sv S)
    · rw [bf_n (decide_eq_true h1), c_isChord 1 y μ (by omega) hC.1.2.2.2.2.1, bI_some]
      by_cases h2 : un y < vc (sv S)
      · have fe : fSy x y (sv S) = _ := if_pos ⟨h1, h2⟩
        rw [fe, bt_p (decide_eq_true h2)]
        obtain ⟨c, hc, rfl⟩ := un_x h2 (by omega)
        obtain ⟨set, hs, rfl⟩ := un_x h1 (by omega)
        obtain ⟨m, e1, e2⟩ := c_say (k := 1) (by omega) hW.1 hC.1 hs hc
        have hb := bN_le (say (sv S) set (vC (sv S) c))
        rw [e1, bI_some, jbr_b2, un_nI (by omega), un_nI (by omega), tel_n S (by omega)]
        exact ⟨_, rfl, CS_fI e2 (by omega) hC, oc_fI e2 (by omega)⟩
      · have fe : fSy x y (sv S) = _ := if_neg (fun z => h2 z.2)
        rw [fe, bt_n (decide_eq_false h2)]
        exact c_tel _ hC
    · have fe : fSy x y (sv S) = _ := if_neg (fun z => h1 z.1)
      rw [fe, bf_p (decide_eq_false h1)]
      exact c_tel _ hC
  · intro μ S hW hM
    have w3 : vn (sv S) ≤ 7 := hW.1.2.2.1
    have w5 : vc (sv S) ≤ 8 := hW.1.2.2.2.2.1
    have h27 : 2 ^ vn (sv S) ≤ 2 ^ 7 := Nat.pow_le_pow_right (by omega) w3
    rw [e_M_says, m_isSet x μ w3 hM.1.2.2.1, bI_some]
    by_cases h1 : un x < 2 ^ vn (sv S)
    · rw [bf_n (decide_eq_true h1), m_isChord y μ w5 hM.1.2.2.2.2.1, bI_some]
      by_cases h2 : un y < vc (sv S)
      · have fe : fSy x y (sv S) = _ := if_pos ⟨h1, h2⟩
        rw [fe, bt_p (decide_eq_true h2)]
        obtain ⟨c, hc, rfl⟩ := un_x h2 (by omega)
        obtain ⟨set, hs, rfl⟩ := un_x h1 (by omega)
        obtain ⟨m, e1, e2⟩ := m_say (r := 0) (by omega) hW.1 hM.1 hs hc
        have hb := bN_le (say (sv S) set (vC (sv S) c))
        rw [show cj 171 [jR 10 64, jI (0 : Int32), jI (nI set), jI (nI c)] μ = _ from e1, bI_some, jbr_b2, un_nI (by omega), un_nI (by omega), tel_n S (by omega)]
        exact ⟨_, rfl, MS_fI e2 (by omega) hW hM, om_fI e2 (by omega) (by omega)⟩
      · have fe : fSy x y (sv S) = _ := if_neg (fun z => h2 z.2)
        rw [fe, bt_n (decide_eq_false h2)]
        exact m_tel _ hW hM
    · have fe : fSy x y (sv S) = _ := if_neg (fun z => h1 z.1)
      rw [fe, bf_p (decide_eq_false h1)]
      exact m_tel _ hW hM
