/-! said, byDoor, fewest, block, meant -/
def sdb (v : vst) (set : Nat) : Nat := itr (fun c b => if say v set (vC v c) = true then b ||| 2 ^ c else b) (vc v) 0 0
theorem itr_lt {n : Nat} {f : Nat → Nat → Nat} (k : Nat) (h : ∀ i b, i < n → b < 2 ^ k → f i b < 2 ^ k) : itr f n 0 0 < 2 ^ k := itr_I (n := n) (fun _ b => b < 2 ^ k) h (Nat.two_pow_pos k)
theorem sdb_lt {v : vst} (hw : WV v) (set : Nat) : sdb v set < 256 := by
  have w5 : vc v ≤ 8 := hw.2.2.2.2.1
  refine itr_lt 8 (fun i b hi hb => ?_)
  split
  · exact or_lt 8 hb (two_lt (by omega))
  · exact hb
theorem c_sdb {k set : Nat} {μ : jm} {v : vst} (hk : k + 10 < 50) (hw : WV v) (hv : CV μ k v) (hs : set < 2 ^ vn v) : ∃ m, cj 51 [jR 1 50, jR 8 k, jI (nI set)] μ = some (some (jI (nI (sdb v set))), m) ∧ fI 51 52 μ m := by
  have w5 : vc v ≤ 8 := hw.2.2.2.2.1
  obtain ⟨m, e1, e2, e3⟩ := c_gather hk hw hv hs
  have hv1 := CV_fI e3 (by omega) hv
  have h9 : gI m k 9 = nI (vc v) := hv1.2.2.2.2.1
  refine ⟨m, ?_, e3⟩
  rw [e_Choir_chordsOf, e1, bV_some]
  have L := lp_f (W := fun i b => evj 51 11 [jR 1 50, jR 8 k, jU, jI (nI b), jI (nI i)] [] m) (f := fun c b => if say v set (vC v c) = true then b ||| 2 ^ c else b) (n := vc v) (fun _ _ => True) (fun c b hc _ => by
    refine ⟨?_, trivial⟩
    show evj _ _ _ _ _ = evj _ _ _ _ _
    obtain ⟨⟨x, y, z, h1, h2, h3, h4⟩, -, -⟩ := hw.2.2.2.2.2.1 c hc
    rw [e_Choir_chordsOf_11, h9, bk_le (by omega) (by omega), jbr_n (by omega), inB_nI (by omega) (by omega), jgd_t, ixn (by omega), (hv1.2.2.2.2.2.1 c hc).1, h4, c_fills hw e2 h1 h2 h3, bI_some]
    cases hb : say v set (2 ^ x + 2 ^ y + 2 ^ z)
    · rw [bf_p rfl, if_neg (by decide), li1, nI_add]
    · rw [bf_n rfl, if_pos rfl, kI_1 (by omega), kI_or, li1, nI_add]) (vc v) 0 0 (by omega) trivial
  refine L.1.trans ?_
  show evj _ _ _ _ _ = _
  rw [e_Choir_chordsOf_11, h9, jbr_p (by rw [kI_le (by omega) (by omega)]; omega)]
  rfl
theorem m_sdb {r set : Nat} (hr : r ≤ 420) {μ : jm} {v : vst} (hw : WV v) (hv : MV μ r v) (hs : set < 2 ^ vn v) : ∃ m, cj 176 [jR 10 64, jI (nI r), jI (nI set)] μ = some (some (jI (nI (sdb v set))), m) ∧ fI 71 71 μ m := by
  have w5 : vc v ≤ 8 := hw.2.2.2.2.1
  rw [e_M_saidBy]
  obtain ⟨⟨b, m⟩, e1, e2, e3⟩ := lp_r (W := fun i (q : Nat × jm) => evj 176 5 [jR 10 64, jI (nI r), jI (nI set), jI (nI q.1), jI (nI i)] [] q.2) (n := vc v) (fun i q => q.1 = itr (fun c b => if say v set (vC v c) = true then b ||| 2 ^ c else b) i 0 0 ∧ fI 71 71 μ q.2) (fun c q hc hI => by
    obtain ⟨b, m⟩ := q
    obtain ⟨hb, hf⟩ := hI
    have hb : b = itr (fun c b => if say v set (vC v c) = true then b ||| 2 ^ c else b) c 0 0 := hb
    have hf : fI 71 71 μ m := hf
    show ∃ a', evj _ _ [jR 10 64, jI (nI r), jI (nI set), jI (nI b), jI (nI c)] _ m = evj _ _ _ _ _ ∧ _
    have hv1 := MV_fI hf (by omega) hw hv
    obtain ⟨m1, d1, d2⟩ := m_say hr hw hv1 hs hc
    rw [e_M_saidBy_5, li101, nI_add, inB_nI (by omega) (by omega), jgd_t, ixn (by omega), show gI m 65 (r + 101) = nI (vc v) from hv1.2.2.2.2.1, bk_le (by omega) (by omega), jbr_n (by omega), d1, bI_some]
    cases hy : say v set (vC v c)
    · rw [bf_p rfl, li0, kI_or, Nat.or_zero, li1, nI_add]
      refine ⟨(b, m1), rfl, ?_, fI_t hf d2⟩
      rw [itr_s, ← hb, Nat.zero_add, hy, if_neg (by decide)]
    · rw [bf_n rfl, kI_1 (by omega), kI_or, li1, nI_add]
      refine ⟨(b ||| 2 ^ c, m1), rfl, ?_, fI_t hf d2⟩
      rw [itr_s, ← hb, Nat.zero_add, hy, if_pos rfl]) (vc v) 0 (0, μ) (by omega) ⟨rfl, fI_r _ _ _⟩
  have hf : fI 71 71 μ m := e3
  have hb : b = sdb v set := e2
  have hv1 := MV_fI hf (by omega) hw hv
  refine ⟨m, e1.trans ?_, hf⟩
  show evj _ _ [jR 10 64, jI (nI r), jI (nI set), jI (nI b), jI (nI (vc v))] _ m = _
  rw [e_M_saidBy_5, li101, nI_add, inB_nI (by omega) (by omega), jgd_t, ixn (by omega), show gI m 65 (r + 101) = nI (vc v) from hv1.2.2.2.2.1, jbr_p (by rw [kI_le (by omega) (by omega)]; omega), hb]
/-- those in rooms -/
def pin (v : vst) (rs n : Nat) : Nat := itr (fun p s => if rs.testBit (vR v p) = true then s ||| 2 ^ p else s) n 0 0
theorem pin_lt (v : vst) (rs n : Nat) : pin v rs n < 2 ^ n := itr_lt n (fun i b hi hb => by
  split
  · exact or_lt n hb (two_lt hi)
  · exact hb)
theorem pin_or (v : vst) (a b : Nat) : ∀ n, pin v (2 ^ a ||| 2 ^ b) n = pin v (2 ^ a) n ||| pin v (2 ^ b) n
  | 0 => by
    show 0 = 0 ||| 0
    rw [Nat.or_zero]
  | n + 1 => by
    have ih := pin_or v a b n
    unfold pin at ih ⊢
    rw [itr_s, itr_s, itr_s, ih, Nat.zero_add, Nat.testBit_or]
    generalize itr (fun p s => if (2 ^ a).testBit (vR v p) = true then s ||| 2 ^ p else s) n 0 0 = s1
    generalize itr (fun p s => if (2 ^ b).testBit (vR v p) = true then s ||| 2 ^ p else s) n 0 0 = s2
    generalize 2 ^ n = t
    have o : ∀ x y z : Nat, (x ||| y) ||| z = (x ||| z) ||| y := fun x y z => by rw [Nat.or_assoc, Nat.or_comm y z, ← Nat.or_assoc]
    cases (2 ^ a).testBit (vR v n) <;> cases (2 ^ b).testBit (vR v n)
    · rfl
    · show (s1 ||| s2) ||| t = s1 ||| (s2 ||| t)
      rw [Nat.or_assoc]
    · show (s1 ||| s2) ||| t = (s1 ||| t) ||| s2
      exact o _ _ _
    · show (s1 ||| s2) ||| t = (s1 ||| t) ||| (s2 ||| t)
      rw [← Nat.or_assoc, o s1 t s2, Nat.or_assoc (s1 ||| s2) t t, Nat.or_self]
theorem c_pin {k rs : Nat} {μ : jm} {v : vst} (hw : WV v) (hv : CV μ k v) (hr : rs < 64) : cj 31 [jR 8 k, jI (nI rs)] μ = some (some (jI (nI (pin v rs (vn v)))), μ) := by
  have w3 : vn v ≤ 7 := hw.2.2.1
  have h6 : gI μ k 6 = nI (vn v) := hv.2.2.1
  rw [e_Valley_peopleIn]
  have L := lp_f (W := fun i b => evj 31 4 [jR 8 k, jI (nI rs), jI (nI b), jI (nI i)] [] μ) (f := fun p s => if rs.testBit (vR v p) = true then s ||| 2 ^ p else s) (n := vn v) (fun _ _ => True) (fun p b hp _ => by
    refine ⟨?_, trivial⟩
    show evj _ _ _ _ _ = evj _ _ _ _ _
    obtain ⟨w41, w42, w43, w44, -⟩ := hw.2.2.2.1 p hp
    rw [e_Valley_peopleIn_4, h6, bk_le (by omega) (by omega), jbr_n (by omega), inB_nI (by omega) (by omega), jgd_t, ixn (by omega), (hv.2.2.2.1 p hp).2.2.1, kI_tb (by omega) (by omega)]
    cases hb : rs.testBit (vR v p)
    · rw [bf_p rfl, if_neg (by decide), li1, nI_add]
    · rw [bf_n rfl, if_pos rfl, kI_1 (by omega), kI_or, li1, nI_add]) (vn v) 0 0 (by omega) trivial
  refine L.1.trans ?_
  show evj _ _ _ _ _ = _
  rw [e_Valley_peopleIn_4, h6, jbr_p (by rw [kI_le (by omega) (by omega)]; omega)]
  rfl
theorem m_pin {a : Nat} {μ : jm} {v : vst} (hw : WV v) (hv : MV μ 0 v) (ha : a < 6) : cj 175 [jR 10 64, jI (nI a)] μ = some (some (jI (nI (pin v (2 ^ a) (vn v)))), μ) := by
  have w3 : vn v ≤ 7 := hw.2.2.1
  have h6 : gI μ 65 72 = nI (vn v) := hv.2.2.1
  rw [e_M_setIn]
  have L := lp_f (W := fun i b => evj 175 4 [jR 10 64, jI (nI a), jI (nI b), jI (nI i)] [] μ) (f := fun p s => if (2 ^ a).testBit (vR v p) = true then s ||| 2 ^ p else s) (n := vn v) (fun _ _ => True) (fun p b hp _ => by
    refine ⟨?_, trivial⟩
    show evj _ _ _ _ _ = evj _ _ _ _ _
    obtain ⟨w41, w42, w43, w44, -⟩ := hw.2.2.2.1 p hp
    have hR : gI μ 65 (87 + p) = nI (vR v p) := by have := (hv.2.2.2.1 p hp).2.2.1; rwa [show 0 + 87 + p = 87 + p from by omega] at this
    rw [e_M_setIn_4, li72, inB_nI (by omega) (by omega), jgd_t, ixn (by omega), h6, bk_le (by omega) (by omega), jbr_n (by omega), li87, nI_add, inB_nI (by omega) (by omega), jgd_t, ixn (by omega), hR, bk_ne (by omega) (by omega), Nat.testBit_two_pow]
    by_cases hb : vR v p = a
    · rw [jbr_n (fun z => z hb), if_pos (decide_eq_true hb.symm), kI_1 (by omega), kI_or, li1, nI_add]
    · rw [jbr_p hb, if_neg (by rw [decide_eq_true_eq]; exact fun z => hb z.symm), li0, kI_or, Nat.or_zero, li1, nI_add]) (vn v) 0 0 (by omega) trivial
  refine L.1.trans ?_
  show evj _ _ _ _ _ = _
  rw [e_M_setIn_4, li72, inB_nI (by omega) (by omega), jgd_t, ixn (by omega), h6, jbr_p (by rw [kI_le (by omega) (by omega)]; omega)]
  rfl
/-- said -/
def fSd (x : Int32) (v : vst) : Int32 := if un x < 6 then nI (sdb v (pin v (2 ^ un x) (vn v))) else -2
theorem op_said (x : Int32) : opI 108 174 [jI x] Rel := by
  refine opI_of (fun S => fSd x (sv S)) (fun S => tel S (fSd x (sv S))) (fun S h => WS_tel h _) ?_ ?_
  · intro μ S hW hC
    rw [e_N_said, c_isRoom, bI_some]
    by_cases h1 : un x < 6
    · have fe : fSd x (sv S) = _ := if_pos h1
      rw [fe, bt_p (decide_eq_true h1)]
      obtain ⟨a, ha, rfl⟩ := un_x h1 (by omega)
      have h6 : 2 ^ a < 2 ^ 6 := two_lt ha
      obtain ⟨m, e1, e2⟩ := c_sdb (k := 1) (by omega) hW.1 hC.1 (pin_lt (sv S) (2 ^ a) (vn (sv S)))
      have hl := sdb_lt hW.1 (pin (sv S) (2 ^ a) (vn (sv S)))
      rw [kI_1 (by omega), c_pin hW.1 hC.1 (by omega), bI_some, e1, bI_some, un_nI (by omega), tel_n S (by omega)]
      exact ⟨_, rfl, CS_fI e2 (by omega) hC, oc_fI e2 (by omega)⟩
    · have fe : fSd x (sv S) = _ := if_neg h1
      rw [fe, bt_n (decide_eq_false h1)]
      exact c_tel _ hC
  · intro μ S hW hM
    rw [e_M_said, m_isRoom, bI_some]
    by_cases h1 : un x < 6
    · have fe : fSd x (sv S) = _ := if_pos h1
      rw [fe, bf_n (decide_eq_true h1)]
      obtain ⟨a, ha, rfl⟩ := un_x h1 (by omega)
      obtain ⟨m, e1, e2⟩ := m_sdb (r := 0) (by omega) hW.1 hM.1 (pin_lt (sv S) (2 ^ a) (vn (sv S)))
      have hl := sdb_lt hW.1 (pin (sv S) (2 ^ a) (vn (sv S)))
      rw [m_pin hW.1 hM.1 ha, bI_some, show cj 176 [jR 10 64, jI (0 : Int32), jI (nI (pin (sv S) (2 ^ a) (vn (sv S))))] μ = _ from e1, bI_some, un_nI (by omega), tel_n S (by omega)]
      exact ⟨_, rfl, MS_fI e2 (by omega) hW hM, om_fI e2 (by omega) (by omega)⟩
    · have fe : fSd x (sv S) = _ := if_neg h1
      rw [fe, bf_p (decide_eq_false h1)]
      exact m_tel _ hW hM
/-- byDoor -/
def fBd (x y : Int32) (v : vst) : Int32 := if un x < 6 ∧ un y < 6 then (if (vD v (un x)).testBit (un y) = true then nI (sdb v (pin v (2 ^ un x) (vn v) ||| pin v (2 ^ un y) (vn v))) else -3) else -2
theorem op_byDoor (x y : Int32) : opI 109 177 [jI x, jI y] Rel := by
  refine opI_of (fun S => fBd x y (sv S)) (fun S => tel S (fBd x y (sv S))) (fun S h => WS_tel h _) ?_ ?_
  · intro μ S hW hC
    rw [e_N_byDoor, c_isRoom, bI_some]
    by_cases h1 : un x < 6
    · rw [bf_n (decide_eq_true h1), c_isRoom, bI_some]
      by_cases h2 : un y < 6
      · have fe : fBd x y (sv S) = _ := if_pos ⟨h1, h2⟩
        rw [fe, bt_p (decide_eq_true h2)]
        obtain ⟨a, ha, rfl⟩ := un_x h1 (by omega)
        obtain ⟨b, hb, rfl⟩ := un_x h2 (by omega)
        have hD := (hW.1.1 a ha).1
        rw [un_nI (by omega), un_nI (by omega), e_Valley_hasDoor, inB_nI ha (by omega), jgd_t, ixn (by omega), show gI μ (1 + 1) a = nI (vD (sv S) a) from hC.1.1 a ha, kI_tb (by omega) (by omega), jbr_bN, bI_some]
        cases hd : (vD (sv S) a).testBit b
        · rw [bt_n rfl, if_neg (by decide)]
          exact c_tel _ hC
        · rw [bt_p rfl, if_pos rfl]
          have h6 : 2 ^ a ||| 2 ^ b < 2 ^ 6 := or_lt 6 (two_lt ha) (two_lt hb)
          obtain ⟨m, e1, e2⟩ := c_sdb (k := 1) (by omega) hW.1 hC.1 (pin_lt (sv S) (2 ^ a ||| 2 ^ b) (vn (sv S)))
          have hl := sdb_lt hW.1 (pin (sv S) (2 ^ a ||| 2 ^ b) (vn (sv S)))
          rw [kI_1 (by omega), kI_1 (by omega), kI_or, c_pin hW.1 hC.1 (by omega), bI_some, e1, bI_some, ← pin_or, tel_n S (by omega)]
          exact ⟨_, rfl, CS_fI e2 (by omega) hC, oc_fI e2 (by omega)⟩
      · have fe : fBd x y (sv S) = _ := if_neg (fun z => h2 z.2)
        rw [fe, bt_n (decide_eq_false h2)]
        exact c_tel _ hC
    · have fe : fBd x y (sv S) = _ := if_neg (fun z => h1 z.1)
      rw [fe, bf_p (decide_eq_false h1)]
      exact c_tel _ hC
  · intro μ S hW hM
    rw [e_M_byDoor, m_isRoom, bI_some]
    by_cases h1 : un x < 6
    · rw [bf_n (decide_eq_true h1), m_isRoom, bI_some]
      by_cases h2 : un y < 6
      · have fe : fBd x y (sv S) = _ := if_pos ⟨h1, h2⟩
        rw [fe, bt_p (decide_eq_true h2)]
        obtain ⟨a, ha, rfl⟩ := un_x h1 (by omega)
        obtain ⟨b, hb, rfl⟩ := un_x h2 (by omega)
        have hD : gI μ 65 (6 * a + b) = nI (if (vD (sv S) a).testBit b then 1 else 0) := by have := hM.1.1 a b ha hb; rwa [show 0 + 6 * a + b = 6 * a + b from by omega] at this
        rw [un_nI (by omega), un_nI (by omega), li6, kI_mul, nI_add, inB_nI (by omega) (by omega), jgd_t, ixn (by omega), hD]
        cases hd : (vD (sv S) a).testBit b
        · rw [jbr_p (by decide), if_neg (by decide)]
          exact m_tel _ hW hM
        · rw [jbr_n (by decide), if_pos rfl, m_pin hW.1 hM.1 ha, bI_some, m_pin hW.1 hM.1 hb, bI_some, kI_or, ← pin_or]
          obtain ⟨m, e1, e2⟩ := m_sdb (r := 0) (by omega) hW.1 hM.1 (pin_lt (sv S) (2 ^ a ||| 2 ^ b) (vn (sv S)))
          have hl := sdb_lt hW.1 (pin (sv S) (2 ^ a ||| 2 ^ b) (vn (sv S)))
          rw [show cj 176 [jR 10 64, jI (0 : Int32), jI (nI (pin (sv S) (2 ^ a ||| 2 ^ b) (vn (sv S))))] μ = _ from e1, bI_some, tel_n S (by omega)]
          exact ⟨_, rfl, MS_fI e2 (by omega) hW hM, om_fI e2 (by omega) (by omega)⟩
      · have fe : fBd x y (sv S) = _ := if_neg (fun z => h2 z.2)
        rw [fe, bt_n (decide_eq_false h2)]
        exact m_tel _ hW hM
    · have fe : fBd x y (sv S) = _ := if_neg (fun z => h1 z.1)
      rw [fe, bf_p (decide_eq_false h1)]
      exact m_tel _ hW hM
/-- meant -/
def cwi (v : vst) (h : Nat) : Nat := itr (fun c b => if adn h (vC v c) = 0 then b ||| 2 ^ c else b) (vc v) 0 0
theorem cwi_lt {v : vst} (hw : WV v) (h : Nat) : cwi v h < 256 := by
  have w5 : vc v ≤ 8 := hw.2.2.2.2.1
  refine itr_lt 8 (fun i b hi hb => ?_)
  split
  · exact or_lt 8 hb (two_lt (by omega))
  · exact hb
theorem c_cwi {k h : Nat} {μ : jm} {v : vst} (hw : WV v) (hv : CV μ k v) (hh : h < 4096) : cj 39 [jR 8 k, jI (nI h)] μ = some (some (jI (nI (cwi v h))), μ) := by
  have w5 : vc v ≤ 8 := hw.2.2.2.2.1
  have h9 : gI μ k 9 = nI (vc v) := hv.2.2.2.2.1
  rw [e_Valley_chordsWith]
  have L := lp_f (W := fun i b => evj 39 4 [jR 8 k, jI (nI h), jI (nI b), jI (nI i)] [] μ) (f := fun c b => if adn h (vC v c) = 0 then b ||| 2 ^ c else b) (n := vc v) (fun _ _ => True) (fun c b hc _ => by
    refine ⟨?_, trivial⟩
    show evj _ _ _ _ _ = evj _ _ _ _ _
    have ha := adn_le h (vC v c)
    rw [e_Valley_chordsWith_4, h9, bk_le (by omega) (by omega), jbr_n (by omega), inB_nI (by omega) (by omega), jgd_t, ixn (by omega), (hv.2.2.2.2.2.1 c hc).1, kI_adn, li0, bk_ne (by omega) (by omega)]
    by_cases hb : adn h (vC v c) = 0
    · rw [jbr_n (fun z => z hb), if_pos hb, kI_1 (by omega), kI_or, li1, nI_add]
    · rw [jbr_p hb, if_neg hb, li1, nI_add]) (vc v) 0 0 (by omega) trivial
  refine L.1.trans ?_
  show evj _ _ _ _ _ = _
  rw [e_Valley_chordsWith_4, h9, jbr_p (by rw [kI_le (by omega) (by omega)]; omega)]
  rfl
theorem m_cwi {h : Nat} {μ : jm} {v : vst} (hw : WV v) (hv : MV μ 0 v) (hh : h < vh v) : cj 198 [jR 10 64, jI (nI h)] μ = some (some (jI (nI (cwi v (vH v h)))), μ) := by
  have w5 : vc v ≤ 8 := hw.2.2.2.2.1
  have w10 : vh v ≤ 6 := hw.2.2.2.2.2.2.2.2.2.1
  have hH : gI μ 65 (127 + h) = nI (vH v h) := by have := hv.2.2.2.2.2.2.2.2.2.2 h hh; rwa [show 0 + 127 + h = 127 + h from by omega] at this
  have hHl : vH v h < 4096 := hw.2.2.2.2.2.2.2.2.2.2 h hh
  have h9 : gI μ 65 101 = nI (vc v) := hv.2.2.2.2.1
  rw [e_M_meantBy]
  have L := lp_f (W := fun i b => evj 198 4 [jR 10 64, jI (nI h), jI (nI b), jI (nI i)] [] μ) (f := fun c b => if adn (vH v h) (vC v c) = 0 then b ||| 2 ^ c else b) (n := vc v) (fun _ _ => True) (fun c b hc _ => by
    refine ⟨?_, trivial⟩
    show evj _ _ _ _ _ = evj _ _ _ _ _
    have ha := adn_le (vH v h) (vC v c)
    have hCc : gI μ 65 (102 + c) = nI (vC v c) := by have := (hv.2.2.2.2.2.1 c hc).1; rwa [show 0 + 102 + c = 102 + c from by omega] at this
    rw [e_M_meantBy_4, li101, inB_nI (by omega) (by omega), jgd_t, ixn (by omega), h9, bk_le (by omega) (by omega), jbr_n (by omega), li127, nI_add, inB_nI (by omega) (by omega), jgd_t, li102, nI_add, inB_nI (by omega) (by omega), jgd_t, ixn (by omega), ixn (by omega), hH, hCc, kI_adn, li0, bk_ne (by omega) (by omega)]
    by_cases hb : adn (vH v h) (vC v c) = 0
    · rw [jbr_n (fun z => z hb), if_pos hb, kI_1 (by omega), kI_or, li1, nI_add]
    · rw [jbr_p hb, if_neg hb, kI_or, Nat.or_zero, li1, nI_add]) (vc v) 0 0 (by omega) trivial
  refine L.1.trans ?_
  show evj _ _ _ _ _ = _
  rw [e_M_meantBy_4, li101, inB_nI (by omega) (by omega), jgd_t, ixn (by omega), h9, jbr_p (by rw [kI_le (by omega) (by omega)]; omega)]
  rfl
def fMe (x : Int32) (v : vst) : Int32 := if un x < vh v then nI (cwi v (vH v (un x))) else -2
theorem op_meant (x : Int32) : opI 122 196 [jI x] Rel := by
  refine opI_of (fun S => fMe x (sv S)) (fun S => tel S (fMe x (sv S))) (fun S h => WS_tel h _) ?_ ?_
  · intro μ S hW hC
    have w10 : vh (sv S) ≤ 6 := hW.1.2.2.2.2.2.2.2.2.2.1
    rw [e_N_meant, c_isHole 1 x μ (by omega) hC.1.2.2.2.2.2.2.2.2.2.1, bI_some]
    by_cases h1 : un x < vh (sv S)
    · have fe : fMe x (sv S) = _ := if_pos h1
      rw [fe, bt_p (decide_eq_true h1)]
      obtain ⟨a, ha, rfl⟩ := un_x h1 (by omega)
      have hl := cwi_lt hW.1 (vH (sv S) a)
      rw [inB_nI (by omega) (by omega), jgd_t, ixn (by omega), show gI μ 11 a = nI (vH (sv S) a) from hC.1.2.2.2.2.2.2.2.2.2.2 a ha, c_cwi hW.1 hC.1 (hW.1.2.2.2.2.2.2.2.2.2.2 a ha), bI_some, un_nI (by omega), tel_n S (by omega)]
      exact ⟨_, rfl, hC, oc_r _⟩
    · have fe : fMe x (sv S) = _ := if_neg h1
      rw [fe, bt_n (decide_eq_false h1)]
      exact c_tel _ hC
  · intro μ S hW hM
    have w10 : vh (sv S) ≤ 6 := hW.1.2.2.2.2.2.2.2.2.2.1
    rw [e_M_meant, m_isHole x μ (by omega) hM.1.2.2.2.2.2.2.2.2.2.1, bI_some]
    by_cases h1 : un x < vh (sv S)
    · have fe : fMe x (sv S) = _ := if_pos h1
      rw [fe, bf_n (decide_eq_true h1)]
      obtain ⟨a, ha, rfl⟩ := un_x h1 (by omega)
      have hl := cwi_lt hW.1 (vH (sv S) a)
      rw [m_cwi hW.1 hM.1 ha, bI_some, un_nI (by omega), tel_n S (by omega)]
      exact ⟨_, rfl, hM, om_r _⟩
    · have fe : fMe x (sv S) = _ := if_neg h1
      rw [fe, bf_p (decide_eq_false h1)]
      exact m_tel _ hW hM
