/-! digest -/
def mx (h : Int64) (x : Int32) : Int64 := (31 : Int64) * h + x.toInt64
def dgA (S : sst) (n : Nat) : Int64 := itr (fun w h => mx h (nI (amt S w))) n 0 677
def dgB (v : vst) (a n : Nat) (h : Int64) : Int64 := itr (fun b h => mx (mx h (nI (bN ((vD v a).testBit b)))) (nI (bN ((vE v a).testBit b)))) n 0 h
def dgR (v : vst) (n : Nat) (h : Int64) : Int64 := itr (fun a h => dgB v a a h) n 0 h
def dgP (v : vst) (n : Nat) (h : Int64) : Int64 := itr (fun p h => mx (mx (mx (mx h (nI (vK v p))) (nI (vN v p))) (nI (vR v p))) (nI (vM v p) - 1)) n 0 h
def dgC (v : vst) (n : Nat) (h : Int64) : Int64 := itr (fun c h => mx (mx h (nI (vC v c))) (nI (vU v c))) n 0 h
def dgX (f : Nat → Nat) (n : Nat) (h : Int64) : Int64 := itr (fun c h => mx h (nI (f c))) n 0 h
def dgV (v : vst) (h : Int64) : Int64 := dgX (vH v) (vh v) (dgX (vP v) (vp v) (mx (dgC v (vc v) (dgP v (vn v) (dgR v 6 h))) (nI (vl v))))
def dg (S : sst) : Int64 := (31 : Int64) * ((31 : Int64) * dgV (sv S) (dgA S 5) + sa S) + sb S
theorem dgC_0 (v : vst) (h : Int64) : dgC v 0 h = h := rfl
theorem c_dgR {k : Nat} {μ : jm} {v : vst} (hw : WV v) (hv : CV μ k v) (h : Int64) : cj 43 [jR 8 k, jL h] μ = some (some (jL (dgR v 6 h)), μ) := by
  rw [e_Valley_digestOfRooms]
  have L := lp_f (W := fun a h => evj 43 5 [jR 8 k, jU, jU, jL h, jU, jI (nI a), jU] [] μ) (f := fun a h => dgB v a a h) (n := 6) (fun _ _ => True) (fun a h ha _ => by
    refine ⟨?_, trivial⟩
    show evj _ _ _ _ _ = evj _ _ _ _ _
    have hd := (hw.1 a ha).1
    have he := (hw.2.1 a ha).1
    rw [e_Valley_digestOfRooms_5, li6, bk_le (by omega) (by omega), jbr_n (by omega)]
    have M := lp_f (W := fun b h => evj 43 15 [jR 8 k, jU, jU, jL h, jU, jI (nI a), jI (nI b)] [] μ) (f := fun b h => mx (mx h (nI (bN ((vD v a).testBit b)))) (nI (bN ((vE v a).testBit b)))) (n := a) (fun _ _ => True) (fun b h hb _ => by
      refine ⟨?_, trivial⟩
      show evj _ _ _ _ _ = evj _ _ _ _ _
      rw [e_Valley_digestOfRooms_15, bk_le (by omega) (by omega), jbr_n (by omega), inB_nI ha (by omega), jgd_t, jgd_t, ixn (by omega), hv.1 a ha, hv.2.1 a ha, kI_tb (by omega) (by omega), kI_tb (by omega) (by omega), show nI b + 1 = nI (b + 1) from nI_add b 1]
      rfl) a 0 h (by omega) trivial
    refine Eq.trans M.1 ?_
    show evj _ _ _ _ _ = _
    rw [e_Valley_digestOfRooms_15, jbr_p (by rw [kI_le (by omega) (by omega)]; omega), show nI a + 1 = nI (a + 1) from nI_add a 1]
    rfl) 6 0 h (by omega) trivial
  refine Eq.trans L.1 ?_
  show evj _ _ _ _ _ = _
  rw [e_Valley_digestOfRooms_5, jbr_p (by decide)]
  rfl
theorem c_dgV {k : Nat} {μ : jm} {v : vst} (hw : WV v) (hv : CV μ k v) (h : Int64) : cj 42 [jR 8 k, jL h] μ = some (some (jL (dgV v h)), μ) := by
  obtain ⟨w3, w5, w8, w10⟩ := WB_of hw
  obtain ⟨h1, h2, h3, h4, h5, h6, h7, h8, h9, h10, h11⟩ := id hv
  rw [e_Valley_digestOn, c_dgR hw hv, bL_some]
  have L1 := lp_f (W := fun p h => evj 42 9 [jR 8 k, jU, jU, jL h, jU, jI (nI p)] [] μ) (f := fun p h => mx (mx (mx (mx h (nI (vK v p))) (nI (vN v p))) (nI (vR v p))) (nI (vM v p) - 1)) (n := vn v) (fun _ _ => True) (fun p h hp _ => by
    refine ⟨?_, trivial⟩
    show evj _ _ _ _ _ = evj _ _ _ _ _
    obtain ⟨q1, q2, q3, q4⟩ := h4 p hp
    rw [e_Valley_digestOn_9, h3, bk_le (by omega) (by omega), jbr_n (by omega), inB_nI (by omega) (by omega), jgd_t, jgd_t, jgd_t, jgd_t, ixn (by omega), q1, q2, q3, q4, show nI p + 1 = nI (p + 1) from nI_add p 1]
    rfl) (vn v) 0 (dgR v 6 h) (by omega) trivial
  have L2 := lp_f (W := fun p h => evj 42 87 [jR 8 k, jU, jU, jL h, jU, jI (nI p)] [] μ) (f := fun c h => mx (mx h (nI (vC v c))) (nI (vU v c))) (n := vc v) (fun _ _ => True) (fun p h hp _ => by
    refine ⟨?_, trivial⟩
    show evj _ _ _ _ _ = evj _ _ _ _ _
    obtain ⟨q1, q2⟩ := h6 p hp
    rw [e_Valley_digestOn_87, h5, bk_le (by omega) (by omega), jbr_n (by omega), inB_nI (by omega) (by omega), jgd_t, jgd_t, ixn (by omega), q1, q2, show nI p + 1 = nI (p + 1) from nI_add p 1]
    rfl) (vc v) 0 (dgP v (vn v) (dgR v 6 h)) (by omega) trivial
  have L3 := lp_f (W := fun p h => evj 42 147 [jR 8 k, jU, jU, jL h, jU, jI (nI p)] [] μ) (f := fun c h => mx h (nI (vP v c))) (n := vp v) (fun _ _ => True) (fun p h hp _ => by
    refine ⟨?_, trivial⟩
    show evj _ _ _ _ _ = evj _ _ _ _ _
    rw [e_Valley_digestOn_147, h8, bk_le (by omega) (by omega), jbr_n (by omega), inB_nI (by omega) (by omega), jgd_t, ixn (by omega), h9 p hp, show nI p + 1 = nI (p + 1) from nI_add p 1]
    rfl) (vp v) 0 (mx (dgC v (vc v) (dgP v (vn v) (dgR v 6 h))) (nI (vl v))) (by omega) trivial
  have L4 := lp_f (W := fun p h => evj 42 180 [jR 8 k, jU, jU, jL h, jU, jI (nI p)] [] μ) (f := fun c h => mx h (nI (vH v c))) (n := vh v) (fun _ _ => True) (fun p h hp _ => by
    refine ⟨?_, trivial⟩
    show evj _ _ _ _ _ = evj _ _ _ _ _
    rw [e_Valley_digestOn_180, h10, bk_le (by omega) (by omega), jbr_n (by omega), inB_nI (by omega) (by omega), jgd_t, ixn (by omega), h11 p hp, show nI p + 1 = nI (p + 1) from nI_add p 1]
    rfl) (vh v) 0 (dgX (vP v) (vp v) (mx (dgC v (vc v) (dgP v (vn v) (dgR v 6 h))) (nI (vl v)))) (by omega) trivial
  refine Eq.trans L1.1 ?_
  show evj _ _ _ _ _ = _
  rw [e_Valley_digestOn_9, h3, jbr_p (by rw [kI_le (by omega) (by omega)]; omega)]
  refine Eq.trans L2.1 ?_
  show evj _ _ _ _ _ = _
  rw [e_Valley_digestOn_87, h5, jbr_p (by rw [kI_le (by omega) (by omega)]; omega), h7]
  refine Eq.trans L3.1 ?_
  show evj _ _ _ _ _ = _
  rw [e_Valley_digestOn_147, h8, jbr_p (by rw [kI_le (by omega) (by omega)]; omega)]
  refine Eq.trans L4.1 ?_
  show evj _ _ _ _ _ = _
  rw [e_Valley_digestOn_180, h10, jbr_p (by rw [kI_le (by omega) (by omega)]; omega)]
  rfl
/-- the reference keeps the sum in a field -/
def hH (μ : jm) (h : Int64) (m : jm) : Prop := gL m 64 22 = h ∧ (∀ a b, m.1 a b = μ.1 a b) ∧ ∀ a b, ¬ (a = 64 ∧ b = 22) → m.2 a b = μ.2 a b
theorem hH_mix {μ m : jm} {h : Int64} (hh : hH μ h m) (x : Int32) : ∃ m', cj 216 [jR 10 64, jL x.toInt64] m = some (none, m') ∧ hH μ (mx h x) m' := by
  rw [e_M_mix]
  refine ⟨_, rfl, ?_, hh.2.1, fun a b hab => ?_⟩
  · rw [gL_e, hh.1]; rfl
  · exact (if_neg hab).trans (hh.2.2 a b hab)
theorem hH_mixL {μ m : jm} {h : Int64} (hh : hH μ h m) (x : Int64) : ∃ m', cj 216 [jR 10 64, jL x] m = some (none, m') ∧ hH μ ((31 : Int64) * h + x) m' := by
  rw [e_M_mix]
  refine ⟨_, rfl, ?_, hh.2.1, fun a b hab => ?_⟩
  · rw [gL_e, hh.1]
  · exact (if_neg hab).trans (hh.2.2 a b hab)
theorem hH_g {μ m : jm} {h : Int64} (hh : hH μ h m) (a b : Nat) : gI m a b = gI μ a b := hh.2.1 a b
theorem m_mixA {μ m : jm} {h : Int64} (hh : hH μ h m) {r n : Nat} (f : Nat → Nat) (hr : r + n ≤ 560) (hf : ∀ i, i < n → gI μ 65 (r + i) = nI (f i)) : ∃ m', cj 217 [jR 10 64, jI (nI r), jI (nI n)] m = some (none, m') ∧ hH μ (dgX f n h) m' := by
  rw [e_M_mixAll]
  obtain ⟨m', e1, e2⟩ := lp_r (W := fun i (m : jm) => evj 217 2 [jR 10 64, jI (nI r), jI (nI n), jI (nI i)] [] m) (n := n) (fun i m => hH μ (dgX f i h) m) (fun i m hi hI => by
    show ∃ a', evj _ _ _ _ _ = evj _ _ _ _ _ ∧ _
    obtain ⟨m1, d1, d2⟩ := hH_mix hI (nI (f i))
    rw [e_M_mixAll_2, bk_le (by omega) (by omega), jbr_n (by omega), nI_add, inB_nI (by omega) (by omega), jgd_t, ixn (by omega), hH_g hI, hf i hi, d1, bV_some, show nI i + 1 = nI (i + 1) from nI_add i 1]
    refine ⟨m1, rfl, ?_⟩
    unfold dgX
    rw [itr_s, Nat.zero_add]
    exact d2) n 0 m (by omega) hh
  refine ⟨m', Eq.trans e1 ?_, e2⟩
  show evj _ _ _ _ _ = _
  rw [e_M_mixAll_2, jbr_p (by rw [kI_le (by omega) (by omega)]; omega)]
theorem MS_hH {μ m : jm} {S : sst} {h : Int64} (hW : WS S) (hh : hH μ h m) (hM : MS μ S) : MS m S := by
  have e : setV S (sv S) = S := rfl
  rw [← e]
  exact MS_setV hW hM (MV_of (fun b _ _ => hh.2.1 65 b) hW.1 hM.1) (fun a b _ h2 => ⟨hh.2.1 a b, hh.2.2 a b (fun z => by have := h2 z.1; omega)⟩)
theorem m_dgA {μ : jm} {S : sst} (hW : WS S) (hM : MS μ S) : ∃ m, cj 215 [jR 10 64] μ = evj 215 32 [jR 10 64, jI (0 : Int32), jU] [] m ∧ hH μ (dgA S 5) m := by
  rw [e_M_digest]
  have s0 : hH μ 677 (sL μ 64 22 (677 : Int64)) := ⟨gL_e _ _ _ _, fun a b => rfl, fun a b hab => if_neg hab⟩
  obtain ⟨m1, a1, a2⟩ := lp_r (W := fun i (m : jm) => evj 215 9 [jR 10 64, jI (nI i), jU] [] m) (n := 5) (fun i m => hH μ (dgA S i) m) (fun i m hi hI => by
    show ∃ a', evj _ _ _ _ _ = evj _ _ _ _ _ ∧ _
    obtain ⟨m1, d1, d2⟩ := hH_mix hI (nI (amt S i))
    rw [e_M_digest_9, li5, bk_le (by omega) (by omega), jbr_n (by omega), m_amt (MS_hH hW hI hM) hi, bI_some, d1, bV_some, show nI i + 1 = nI (i + 1) from nI_add i 1]
    refine ⟨m1, rfl, ?_⟩
    unfold dgA
    rw [itr_s, Nat.zero_add]
    exact d2) 5 0 _ (by omega) s0
  refine ⟨m1, Eq.trans a1 ?_, a2⟩
  show evj _ _ _ _ _ = _
  rw [e_M_digest_9, jbr_p (by decide)]
theorem m_dgR {μ m : jm} {v : vst} {h : Int64} (hh : hH μ h m) (hv : MV μ 0 v) : ∃ m', evj 215 32 [jR 10 64, jI (0 : Int32), jU] [] m = evj 215 94 [jR 10 64, jI (0 : Int32), jU] [] m' ∧ hH μ (dgR v 6 h) m' := by
  obtain ⟨m1, a1, a2⟩ := lp_r (W := fun i (m : jm) => evj 215 32 [jR 10 64, jI (nI i), jU] [] m) (n := 6) (fun i m => hH μ (dgR v i h) m) (fun a m ha hI => by
    show ∃ a', evj _ _ _ _ _ = evj _ _ _ _ _ ∧ _
    rw [e_M_digest_32, li6, bk_le (by omega) (by omega), jbr_n (by omega)]
    obtain ⟨m2, b1, b2⟩ := lp_r (W := fun i (m : jm) => evj 215 40 [jR 10 64, jI (nI a), jI (nI i)] [] m) (n := a) (fun i m => hH μ (dgB v a i (dgR v a h)) m) (fun b m hb hI => by
      show ∃ a', evj _ _ _ _ _ = evj _ _ _ _ _ ∧ _
      have g1 : gI m 65 (6 * a + b) = nI (bN ((vD v a).testBit b)) := by rw [hH_g hI]; have := hv.1 a b ha (by omega); rwa [show 0 + 6 * a + b = 6 * a + b from by omega] at this
      obtain ⟨m1, d1, d2⟩ := hH_mix hI (nI (bN ((vD v a).testBit b)))
      have g2 : gI m1 65 (36 + 6 * a + b) = nI (bN ((vE v a).testBit b)) := by rw [hH_g d2]; have := hv.2.1 a b ha (by omega); rwa [show 0 + 36 + 6 * a + b = 36 + 6 * a + b from by omega] at this
      obtain ⟨m3, d3, d4⟩ := hH_mix d2 (nI (bN ((vE v a).testBit b)))
      rw [e_M_digest_40, bk_le (by omega) (by omega), jbr_n (by omega), li6, kI_mul, nI_add, inB_nI (by omega) (by omega), jgd_t, ixn (by omega), g1, d1, bV_some, li36, nI_add, nI_add, inB_nI (by omega) (by omega), jgd_t, ixn (by omega), g2, d3, bV_some, show nI b + 1 = nI (b + 1) from nI_add b 1]
      refine ⟨m3, rfl, ?_⟩
      unfold dgB
      rw [itr_s, Nat.zero_add]
      exact d4) a 0 m (by omega) hI
    refine ⟨m2, Eq.trans b1 ?_, ?_⟩
    · show evj _ _ _ _ _ = _
      rw [e_M_digest_40, jbr_p (by rw [kI_le (by omega) (by omega)]; omega), show nI a + 1 = nI (a + 1) from nI_add a 1]
    · unfold dgR
      rw [itr_s, Nat.zero_add]
      exact b2) 6 0 m (by omega) hh
  refine ⟨m1, Eq.trans a1 ?_, a2⟩
  show evj _ _ _ _ _ = _
  rw [e_M_digest_32, jbr_p (by decide)]
theorem m_dgP {μ m : jm} {v : vst} {h : Int64} (hw : WV v) (hh : hH μ h m) (hv : MV μ 0 v) : ∃ m', evj 215 94 [jR 10 64, jI (0 : Int32), jU] [] m = evj 215 169 [jR 10 64, jI (0 : Int32), jU] [] m' ∧ hH μ (dgP v (vn v) h) m' := by
  obtain ⟨w3, w5, w8, w10⟩ := WB_of hw
  have h72 : ∀ {h m}, hH μ h m → gI m 65 72 = nI (vn v) := fun hI => by rw [hH_g hI]; exact hv.2.2.1
  obtain ⟨m1, a1, a2⟩ := lp_r (W := fun i (m : jm) => evj 215 94 [jR 10 64, jI (nI i), jU] [] m) (n := vn v) (fun i m => hH μ (dgP v i h) m) (fun p m hp hI => by
    show ∃ a', evj _ _ _ _ _ = evj _ _ _ _ _ ∧ _
    obtain ⟨q1, q2, q3, q4⟩ := hv.2.2.2.1 p hp
    rw [show 0 + 73 + p = 73 + p from by omega] at q1
    rw [show 0 + 80 + p = 80 + p from by omega] at q2
    rw [show 0 + 87 + p = 87 + p from by omega] at q3
    rw [show 0 + 94 + p = 94 + p from by omega] at q4
    obtain ⟨m1, d1, d2⟩ := hH_mix hI (nI (vK v p))
    obtain ⟨m2, d3, d4⟩ := hH_mix d2 (nI (vN v p))
    obtain ⟨m3, d5, d6⟩ := hH_mix d4 (nI (vR v p))
    obtain ⟨m4, d7, d8⟩ := hH_mix d6 (nI (vM v p) - 1)
    rw [e_M_digest_94, li72, inB_nI (by omega) (by omega), jgd_t, ixn (by omega), h72 hI, bk_le (by omega) (by omega), jbr_n (by omega), li73, nI_add, inB_nI (by omega) (by omega), jgd_t, ixn (by omega), hH_g hI, q1, d1, bV_some, li80, nI_add, inB_nI (by omega) (by omega), jgd_t, ixn (by omega), hH_g d2, q2, d3, bV_some, li87, nI_add, inB_nI (by omega) (by omega), jgd_t, ixn (by omega), hH_g d4, q3, d5, bV_some, li94, nI_add, inB_nI (by omega) (by omega), jgd_t, ixn (by omega), hH_g d6, q4, d7, bV_some, show nI p + 1 = nI (p + 1) from nI_add p 1]
    refine ⟨m4, rfl, ?_⟩
    unfold dgP
    rw [itr_s, Nat.zero_add]
    exact d8) (vn v) 0 m (by omega) hh
  refine ⟨m1, Eq.trans a1 ?_, a2⟩
  show evj _ _ _ _ _ = _
  rw [e_M_digest_94, li72, inB_nI (by omega) (by omega), jgd_t, ixn (by omega), h72 a2, jbr_p (by rw [kI_le (by omega) (by omega)]; omega)]
theorem m_dg {μ : jm} {S : sst} (hW : WS S) (hM : MS μ S) : ∃ m, cj 215 [jR 10 64] μ = some (some (jL (dg S)), m) ∧ ∃ h, hH μ h m := by
  obtain ⟨w3, w5, w8, w10⟩ := WB_of hW.1
  have hv := hM.1
  obtain ⟨m1, a1, a2⟩ := m_dgA hW hM
  obtain ⟨m2, b1, b2⟩ := m_dgR a2 hv
  obtain ⟨m3, c1, c2⟩ := m_dgP hW.1 b2 hv
  have h101 : ∀ {h m}, hH μ h m → gI m 65 101 = nI (vc (sv S)) := fun hI => by rw [hH_g hI]; exact hv.2.2.2.2.1
  obtain ⟨m4, d1, d2⟩ := lp_r (W := fun i (m : jm) => evj 215 169 [jR 10 64, jI (nI i), jU] [] m) (n := vc (sv S)) (fun i m => hH μ (dgC (sv S) i (dgP (sv S) (vn (sv S)) (dgR (sv S) 6 (dgA S 5)))) m) (fun c m hc hI => by
    show ∃ a', evj _ _ _ _ _ = evj _ _ _ _ _ ∧ _
    obtain ⟨q1, q2⟩ := hv.2.2.2.2.2.1 c hc
    rw [show 0 + 102 + c = 102 + c from by omega] at q1
    rw [show 0 + 110 + c = 110 + c from by omega] at q2
    obtain ⟨m1, d1, d2⟩ := hH_mix hI (nI (vC (sv S) c))
    obtain ⟨m2, d3, d4⟩ := hH_mix d2 (nI (vU (sv S) c))
    rw [e_M_digest_169, li101, inB_nI (by omega) (by omega), jgd_t, ixn (by omega), h101 hI, bk_le (by omega) (by omega), jbr_n (by omega), li102, nI_add, inB_nI (by omega) (by omega), jgd_t, ixn (by omega), hH_g hI, q1, d1, bV_some, li110, nI_add, inB_nI (by omega) (by omega), jgd_t, ixn (by omega), hH_g d2, q2, d3, bV_some, show nI c + 1 = nI (c + 1) from nI_add c 1]
    refine ⟨m2, rfl, ?_⟩
    unfold dgC
    rw [itr_s, Nat.zero_add]
    exact d4) (vc (sv S)) 0 m3 (by omega) (by rw [dgC_0]; exact c2)
  have h118 : gI m4 65 118 = nI (vl (sv S)) := by rw [hH_g d2]; exact hv.2.2.2.2.2.2.1
  obtain ⟨m5, e1, e2⟩ := hH_mix d2 (nI (vl (sv S)))
  have h119 : gI m5 65 119 = nI (vp (sv S)) := by rw [hH_g e2]; exact hv.2.2.2.2.2.2.2.1
  obtain ⟨m6, f1, f2⟩ := m_mixA e2 (r := 120) (n := vp (sv S)) (vP (sv S)) (by omega) (fun i hi => by have := hv.2.2.2.2.2.2.2.2.1 i hi; rwa [show 0 + 120 + i = 120 + i from by omega] at this)
  have h126 : gI m6 65 126 = nI (vh (sv S)) := by rw [hH_g f2]; exact hv.2.2.2.2.2.2.2.2.2.1
  obtain ⟨m7, g1, g2⟩ := m_mixA f2 (r := 127) (n := vh (sv S)) (vH (sv S)) (by omega) (fun i hi => by have := hv.2.2.2.2.2.2.2.2.2.2 i hi; rwa [show 0 + 127 + i = 127 + i from by omega] at this)
  obtain ⟨m8, k1, k2⟩ := hH_mixL g2 (sa S)
  obtain ⟨m9, l1, l2⟩ := hH_mixL k2 (sb S)
  have x1 : gL m7 64 4 = sa S := (g2.2.2 64 4 (by omega)).trans hM.2.2.2.2.2.2.2.1
  have x2 : gL m8 64 5 = sb S := (k2.2.2 64 5 (by omega)).trans hM.2.2.2.2.2.2.2.2.1
  refine ⟨m9, ?_, _, l2⟩
  rw [a1, b1, c1]
  refine Eq.trans d1 ?_
  show evj _ _ _ _ _ = _
  rw [e_M_digest_169, show inB (101 : Int32) 560 = true from by decide, jgd_t, show ix (101 : Int32) = 101 from by decide, h101 d2, jbr_p (by rw [kI_le (by omega) (by omega)]; omega), show inB (118 : Int32) 560 = true from by decide, jgd_t, show ix (118 : Int32) = 118 from by decide, h118, e1, bV_some, show inB (119 : Int32) 560 = true from by decide, jgd_t, show ix (119 : Int32) = 119 from by decide, h119, li120, f1, bV_some, show inB (126 : Int32) 560 = true from by decide, jgd_t, show ix (126 : Int32) = 126 from by decide, h126, li127, g1, bV_some, x1, k1, bV_some, x2, l1, bV_some, l2.1]
  unfold dg dgV
  rfl
theorem op_digest : opL 136 215 [] Rel := by
  refine opL_of (fun S => dg S) (fun S => S) (fun S h => h) ?_ ?_
  · intro μ S hW hC
    rw [e_N_digest]
    have L := lp_f (W := fun i h => evj 136 6 [jR 9 0, jL h, jU, jI (nI i)] [] μ) (f := fun w h => mx h (nI (amt S w))) (n := 5) (fun _ _ => True) (fun i h hi _ => by
      refine ⟨?_, trivial⟩
      show evj _ _ _ _ _ = evj _ _ _ _ _
      rw [e_N_digest_6, li4, bk_lt (by omega) (by omega), jbr_n (by omega), c_amt hC hi, bI_some, show nI i + 1 = nI (i + 1) from nI_add i 1]
      rfl) 5 0 677 (by omega) trivial
    refine ⟨μ, Eq.trans L.1 ?_, hC, oc_r μ⟩
    show evj _ _ _ _ _ = _
    rw [e_N_digest_6, jbr_p (by decide), c_dgV hW.1 hC.1, bL_some, hC.2.2.2.2.2.2.1, hC.2.2.2.2.2.2.2.1]
    rfl
  · intro μ S hW hM
    obtain ⟨m, e1, h, e2⟩ := m_dg hW hM
    refine ⟨m, e1, MS_hH hW e2 hM, fun a b hab => ⟨e2.2.1 a b, e2.2.2 a b (by omega)⟩⟩
