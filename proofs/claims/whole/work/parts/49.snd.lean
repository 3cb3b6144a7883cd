/-! frames; what one sounds; notes near; what is filled -/
def fI (lo hi : Nat) (μ m : jm) : Prop := ∀ a b, (a < lo ∨ hi < a) → m.1 a b = μ.1 a b ∧ m.2 a b = μ.2 a b
theorem fI_r (lo hi : Nat) (μ : jm) : fI lo hi μ μ := fun _ _ _ => ⟨rfl, rfl⟩
theorem fI_t {lo hi : Nat} {a b c : jm} (h : fI lo hi a b) (h2 : fI lo hi b c) : fI lo hi a c := fun x y hx => ⟨(h2 x y hx).1.trans (h x y hx).1, (h2 x y hx).2.trans (h x y hx).2⟩
theorem fI_w {lo hi lo' hi' : Nat} {a b : jm} (h : fI lo hi a b) (h1 : lo' ≤ lo) (h2 : hi ≤ hi') : fI lo' hi' a b := fun x y hx => h x y (by omega)
theorem fI_s {lo hi : Nat} (μ : jm) {k i : Nat} {v : Int32} (h1 : lo ≤ k) (h2 : k ≤ hi) : fI lo hi μ (sI μ k i v) := fun x y h => ⟨if_neg (by omega), rfl⟩
theorem fI_sL {lo hi : Nat} (μ : jm) {k i : Nat} {v : Int64} (h1 : lo ≤ k) (h2 : k ≤ hi) : fI lo hi μ (sL μ k i v) := fun x y h => ⟨rfl, if_neg (by omega)⟩
theorem fI_g {lo hi : Nat} {μ m : jm} (h : fI lo hi μ m) {a b : Nat} (hh : a < lo ∨ hi < a) : gI m a b = gI μ a b := (h a b hh).1
theorem fI_gL {lo hi : Nat} {μ m : jm} (h : fI lo hi μ m) {a b : Nat} (hh : a < lo ∨ hi < a) : gL m a b = gL μ a b := (h a b hh).2
theorem CV_fI {lo hi : Nat} {μ m : jm} {k : Nat} {v : vst} (h : fI lo hi μ m) (hk : k + 10 < lo ∨ hi < k) (hv : CV μ k v) : CV m k v := CV_of (fun a b _ _ => (h a b (by omega)).1) hv
theorem MV_fI {lo hi : Nat} {μ m : jm} {r : Nat} {v : vst} (h : fI lo hi μ m) (hk : hi < 65 ∨ 65 < lo) (hw : WV v) (hv : MV μ r v) : MV m r v := MV_of (fun b _ _ => (h 65 b (by omega)).1) hw hv
theorem CS_fI {lo hi : Nat} {μ m : jm} {S : sst} (h : fI lo hi μ m) (h1 : 50 ≤ lo) (hs : CS μ S) : CS m S := by
  have e : setV S (sv S) = S := rfl
  rw [← e]
  exact CS_setV hs (CV_fI h (by omega) hs.1) (fun a b _ => h a b (by omega))
theorem MS_fI {lo hi : Nat} {μ m : jm} {S : sst} (h : fI lo hi μ m) (h1 : 69 ≤ lo) (hw : WS S) (hs : MS μ S) : MS m S := by
  have e : setV S (sv S) = S := rfl
  rw [← e]
  exact MS_setV hw hs (MV_fI h (by omega) hw.1 hs.1) (fun a b _ _ => h a b (by omega))
theorem oc_fI {lo hi : Nat} {μ m : jm} (h : fI lo hi μ m) (h1 : hi < 64) : oc μ m := fun a b ha => h a b (by omega)
theorem om_fI {lo hi : Nat} {μ m : jm} (h : fI lo hi μ m) (h1 : 64 ≤ lo) (h2 : hi < 78) : om μ m := fun a b ha => h a b (by omega)
/-- the ring -/
def rot (a s : Nat) : Nat := (a * 2 ^ s ||| a / 2 ^ (12 - s)) &&& 4095
theorem rot_lt (a s : Nat) : rot a s < 4096 := Nat.lt_of_le_of_lt Nat.and_le_right (by omega)
theorem sh_lt {a s : Nat} (ha : a < 4096) (hs : s ≤ 12) : a * 2 ^ s < 16777216 := by
  have h1 : 2 ^ s ≤ 2 ^ 12 := Nat.pow_le_pow_right (by omega) hs
  have h2 : a * 2 ^ s ≤ 4095 * 2 ^ 12 := Nat.mul_le_mul (by omega) h1
  omega
theorem c_rot {a s : Nat} (ha : a < 4096) (hs : s ≤ 12) (μ : jm) : cj 11 [jI (nI a), jI (nI s)] μ = some (some (jI (nI (rot a s))), μ) := by
  have := sh_lt ha hs
  rw [e_Ring_raised, kI_shl (by omega) (by omega), li12, kI_sub hs, kI_shr (by omega) (by omega), kI_or, li4095, kI_and]
  rfl
theorem m_rot {a s : Nat} (ha : a < 4096) (hs : s ≤ 12) (μ : jm) : cj 157 [jI (nI a), jI (nI s)] μ = some (some (jI (nI (rot a s))), μ) := by
  have := sh_lt ha hs
  rw [e_M_turned, kI_shl (by omega) (by omega), li12, kI_shr (by omega) (by omega), kI_or, li4095, kI_and]
  have e : a * 2 ^ s / 2 ^ 12 = a / 2 ^ (12 - s) := by
    rw [show (12 : Nat) = (12 - s) + s from by omega, Nat.pow_add, Nat.add_sub_cancel]
    exact Nat.mul_div_mul_right a (2 ^ (12 - s)) (Nat.two_pow_pos s)
  rw [e]
  rfl
def nea (a s : Nat) : Nat := itr (fun i w => w ||| (rot a (i + 1) ||| rot a (12 - (i + 1)))) s 0 a
theorem or_12 {a b : Nat} (ha : a < 4096) (hb : b < 4096) : a ||| b < 4096 := or_lt 12 ha hb
theorem nea_lt {a : Nat} (s : Nat) (ha : a < 4096) : nea a s < 4096 := itr_I (n := s) (fun _ w => w < 4096) (fun i w _ h => or_12 h (or_12 (rot_lt _ _) (rot_lt _ _))) ha
theorem c_nea {a s : Nat} (ha : a < 4096) (hs : s ≤ 6) (μ : jm) : cj 12 [jI (nI a), jI (nI s)] μ = some (some (jI (nI (nea a s))), μ) := by
  rw [e_Ring_near, li1]
  have L := lp_f (W := fun i w => evj 12 4 [jI (nI a), jI (nI s), jI (nI w), jI (nI (i + 1))] [] μ) (f := fun i w => w ||| (rot a (i + 1) ||| rot a (12 - (i + 1)))) (n := s) (fun _ _ => True) (fun i w hi _ => by
    refine ⟨?_, trivial⟩
    show evj _ _ _ _ _ = evj _ _ _ _ _
    rw [e_Ring_near_4, bk_lt (by omega) (by omega), jbr_n (by omega), c_rot ha (by omega), bI_some, li12, kI_sub (by omega), c_rot ha (by omega), bI_some, kI_or, kI_or, li1, nI_add]) s 0 a (by omega) trivial
  refine L.1.trans ?_
  show evj _ _ _ _ _ = _
  rw [e_Ring_near_4, bk_lt (by omega) (by omega), jbr_p (by omega)]
  rfl
/-- what one sounds in a set -/
def snd (v : vst) (p set : Nat) : Nat :=
  if vK v p = 1 then (if set = 2 ^ p then 2 ^ vN v p else rot (2 ^ vN v p) 1)
  else if vK v p = 2 then (if vM v p ≠ 0 ∧ set.testBit (vM v p - 1) = true then 2 ^ vN v p ||| rot (2 ^ vN v p) 7 else 2 ^ vN v p)
  else if vK v p = 5 then (2 ^ vN v p ||| rot (2 ^ vN v p) 1) ||| rot (2 ^ vN v p) 6
  else if vK v p = 0 then 2 ^ vN v p else 2 ^ vN v p ||| rot (2 ^ vN v p) 1
theorem two_12 {j : Nat} (h : j < 12) : 2 ^ j < 4096 := two_lt (n := 12) h
theorem snd_lt {v : vst} {p : Nat} (set : Nat) (h : vN v p < 12) : snd v p set < 4096 := by
  have h1 := two_12 h
  unfold snd
  repeat' split
  all_goals first
    | exact h1
    | exact rot_lt _ _
    | exact or_12 h1 (rot_lt _ _)
    | exact or_12 (or_12 h1 (rot_lt _ _)) (rot_lt _ _)
theorem qi_l {n : Nat} (hn : n < 1073741824) : (nI n - 1 < 0) = (n = 0) := propext (by
  rw [Int32.lt_iff_toInt_lt]
  cases n with
  | zero => exact ⟨fun _ => rfl, fun _ => by decide⟩
  | succ n => rw [nI_pred, nI_toInt (by omega)]; exact ⟨fun h => absurd h (by show ¬ ((n : Int) < 0); omega), fun h => by omega⟩)
theorem bk_l0 {a : Nat} (ha : a < 1073741824) {x y : Option jr} : jbr (decide (nI a - (1 : Int32) < 0)) x y = jbr (decide (a = 0)) x y := by congr 1; exact decide_eq_decide.mpr (iff_of_eq (qi_l ha))
theorem jbr_bN {b : Bool} {μ : jm} : jbr (decide (nI (bN b) = 0)) (some (some (jI ((0 : Int32) &&& 1)), μ)) (some (some (jI ((1 : Int32) &&& 1)), μ)) = (some (some (jI (nI (bN b))), μ) : Option jr) := by cases b <;> rfl
theorem c_mate {q set : Nat} (hq : q ≤ 7) (hs : set < 2147483648) (μ : jm) : cj 47 [jI (nI q - 1), jI (nI set)] μ = some (some (jI (nI (bN (decide (q ≠ 0 ∧ set.testBit (q - 1) = true))))), μ) := by
  rw [e_Choir_isMateIn, bk_l0 (by omega)]
  cases q with
  | zero => rw [jbr_p rfl, decide_eq_false (fun z => z.1 rfl)]; rfl
  | succ q =>
    rw [jbr_n (by omega), nI_pred, li7, bk_le (by omega) (by omega), jbr_n (by omega), kI_tb hs (by omega), jbr_bN]
    congr 5
    rw [Nat.add_sub_cancel]
    cases set.testBit q with
    | false => rfl
    | true => exact congrArg bN (decide_eq_true (show q + 1 ≠ 0 ∧ true = true from ⟨by omega, rfl⟩)).symm
theorem c_snd {k p set : Nat} {μ : jm} {v : vst} (hw : WV v) (hv : CV μ k v) (hp : p < vn v) (hs : set < 128) : cj 46 [jR 8 k, jI (nI p), jI (nI set)] μ = some (some (jI (nI (snd v p set))), μ) := by
  have w3 : vn v ≤ 7 := hw.2.2.1
  obtain ⟨w41, w42, w43, w44, -⟩ := hw.2.2.2.1 p hp
  obtain ⟨q1, q2, q3, q4⟩ := hv.2.2.2.1 p hp
  have h12 := two_12 w42
  rw [e_Choir_notesOf, inB_nI (by omega) (by omega), jgd_t, jgd_t, ixn (by omega), q1, q2, q4, kI_1 (show vN v p < 32 by omega)]
  have hK : vK v p = 0 ∨ vK v p = 1 ∨ vK v p = 2 ∨ vK v p = 3 ∨ vK v p = 4 ∨ vK v p = 5 := by omega
  rw [li1, li2, li3, li4, li5, bk_eq (by omega) (by omega), bk_eq (by omega) (by omega), bk_eq (by omega) (by omega), bk_eq (by omega) (by omega), bk_eq (by omega) (by omega)]
  unfold snd
  rcases hK with h | h | h | h | h | h
  · rw [jbr_n (by omega), jbr_n (by omega), jbr_n (by omega), jbr_n (by omega), jbr_n (by omega), if_neg (by omega), if_neg (by omega), if_neg (by omega), if_pos h]
  · rw [jbr_p h, if_pos h, qI_1 (show p < 32 by omega)]
    have hpp : 2 ^ p < 2 ^ 7 := two_lt (by omega)
    rw [bk_ne (by omega) (by omega)]
    by_cases e : set = 2 ^ p
    · rw [jbr_n (fun z => z e), if_pos e, e_Choir_notesOf_64]
    · rw [jbr_p e, if_neg e, c_rot h12 (by omega), bI_some, e_Choir_notesOf_64]
  · rw [jbr_n (by omega), jbr_p h, if_neg (by omega), if_pos h, jgd_t]
    rw [show cj 47 [jI (nI (vM v p) - nI 1), jI (nI set)] μ = _ from c_mate (by omega) (by omega) μ, bI_some]
    by_cases e : vM v p ≠ 0 ∧ set.testBit (vM v p - 1) = true
    · rw [bf_n (decide_eq_true e), if_pos e, li7, c_rot h12 (by omega), bI_some, kI_or, e_Choir_notesOf_90]
    · rw [bf_p (decide_eq_false e), if_neg e, e_Choir_notesOf_90]
  · rw [jbr_n (by omega), jbr_n (by omega), jbr_p h, if_neg (by omega), if_neg (by omega), if_neg (by omega), if_neg (by omega), e_Choir_notesOf_91, li1, c_rot h12 (by omega), bI_some, kI_or]
  · rw [jbr_n (by omega), jbr_n (by omega), jbr_n (by omega), jbr_p h, if_neg (by omega), if_neg (by omega), if_neg (by omega), if_neg (by omega), e_Choir_notesOf_91, li1, c_rot h12 (by omega), bI_some, kI_or]
  · rw [jbr_n (by omega), jbr_n (by omega), jbr_n (by omega), jbr_n (by omega), jbr_p h, if_neg (by omega), if_neg (by omega), if_pos h, c_rot h12 (by omega), bI_some, li6, c_rot h12 (by omega), bI_some, kI_or, kI_or]
theorem m_snd {r p set : Nat} (hr : r ≤ 420) {μ : jm} {v : vst} (hw : WV v) (hv : MV μ r v) (hp : p < vn v) (hs : set < 128) : cj 156 [jR 10 64, jI (nI r), jI (nI p), jI (nI set)] μ = some (some (jI (nI (snd v p set))), μ) := by
  have w3 : vn v ≤ 7 := hw.2.2.1
  obtain ⟨w41, w42, w43, w44, -⟩ := hw.2.2.2.1 p hp
  obtain ⟨q1, q2, q3, q4⟩ := hv.2.2.2.1 p hp
  have h12 := two_12 w42
  rw [e_M_soundsOf, li80, li73, li94, nI_add, nI_add, nI_add, nI_add, nI_add, nI_add, inB_nI (by omega) (by omega), jgd_t, inB_nI (by omega) (by omega), jgd_t, ixn (by omega), ixn (by omega), ixn (by omega), q1, q2, q4, kI_1 (show vN v p < 32 by omega)]
  have hK : vK v p = 0 ∨ vK v p = 1 ∨ vK v p = 2 ∨ vK v p = 3 ∨ vK v p = 4 ∨ vK v p = 5 := by omega
  rw [li1, li2, li5, bk_ne (by omega) (by omega), bk_ne (by omega) (by omega), bk_le (by omega) (by omega)]
  unfold snd
  rcases hK with h | h | h | h | h | h
  · rw [jbr_p (by omega), jbr_p (by omega), jbr_n (by omega), if_neg (by omega), if_neg (by omega), if_neg (by omega), if_pos h]
  · rw [jbr_n (by omega), if_pos h, qI_1 (show p < 32 by omega)]
    have hpp : 2 ^ p < 2 ^ 7 := two_lt (by omega)
    rw [bk_ne (by omega) (by omega)]
    by_cases e : set = 2 ^ p
    · rw [jbr_n (fun z => z e), if_pos e, e_M_soundsOf_52]
    · rw [jbr_p e, if_neg e, m_rot h12 (by omega), bI_some, e_M_soundsOf_52]
  · rw [jbr_p (by omega), jbr_n (by omega), if_neg (by omega), if_pos h, inB_nI (by omega) (by omega), jgd_t]
    cases hM : vM v p with
    | zero => rw [jbr_p (by rfl), e_M_soundsOf_100, e_M_soundsOf_102, if_neg (fun z => z.1 rfl)]
    | succ q =>
      rw [show (nI (q + 1) - nI 1 : Int32) = nI q from nI_pred q, jbr_n (show ¬ (nI q = -nI 1) from fun z => absurd (show nI q = ngc 1 from z) (by rw [qI_n (by omega)]; exact id)), m_has (by omega) (by omega), bI_some, Nat.add_sub_cancel]
      cases e : set.testBit q
      · rw [bf_p rfl, if_neg (fun z => absurd z.2 (by decide)), e_M_soundsOf_100, e_M_soundsOf_102]
      · rw [bf_n rfl, if_pos ⟨by omega, rfl⟩, li7, m_rot h12 (by omega), bI_some, kI_or, e_M_soundsOf_102]
  · rw [jbr_p (by omega), jbr_p (by omega), jbr_p (by omega), m_rot h12 (by omega), bI_some, bk_ne (by omega) (by omega), jbr_p (by omega), e_M_soundsOf_138, if_neg (by omega), if_neg (by omega), if_neg (by omega), if_neg (by omega), li0, kI_or, kI_or, Nat.or_zero]
  · rw [jbr_p (by omega), jbr_p (by omega), jbr_p (by omega), m_rot h12 (by omega), bI_some, bk_ne (by omega) (by omega), jbr_p (by omega), e_M_soundsOf_138, if_neg (by omega), if_neg (by omega), if_neg (by omega), if_neg (by omega), li0, kI_or, kI_or, Nat.or_zero]
  · rw [jbr_p (by omega), jbr_p (by omega), jbr_p (by omega), m_rot h12 (by omega), bI_some, bk_ne (by omega) (by omega), jbr_n (by omega), li6, m_rot h12 (by omega), bI_some, e_M_soundsOf_138, if_neg (by omega), if_neg (by omega), if_pos h, kI_or, kI_or]
