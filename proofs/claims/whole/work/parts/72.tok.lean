/-! the text: signs, tokens; the class reads one -/
def sbt (b : Nat) : Int32 := (nI b).toInt8.toInt32
def isl (b : Nat) : Bool := decide (97 ≤ b) && decide (b ≤ 122)
def isf (b : Nat) : Bool := decide (48 ≤ b) && decide (b ≤ 57)
theorem isl_d : ∀ a, a < 16 → ∀ b, b < 16 → (!decide (sbt (16 * a + b) < 97) && !decide ((122 : Int32) < sbt (16 * a + b))) = isl (16 * a + b) := by decide +kernel
theorem isf_d : ∀ a, a < 16 → ∀ b, b < 16 → (!decide (sbt (16 * a + b) < 48) && !decide ((57 : Int32) < sbt (16 * a + b))) = isf (16 * a + b) := by decide +kernel
theorem s32_d : ∀ a, a < 16 → ∀ b, b < 16 → decide (sbt (16 * a + b) = 32) = decide (16 * a + b = 32) := by decide +kernel
theorem s59_d : ∀ a, a < 16 → ∀ b, b < 16 → decide (sbt (16 * a + b) = 59) = decide (16 * a + b = 59) := by decide +kernel
theorem s16 {P : Nat → Prop} (h : ∀ a, a < 16 → ∀ b, b < 16 → P (16 * a + b)) {x : Nat} (hx : x < 256) : P x := by
  have := h (x / 16) (by omega) (x % 16) (by omega)
  rwa [show 16 * (x / 16) + x % 16 = x from by omega] at this
theorem c_isl {b : Nat} (hb : b < 256) (μ : jm) : cj 86 [jI (sbt b)] μ = some (some (jI (nI (bN (isl b)))), μ) := by
  have h := s16 (P := fun x => (!decide (sbt x < 97) && !decide ((122 : Int32) < sbt x)) = isl x) isl_d hb
  rw [e_Text_isLetter, ← h]
  by_cases h1 : sbt b < 97
  · rw [jbr_p h1, decide_eq_true h1, Bool.not_true, Bool.false_and]; rfl
  · rw [jbr_n h1, decide_eq_false h1]
    by_cases h2 : (122 : Int32) < sbt b
    · rw [jbr_p h2, decide_eq_true h2]; rfl
    · rw [jbr_n h2, decide_eq_false h2]; rfl
theorem c_isf {b : Nat} (hb : b < 256) (μ : jm) : cj 90 [jI (sbt b)] μ = some (some (jI (nI (bN (isf b)))), μ) := by
  have h := s16 (P := fun x => (!decide (sbt x < 48) && !decide ((57 : Int32) < sbt x)) = isf x) isf_d hb
  rw [e_Text_isFigure, ← h]
  by_cases h1 : sbt b < 48
  · rw [jbr_p h1, decide_eq_true h1, Bool.not_true, Bool.false_and]; rfl
  · rw [jbr_n h1, decide_eq_false h1]
    by_cases h2 : (57 : Int32) < sbt b
    · rw [jbr_p h2, decide_eq_true h2]; rfl
    · rw [jbr_n h2, decide_eq_false h2]; rfl
theorem sbt_32 {b : Nat} (hb : b < 256) : sbt b = 32 ↔ b = 32 := decide_eq_decide.mp (s16 (P := fun x => decide (sbt x = 32) = decide (x = 32)) s32_d hb)
theorem sbt_59 {b : Nat} (hb : b < 256) : sbt b = 59 ↔ b = 59 := decide_eq_decide.mp (s16 (P := fun x => decide (sbt x = 59) = decide (x = 59)) s59_d hb)
theorem sbt_s : ∀ b, b < 128 → sbt b = nI b := by decide +kernel
theorem sbt_n : ∀ a, a < 16 → ∀ b, b < 16 → (decide (16 * a + b < 128) || decide (sbt (16 * a + b) < 0)) = true := by decide +kernel
theorem sbt_e {b c : Nat} (hb : b < 256) (hc : c < 128) : sbt b = nI c ↔ b = c := by
  by_cases h : b < 128
  · rw [sbt_s b h, nI_eq (by omega) (by omega)]
  · have h2 := s16 (P := fun x => (decide (x < 128) || decide (sbt x < 0)) = true) sbt_n hb
    rw [decide_eq_false h, Bool.false_or] at h2
    have h2 := of_decide_eq_true h2
    refine ⟨fun z => ?_, fun z => absurd z (by omega)⟩
    rw [z, lt0, nI_toInt (by omega)] at h2
    omega
/-- where a row of signs ends -/
theorem lst_q (c : Nat → Bool) : ∀ d i, i ≤ lst c d i ∧ lst c d i ≤ i + d ∧ (lst c d i < i + d → c (lst c d i) = true) ∧ ∀ u, i ≤ u → u < lst c d i → c u = false
  | 0, i => ⟨Nat.le_refl _, Nat.le_refl _, fun h => absurd h (by show ¬ (i < i + 0); omega), fun u h1 h2 => by have h2 : u < i := h2; omega⟩
  | d + 1, i => by
    show i ≤ (if c i = true then i else lst c d (i + 1)) ∧ (if c i = true then i else lst c d (i + 1)) ≤ i + (d + 1) ∧ ((if c i = true then i else lst c d (i + 1)) < i + (d + 1) → c (if c i = true then i else lst c d (i + 1)) = true) ∧ ∀ u, i ≤ u → u < (if c i = true then i else lst c d (i + 1)) → c u = false
    by_cases e : c i = true
    · rw [if_pos e]
      exact ⟨Nat.le_refl _, by omega, fun _ => e, fun u h1 h2 => by omega⟩
    · rw [if_neg e]
      obtain ⟨k1, k2, k3, k4⟩ := lst_q c d (i + 1)
      refine ⟨by omega, by omega, fun h => k3 (by omega), fun u h1 h2 => ?_⟩
      by_cases eu : u = i
      · rw [eu]; exact Bool.eq_false_iff.mpr e
      · exact k4 u (by omega) h2
def scn (f : Nat → Bool) (T : Nat → Nat) (l p : Nat) : Nat := lst (fun q => !f (T q)) (l - p) p
theorem scn_p (f : Nat → Bool) (T : Nat → Nat) {l p : Nat} (h : p ≤ l) : p ≤ scn f T l p ∧ scn f T l p ≤ l ∧ (scn f T l p < l → f (T (scn f T l p)) = false) ∧ ∀ u, p ≤ u → u < scn f T l p → f (T u) = true := by
  obtain ⟨k1, k2, k3, k4⟩ := lst_q (fun q => !f (T q)) (l - p) p
  refine ⟨k1, by unfold scn; omega, fun h1 => ?_, fun u h1 h2 => ?_⟩
  · have : (!f (T (scn f T l p))) = true := k3 (by unfold scn at h1; omega)
    rw [Bool.not_eq_true'] at this
    exact this
  · have : (!f (T u)) = false := k4 u h1 h2
    rw [Bool.not_eq_false'] at this
    exact this
theorem scn_u (f : Nat → Bool) (T : Nat → Nat) {l p e : Nat} (h1 : p ≤ e) (h2 : e ≤ l) (h3 : e < l → f (T e) = false) (h4 : ∀ u, p ≤ u → u < e → f (T u) = true) : scn f T l p = e := by
  obtain ⟨k1, k2, k3, k4⟩ := scn_p f T (l := l) (p := p) (by omega)
  by_cases a : scn f T l p < e
  · have x := h4 _ k1 a
    rw [k3 (by omega)] at x
    exact absurd x (by decide)
  · by_cases b : e < scn f T l p
    · have x := k4 e h1 b
      rw [h3 (by omega)] at x
      exact absurd x (by decide)
    · omega
def isb (b : Nat) : Bool := decide (b = 32)
def skp (T : Nat → Nat) (l p : Nat) : Nat := scn isb T l p
def wen (T : Nat → Nat) (l p : Nat) : Nat := scn isl T l p
def nen (T : Nat → Nat) (l p : Nat) : Nat := scn isf T l p
theorem skp_p {T : Nat → Nat} {l p : Nat} (h : p ≤ l) : p ≤ skp T l p ∧ skp T l p ≤ l ∧ (skp T l p < l → isb (T (skp T l p)) = false) ∧ ∀ u, p ≤ u → u < skp T l p → isb (T u) = true := scn_p isb T h
theorem wen_p {T : Nat → Nat} {l p : Nat} (h : p ≤ l) : p ≤ wen T l p ∧ wen T l p ≤ l ∧ (wen T l p < l → isl (T (wen T l p)) = false) ∧ ∀ u, p ≤ u → u < wen T l p → isl (T u) = true := scn_p isl T h
theorem nen_p {T : Nat → Nat} {l p : Nat} (h : p ≤ l) : p ≤ nen T l p ∧ nen T l p ≤ l ∧ (nen T l p < l → isf (T (nen T l p)) = false) ∧ ∀ u, p ≤ u → u < nen T l p → isf (T u) = true := scn_p isf T h
/-- the words -/
def jwn (k i : Nat) : Nat := ([[100, 111, 111, 114], [104, 101, 97, 114, 115], [111, 110, 101], [109, 97, 116, 101, 115], [99, 104, 111, 114, 100], [115, 108, 97, 99, 107]].getD k []).getD i 0
def mtc (T : Nat → Nat) (q e k : Nat) : Bool := decide (e - q = jwl k) && (List.range (jwl k)).all (fun i => decide (T (q + i) = jwn k i))
def wno (T : Nat → Nat) (q e n : Nat) : Nat := itr (fun k r => if mtc T q e k = true then k else r) n 0 6
theorem wno_s (T : Nat → Nat) (q e n : Nat) : wno T q e (n + 1) = if mtc T q e n = true then n else wno T q e n := by
  show itr _ (n + 1) 0 _ = _
  rw [itr_s, Nat.zero_add]
  rfl
theorem jwl_b : ∀ k, k < 6 → 3 ≤ jwl k ∧ jwl k ≤ 5 := by decide
theorem jwn_b : ∀ k, k < 6 → ∀ i, i < 5 → jwn k i < 128 := by decide
theorem c_strlen {k : Nat} (hk : k < 6) (μ : jm) : cj 4 [jR 98 k] μ = some (some (jI (nI (jwl k))), μ) := by
  have h : ∀ k, k < 6 → nI (jwl k) >>> (((0 : Int32).toInt8.toInt32) &&& 31) = nI (jwl k) := by decide +kernel
  rw [e_String_length, e_String_coder, jbr_n (by decide), bI_some, h k hk]
theorem c_char {k i : Nat} (hk : k < 6) (hi : i < jwl k) (μ : jm) : cj 6 [jR 98 k, jI (nI i)] μ = some (some (jI (nI (jwn k i))), μ) := by
  have hb := jwl_b k hk
  have h : ∀ k, k < 6 → ∀ i, i < 5 → ((((((jwb k i &&& (255 : Int32) : Int32).toUInt32 % 65536).toInt32 : Int32).toUInt32 % 65536).toInt32 : Int32).toUInt32 % 65536).toInt32 = nI (jwn k i) := by decide +kernel
  rw [e_String_charAt, e_String_isLatin1, jbr_n (by decide), jbr_n (by decide), bI_some, jbr_n (by decide), e_StringLatin1_charAt, e_String_checkIndex, e_Preconditions_checkIndex, jbr_n (show ¬ nI i < 0 from by rw [lt0, nI_toInt (by omega)]; omega), bk_lt (by omega) (by omega), jbr_p hi, bI_some, bV_some, inB_nI hi (by omega), jgd_t, ixn (by omega), bI_some, h k hk i (by omega)]
def TX (m : jm) (T : Nat → Nat) (l : Nat) : Prop := l ≤ 200 ∧ gI m 46 1 = nI l ∧ ∀ i, i < l → T i < 256 ∧ gI m 47 i = sbt (T i)
/-- only the reading's own fields changed -/
def fT (m m' : jm) : Prop := (∀ a b, ¬ (a = 46 ∧ 2 ≤ b ∧ b ≤ 5) → m'.1 a b = m.1 a b) ∧ ∀ a b, m'.2 a b = m.2 a b
theorem fT_r (m : jm) : fT m m := ⟨fun _ _ _ => rfl, fun _ _ => rfl⟩
theorem fT_t {a b c : jm} (h : fT a b) (h2 : fT b c) : fT a c := ⟨fun x y hx => (h2.1 x y hx).trans (h.1 x y hx), fun x y => (h2.2 x y).trans (h.2 x y)⟩
theorem fT_s (m : jm) {i : Nat} {y : Int32} (h1 : 2 ≤ i) (h2 : i ≤ 5) : fT m (sI m 46 i y) := ⟨fun a b h => if_neg (by omega), fun _ _ => rfl⟩
theorem TX_f {m m' : jm} {T : Nat → Nat} {l : Nat} (h : fT m m') (hx : TX m T l) : TX m' T l := ⟨hx.1, (h.1 46 1 (by omega)).trans hx.2.1, fun i hi => ⟨(hx.2.2 i hi).1, (h.1 47 i (by omega)).trans (hx.2.2 i hi).2⟩⟩
theorem c_itw {m : jm} {T : Nat → Nat} {l q e k : Nat} (hx : TX m T l) (h2 : gI m 46 2 = nI e) (h4 : gI m 46 4 = nI q) (hqe : q ≤ e) (hel : e ≤ l) (hk : k < 6) : cj 89 [jR 7 46, jR 98 k] m = some (some (jI (nI (bN (mtc T q e k)))), m) := by
  have hb := jwl_b k hk
  obtain ⟨x1, x2, x3⟩ := hx
  rw [e_Text_isTokenWord, c_strlen hk, bI_some, h2, h4, kI_sub hqe, bk_eq (by omega) (by omega)]
  unfold mtc
  by_cases hl : e - q = jwl k
  · rw [jbr_p hl, decide_eq_true hl, Bool.true_and]
    refine lp_x (W := fun i (_ : Unit) => evj 89 20 [jR 7 46, jR 98 k, jI (nI i)] [] m) (n := jwl k) (fun o => o = some (some (jI (nI (bN ((List.range (jwl k)).all (fun i => decide (T (q + i) = jwn k i)))))), m)) (fun i _ => ∀ j, j < i → T (q + j) = jwn k j) (fun _ hI => ?_) (fun i _ hi hI => ?_) (jwl k) 0 () (by omega) (fun j hj => absurd hj (Nat.not_lt_zero j))
    · show evj _ _ _ _ _ = _
      have : (List.range (jwl k)).all (fun i => decide (T (q + i) = jwn k i)) = true := List.all_eq_true.mpr (fun j hj => decide_eq_true (hI j (List.mem_range.mp hj)))
      rw [e_Text_isTokenWord_20, c_strlen hk, bI_some, jbr_p (by rw [kI_le (by omega) (by omega)]; omega), this]
      rfl
    · show (∃ a', evj _ _ _ _ _ = evj _ _ _ _ _ ∧ _) ∨ evj _ _ _ _ _ = _
      obtain ⟨y1, y2⟩ := x3 (q + i) (by omega)
      have hc := jwn_b k hk i (by omega)
      rw [e_Text_isTokenWord_20, c_strlen hk, bI_some, bk_le (by omega) (by omega), jbr_n (by omega), h4, nI_add, inB_nI (by omega) (by omega), jgd_t, ixn (by omega), c_char hk hi, bI_some, y2, show nI i + 1 = nI (i + 1) from nI_add i 1]
      by_cases he : T (q + i) = jwn k i
      · rw [jbr_p ((sbt_e y1 hc).mpr he)]
        refine Or.inl ⟨(), rfl, fun j hj => ?_⟩
        by_cases e : j = i
        · rw [e]; exact he
        · exact hI j (by omega)
      · rw [jbr_n (fun z => he ((sbt_e y1 hc).mp z))]
        refine Or.inr ?_
        have : (List.range (jwl k)).all (fun i => decide (T (q + i) = jwn k i)) = false := by
          rw [← Bool.not_eq_true]
          intro z
          exact he (of_decide_eq_true (List.all_eq_true.mp z i (List.mem_range.mpr hi)))
        rw [this]
        rfl
  · rw [jbr_n hl, decide_eq_false hl, Bool.false_and]
    rfl
theorem c_word {m : jm} {T : Nat → Nat} {l q : Nat} (hx : TX m T l) (h2 : gI m 46 2 = nI q) (h4 : gI m 46 4 = nI q) (hq : q < l) : ∃ m', cj 87 [jR 7 46] m = some (none, m') ∧ gI m' 46 2 = nI (wen T l q) ∧ gI m' 46 4 = nI q ∧ gI m' 46 3 = (if wno T q (wen T l q) 6 < 6 then 1 else 4) ∧ (wno T q (wen T l q) 6 < 6 → gI m' 46 5 = nI (wno T q (wen T l q) 6)) ∧ fT m m' := by
  obtain ⟨s1, s2, s3, s4⟩ := wen_p (T := T) (l := l) (p := q) (by omega)
  have hl := hx.1
  have start : cj 87 [jR 7 46] m = evj 87 0 [jR 7 46, jU] [] m := by rw [e_Text_readWord, e_Text_readWord_0]
  rw [start]
  obtain ⟨m1, a1, -, a2, a3, a4⟩ := lp_r (W := fun p (m' : jm) => evj 87 0 [jR 7 46, jU] [] m') (n := wen T l q) (fun p m' => q ≤ p ∧ gI m' 46 2 = nI p ∧ gI m' 46 4 = nI q ∧ fT m m') (fun p m' hp hI => by
    obtain ⟨hpq, i1, i2, i3⟩ := hI
    show ∃ a', evj _ _ _ _ _ = evj _ _ _ _ _ ∧ _
    have hx1 := TX_f i3 hx
    obtain ⟨y1, y2⟩ := hx1.2.2 p (by omega)
    rw [e_Text_readWord_0, hx1.2.1, i1, bk_le (by omega) (by omega), jbr_n (by omega), inB_nI (by omega) (by omega), jgd_t, ixn (by omega), y2, c_isl y1, bI_some, s4 p hpq hp, bf_n rfl, i1, li1, nI_add]
    exact ⟨_, rfl, by omega, by rw [gI_eq], by rw [gI_ne _ (by omega)]; exact i2, fT_t i3 (fT_s m' (by omega) (by omega))⟩) (wen T l q - q) q m (by omega) ⟨Nat.le_refl q, h2, h4, fT_r m⟩
  have mid : evj 87 0 [jR 7 46, jU] [] m1 = evj 87 46 [jR 7 46, jI (0 : Int32)] [] (sI m1 46 3 (4 : Int32)) := by
    have hx1 := TX_f a4 hx
    rw [e_Text_readWord_0, hx1.2.1, a2]
    by_cases hz : l ≤ wen T l q
    · rw [jbr_p (by rw [kI_le (by omega) (by omega)]; exact hz)]
    · obtain ⟨y1, y2⟩ := hx1.2.2 (wen T l q) (by omega)
      rw [bk_le (by omega) (by omega), jbr_n hz, inB_nI (by omega) (by omega), jgd_t, ixn (by omega), y2, c_isl y1, bI_some, s3 (by omega), bf_p rfl]
  have f1 : fT m (sI m1 46 3 (4 : Int32)) := fT_t a4 (fT_s m1 (by omega) (by omega))
  obtain ⟨m2, b1, b2, b3, b4, b5, b6⟩ := lp_r (W := fun k (m' : jm) => evj 87 46 [jR 7 46, jI (nI k)] [] m') (n := 6) (fun k m' => gI m' 46 2 = nI (wen T l q) ∧ gI m' 46 4 = nI q ∧ gI m' 46 3 = (if wno T q (wen T l q) k < 6 then 1 else 4) ∧ (wno T q (wen T l q) k < 6 → gI m' 46 5 = nI (wno T q (wen T l q) k)) ∧ fT m m') (fun k m' hk hI => by
    obtain ⟨i1, i2, i3, i4, i5⟩ := hI
    show ∃ a', evj _ _ _ _ _ = evj _ _ _ _ _ ∧ _
    have hx1 := TX_f i5 hx
    have wo : cj 88 [jI (nI k)] m' = some (some (jR 98 k), m') := by
      rw [e_Text_wordOf]
      match k, hk with
      | 0, _ => rw [jbr_p (by decide)]
      | 1, _ => rw [jbr_n (by decide), jbr_p (by decide)]
      | 2, _ => rw [jbr_n (by decide), jbr_n (by decide), jbr_p (by decide)]
      | 3, _ => rw [jbr_n (by decide), jbr_n (by decide), jbr_n (by decide), jbr_p (by decide)]
      | 4, _ => rw [jbr_n (by decide), jbr_n (by decide), jbr_n (by decide), jbr_n (by decide), jbr_p (by decide)]
      | 5, _ => rw [jbr_n (by decide), jbr_n (by decide), jbr_n (by decide), jbr_n (by decide), jbr_n (by decide)]
    have itw : cj 89 [jR 7 46, .inr (.inr (.inl (98, k)))] m' = some (some (jI (nI (bN (mtc T q (wen T l q) k)))), m') := c_itw hx1 i1 i2 s1 s2 hk
    rw [e_Text_readWord_46, li6, bk_le (by omega) (by omega), jbr_n (by omega), wo, bR_some, itw, bI_some, show nI k + 1 = nI (k + 1) from nI_add k 1, wno_s]
    cases hm : mtc T q (wen T l q) k
    · rw [bf_p rfl, if_neg (show ¬ (false = true) by decide)]
      exact ⟨m', rfl, i1, i2, i3, i4, i5⟩
    · rw [bf_n rfl, if_pos rfl]
      exact ⟨_, rfl, by rw [gI_ne _ (by omega), gI_ne _ (by omega)]; exact i1, by rw [gI_ne _ (by omega), gI_ne _ (by omega)]; exact i2, by rw [gI_ne _ (by omega), gI_eq, if_pos hk], fun _ => by rw [gI_eq], fT_t i5 (fT_t (fT_s _ (by omega) (by omega)) (fT_s _ (by omega) (by omega)))⟩) 6 0 (sI m1 46 3 (4 : Int32)) (by omega) ⟨by rw [gI_ne _ (by omega)]; exact a2, by rw [gI_ne _ (by omega)]; exact a3, by rw [gI_eq]; rfl, fun z => absurd z (by show ¬ (6 < 6); omega), f1⟩
  refine ⟨m2, Eq.trans a1 (mid.trans (Eq.trans b1 ?_)), b2, b3, b4, b5, b6⟩
  show evj _ _ _ _ _ = _
  rw [e_Text_readWord_46, jbr_p (by decide)]
/-- a number of one or two figures -/
def nvl (T : Nat → Nat) (q e : Nat) : Nat := itr (fun k x => 10 * x + (T (q + k) - 48)) (e - q) 0 0
theorem nvl_s (T : Nat → Nat) (q n : Nat) : nvl T q (q + n + 1) = 10 * nvl T q (q + n) + (T (q + n) - 48) := by
  unfold nvl
  rw [show q + n + 1 - q = n + 1 from by omega, show q + n - q = n from by omega, itr_s, Nat.zero_add]
theorem c_numb {m : jm} {T : Nat → Nat} {l q : Nat} (hx : TX m T l) (h2 : gI m 46 2 = nI q) (h4 : gI m 46 4 = nI q) (hq : q < l) : ∃ m', cj 91 [jR 7 46] m = some (none, m') ∧ gI m' 46 2 = nI (nen T l q) ∧ gI m' 46 4 = nI q ∧ gI m' 46 3 = (if nen T l q - q ≤ 2 then 2 else 4) ∧ gI m' 46 5 = nI (nvl T q (nen T l q)) ∧ fT m m' := by
  obtain ⟨s1, s2, s3, s4⟩ := nen_p (T := T) (l := l) (p := q) (by omega)
  have hl := hx.1
  rw [e_Text_readNumber]
  obtain ⟨m1, a1, -, a2, a3, a5, a4⟩ := lp_r (W := fun p (m' : jm) => evj 91 5 [jR 7 46] [] m') (n := nen T l q) (fun p m' => q ≤ p ∧ gI m' 46 2 = nI p ∧ gI m' 46 4 = nI q ∧ gI m' 46 5 = nI (nvl T q p) ∧ fT m m') (fun p m' hp hI => by
    obtain ⟨hpq, i1, i2, i4, i3⟩ := hI
    show ∃ a', evj _ _ _ _ _ = evj _ _ _ _ _ ∧ _
    have hx1 := TX_f i3 hx
    obtain ⟨y1, y2⟩ := hx1.2.2 p (by omega)
    have hf := s4 p hpq hp
    have hf2 := hf
    unfold isf at hf2
    rw [Bool.and_eq_true, decide_eq_true_eq, decide_eq_true_eq] at hf2
    obtain ⟨n, rfl⟩ : ∃ n, p = q + n := ⟨p - q, by omega⟩
    rw [e_Text_readNumber_5, hx1.2.1, i1, bk_le (by omega) (by omega), jbr_n (by omega), inB_nI (by omega) (by omega), jgd_t, ixn (by omega), y2, c_isf y1, bI_some, hf, bf_n rfl, i1, inB_nI (by omega) (by omega), jgd_t, ixn (by omega), y2, i4, sbt_s _ (by omega), show (10 : Int32) = nI 10 from rfl, kI_mul, nI_add, show (48 : Int32) = nI 48 from rfl, kI_sub (by omega), gI_ne _ (by omega), i1, li1, nI_add]
    refine ⟨_, rfl, by omega, by rw [gI_eq], by rw [gI_ne _ (by omega), gI_ne _ (by omega)]; exact i2, ?_, fT_t i3 (fT_t (fT_s _ (by omega) (by omega)) (fT_s _ (by omega) (by omega)))⟩
    rw [gI_ne _ (by omega), gI_eq, nvl_s]
    congr 1
    omega) (nen T l q - q) q (sI m 46 5 (0 : Int32)) (by omega) ⟨Nat.le_refl q, by rw [gI_ne _ (by omega)]; exact h2, by rw [gI_ne _ (by omega)]; exact h4, by rw [gI_eq]; unfold nvl; rw [Nat.sub_self]; rfl, fT_s m (by omega) (by omega)⟩
  have hx1 := TX_f a4 hx
  have fin : ∀ x : Int32, x = (if nen T l q - q ≤ 2 then 2 else 4) → gI (sI m1 46 3 x) 46 2 = nI (nen T l q) ∧ gI (sI m1 46 3 x) 46 4 = nI q ∧ gI (sI m1 46 3 x) 46 3 = (if nen T l q - q ≤ 2 then 2 else 4) ∧ gI (sI m1 46 3 x) 46 5 = nI (nvl T q (nen T l q)) ∧ fT m (sI m1 46 3 x) := fun x hxx => ⟨by rw [gI_ne _ (by omega)]; exact a2, by rw [gI_ne _ (by omega)]; exact a3, by rw [gI_eq, hxx], by rw [gI_ne _ (by omega)]; exact a5, fT_t a4 (fT_s _ (by omega) (by omega))⟩
  have last : ∃ m', jbr (decide ((2 : Int32) < (nI (nen T l q) - nI q))) (some (none, sI m1 46 3 (4 : Int32))) (some (none, sI m1 46 3 (2 : Int32))) = some (none, m') ∧ gI m' 46 2 = nI (nen T l q) ∧ gI m' 46 4 = nI q ∧ gI m' 46 3 = (if nen T l q - q ≤ 2 then 2 else 4) ∧ gI m' 46 5 = nI (nvl T q (nen T l q)) ∧ fT m m' := by
    rw [kI_sub s1, li2, bk_lt (by omega) (by omega)]
    by_cases hz : 2 < nen T l q - q
    · rw [jbr_p hz]
      exact ⟨_, rfl, fin _ (by rw [if_neg (by omega)])⟩
    · rw [jbr_n hz]
      exact ⟨_, rfl, fin _ (by rw [if_pos (by omega)]; rfl)⟩
  obtain ⟨m', l1, l2⟩ := last
  refine ⟨m', Eq.trans a1 ?_, l2⟩
  show evj _ _ _ _ _ = _
  rw [e_Text_readNumber_5, hx1.2.1, a2, a3]
  by_cases hz : l ≤ nen T l q
  · rw [jbr_p (by rw [kI_le (by omega) (by omega)]; exact hz)]
    exact l1
  · obtain ⟨y1, y2⟩ := hx1.2.2 (nen T l q) (by omega)
    rw [bk_le (by omega) (by omega), jbr_n hz, inB_nI (by omega) (by omega), jgd_t, ixn (by omega), y2, c_isf y1, bI_some, s3 (by omega), bf_p rfl, a2, a3]
    exact l1
/-- a token: what it is, where it begins, where it ends -/
def tkn (T : Nat → Nat) (l q : Nat) : Nat := if q = l then 0 else if isl (T q) = true then (if wno T q (wen T l q) 6 < 6 then 1 else 4) else if isf (T q) = true then (if nen T l q - q ≤ 2 then 2 else 4) else if T q = 59 then 3 else 4
def tke (T : Nat → Nat) (l q : Nat) : Nat := if q = l then q else if isl (T q) = true then wen T l q else if isf (T q) = true then nen T l q else q + 1
def tkv (T : Nat → Nat) (l q : Nat) : Nat := if isl (T q) = true then wno T q (wen T l q) 6 else nvl T q (nen T l q)
theorem c_tok {m : jm} {T : Nat → Nat} {l p : Nat} (hx : TX m T l) (h2 : gI m 46 2 = nI p) (hp : p ≤ l) : ∃ m', cj 85 [jR 7 46] m = some (none, m') ∧ gI m' 46 2 = nI (tke T l (skp T l p)) ∧ gI m' 46 4 = nI (skp T l p) ∧ gI m' 46 3 = nI (tkn T l (skp T l p)) ∧ (tkn T l (skp T l p) = 1 ∨ tkn T l (skp T l p) = 2 → gI m' 46 5 = nI (tkv T l (skp T l p))) ∧ fT m m' := by
  obtain ⟨s1, s2, s3, s4⟩ := skp_p (T := T) (l := l) (p := p) hp
  have hl := hx.1
  have start : cj 85 [jR 7 46] m = evj 85 0 [jR 7 46] [] m := (e_Text_readToken m).trans (e_Text_readToken_0 m).symm
  rw [start]
  obtain ⟨m1, a1, -, a2, a4⟩ := lp_r (W := fun u (m' : jm) => evj 85 0 [jR 7 46] [] m') (n := skp T l p) (fun u m' => p ≤ u ∧ gI m' 46 2 = nI u ∧ fT m m') (fun u m' hu hI => by
    obtain ⟨hpu, i1, i3⟩ := hI
    show ∃ a', evj _ _ _ _ _ = evj _ _ _ _ _ ∧ _
    have hx1 := TX_f i3 hx
    obtain ⟨y1, y2⟩ := hx1.2.2 u (by omega)
    have hb : T u = 32 := of_decide_eq_true (s4 u hpu hu)
    rw [e_Text_readToken_0, hx1.2.1, i1, bk_le (by omega) (by omega), jbr_n (by omega), inB_nI (by omega) (by omega), jgd_t, ixn (by omega), y2, jbr_m ((sbt_32 y1).mpr hb), li1, nI_add]
    exact ⟨_, rfl, by omega, by rw [gI_eq], fT_t i3 (fT_s m' (by omega) (by omega))⟩) (skp T l p - p) p m (by omega) ⟨Nat.le_refl p, h2, fT_r m⟩
  have hx1 := TX_f a4 hx
  have mid : evj 85 0 [jR 7 46] [] m1 = evj 85 38 [jR 7 46] [] m1 := by
    rw [e_Text_readToken_0, hx1.2.1, a2]
    by_cases hz : l ≤ skp T l p
    · rw [jbr_p (by rw [kI_le (by omega) (by omega)]; exact hz)]
    · obtain ⟨y1, y2⟩ := hx1.2.2 (skp T l p) (by omega)
      have hb : ¬ T (skp T l p) = 32 := of_decide_eq_false (s3 (by omega))
      rw [bk_le (by omega) (by omega), jbr_n hz, inB_nI (by omega) (by omega), jgd_t, ixn (by omega), y2, jbr_q (fun z => hb ((sbt_32 y1).mp z))]
  have f1 : fT m (sI m1 46 4 (nI (skp T l p))) := fT_t a4 (fT_s m1 (by omega) (by omega))
  have hx2 := TX_f f1 hx
  have e2 : gI (sI m1 46 4 (nI (skp T l p))) 46 2 = nI (skp T l p) := by rw [gI_ne _ (by omega)]; exact a2
  have e4 : gI (sI m1 46 4 (nI (skp T l p))) 46 4 = nI (skp T l p) := gI_eq _ _ _ _
  rw [show evj 85 0 [jR 7 46] [] m = evj 85 38 [jR 7 46] [] m1 from Eq.trans a1 mid, e_Text_readToken_38, a2, e2, hx2.2.1]
  generalize hq : skp T l p = q at *
  by_cases hz : q = l
  · have t1 : tkn T l q = 0 := if_pos hz
    have t2 : tke T l q = q := if_pos hz
    rw [bk_lt (by omega) (by omega), jbr_n (by omega), t1, t2]
    exact ⟨_, rfl, by rw [gI_ne _ (by omega)]; exact e2, by rw [gI_ne _ (by omega)]; exact e4, by rw [gI_eq]; rfl, fun z => absurd z (by omega), fT_t f1 (fT_s _ (by omega) (by omega))⟩
  · obtain ⟨y1, y2⟩ := hx2.2.2 q (by omega)
    rw [bk_lt (by omega) (by omega), jbr_p (by omega), inB_nI (by omega) (by omega), jgd_t, ixn (by omega), y2, c_isl y1, bI_some]
    cases hL : isl (T q)
    · rw [bf_p rfl, e2, inB_nI (by omega) (by omega), jgd_t, ixn (by omega), y2, c_isf y1, bI_some]
      cases hF : isf (T q)
      · rw [bf_p rfl, e2, inB_nI (by omega) (by omega), jgd_t, ixn (by omega), y2]
        have t2 : tke T l q = q + 1 := by unfold tke; rw [if_neg hz, hL, if_neg (by decide), hF, if_neg (by decide)]
        have t1 : tkn T l q = if T q = 59 then 3 else 4 := by unfold tkn; rw [if_neg hz, hL, if_neg (by decide), hF, if_neg (by decide)]
        rw [t1, t2]
        by_cases h59 : T q = 59
        · rw [jbr_m ((sbt_59 y1).mpr h59), if_pos h59, gI_ne _ (by omega), e2, li1, nI_add]
          exact ⟨_, rfl, by rw [gI_eq], by rw [gI_ne _ (by omega), gI_ne _ (by omega)]; exact e4, by rw [gI_ne _ (by omega), gI_eq]; rfl, fun z => absurd z (by omega), fT_t f1 (fT_t (fT_s _ (by omega) (by omega)) (fT_s _ (by omega) (by omega)))⟩
        · rw [jbr_q (fun z => h59 ((sbt_59 y1).mp z)), if_neg h59, gI_ne _ (by omega), e2, li1, nI_add]
          exact ⟨_, rfl, by rw [gI_eq], by rw [gI_ne _ (by omega), gI_ne _ (by omega)]; exact e4, by rw [gI_ne _ (by omega), gI_eq]; rfl, fun z => absurd z (by omega), fT_t f1 (fT_t (fT_s _ (by omega) (by omega)) (fT_s _ (by omega) (by omega)))⟩
      · obtain ⟨m3, n1, n2, n3, n4, n5, n6⟩ := c_numb hx2 e2 e4 (show q < l by omega)
        have t2 : tke T l q = nen T l q := by unfold tke; rw [if_neg hz, hL, if_neg (by decide), hF, if_pos rfl]
        have t1 : tkn T l q = if nen T l q - q ≤ 2 then 2 else 4 := by unfold tkn; rw [if_neg hz, hL, if_neg (by decide), hF, if_pos rfl]
        have t3 : tkv T l q = nvl T q (nen T l q) := by unfold tkv; rw [hL, if_neg (by decide)]
        rw [bf_n rfl, n1, bV_some, t1, t2, t3]
        refine ⟨m3, rfl, n2, n3, ?_, fun _ => n5, fT_t f1 n6⟩
        rw [n4]
        split <;> rfl
    · obtain ⟨m3, n1, n2, n3, n4, n5, n6⟩ := c_word hx2 e2 e4 (show q < l by omega)
      have t2 : tke T l q = wen T l q := by unfold tke; rw [if_neg hz, hL, if_pos rfl]
      have t1 : tkn T l q = if wno T q (wen T l q) 6 < 6 then 1 else 4 := by unfold tkn; rw [if_neg hz, hL, if_pos rfl]
      have t3 : tkv T l q = wno T q (wen T l q) 6 := by unfold tkv; rw [hL, if_pos rfl]
      rw [bf_n rfl, n1, bV_some, t1, t2, t3]
      refine ⟨m3, rfl, n2, n3, ?_, fun z => n5 ?_, fT_t f1 n6⟩
      · rw [n4]
        split <;> rfl
      · by_cases hw6 : wno T q (wen T l q) 6 < 6
        · exact hw6
        · rw [if_neg hw6] at z
          omega
