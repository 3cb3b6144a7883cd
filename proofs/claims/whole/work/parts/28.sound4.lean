/-! the rest of the instructions: copies, constants outside the cells, calls, ends -/
section SND4
variable {p : Program} {l : Launch} {e : Env} {R : Room} {s : State} {m : MethodId} {args : Array Value} {below : List Frame} {meth : Method} {c : Code} {cells slots : Nat} {Q : State → Prop} {ε : jenv} {A : Nat → Prop} {mx : Nat} {own : String} {b : ByteArray}
theorem jws_eq (hF : eF ε = .null ∨ ∃ a, eF ε = .ref a) (r : List jv) : ((r.map (jtr ε)).map fun v => v.category).sum = jws r := by
  induction r with
  | nil => rfl
  | cons a r ih =>
    show (jtr ε a).category + ((r.map (jtr ε)).map fun v => v.category).sum = jwd a + jws r
    rw [ih, jcat hF]
theorem k_cpy {pc i t0 k0 t1 k1 : Nat} {ls r : List jv} {n dp sp : Int32} {μ : jm} (C : jctx p s m args c ε A own b mx) (hw : Cond.methodLink own i arraycopyName ∈ ws0) (hR : 1 ≤ R.frames ∧ 26 ≤ R.locals) (ht0 : t0 / 1000 = 1) (ht1 : t1 / 1000 = 1) (hr : jws r ≤ 8) (hg : jcg sp dp n (t0 - 1000) (t1 - 1000) = true) (hd : decode b pc = .ok (.invokestatic i, 3)) (k : KW p l e R s m args below meth c cells slots Q ε A mx (pc + 3) ls r (cpI μ k0 (ix sp) k1 (ix dp) (ix n))) : KW p l e R s m args below meth c cells slots Q ε A mx pc ls (.inl n :: .inl dp :: .inr (.inr (.inl (t1, k1))) :: .inl sp :: .inr (.inr (.inl (t0, k0))) :: r) μ := fun arr H locs hl hs hi => by
  obtain ⟨a1, a2, a3, a4, a5⟩ := jdiv ht0 (by omega)
  obtain ⟨b1, b2, b3, b4, b5⟩ := jdiv ht1 (by omega)
  obtain ⟨hk0, hsh0, htr0⟩ := jrk_cell (ok_h (ok_t (ok_t (ok_t (ok_t hs))))) a1 a2 a3 a4 a5
  obtain ⟨hk1, hsh1, htr1⟩ := jrk_cell (ok_h (ok_t (ok_t hs))) b1 b2 b3 b4 b5
  have hF := C.2.2.2.2.2.1.2.2.1
  rw [jcg, decide_eq_true_iff] at hg
  obtain ⟨g1, g2, g3, g4, g5⟩ := hg
  have nn : ∀ x : Int32, 0 ≤ x.toInt → ¬ x < 0 := fun x h z => by
    rw [Int32.lt_iff_toInt_lt, Int32.toInt_zero] at z
    omega
  obtain ⟨u0, hu0⟩ := jty_n (ε := ε) (ty := .int) hk0 hsh0 ht0 rfl (by omega)
  obtain ⟨u1, hu1⟩ := jty_n (ε := ε) (ty := .int) hk1 hsh1 ht1 rfl (by omega)
  have hnf : nativeFrameWords "java/lang/System" "arraycopy" 5 = 7 := by decide +kernel
  show W p l e R s m args below meth c H locs cells slots Q (F0 m pc arr (.int n :: .int dp :: jtr ε (.inr (.inr (.inl (t1, k1)))) :: .int sp :: jtr ε (.inr (.inr (.inl (t0, k0)))) :: r.map (jtr ε)))
  rw [htr0, htr1]
  refine va_copyi (D := eD ε) (A := A) (ty := .int) C.1 C.2.1 (by rw [C.2.2.1, hl.1]) C.2.2.2.1 (C.2.2.2.2.1 _ hw) (C.2.2.2.2.1 _ wcpy.1) (C.2.2.2.2.1 _ wcpy.2.1) (C.2.2.2.2.1 _ wcpy.2.2) C.2.2.2.2.2.1.2.2.2.2.2.2.2.2.1 hi.1 hi.2.1 hi.2.2.1 k0 k1 u0 u1 (by rw [jpic_at ε μ hk0, hsh0, jce_1 ht0]) (by rw [jpic_at ε μ hk1, hsh1, jce_1 ht1]) hu0 hu1 rfl (nn sp g1) (nn dp g2) (nn n g3) g4 g5 (fun _ _ => rfl) hR.1 (by rw [jws_eq hF, hnf]; omega) hd (fun H1 locs1 hP hD hS => ?_)
  have e2 : jce ε (cpI μ k0 (ix sp) k1 (ix dp) (ix n)) k1 (shl.getD k1 0) = .inl (eT ε k1, t1 - 1000, .inl (va_cpy (μ.1 k0) (μ.1 k1) (ix sp) (ix dp) (ix n))) := by
    rw [hsh1, jce_1 ht1]
    have : (cpI μ k0 (ix sp) k1 (ix dp) (ix n)).1 k1 = va_cpy (μ.1 k0) (μ.1 k1) (ix sp) (ix dp) (ix n) := by
      funext j
      show (if k1 = k1 then va_cpy (μ.1 k0) (μ.1 k1) (ix sp) (ix dp) (ix n) j else μ.1 k1 j) = _
      rw [if_pos rfl]
    rw [this]
  have e3 := jpic_set ε μ (cpI μ k0 (ix sp) k1 (ix dp) (ix n)) hk1 (fun a b h => by
    show (if a = k1 then va_cpy (μ.1 k0) (μ.1 k1) (ix sp) (ix dp) (ix n) b else μ.1 a b) = μ.1 a b
    rw [if_neg h]) (fun _ _ _ => rfl)
  rw [e2] at e3
  refine k arr H1 locs1 hl (ok_t (ok_t (ok_t (ok_t (ok_t hs))))) ⟨e3 ▸ hP, jpic_D hi.2.1, hS, fun j hj => ?_⟩
  show (if 99 = k1 then va_cpy (μ.1 k0) (μ.1 k1) (ix sp) (ix dp) (ix n) j else μ.1 99 j) = _
  rw [if_neg (by omega)]
  exact hi.2.2.2 j hj
theorem k_min {pc i : Nat} {ls r : List jv} {x y : Int32} {μ : jm} (C : jctx p s m args c ε A own b mx) (hw : Cond.methodLink own i Lib.Math.min.name ∈ ws0) (hR : 1 ≤ R.frames ∧ 26 ≤ R.locals) (hcs : cells ≤ R.cells ∧ slots ≤ R.slots) (hr : jws r ≤ 8) (hd : decode b pc = .ok (.invokestatic i, 3)) (k : KW p l e R s m args below meth c cells slots Q ε A mx (pc + 3) ls (.inl (if y < x then y else x) :: r) μ) : KW p l e R s m args below meth c cells slots Q ε A mx pc ls (.inl y :: .inl x :: r) μ := fun arr H locs hl hs hi => by
  have hF := C.2.2.2.2.2.1.2.2.1
  exact va_mmin C.1 C.2.1 (by rw [C.2.2.1, hl.1]) C.2.2.2.1 (C.2.2.2.2.1 _ hw) (C.2.2.2.2.1 _ wmin.2.1) (C.2.2.2.2.1 _ wmin.2.2.1) (C.2.2.2.2.1 _ wmin.2.2.2) hR.1 (by rw [jws_eq hF]; omega) hcs.1 hcs.2 hd (k arr H locs hl (ok_c trivial (ok_t (ok_t hs))) hi)
/-! the words, the numbers, the script -/
theorem k_wval {pc i k0 : Nat} {ls r : List jv} {μ : jm} (C : jctx p s m args c ε A own b mx) (hw : Cond.fieldLink own i "java/lang/String" "value" "[B" ∈ ws0) (hd : decode b pc = .ok (.getfield i, 3)) (k : KW p l e R s m args below meth c cells slots Q ε A mx (pc + 3) ls (.inr (.inr (.inl (95, k0))) :: r) μ) : KW p l e R s m args below meth c cells slots Q ε A mx pc ls (.inr (.inr (.inl (98, k0))) :: r) μ := fun arr H locs hl hs hi => by
  have hk : k0 < 6 := by
    rcases ok_h hs with h | ⟨h, h'⟩ | ⟨h, -⟩ | h | ⟨-, h'⟩ | ⟨h1, h2⟩
    · omega
    · exact h'
    · omega
    · omega
    · exact h'
    · have : ∀ k, k < 78 → shl.getD k 0 ≠ 98 := by decide +kernel
      exact absurd h2 (this k0 h1)
  have K := k arr H locs hl (ok_c (show jrk ε 95 k0 from Or.inr (Or.inl ⟨rfl, hk⟩)) (ok_t hs)) hi
  exact vk_getf C.1 C.2.1 ((C.2.2.2.2.2.1.2.2.2.2.2.2.1.1 k0 hk).2.2.1) hi.2.2.1 C.2.2.2.1 (C.2.2.2.2.1 _ hw) (fun _ h => h) hd K
theorem k_wcod {pc i k0 : Nat} {ls r : List jv} {μ : jm} (C : jctx p s m args c ε A own b mx) (hw : Cond.fieldLink own i "java/lang/String" "coder" "B" ∈ ws0) (hd : decode b pc = .ok (.getfield i, 3)) (k : KW p l e R s m args below meth c cells slots Q ε A mx (pc + 3) ls (.inl 0 :: r) μ) : KW p l e R s m args below meth c cells slots Q ε A mx pc ls (.inr (.inr (.inl (98, k0))) :: r) μ := fun arr H locs hl hs hi => by
  have hk : k0 < 6 := by
    rcases ok_h hs with h | ⟨h, h'⟩ | ⟨h, -⟩ | h | ⟨-, h'⟩ | ⟨h1, h2⟩
    · omega
    · exact h'
    · omega
    · omega
    · exact h'
    · have : ∀ k, k < 78 → shl.getD k 0 ≠ 98 := by decide +kernel
      exact absurd h2 (this k0 h1)
  have K := k arr H locs hl (ok_c trivial (ok_t hs)) hi
  exact vk_getf C.1 C.2.1 ((C.2.2.2.2.2.1.2.2.2.2.2.2.1.1 k0 hk).2.1) hi.2.2.1 C.2.2.2.1 (C.2.2.2.2.1 _ hw) (fun _ h => h) hd K
theorem j95 {k0 : Nat} (h : jrk ε 95 k0) : k0 < 6 := by
  rcases h with h | ⟨h, h'⟩ | ⟨h, -⟩ | h | ⟨h, h'⟩ | ⟨h1, h2⟩
  · omega
  · exact h'
  · omega
  · omega
  · omega
  · have : ∀ k, k < 78 → shl.getD k 0 ≠ 95 := by decide +kernel
    exact absurd h2 (this k0 h1)
theorem jwl_eq : ∀ k, k < 6 → (jwords.map List.length).getD k 0 = jwl k := by decide +kernel
theorem k_wbyt {pc k0 : Nat} {ls r : List jv} {x : Int32} {μ : jm} (C : jctx p s m args c ε A own b mx) (hin : inB x (jwl k0) = true) (hd : decode b pc = .ok (.baload, 1)) (k : KW p l e R s m args below meth c cells slots Q ε A mx (pc + 1) ls (.inl (jwb k0 (ix x)) :: r) μ) : KW p l e R s m args below meth c cells slots Q ε A mx pc ls (.inl x :: .inr (.inr (.inl (95, k0))) :: r) μ := fun arr H locs hl hs hi => by
  have hk := j95 (ok_h (ok_t hs))
  have K := k arr H locs hl (ok_c trivial (ok_t (ok_t hs))) hi
  exact va_tb C.1 C.2.1 ((C.2.2.2.2.2.1.2.2.2.2.2.2.1.1 k0 hk).2.2.2) hi.2.2.1 (by rw [jwl_eq k0 hk]; exact jin_iff.mp hin) rfl hd K
theorem k_wlen {pc k0 : Nat} {ls r : List jv} {μ : jm} (C : jctx p s m args c ε A own b mx) (hd : decode b pc = .ok (.arraylength, 1)) (k : KW p l e R s m args below meth c cells slots Q ε A mx (pc + 1) ls (.inl (nI (jwl k0)) :: r) μ) : KW p l e R s m args below meth c cells slots Q ε A mx pc ls (.inr (.inr (.inl (95, k0))) :: r) μ := fun arr H locs hl hs hi => by
  have hk := j95 (ok_h hs)
  have K := k arr H locs hl (ok_c trivial (ok_t hs)) hi
  exact va_tlen C.1 C.2.1 ((C.2.2.2.2.2.1.2.2.2.2.2.2.1.1 k0 hk).2.2.2) hi.2.2.1 (by rw [jwl_eq k0 hk]; rfl) hd K
theorem k_ldc {pc i k0 : Nat} {ls st : List jv} {μ : jm} (C : jctx p s m args c ε A own b mx) (hw : own = "OneNote$Text" ∧ i = jsx k0) (hk : k0 < 6) (hd : decode b pc = .ok (.ldc i, 2)) (k : KW p l e R s m args below meth c cells slots Q ε A mx (pc + 2) ls (.inr (.inr (.inl (98, k0))) :: st) μ) : KW p l e R s m args below meth c cells slots Q ε A mx pc ls st μ := fun arr H locs hl hs hi => by
  obtain ⟨rfl, rfl⟩ := hw
  have K := k arr H locs hl (ok_c (show jrk ε 98 k0 from Or.inr (Or.inr (Or.inr (Or.inr (Or.inl ⟨rfl, hk⟩))))) hs) hi
  exact va_ldcS C.1 C.2.1 C.2.2.2.1 (C.2.2.2.2.2.1.2.2.2.2.2.1 k0 hk) hd K
theorem k_gs0 {pc i : Nat} {ls st : List jv} {μ : jm} (C : jctx p s m args c ε A own b mx) (hw : Cond.fieldLink own i "java/lang/String" "COMPACT_STRINGS" "Z" ∈ ws0) (hd : decode b pc = .ok (.getstatic i, 3)) (k : KW p l e R s m args below meth c cells slots Q ε A mx (pc + 3) ls (.inl 1 :: st) μ) : KW p l e R s m args below meth c cells slots Q ε A mx pc ls st μ := fun arr H locs hl hs hi => by
  have K := k arr H locs hl (ok_c trivial hs) hi
  exact va_gets C.1 C.2.1 C.2.2.2.2.2.1.1 hi.2.2.1 C.2.2.2.1 (C.2.2.2.2.1 _ hw) (fun _ h => h) hd K
theorem k_gs1 {pc i : Nat} {ls st : List jv} {μ : jm} (C : jctx p s m args c ε A own b mx) (hw : Cond.fieldLink own i "jdk/internal/util/Preconditions" "SIOOBE_FORMATTER" "Ljava/util/function/BiFunction;" ∈ ws0) (hd : decode b pc = .ok (.getstatic i, 3)) (k : KW p l e R s m args below meth c cells slots Q ε A mx (pc + 3) ls (.inr (.inr (.inl (94, 0))) :: st) μ) : KW p l e R s m args below meth c cells slots Q ε A mx pc ls st μ := fun arr H locs hl hs hi => by
  have K := k arr H locs hl (ok_c (show jrk ε 94 0 from Or.inl rfl) hs) hi
  exact va_gets C.1 C.2.1 C.2.2.2.2.2.1.2.1 hi.2.2.1 C.2.2.2.1 (C.2.2.2.2.1 _ hw) (fun _ h => h) hd K
theorem k_gs2 {pc i : Nat} {ls st : List jv} {μ : jm} (C : jctx p s m args c ε A own b mx) (hw : Cond.fieldLink own i "OneNote$Text" "NUMBERS_OF" "[I" ∈ ws0) (hd : decode b pc = .ok (.getstatic i, 3)) (k : KW p l e R s m args below meth c cells slots Q ε A mx (pc + 3) ls (.inr (.inr (.inl (97, 0))) :: st) μ) : KW p l e R s m args below meth c cells slots Q ε A mx pc ls st μ := fun arr H locs hl hs hi => by
  have K := k arr H locs hl (ok_c (show jrk ε 97 0 from Or.inr (Or.inr (Or.inr (Or.inl rfl)))) hs) hi
  exact va_gets C.1 C.2.1 C.2.2.2.2.2.1.2.2.2.1 hi.2.2.1 C.2.2.2.1 (C.2.2.2.2.1 _ hw) (fun _ h => h) hd K
theorem k_num {pc k0 : Nat} {ls r : List jv} {x : Int32} {μ : jm} (C : jctx p s m args c ε A own b mx) (hin : inB x 6 = true) (hd : decode b pc = .ok (.iaload, 1)) (k : KW p l e R s m args below meth c cells slots Q ε A mx (pc + 1) ls (.inl (jnum (ix x)) :: r) μ) : KW p l e R s m args below meth c cells slots Q ε A mx pc ls (.inl x :: .inr (.inr (.inl (97, k0))) :: r) μ := fun arr H locs hl hs hi => by
  have K := k arr H locs hl (ok_c trivial (ok_t (ok_t hs))) hi
  exact va_ti C.1 C.2.1 C.2.2.2.2.2.1.2.2.2.2.1 hi.2.2.1 (jin_iff.mp hin) rfl hd K
theorem j96 {k0 : Nat} (h : jrk ε 96 k0) : k0 = eL ε := by
  rcases h with h | ⟨h, h'⟩ | ⟨h, h'⟩ | h | ⟨h, h'⟩ | ⟨h1, h2⟩
  · omega
  · omega
  · exact h'
  · omega
  · omega
  · have : ∀ k, k < 78 → shl.getD k 0 ≠ 96 := by decide +kernel
    exact absurd h2 (this k0 h1)
theorem k_scr {pc k0 : Nat} {ls r : List jv} {x : Int32} {μ : jm} (C : jctx p s m args c ε A own b mx) (hin : inB x k0 = true) (hd : decode b pc = .ok (.iaload, 1)) (k : KW p l e R s m args below meth c cells slots Q ε A mx (pc + 1) ls (.inl (gI μ 99 (ix x)) :: r) μ) : KW p l e R s m args below meth c cells slots Q ε A mx pc ls (.inl x :: .inr (.inr (.inl (96, k0))) :: r) μ := fun arr H locs hl hs hi => by
  have hk := j96 (ok_h (ok_t hs))
  have K := k arr H locs hl (ok_c trivial (ok_t (ok_t hs))) hi
  obtain ⟨hX, hb1, hb2⟩ := C.2.2.2.2.2.1.2.2.2.2.2.2.2.1
  have hv := jin_iff.mp hin
  rw [hk] at hv
  have e1 : eX ε x.toNatClampNeg = gI μ 99 (ix x) := by
    have hlt : ix x < eL ε := by
      have := hv
      rw [vp_in] at this
      exact Nat.lt_of_not_le (fun z => this (Or.inr z))
    exact (hi.2.2.2 (ix x) hlt).symm
  refine va_sld C.1 C.2.1 hX hb1 hb2 hi.2.2.1 hv hd ?_
  rw [e1]
  exact K
theorem k_slen {pc k0 : Nat} {ls r : List jv} {μ : jm} (C : jctx p s m args c ε A own b mx) (hd : decode b pc = .ok (.arraylength, 1)) (k : KW p l e R s m args below meth c cells slots Q ε A mx (pc + 1) ls (.inl (nI k0) :: r) μ) : KW p l e R s m args below meth c cells slots Q ε A mx pc ls (.inr (.inr (.inl (96, k0))) :: r) μ := fun arr H locs hl hs hi => by
  have hk := j96 (ok_h hs)
  subst hk
  have K := k arr H locs hl (ok_c trivial (ok_t hs)) hi
  obtain ⟨hX, hb1, hb2⟩ := C.2.2.2.2.2.1.2.2.2.2.2.2.2.1
  exact va_slen C.1 C.2.1 hX hb1 hb2 hi.2.2.1 hd K
/-! calls -/
theorem j_call {H : Heap} {locs : List Loc} {pc : Nat} {arr : Array Slot} {st0 rest : List Value} {v : Option Value} {B : State → Prop} {A0 A1 : Nat → Prop} {free : Addr → Prop} {H0 : Heap} (hr : va_Run p l e R s m args below meth c H locs cells slots 0 0 (F0 m pc arr st0) rest (fun st oc t => oc = .returned v ∧ B t ∧ va_F A1 st t) free) (hS : va_S A0 H0 H locs) (hA : ∀ q, q < H.size → A1 q → A0 q) (hf : ∀ q, free q → A0 q)
    (kk : ∀ (t : State) (H1 : Heap) (locs1 : List Loc), t.heap = H1 → B t → va_S A0 H0 H1 locs1 → W p l e R s m args below meth c H1 locs1 cells slots Q (F0 m (pc + 3) arr (v.toList ++ rest))) : W p l e R s m args below meth c H locs cells slots Q (F0 m pc arr st0) := by
  intro T hT X
  obtain ⟨v', st₀, t, T', L, h0, X', hL, e1, e2, ⟨hv, hb, hz, hk⟩, st⟩ := hr T hT X
  cases hv
  rw [h0] at hz hk
  obtain ⟨t2, a1, b1⟩ := kk t T'.heap (locs ++ L) e1.symm hb
    ⟨Nat.le_trans hS.1 (by rw [e1]; exact hz), fun q h1 h2 => by rw [e1, hk q (Nat.lt_of_lt_of_le h1 hS.1) (fun z => h2 (hA q (Nat.lt_of_lt_of_le h1 hS.1) z))]; exact hS.2.1 q h1 h2, fun q hq => by
      rcases List.mem_append.mp hq with h | h
      · exact hS.2.2 q h
      · exact hf _ (hL q h)⟩ T' rfl X'
  exact ⟨t2, st t2 a1, b1⟩
theorem ws0_good : ∀ w ∈ ws0, (w.onTables && w.keeps) = true ∨ ∃ ty, w = .arrayClass ty := fun w h => good_of_word (List.mem_filter.mp h).2
theorem jPc_blind (as : List jv) (μ : jm) (sz : Nat) : FrameBlind (jPc ε as μ sz) := fun a U g mk h => ⟨h.1, h.2.1, jsf_calling h.2.2.1, h.2.2.2.1, h.2.2.2.2.1, h.2.2.2.2.2⟩
theorem jfree {μ : jm} {H : Heap} {locs : List Loc} (hA : ∀ q, s.heap.size ≤ q → A q) (hi : jinv ε s A H locs μ) : ∀ q, va_A (jpic ε μ) H.size q → A q := fun q h => by
  rcases h with ⟨k, x, h⟩ | h
  · exact hi.2.1.2 k _ h
  · exact hA q (Nat.le_trans hi.2.2.1.1 h)
theorem jPc_at {as : List jv} {μ : jm} {H : Heap} {locs : List Loc} (C : jctx p s m args c ε A own b mx) (hi : jinv ε s A H locs μ) (U : State) (hU : U.heap = H) (hW : s.WarmedH U.vm) : jPc ε as μ H.size (as.map (jtr ε)).toArray U := by
  refine ⟨rfl, by rw [hU], jsf_to C.2.2.2.2.2.1 hi.2.2.1 hU hW (jfree C.2.2.2.2.2.2 hi), by rw [hU]; exact hi.1, hi.2.1.weaken (fun _ _ _ _ => trivial), hi.2.2.2⟩
theorem jcallB {j i n : Nat} (C : jctx p s m args c ε A own b mx) (hm : jmo j) (hl : (Cond.methodLink own i (yT j)).before args s = true) (hn : n = NT.getD j 0) (hR : FT.getD j 0 + 1 ≤ R.frames ∧ 8 + (mxT j + 11) + LT.getD j 0 ≤ R.locals) : CallB R s args own i (yT j) (bT j) (mxT j) (rT j) (wsT j) (rmT j) 0 0 n := by
  obtain ⟨m1, m2, m3, m4, m5, m6, m7⟩ := hm
  refine ⟨rfl, rfl, hR.1, hR.2, ?_, List.mem_cons_self, C.2.2.2.2.1 _ m1, C.2.2.2.2.1 _ m2, ⟨m3, m4⟩, fun sig h => ?_, hl⟩
  · refine pay_in (big := ws0) C.2.2.2.2.1 (fun w hw => ?_)
    rcases List.mem_cons.mp hw with e | e
    · rw [e]; exact ⟨m1, ws0_good _ m1⟩
    · exact ⟨e, ws0_good _ e⟩
  · rw [h] at m6
    rw [hn]
    exact (Option.some.inj m6).symm
theorem jcallN {j i n : Nat} {h : String} (C : jctx p s m args c ε A own b mx) (hm : jmo j) (hl : Cond.methodLinkNest own i (yT j) h ∈ nws) (hn : n = NT.getD j 0) (hR : FT.getD j 0 + 1 ≤ R.frames ∧ 8 + (mxT j + 11) + LT.getD j 0 ≤ R.locals) : va_CN R s args own i (yT j) h (bT j) (mxT j) (rT j) (wsT j) (rmT j) 0 0 n := by
  obtain ⟨m1, m2, m3, m4, m5, m6, m7⟩ := hm
  refine ⟨⟨rfl, rfl, hR.1, hR.2, ?_, List.mem_cons_self⟩, C.2.2.2.2.1 _ m1, C.2.2.2.2.1 _ m2, ⟨m3, m4⟩, fun sig h => ?_, va_Nw.use (jnw_on _ hl) (C.2.2.2.2.2.1.2.2.2.2.2.2.2.2.2 _ hl)⟩
  · refine pay_in (big := ws0) C.2.2.2.2.1 (fun w hw => ?_)
    rcases List.mem_cons.mp hw with e | e
    · rw [e]; exact ⟨m1, ws0_good _ m1⟩
    · exact ⟨e, ws0_good _ e⟩
  · rw [h] at m6
    rw [hn]
    exact (Option.some.inj m6).symm
/-- behind a call: the callee's world is the whole one -/
theorem j_behind {pc : Nat} {ls rest : List jv} {μ μ2 : jm} {v : Option jv} {arr : Array Slot} {H : Heap} {locs : List Loc} {st0 : List Value} {av : Array Value} (C : jctx p s m args c ε A own b mx) (hl : jlv ε arr mx ls) (hs : ∀ w ∈ rest, jok ε w) (hi : jinv ε s A H locs μ) (hr : va_Run p l e R s m args below meth c H locs cells slots 0 0 (F0 m pc arr st0) (rest.map (jtr ε)) (jQc ε μ H.size v μ2 av) (va_A (jpic ε μ) H.size)) (k : KW p l e R s m args below meth c cells slots Q ε A mx (pc + 3) ls (v.toList ++ rest) μ2) : W p l e R s m args below meth c H locs cells slots Q (F0 m pc arr st0) := by
  have hF := jfree C.2.2.2.2.2.2 hi
  refine j_call (v := v.map (jtr ε)) (B := fun t => va_P (eD ε) vwCl (jpic ε μ2) t.heap ∧ (∀ w, v = some w → jok ε w) ∧ jscr ε μ2) (A0 := A) (A1 := va_A (jpic ε μ) H.size) (H0 := s.heap) hr hi.2.2.1 (fun q _ h => hF q h) hF (fun t H1 locs1 ht hB hS => ?_)
  have K := k arr H1 locs1 hl (fun w hw => by
    rcases List.mem_append.mp hw with h | h
    · cases v with
      | none => cases h
      | some x => rw [List.mem_singleton.mp h]; exact hB.2.1 x rfl
    · exact hs w h) ⟨by rw [← ht]; exact hB.1, jpic_D hi.2.1, hS, hB.2.2⟩
  cases v with
  | none => exact K
  | some x => exact K
theorem k_callS {pc i j n : Nat} {ls st : List jv} {μ μ2 : jm} {v : Option jv} (C : jctx p s m args c ε A own b mx) (hm : jmo j) (hlk : Cond.methodLink own i (yT j) ∈ ws0 ∨ ∃ h, Cond.methodLinkNest own i (yT j) h ∈ nws) (hg : GT.getD j 0 = 200) (hn : n = NT.getD j 0) (hR : FT.getD j 0 + 1 ≤ R.frames ∧ 8 + (mxT j + 11) + LT.getD j 0 ≤ R.locals) (hcs : cells ≤ R.cells ∧ slots ≤ R.slots) (hw : jws (st.drop n) ≤ 8) (hln : n ≤ st.length) (hd : decode b pc = .ok (.invokestatic i, 3)) (hM : jCT l ε j (st.take n).reverse μ v μ2) (k : KW p l e R s m args below meth c cells slots Q ε A mx (pc + 3) ls (v.toList ++ st.drop n) μ2) : KW p l e R s m args below meth c cells slots Q ε A mx pc ls st μ := fun arr H locs hl hs hi => by
  have hF := C.2.2.2.2.2.1.2.2.1
  have hst : (Cond.static (yT j)).before args s = true := by
    rcases hm.2.2.2.2.2.2 with ⟨-, h⟩ | ⟨h, -⟩
    · exact C.2.2.2.2.1 _ h
    · exfalso
      rcases h with ⟨h, -⟩ | ⟨q, -, -, h⟩ <;> omega
  have hstk : (st.map (jtr ε)) = (((st.take n).reverse).map (jtr ε)).reverse ++ (st.drop n).map (jtr ε) := by
    rw [List.map_reverse, List.reverse_reverse, ← List.map_append, List.take_append_drop]
  have hlen : (((st.take n).reverse).map (jtr ε)).length = n := by simp; omega
  refine j_behind (av := (((st.take n).reverse).map (jtr ε)).toArray) C hl (fun w h => hs w (List.mem_of_mem_drop h)) hi ?_ k
  rcases hlk with h | ⟨h, hh⟩
  · exact va_runS ⟨C.1, C.2.1, C.2.2.1, C.2.2.2.1, C.2.2.2.2.1⟩ (hM H.size) ⟨jcallB C hm (C.2.2.2.2.1 _ h) hn hR, hst⟩ ⟨jPc_blind _ _ _, fun U hU hW => jPc_at C hi U hU hW⟩ rfl hlen hl.1 hstk (lv_room (by rw [jws_eq hF]; exact hw)) hd ⟨hcs.1, hcs.2⟩
  · exact va_runSN ⟨C.1, C.2.1, C.2.2.1, C.2.2.2.1, C.2.2.2.2.1⟩ (hM H.size) ⟨jcallN C hm hh hn hR, hst, trivial⟩ ⟨jPc_blind _ _ _, fun U hU hW => jPc_at C hi U hU hW⟩ rfl hlen hl.1 hstk (lv_room (by rw [jws_eq hF]; exact hw)) hd ⟨hcs.1, hcs.2⟩
theorem k_callV {pc i j n : Nat} {ls st as : List jv} {t k0 : Nat} {μ μ2 : jm} {v : Option jv} (C : jctx p s m args c ε A own b mx) (hm : jmo j) (hlk : Cond.methodLink own i (yT j) ∈ ws0) (hg : GT.getD j 0 ≠ 200) (htg : t = GT.getD j 0) (hn : n = NT.getD j 0 + 1) (hR : FT.getD j 0 + 1 ≤ R.frames ∧ 8 + (mxT j + 11) + LT.getD j 0 ≤ R.locals) (hcs : cells ≤ R.cells ∧ slots ≤ R.slots) (hw : jws (st.drop n) ≤ 8) (hln : n ≤ st.length) (has : (st.take n).reverse = .inr (.inr (.inl (t, k0))) :: as) (hd : decode b pc = .ok (.invokevirtual i, 3)) (hM : jCT l ε j (st.take n).reverse μ v μ2) (k : KW p l e R s m args below meth c cells slots Q ε A mx (pc + 3) ls (v.toList ++ st.drop n) μ2) : KW p l e R s m args below meth c cells slots Q ε A mx pc ls st μ := fun arr H locs hl hs hi => by
  have hM : jCT l ε j (.inr (.inr (.inl (t, k0))) :: as) μ v μ2 := has ▸ hM
  have hF := C.2.2.2.2.2.1.2.2.1
  have hok : jok ε (.inr (.inr (.inl (t, k0)))) := hs _ (List.mem_of_mem_take (i := n) (List.mem_reverse.mp (by rw [has]; exact List.mem_cons_self)))
  have hall : (Cond.instanceMethod (yT j)).before args s = true ∧ (Cond.selects (yT j).cls (yT j) (yT j)).before args s = true ∧ ((t = 98 ∧ (yT j).cls = "java/lang/String") ∨ ∃ q : vw_C, vwCl[t]? = some q ∧ q.1 = (yT j).cls ∧ t < 11) := by
    rcases hm.2.2.2.2.2.2 with ⟨h, -⟩ | ⟨h, h1, h2⟩
    · exact absurd h hg
    · refine ⟨C.2.2.2.2.1 _ h1, C.2.2.2.2.1 _ h2, ?_⟩
      rw [htg]
      exact h
  obtain ⟨hin, hsel, hcls⟩ := hall
  have hrecv : ∃ (b0 : Nat) (cellB : Cell), jtr ε (.inr (.inr (.inl (t, k0)))) = .ref b0 ∧ H[b0]? = some cellB ∧ cellB.vm.isStatics = false ∧ s.vm.findClass (yT j).cls = some cellB.cls := by
    rcases hcls with ⟨rfl, hc⟩ | ⟨q, hq1, hq2, hq3⟩
    · have hk : k0 < 6 := by
        rcases hok with h | ⟨h, h'⟩ | ⟨h, -⟩ | h | ⟨-, h'⟩ | ⟨h1, h2⟩
        · omega
        · exact h'
        · omega
        · omega
        · exact h'
        · have : ∀ k, k < 78 → shl.getD k 0 ≠ 98 := by decide +kernel
          exact absurd h2 (this k0 h1)
      obtain ⟨cell, e1, e2, e3⟩ := vk_recv C.2.2.2.2.2.1.2.2.2.2.2.2.1 hk hi.2.2.1
      exact ⟨eO ε k0, cell, rfl, e1, e2, by rw [hc]; exact e3⟩
    · obtain ⟨hk, hsh, htr⟩ := jrk_cell hok (by omega) (by omega) (by omega) (by omega) (by omega)
      obtain ⟨cell, e1, e2, e3⟩ := va_recv (D := eD ε) (ci := t) (q0 := k0) (a := eA ε k0) (fs := jfs ε μ k0 0 (fdl t)) C.2.2.2.2.2.1.2.2.2.2.2.2.2.2.1 hi.1 hq1 (by rw [jpic_at ε μ hk, hsh, jce_0 (by omega)])
      exact ⟨eA ε k0, cell, htr, e1, e2, by rw [← hq2]; exact e3⟩
  obtain ⟨b0, cellB, r1, r2, r3, r4⟩ := hrecv
  have hstk : (st.map (jtr ε)) = ((as.map (jtr ε)).reverse) ++ .ref b0 :: (st.drop n).map (jtr ε) := by
    have h0 : (((st.take n).reverse).map (jtr ε)).reverse ++ (st.drop n).map (jtr ε) = st.map (jtr ε) := by
      rw [List.map_reverse, List.reverse_reverse, ← List.map_append, List.take_append_drop]
    rw [← h0, has, List.map_cons, List.reverse_cons, r1, List.append_assoc]
    rfl
  have hlen : (as.map (jtr ε)).length = NT.getD j 0 := by
    have h0 : ((st.take n).reverse).length = n := by rw [List.length_reverse, List.length_take]; omega
    rw [has] at h0
    have h1 : as.length + 1 = n := h0
    rw [List.length_map]
    omega
  refine j_behind (av := (Value.ref b0 :: as.map (jtr ε)).toArray) C hl (fun w h => hs w (List.mem_of_mem_drop h)) hi ?_ k
  have hpc : ∀ U : State, U.heap = H → s.WarmedH U.vm → jPc ε (.inr (.inr (.inl (t, k0))) :: as) μ H.size (Value.ref b0 :: as.map (jtr ε)).toArray U := fun U hU hW => by
    have := jPc_at (as := .inr (.inr (.inl (t, k0))) :: as) C hi U hU hW
    rw [List.map_cons, r1] at this
    exact this
  exact va_runV (C := (yT j).cls) ⟨C.1, C.2.1, C.2.2.1, C.2.2.2.1, C.2.2.2.2.1⟩ (hM H.size) ⟨jcallB C hm (C.2.2.2.2.1 _ hlk) rfl hR, hin, hsel⟩ ⟨jPc_blind _ _ _, ⟨cellB, r2, r3, r4⟩, hpc⟩ rfl hlen hl.1 hstk (lv_room (by rw [jws_eq hF]; exact hw)) hd ⟨hcs.1, hcs.2⟩
end SND4
