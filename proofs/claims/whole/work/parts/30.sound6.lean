/-! ONE INSTRUCTION, by program: a row an instruction -/
section SND6
variable {p : Program} {l : Launch} {e : Env} {R : Room} {s : State} {m : MethodId} {args : Array Value} {below : List Frame} {meth : Method} {c : Code} {cells slots : Nat} {Q : State → Prop} {ε : jenv} {A : Nat → Prop} {mx : Nat} {own : String} {b : ByteArray}
theorem jchar (x : Int32) : (x.toUInt32 % 65536).toInt32 = x.toUInt32.toUInt16.toUInt32.toInt32 := by
  congr 1
theorem jtr_ref {x : Nat × Nat} (hF : eF ε = .null ∨ ∃ a, eF ε = .ref a) : jtr ε (.inr (.inr (.inl x))) = .null ∨ ∃ a, jtr ε (.inr (.inr (.inl x))) = .ref a := by
  obtain ⟨t, k0⟩ := x
  rw [jtr]
  split
  · exact hF
  · right
    split
    · exact ⟨_, rfl⟩
    · split
      · exact ⟨_, rfl⟩
      · split
        · exact ⟨_, rfl⟩
        · split <;> exact ⟨_, rfl⟩
def NJ : Nat := 218
theorem hnv0 : ∀ j, j < NJ → yT j = ⟨"OneNote", "isRoom", "(I)Z"⟩ → GT.getD j 0 = 200 := by decide +kernel
theorem hnv (i j : Nat) (h : String) (hj : j < NJ) (hh : Cond.methodLinkNest own i (yT j) h ∈ nws) : GT.getD j 0 = 200 := by
  simp only [nws, List.mem_cons, List.not_mem_nil, or_false, false_or, reduceCtorEq, Cond.methodLinkNest.injEq] at hh
  exact hnv0 j hj hh.2.2.1
set_option maxHeartbeats 4000000 in
/-- what follows the action gives what stands ahead of it -/
theorem jone {rt : Option FieldType} {fr lo : Nat} (C : jctx p s m args c ε A own b mx) (hmo : ∀ j, j < NJ → jmo j) (hR : fr ≤ R.frames ∧ lo ≤ R.locals) (hcs : cells ≤ R.cells ∧ slots ≤ R.slots) {q : je} (hck : jck b mx rt fr lo q = true) (hwo : jwo own q) {ls st : List jv} {μ : jm} {a : ja} (ha : jact q ls st μ = some a)
    (hK : jKA (KW p l e R s m args below meth c cells slots Q ε A mx) (fun j as rk ls st μ => (jex as).length ≤ mxT j → j < NJ → (∀ w ∈ as, jok ε w) → ∃ v μ2, jCT l ε j as μ v μ2 ∧ KW p l e R s m args below meth c cells slots Q ε A mx (q.1 + jkn q) ls (v.toList ++ st) μ2) (fun r => ∀ (arr : Array Slot) (H : Heap) (locs : List Loc) (pc : Nat) (i : Instr) (st' : List Value), decode b pc = .ok (i, 1) → jrt i rt st' (r.1.map (jtr ε)) → (∀ w, r.1 = some w → jok ε w) → jinv ε s A H locs r.2 → W p l e R s m args below meth c H locs cells slots Q (F0 m pc arr st')) (q.1 + jkn q) a) : KW p l e R s m args below meth c cells slots Q ε A mx q.1 ls st μ := by
  obtain ⟨pc, mk, i, ns, v, w, sw⟩ := q
  rw [jck, Bool.and_eq_true, Bool.and_eq_true] at hck
  obtain ⟨hd0, hln, h2⟩ := hck
  have hd0 : decode b pc = .ok (i, jkn (pc, mk, i, ns, v, w, sw)) := of_decide_eq_true hd0
  by_cases hT : jisT i = true
  · cases i with
    | tableswitch d0 lo hi o =>
      obtain ⟨x, r, rfl, rfl⟩ := ja_table ha
      obtain ⟨q1, q2, q3, q4, q5, q6⟩ := of_decide_eq_true h2
      exact k_table C hd0 q1 q2 q3 q4 q5 (fun z hz => of_decide_eq_true (List.all_eq_true.mp q6 z hz)) hK
    | _ => cases hT
  have hln : jkn (pc, mk, i, ns, v, w, sw) = jln i := by
    rw [Bool.or_eq_true] at hln
    rcases hln with h | h
    · exact absurd h hT
    · exact of_decide_eq_true h
  have hd := hd0
  rw [hln] at hd hK
  clear hln hd0
  cases i with
  | iconst n =>
    obtain rfl : Sum.inl (none, ls, .inl v :: st, μ) = a := Option.some.inj ha
    exact fun arr H locs hl hs hi => lv_iconst C.1 C.2.1 hd (of_decide_eq_true h2) (hK arr H locs hl (ok_c trivial hs) hi)
  | bipush n =>
    obtain rfl : Sum.inl (none, ls, .inl v :: st, μ) = a := Option.some.inj ha
    exact fun arr H locs hl hs hi => lv_bipush C.1 C.2.1 hd (of_decide_eq_true h2) (hK arr H locs hl (ok_c trivial hs) hi)
  | sipush n =>
    obtain rfl : Sum.inl (none, ls, .inl v :: st, μ) = a := Option.some.inj ha
    exact fun arr H locs hl hs hi => lv_sipush C.1 C.2.1 hd (of_decide_eq_true h2) (hK arr H locs hl (ok_c trivial hs) hi)
  | ldc_w n =>
    obtain rfl : Sum.inl (none, ls, .inl v :: st, μ) = a := Option.some.inj ha
    exact fun arr H locs hl hs hi => lv_ldcw C.1 C.2.1 C.2.2.2.1 (C.2.2.2.2.1 _ hwo) hd (hK arr H locs hl (ok_c trivial hs) hi)
  | ldc n =>
    obtain rfl : Sum.inl (none, ls, .inr (.inr (.inl (98, jtg ns))) :: st, μ) = a := Option.some.inj ha
    exact k_ldc C hwo (of_decide_eq_true h2) hd hK
  | lconst n =>
    obtain rfl : Sum.inl (none, ls, .inr (.inl w) :: st, μ) = a := Option.some.inj ha
    exact fun arr H locs hl hs hi => lv_lconst C.1 C.2.1 hd (of_decide_eq_true h2) (hK arr H locs hl (ok_c trivial hs) hi)
  | ldc2_w n =>
    obtain rfl : Sum.inl (none, ls, .inr (.inl w) :: st, μ) = a := Option.some.inj ha
    exact fun arr H locs hl hs hi => lv_ldc2 C.1 C.2.1 C.2.2.2.1 (C.2.2.2.2.1 _ hwo) hd (hK arr H locs hl (ok_c trivial hs) hi)
  | iload i =>
    obtain ⟨x, hx, rfl⟩ := jld_0 ha
    exact fun arr H locs hl hs hi => lv_iload C.1 C.2.1 hd (k_lget hl hx (by intro z; cases z)).2 (hK arr H locs hl (ok_c trivial hs) hi)
  | iload_n i =>
    obtain ⟨x, hx, rfl⟩ := jld_0 ha
    exact fun arr H locs hl hs hi => lv_iload_n C.1 C.2.1 hd rfl (k_lget hl hx (by intro z; cases z)).2 (hK arr H locs hl (ok_c trivial hs) hi)
  | lload i =>
    obtain ⟨x, hx, rfl⟩ := jld_1 ha
    exact fun arr H locs hl hs hi => lv_lload C.1 C.2.1 hd (k_lget hl hx (by intro z; cases z)).2 (hK arr H locs hl (ok_c trivial hs) hi)
  | lload_n i =>
    obtain ⟨x, hx, rfl⟩ := jld_1 ha
    exact fun arr H locs hl hs hi => lv_lload_n C.1 C.2.1 hd rfl (k_lget hl hx (by intro z; cases z)).2 (hK arr H locs hl (ok_c trivial hs) hi)
  | aload i =>
    obtain ⟨x, hx, rfl⟩ := jld_2 ha
    refine fun arr H locs hl hs hi => ?_
    obtain ⟨g1, g2⟩ := k_lget hl hx (by intro z; cases z)
    have K := hK arr H locs hl (ok_c g1 hs) hi
    obtain ⟨t, k0⟩ := x
    by_cases h94 : t = 94
    · subst h94
      rcases C.2.2.2.2.2.1.2.2.1 with hN | ⟨a0, hN⟩
      · have e1 : jtr ε (.inr (.inr (.inl (94, k0)))) = .null := hN
        rw [e1] at g2
        have K : W p l e R s m args below meth c H locs cells slots Q (F0 m (pc + jln (.aload i)) arr (jtr ε (.inr (.inr (.inl (94, k0)))) :: st.map (jtr ε))) := K
        rw [e1] at K
        exact lv_aloadN C.1 C.2.1 hd g2 K
      · have e1 : jtr ε (.inr (.inr (.inl (94, k0)))) = .ref a0 := hN
        rw [e1] at g2
        have K : W p l e R s m args below meth c H locs cells slots Q (F0 m (pc + jln (.aload i)) arr (jtr ε (.inr (.inr (.inl (94, k0)))) :: st.map (jtr ε))) := K
        rw [e1] at K
        exact lv_aload C.1 C.2.1 hd g2 K
    · obtain ⟨a0, e1⟩ : ∃ a0, jtr ε (.inr (.inr (.inl (t, k0)))) = .ref a0 := by
        rw [jtr, if_neg h94]
        split
        · exact ⟨_, rfl⟩
        · split
          · exact ⟨_, rfl⟩
          · split
            · exact ⟨_, rfl⟩
            · split <;> exact ⟨_, rfl⟩
      rw [e1] at g2
      have K : W p l e R s m args below meth c H locs cells slots Q (F0 m (pc + jln (.aload i)) arr (jtr ε (.inr (.inr (.inl (t, k0)))) :: st.map (jtr ε))) := K
      rw [e1] at K
      exact lv_aload C.1 C.2.1 hd g2 K
  | aload_n i =>
    obtain ⟨x, hx, rfl⟩ := jld_2 ha
    refine fun arr H locs hl hs hi => ?_
    obtain ⟨g1, g2⟩ := k_lget hl hx (by intro z; cases z)
    have K := hK arr H locs hl (ok_c g1 hs) hi
    obtain ⟨t, k0⟩ := x
    by_cases h94 : t = 94
    · subst h94
      rcases C.2.2.2.2.2.1.2.2.1 with hN | ⟨a0, hN⟩
      · have e1 : jtr ε (.inr (.inr (.inl (94, k0)))) = .null := hN
        rw [e1] at g2
        have K : W p l e R s m args below meth c H locs cells slots Q (F0 m (pc + jln (.aload_n i)) arr (jtr ε (.inr (.inr (.inl (94, k0)))) :: st.map (jtr ε))) := K
        rw [e1] at K
        exact lv_aload_nN C.1 C.2.1 hd rfl g2 K
      · have e1 : jtr ε (.inr (.inr (.inl (94, k0)))) = .ref a0 := hN
        rw [e1] at g2
        have K : W p l e R s m args below meth c H locs cells slots Q (F0 m (pc + jln (.aload_n i)) arr (jtr ε (.inr (.inr (.inl (94, k0)))) :: st.map (jtr ε))) := K
        rw [e1] at K
        exact lv_aload_n C.1 C.2.1 hd rfl g2 K
    · obtain ⟨a0, e1⟩ : ∃ a0, jtr ε (.inr (.inr (.inl (t, k0)))) = .ref a0 := by
        rw [jtr, if_neg h94]
        split
        · exact ⟨_, rfl⟩
        · split
          · exact ⟨_, rfl⟩
          · split
            · exact ⟨_, rfl⟩
            · split <;> exact ⟨_, rfl⟩
      rw [e1] at g2
      have K : W p l e R s m args below meth c H locs cells slots Q (F0 m (pc + jln (.aload_n i)) arr (jtr ε (.inr (.inr (.inl (t, k0)))) :: st.map (jtr ε))) := K
      rw [e1] at K
      exact lv_aload_n C.1 C.2.1 hd rfl g2 K
  | istore i =>
    obtain ⟨x, r, rfl, rfl⟩ := jsv_0 ha
    exact k_istore C (of_decide_eq_true h2) hd hK
  | istore_n i =>
    obtain ⟨x, r, rfl, rfl⟩ := jsv_0 ha
    exact k_istore_n C (of_decide_eq_true h2) hd hK
  | lstore i =>
    obtain ⟨x, r, rfl, rfl⟩ := jsv_1 ha
    exact k_lstore C (of_decide_eq_true h2) hd hK
  | lstore_n i =>
    obtain ⟨x, r, rfl, rfl⟩ := jsv_1 ha
    exact k_lstore_n C (of_decide_eq_true h2) hd hK
  | iinc i n =>
    have h2 := of_decide_eq_true h2
    obtain ⟨x, hx, rfl⟩ := ja_iinc ha
    exact k_iinc C h2.1 hx h2.2 hd hK
  | iadd =>
    obtain ⟨x, y, r, rfl, rfl⟩ := jop2_some ha
    exact fun arr H locs hl hs hi => lv_iadd C.1 C.2.1 hd (hK arr H locs hl (ok_c trivial (ok_t (ok_t hs))) hi)
  | isub =>
    obtain ⟨x, y, r, rfl, rfl⟩ := jop2_some ha
    exact fun arr H locs hl hs hi => lv_isub C.1 C.2.1 hd (hK arr H locs hl (ok_c trivial (ok_t (ok_t hs))) hi)
  | imul =>
    obtain ⟨x, y, r, rfl, rfl⟩ := jop2_some ha
    exact fun arr H locs hl hs hi => lv_imul C.1 C.2.1 hd (hK arr H locs hl (ok_c trivial (ok_t (ok_t hs))) hi)
  | iand =>
    obtain ⟨x, y, r, rfl, rfl⟩ := jop2_some ha
    exact fun arr H locs hl hs hi => lv_iand C.1 C.2.1 hd (hK arr H locs hl (ok_c trivial (ok_t (ok_t hs))) hi)
  | ior =>
    obtain ⟨x, y, r, rfl, rfl⟩ := jop2_some ha
    exact fun arr H locs hl hs hi => lv_ior C.1 C.2.1 hd (hK arr H locs hl (ok_c trivial (ok_t (ok_t hs))) hi)
  | ixor =>
    obtain ⟨x, y, r, rfl, rfl⟩ := jop2_some ha
    exact fun arr H locs hl hs hi => lv_ixor C.1 C.2.1 hd (hK arr H locs hl (ok_c trivial (ok_t (ok_t hs))) hi)
  | ishl =>
    obtain ⟨x, y, r, rfl, rfl⟩ := jop2_some ha
    exact fun arr H locs hl hs hi => lv_ishl C.1 C.2.1 hd (hK arr H locs hl (ok_c trivial (ok_t (ok_t hs))) hi)
  | ishr =>
    obtain ⟨x, y, r, rfl, rfl⟩ := jop2_some ha
    exact fun arr H locs hl hs hi => lv_ishr C.1 C.2.1 hd (hK arr H locs hl (ok_c trivial (ok_t (ok_t hs))) hi)
  | iushr =>
    obtain ⟨x, y, r, rfl, rfl⟩ := jop2_some ha
    exact fun arr H locs hl hs hi => lv_iushr C.1 C.2.1 hd rfl (hK arr H locs hl (ok_c trivial (ok_t (ok_t hs))) hi)
  | idiv =>
    obtain ⟨x, y, r, rfl, rfl⟩ := jop2g_some ha
    exact fun arr H locs hl hs hi => lv_idiv C.1 C.2.1 hd (of_decide_eq_true hK.1) (hK.2 arr H locs hl (ok_c trivial (ok_t (ok_t hs))) hi)
  | irem =>
    obtain ⟨x, y, r, rfl, rfl⟩ := jop2g_some ha
    exact fun arr H locs hl hs hi => lv_irem C.1 C.2.1 hd (of_decide_eq_true hK.1) (hK.2 arr H locs hl (ok_c trivial (ok_t (ok_t hs))) hi)
  | ineg =>
    obtain ⟨x, r, rfl, rfl⟩ := jop1_some ha
    exact fun arr H locs hl hs hi => lv_ineg C.1 C.2.1 hd (hK arr H locs hl (ok_c trivial (ok_t hs)) hi)
  | i2b =>
    obtain ⟨x, r, rfl, rfl⟩ := jop1_some ha
    exact fun arr H locs hl hs hi => lv_i2b C.1 C.2.1 hd rfl (hK arr H locs hl (ok_c trivial (ok_t hs)) hi)
  | i2c =>
    obtain ⟨x, r, rfl, rfl⟩ := jop1_some ha
    exact fun arr H locs hl hs hi => lv_i2c C.1 C.2.1 hd rfl (hK arr H locs hl (ok_c trivial (ok_t hs)) hi)
  | ladd =>
    obtain ⟨x, y, r, rfl, rfl⟩ := jlp2_some ha
    exact fun arr H locs hl hs hi => lv_ladd C.1 C.2.1 hd (hK arr H locs hl (ok_c trivial (ok_t (ok_t hs))) hi)
  | lsub =>
    obtain ⟨x, y, r, rfl, rfl⟩ := jlp2_some ha
    exact fun arr H locs hl hs hi => lv_lsub C.1 C.2.1 hd (hK arr H locs hl (ok_c trivial (ok_t (ok_t hs))) hi)
  | lmul =>
    obtain ⟨x, y, r, rfl, rfl⟩ := jlp2_some ha
    exact fun arr H locs hl hs hi => lv_lmul C.1 C.2.1 hd (hK arr H locs hl (ok_c trivial (ok_t (ok_t hs))) hi)
  | land =>
    obtain ⟨x, y, r, rfl, rfl⟩ := jlp2_some ha
    exact fun arr H locs hl hs hi => lv_land C.1 C.2.1 hd (hK arr H locs hl (ok_c trivial (ok_t (ok_t hs))) hi)
  | lor =>
    obtain ⟨x, y, r, rfl, rfl⟩ := jlp2_some ha
    exact fun arr H locs hl hs hi => lv_lor C.1 C.2.1 hd (hK arr H locs hl (ok_c trivial (ok_t (ok_t hs))) hi)
  | ldiv =>
    obtain ⟨x, y, r, rfl, rfl⟩ := jlp2g_some ha
    exact fun arr H locs hl hs hi => lv_ldiv C.1 C.2.1 hd (of_decide_eq_true hK.1) (hK.2 arr H locs hl (ok_c trivial (ok_t (ok_t hs))) hi)
  | lrem =>
    obtain ⟨x, y, r, rfl, rfl⟩ := jlp2g_some ha
    exact fun arr H locs hl hs hi => lv_lrem C.1 C.2.1 hd (of_decide_eq_true hK.1) (hK.2 arr H locs hl (ok_c trivial (ok_t (ok_t hs))) hi)
  | lshl =>
    obtain ⟨x, y, r, rfl, rfl⟩ := jlsh_some ha
    exact fun arr H locs hl hs hi => lv_lshl C.1 C.2.1 hd rfl (hK arr H locs hl (ok_c trivial (ok_t (ok_t hs))) hi)
  | lshr =>
    obtain ⟨x, y, r, rfl, rfl⟩ := jlsh_some ha
    exact fun arr H locs hl hs hi => lv_lshr C.1 C.2.1 hd rfl (hK arr H locs hl (ok_c trivial (ok_t (ok_t hs))) hi)
  | i2l =>
    obtain ⟨x, r, rfl, rfl⟩ := ja_i2l ha
    exact fun arr H locs hl hs hi => lv_i2l C.1 C.2.1 hd rfl (hK arr H locs hl (ok_c trivial (ok_t hs)) hi)
  | l2i =>
    obtain ⟨x, r, rfl, rfl⟩ := ja_l2i ha
    exact fun arr H locs hl hs hi => lv_l2i C.1 C.2.1 hd rfl (hK arr H locs hl (ok_c trivial (ok_t hs)) hi)
  | lcmp =>
    obtain ⟨x, y, r, rfl, rfl⟩ := ja_lcmp ha
    exact fun arr H locs hl hs hi => W.lcmp C.1 C.2.1 hd (hK arr H locs hl (ok_c trivial (ok_t (ok_t hs))) hi)
  | dup =>
    rcases ja_dup ha with ⟨x, r, rfl, rfl⟩ | ⟨x, r, rfl, rfl⟩
    · exact fun arr H locs hl hs hi => lv_dup C.1 C.2.1 hd rfl (hK arr H locs hl (ok_c trivial hs) hi)
    · exact fun arr H locs hl hs hi => lv_dup C.1 C.2.1 hd (jcat C.2.2.2.2.2.1.2.2.1) (hK arr H locs hl (ok_c (ok_h hs) hs) hi)
  | dup2 =>
    obtain ⟨x, y, r, rfl, rfl⟩ := ja_dup2 ha
    exact fun arr H locs hl hs hi => lv_dup2_11 C.1 C.2.1 hd rfl (jcat C.2.2.2.2.2.1.2.2.1) (hK arr H locs hl (ok_c trivial (ok_c (ok_h (ok_t hs)) hs)) hi)
  | pop =>
    obtain ⟨x, r, rfl, rfl⟩ := ja_pop ha
    exact fun arr H locs hl hs hi => lv_pop C.1 C.2.1 hd rfl (hK arr H locs hl (ok_t hs) hi)
  | goto o =>
    obtain rfl : Sum.inr (Sum.inl (none, jtg ns, ls, st, μ)) = a := Option.some.inj ha
    exact fun arr H locs hl hs hi => lv_goto C.1 C.2.1 hd (of_decide_eq_true h2) (hK arr H locs hl hs hi)
  | ifCond cd o =>
    have h2 := of_decide_eq_true h2
    cases cd with
    | eq =>
      obtain ⟨x, r, rfl, rfl⟩ := jif_some ha
      exact fun arr H locs hl hs hi => lv_if_eq C.1 C.2.1 hd h2 (fun hc => hK.1 (decide_eq_true hc) arr H locs hl (ok_t hs) hi) (fun hc => hK.2 (decide_eq_false hc) arr H locs hl (ok_t hs) hi)
    | ne =>
      obtain ⟨x, r, rfl, rfl⟩ := jif_some ha
      exact fun arr H locs hl hs hi => lv_if_ne C.1 C.2.1 hd h2 (fun hc => hK.1 (decide_eq_true hc) arr H locs hl (ok_t hs) hi) (fun hc => hK.2 (decide_eq_false (fun z => z hc)) arr H locs hl (ok_t hs) hi)
    | lt =>
      obtain ⟨x, r, rfl, rfl⟩ := jif_some ha
      exact fun arr H locs hl hs hi => lv_if_lt C.1 C.2.1 hd h2 (fun hc => hK.1 (decide_eq_true hc) arr H locs hl (ok_t hs) hi) (fun hc => hK.2 (decide_eq_false hc) arr H locs hl (ok_t hs) hi)
    | ge =>
      obtain ⟨x, r, rfl, rfl⟩ := jif_some ha
      exact fun arr H locs hl hs hi => lv_if_ge C.1 C.2.1 hd h2 (fun hc => hK.1 (decide_eq_true hc) arr H locs hl (ok_t hs) hi) (fun hc => hK.2 (decide_eq_false hc) arr H locs hl (ok_t hs) hi)
    | gt =>
      obtain ⟨x, r, rfl, rfl⟩ := jif_some ha
      exact fun arr H locs hl hs hi => lv_if_gt C.1 C.2.1 hd h2 (fun hc => hK.1 (decide_eq_true hc) arr H locs hl (ok_t hs) hi) (fun hc => hK.2 (decide_eq_false hc) arr H locs hl (ok_t hs) hi)
    | le =>
      obtain ⟨x, r, rfl, rfl⟩ := jif_some ha
      exact fun arr H locs hl hs hi => lv_if_le C.1 C.2.1 hd h2 (fun hc => hK.1 (decide_eq_true hc) arr H locs hl (ok_t hs) hi) (fun hc => hK.2 (decide_eq_false hc) arr H locs hl (ok_t hs) hi)
  | if_icmp cd o =>
    have h2 := of_decide_eq_true h2
    cases cd with
    | eq =>
      obtain ⟨x, y, r, rfl, rfl⟩ := jif2_some ha
      exact fun arr H locs hl hs hi => lv_icmp_eq C.1 C.2.1 hd h2 (fun hc => hK.1 (decide_eq_true hc) arr H locs hl (ok_t (ok_t hs)) hi) (fun hc => hK.2 (decide_eq_false hc) arr H locs hl (ok_t (ok_t hs)) hi)
    | ne =>
      obtain ⟨x, y, r, rfl, rfl⟩ := jif2_some ha
      exact fun arr H locs hl hs hi => lv_icmp_ne C.1 C.2.1 hd h2 (fun hc => hK.1 (decide_eq_true hc) arr H locs hl (ok_t (ok_t hs)) hi) (fun hc => hK.2 (decide_eq_false (fun z => z hc)) arr H locs hl (ok_t (ok_t hs)) hi)
    | lt =>
      obtain ⟨x, y, r, rfl, rfl⟩ := jif2_some ha
      exact fun arr H locs hl hs hi => lv_icmp_lt C.1 C.2.1 hd h2 (fun hc => hK.1 (decide_eq_true hc) arr H locs hl (ok_t (ok_t hs)) hi) (fun hc => hK.2 (decide_eq_false hc) arr H locs hl (ok_t (ok_t hs)) hi)
    | ge =>
      obtain ⟨x, y, r, rfl, rfl⟩ := jif2_some ha
      exact fun arr H locs hl hs hi => lv_icmp_ge C.1 C.2.1 hd h2 (fun hc => hK.1 (decide_eq_true hc) arr H locs hl (ok_t (ok_t hs)) hi) (fun hc => hK.2 (decide_eq_false hc) arr H locs hl (ok_t (ok_t hs)) hi)
    | gt =>
      obtain ⟨x, y, r, rfl, rfl⟩ := jif2_some ha
      exact fun arr H locs hl hs hi => lv_icmp_gt C.1 C.2.1 hd h2 (fun hc => hK.1 (decide_eq_true hc) arr H locs hl (ok_t (ok_t hs)) hi) (fun hc => hK.2 (decide_eq_false hc) arr H locs hl (ok_t (ok_t hs)) hi)
    | le =>
      obtain ⟨x, y, r, rfl, rfl⟩ := jif2_some ha
      exact fun arr H locs hl hs hi => lv_icmp_le C.1 C.2.1 hd h2 (fun hc => hK.1 (decide_eq_true hc) arr H locs hl (ok_t (ok_t hs)) hi) (fun hc => hK.2 (decide_eq_false hc) arr H locs hl (ok_t (ok_t hs)) hi)
  | getfield i =>
    obtain ⟨z, ci, sl, kd, tg, of, k0, r, w', rfl, rfl, rfl, hw'⟩ := jgf_some ha
    by_cases h98 : ci = 98
    · subst h98
      have h2 := of_decide_eq_true (show decide ((kd = 3 ∧ tg = 95) ∨ (kd = 4 ∧ v = 0)) = true from h2)
      rcases h2 with ⟨rfl, rfl⟩ | ⟨rfl, rfl⟩
      · rcases hw' with ⟨hh, -⟩ | ⟨hh, -⟩ | ⟨hh, -⟩ | ⟨-, rfl⟩ | ⟨hh, -⟩
        · omega
        · omega
        · omega
        · exact k_wval C hwo hd hK
        · omega
      · rcases hw' with ⟨hh, -⟩ | ⟨hh, -⟩ | ⟨hh, -⟩ | ⟨hh, -⟩ | ⟨-, rfl⟩
        · omega
        · omega
        · omega
        · omega
        · exact k_wcod C hwo hd hK
    · have h2 : decide (ci < 11 ∧ kd < 3 ∧ (fdl ci)[sl]? = some (kd, tg, of)) = true := by
        have h2 : (if ci = 98 then decide ((kd = 3 ∧ tg = 95) ∨ (kd = 4 ∧ v = 0)) else decide (ci < 11 ∧ kd < 3 ∧ (fdl ci)[sl]? = some (kd, tg, of))) = true := h2
        rw [if_neg h98] at h2
        exact h2
      obtain ⟨q1, q2, q3⟩ := of_decide_eq_true h2
      have hwf : jwf own i ci sl := jwo_get h98 hwo
      refine k_get C q1 q3 hwf ?_ hd hK
      rcases hw' with hh | hh | hh | ⟨hh, -⟩ | ⟨hh, -⟩
      · exact Or.inl hh
      · exact Or.inr (Or.inl hh)
      · exact Or.inr (Or.inr hh)
      · omega
      · omega
  | putfield i =>
    obtain ⟨z, ci, sl, k0, r, ⟨x, rfl, rfl, rfl⟩ | ⟨x, rfl, rfl, rfl⟩⟩ := jpf_some ha
    · obtain ⟨q1, q2, q3⟩ := of_decide_eq_true (show decide (ci < 11 ∧ 0 < 2 ∧ (fdl ci)[sl]? = some (0, 0, 0)) = true from h2)
      exact k_putI C q1 q3 hwo hd hK
    · obtain ⟨q1, q2, q3⟩ := of_decide_eq_true (show decide (ci < 11 ∧ 1 < 2 ∧ (fdl ci)[sl]? = some (1, 0, 0)) = true from h2)
      exact k_putL C q1 q3 hwo hd hK
  | getstatic i =>
    obtain ⟨z, ⟨rfl, rfl⟩ | ⟨rfl, rfl⟩ | ⟨rfl, rfl⟩⟩ := ja_gs ha
    · have e1 : v = 1 := of_decide_eq_true h2
      subst e1
      exact k_gs0 C hwo hd hK
    · exact k_gs1 C hwo hd hK
    · exact k_gs2 C hwo hd hK
  | iaload =>
    obtain ⟨x, t, k0, r, rfl, ⟨rfl, rfl⟩ | ⟨rfl, rfl⟩ | ⟨ht, rfl⟩⟩ := jiald_some ha
    · exact k_scr C hK.1 hd hK.2
    · exact k_num C hK.1 hd hK.2
    · exact k_iald C ht hK.1 hd hK.2
  | baload =>
    obtain ⟨x, t, k0, r, rfl, ⟨rfl, rfl⟩ | ⟨ht, rfl⟩ | ⟨ht, rfl⟩⟩ := jbald_some ha
    · exact k_wbyt C hK.1 hd hK.2
    · exact k_bald C ht hK.1 hd hK.2
    · exact k_zald C ht hK.1 hd hK.2
  | laload =>
    obtain ⟨x, t, k0, r, rfl, ht, rfl⟩ := jlald_some ha
    exact k_lald C ht hK.1 hd hK.2
  | aaload =>
    obtain ⟨x, k0, r, rfl, rfl⟩ := jaald_some ha
    exact k_aald C hK.1 hd hK.2
  | arraylength =>
    obtain ⟨t, k0, r, x, rfl, rfl, ⟨rfl, rfl⟩ | ⟨rfl, rfl⟩ | hh | hh⟩ := jalen_some ha
    · exact k_slen C hd hK
    · exact k_wlen C hd hK
    · exact k_alen C (Or.inl hh) hd hK
    · exact k_alen C (Or.inr hh) hd hK
  | iastore =>
    obtain ⟨x, y, t, k0, r, rfl, ht, rfl⟩ := jiast_some ha
    exact k_iast C ht hK.1 hd hK.2
  | bastore =>
    obtain ⟨x, y, t, k0, r, rfl, ⟨ht, rfl⟩ | ⟨ht, rfl⟩⟩ := jbast_some ha
    · exact k_bast C ht hK.1 hd hK.2
    · exact k_zast C ht hK.1 hd hK.2
  | lastore =>
    obtain ⟨x, y, t, k0, r, rfl, ht, rfl⟩ := jlast_some ha
    exact k_last C ht hK.1 hd hK.2
  | tableswitch d0 lo hi o => exact absurd rfl hT
  | invokevirtual i =>
    rcases ja_inv ha with ⟨z, j, n, rk, m2, tg, rfl, ha⟩ | ⟨z, y, rfl, ha⟩ | ⟨z, y, x, rfl, ha⟩
    · obtain ⟨q1, q2, q3, q4, q5⟩ := jcal_some ha
      subst q5
      obtain ⟨d1, d2, d3, d4, d5, d6, d7⟩ := of_decide_eq_true (show decide (j < NJ ∧ m2 = mxT j ∧ FT.getD j 0 + 1 ≤ fr ∧ 8 + (mxT j + 11) + LT.getD j 0 ≤ lo ∧ n = NT.getD j 0 + 1 ∧ tg = GT.getD j 0 ∧ tg ≠ 200) = true from h2)
      intro arr H locs hl hs hi
      obtain ⟨v', μ2, hM, hK2⟩ := hK (by omega) d1 (fun w hw => hs w (List.mem_of_mem_take (List.mem_reverse.mp hw)))
      have hwo : Cond.methodLink own i (yT j) ∈ ws0 ∨ ∃ h, Cond.methodLinkNest own i (yT j) h ∈ nws := hwo
      have hwo2 : Cond.methodLink own i (yT j) ∈ ws0 := by
        rcases hwo with h | ⟨h, hh⟩
        · exact h
        · exact absurd (hnv i j h d1 hh) (fun e => d7 (d6.trans e))
      have hrv : ∃ k0 as, (st.take n).reverse = .inr (.inr (.inl (tg, k0))) :: as := by
        unfold jrv at q4
        rw [Bool.or_eq_true] at q4
        rcases q4 with h | h
        · exact absurd (Nat.eq_of_beq_eq_true h) d7
        · split at h
          · rename_i t k0 as he
            have e1 : t = tg := Nat.eq_of_beq_eq_true h
            subst e1
            exact ⟨k0, as, he⟩
          · cases h
      obtain ⟨k0, as, has⟩ := hrv
      exact k_callV C (hmo j d1) hwo2 (fun e => d7 (d6.trans e)) d6 d5 ⟨Nat.le_trans d3 hR.1, Nat.le_trans d4 hR.2⟩ hcs q1 q2 has hd hM hK2 arr H locs hl hs hi
    · exact jb_f h2
    · exact jb_f h2
  | invokestatic i =>
    rcases ja_inv ha with ⟨z, j, n, rk, m2, tg, rfl, ha⟩ | ⟨z, y, rfl, ha⟩ | ⟨z, y, x, rfl, ha⟩
    · obtain ⟨q1, q2, q3, q4, q5⟩ := jcal_some ha
      subst q5
      obtain ⟨d1, d2, d3, d4, d5, d6, d7⟩ := of_decide_eq_true (show decide (j < NJ ∧ m2 = mxT j ∧ FT.getD j 0 + 1 ≤ fr ∧ 8 + (mxT j + 11) + LT.getD j 0 ≤ lo ∧ n = NT.getD j 0 ∧ tg = GT.getD j 0 ∧ tg = 200) = true from h2)
      intro arr H locs hl hs hi
      obtain ⟨v', μ2, hM, hK2⟩ := hK (by omega) d1 (fun w hw => hs w (List.mem_of_mem_take (List.mem_reverse.mp hw)))
      exact k_callS C (hmo j d1) hwo (d6.symm.trans d7) d5 ⟨Nat.le_trans d3 hR.1, Nat.le_trans d4 hR.2⟩ hcs q1 q2 hd hM hK2 arr H locs hl hs hi
    · obtain ⟨n, dp, t1, k1, sp, t0, k0, r, rfl, e1, e2, e3, rfl⟩ := jcpy_some ha
      obtain ⟨d1, d2⟩ := of_decide_eq_true h2
      exact k_cpy C hwo ⟨Nat.le_trans d1 hR.1, Nat.le_trans d2 hR.2⟩ e1 e2 e3 hK.1 hd hK.2
    · obtain ⟨x, y, r, rfl, e3, rfl⟩ := jmin_some ha
      obtain ⟨d1, d2⟩ := of_decide_eq_true h2
      exact k_min C hwo ⟨Nat.le_trans d1 hR.1, Nat.le_trans d2 hR.2⟩ hcs e3 hd hK
  | ireturn =>
    obtain ⟨z, x, rfl, ⟨rfl, rfl⟩ | ⟨rfl, rfl⟩ | ⟨rfl, rfl⟩ | ⟨rfl, rfl⟩⟩ := ja_iret ha
    · exact fun arr H locs hl hs hi => hK arr H locs pc .ireturn _ hd (Or.inl ⟨rfl, x, .int, jr_0 h2, Or.inl rfl, rfl, rfl⟩) (fun w hw => by cases hw; trivial) hi
    · exact fun arr H locs hl hs hi => hK arr H locs pc .ireturn _ hd (Or.inl ⟨rfl, x, .boolean, jr_1 h2, Or.inr (Or.inl rfl), rfl, rfl⟩) (fun w hw => by cases hw; trivial) hi
    · exact fun arr H locs hl hs hi => hK arr H locs pc .ireturn _ hd (Or.inl ⟨rfl, x, .byte, jr_2 h2, Or.inr (Or.inr (Or.inl rfl)), rfl, rfl⟩) (fun w hw => by cases hw; trivial) hi
    · exact fun arr H locs hl hs hi => hK arr H locs pc .ireturn _ hd (Or.inl ⟨rfl, x, .char, jr_3 h2, Or.inr (Or.inr (Or.inr rfl)), rfl, congrArg (fun y => some (Value.int y)) (jchar x)⟩) (fun w hw => by cases hw; trivial) hi
  | lreturn =>
    obtain ⟨x, rfl, rfl⟩ := ja_lret ha
    exact fun arr H locs hl hs hi => hK arr H locs pc .lreturn _ hd (Or.inr (Or.inl ⟨rfl, x, of_decide_eq_true h2, rfl, rfl⟩)) (fun w hw => by cases hw; trivial) hi
  | areturn =>
    obtain ⟨x, rfl, rfl⟩ := ja_aret ha
    exact fun arr H locs hl hs hi => hK arr H locs pc .areturn _ hd (Or.inr (Or.inr (Or.inl ⟨rfl, jtr ε (.inr (.inr (.inl x))), of_decide_eq_true h2, jtr_ref C.2.2.2.2.2.1.2.2.1, rfl, rfl⟩))) (fun w hw => by cases hw; exact ok_h hs) hi
  | return_ =>
    obtain ⟨rfl, rfl⟩ := ja_vret ha
    exact fun arr H locs hl hs hi => hK arr H locs pc .return_ _ hd (Or.inr (Or.inr (Or.inr ⟨rfl, of_decide_eq_true h2, rfl, rfl⟩))) (fun w hw => by cases hw) hi
  | _ => exact absurd ha (by intro z; cases z)
end SND6
