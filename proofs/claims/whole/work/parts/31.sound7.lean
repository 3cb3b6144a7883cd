/-! ALL STEPS, and a method's contract -/
theorem jfd_mem {pc : Nat} {q : je} : ∀ {F : List je}, jfd pc F = some q → q ∈ F ∧ q.1 = pc
  | [], h => by cases h
  | x :: F, h => by
    unfold jfd at h
    split at h
    · rename_i hb
      cases h
      exact ⟨List.mem_cons_self, Nat.eq_of_beq_eq_true hb⟩
    · obtain ⟨h1, h2⟩ := jfd_mem h
      exact ⟨List.mem_cons_of_mem _ h1, h2⟩
/-- soundness of runs of n steps -/
def jP (l : Launch) (n : Nat) : Prop := ∀ (p : Program) (e : Env) (R : Room) (s : State) (m : MethodId) (args : Array Value) (below : List Frame) (meth : Method) (c : Code) (cells slots : Nat) (Q : State → Prop) (ε : jenv) (A : Nat → Prop) (mx : Nat) (own : String) (b : ByteArray) (rt : Option FieldType) (fr lo j pc : Nat) (ls st : List jv) (μ : jm) (r : jr),
  jctx p s m args c ε A own b mx → fr ≤ R.frames ∧ lo ≤ R.locals → cells ≤ R.cells ∧ slots ≤ R.slots → (∀ q ∈ pfT j, jck b mx rt fr lo q = true ∧ jwo own q) → jexe n j pc ls st μ = some r →
  (∀ (arr : Array Slot) (H : Heap) (locs : List Loc) (pc : Nat) (i : Instr) (st' : List Value), decode b pc = .ok (i, 1) → jrt i rt st' (r.1.map (jtr ε)) → (∀ w, r.1 = some w → jok ε w) → jinv ε s A H locs r.2 → W p l e R s m args below meth c H locs cells slots Q (F0 m pc arr st')) →
  KW p l e R s m args below meth c cells slots Q ε A mx pc ls st μ
/-- the end of a method by contract -/
theorem j_end {p : Program} {l : Launch} {e : Env} {R : Room} {s : State} {m : MethodId} {args : Array Value} {below : List Frame} {meth : Method} {c : Code} {H : Heap} {locs : List Loc} {Qc : Array Value → State → Outcome → State → Prop} {free : Addr → Prop} {b : ByteArray} {rt : Option FieldType} {pc : Nat} {arr : Array Slot} {i : Instr} {st : List Value} {rv : Option Value} (hx : p.tables.exec = Jvm.exec) (hb : c.code = b) (hr : meth.sig.returnType = rt) (hlocks : meth.locks = false) (hd : decode b pc = .ok (i, 1)) (h : jrt i rt st rv)
    (hq : ∀ t : State, t.heap = H → s.WarmedH t.vm → Qc args s (.returned rv) t) (hf : ∀ q ∈ locs, free q.base) : W p l e R s m args below meth c H locs 0 0 (MQ below Qc args s 0 0 free) (F0 m pc arr st) := by
  rcases h with ⟨rfl, x, ty, rfl, hty, rfl, rfl⟩ | ⟨rfl, x, rfl, rfl, rfl⟩ | ⟨rfl, w, rfl, hw, rfl, rfl⟩ | ⟨rfl, rfl, rfl, rfl⟩
  · obtain ⟨v, hv⟩ : ∃ v, narrow ty (.int x) = v := ⟨_, rfl⟩
    rw [hv] at hq
    intro T hT X
    obtain ⟨fs, hret, hrun, hended, hW, hframe⟩ := X.leave (v := some v) (hlocks := hlocks) (fun h => by rw [hr] at h; cases h)
    have hmeth' : T.vm.method? m = some meth := X.method'
    refine ⟨T.setFrames fs, ?_, .returned (some v), hrun, hended, hq _ hT hW, locs, ⟨⟨_, rfl⟩, hW, hframe⟩, hf⟩
    jvm_step X.here [X.here.top, hx, hb, hd, hmeth', hr, hv]
    (try refine ⟨rfl, ?_⟩); (try refine ⟨rfl, ?_⟩)
    first | (intro acts; rw [hret _ acts rfl rfl rfl]) | rw [hret _ _ rfl rfl rfl]
    exact Steps.refl _
  · exact W.lret hx hb hr hq hf hd hlocks
  · exact W.aret hx hb hr (Or.inl ⟨_, rfl⟩) hw hq hf hd hlocks
  · exact W.vret hx hb hr hq hf hd hlocks
/-- the locals at a method's entry -/
theorem jargs1 {ε : jenv} (hF : eF ε = .null ∨ ∃ a, eF ε = .ref a) {v : jv} (h : jwd v = 1) (o : Nat) (r : List Value) : lv_args o (jtr ε v :: r) = (o, jtr ε v) :: lv_args (o + 1) r := by
  rw [lv_args, jcat hF, h]
  rfl
theorem jargs2 {ε : jenv} {x : Int64} (o : Nat) (r : List Value) : lv_args o (jtr ε (.inr (.inl x)) :: r) = (o, jtr ε (.inr (.inl x))) :: lv_args (o + 2) r := rfl
theorem jex_1 {v : jv} (h : jwd v = 1) (r : List jv) : jex (v :: r) = v :: jex r := by
  match v, h with
  | .inl x, _ => rfl
  | .inr (.inr x), _ => rfl
theorem jex_arg {ε : jenv} (hF : eF ε = .null ∨ ∃ a, eF ε = .ref a) : ∀ (as : List jv) (o i : Nat) (v : jv), (jex as)[i]? = some v → v = jU ∨ (v ∈ as ∧ (o + i, jtr ε v) ∈ lv_args o (as.map (jtr ε)))
  | [], o, i, v, h => by simp [jex] at h
  | a :: r, o, i, v, h => by
    by_cases ha : jwd a = 1
    · rw [jex_1 ha] at h
      rw [List.map_cons, jargs1 hF ha]
      cases i with
      | zero =>
        have e := Option.some.inj (show some a = some v from h)
        subst e
        exact Or.inr ⟨List.mem_cons_self, List.mem_cons_self⟩
      | succ i =>
        rcases jex_arg hF r (o + 1) i v h with h | ⟨h1, h2⟩
        · exact Or.inl h
        · have e : o + (i + 1) = o + 1 + i := by omega
          rw [e]
          exact Or.inr ⟨List.mem_cons_of_mem _ h1, List.mem_cons_of_mem _ h2⟩
    · obtain ⟨x, rfl⟩ : ∃ x, a = .inr (.inl x) := by
        match a, ha with
        | .inl x, ha => exact absurd rfl ha
        | .inr (.inl x), _ => exact ⟨x, rfl⟩
        | .inr (.inr x), ha => exact absurd rfl ha
      rw [List.map_cons, jargs2]
      match i, h with
      | 0, h =>
        have e := Option.some.inj (show some (.inr (.inl x)) = some v from h)
        subst e
        exact Or.inr ⟨List.mem_cons_self, List.mem_cons_self⟩
      | 1, h => exact Or.inl (Option.some.inj (show some jU = some v from h)).symm
      | i + 2, h =>
        rcases jex_arg hF r (o + 2) i v h with h | ⟨h1, h2⟩
        · exact Or.inl h
        · have e : o + (i + 2) = o + 2 + i := by omega
          rw [e]
          exact Or.inr ⟨List.mem_cons_of_mem _ h1, List.mem_cons_of_mem _ h2⟩
theorem jsl_len {ε : jenv} (hF : eF ε = .null ∨ ∃ a, eF ε = .ref a) : ∀ as : List jv, (lg_sl (as.map (jtr ε))).length = (jex as).length
  | [] => rfl
  | a :: r => by
    have ih := jsl_len hF r
    by_cases ha : jwd a = 1
    · rw [jex_1 ha]
      have e : lg_sl ((a :: r).map (jtr ε)) = [.val (jtr ε a)] ++ lg_sl (r.map (jtr ε)) := by
        simp only [lg_sl, List.map_cons, List.flatMap_cons, jcat hF, ha]
        rfl
      rw [e]
      simp [ih]
    · obtain ⟨x, rfl⟩ : ∃ x, a = .inr (.inl x) := by
        match a, ha with
        | .inl x, ha => exact absurd rfl ha
        | .inr (.inl x), _ => exact ⟨x, rfl⟩
        | .inr (.inr x), ha => exact absurd rfl ha
      have e : lg_sl ((.inr (.inl x) :: r).map (jtr ε)) = [.val (.long x), .second] ++ lg_sl (r.map (jtr ε)) := rfl
      have e2 : jex (.inr (.inl x) :: r) = .inr (.inl x) :: jU :: jex r := rfl
      rw [e, e2]
      simp [ih]
theorem jlv_entry {ε : jenv} (hF : eF ε = .null ∨ ∃ a, eF ε = .ref a) {as : List jv} {n : Nat} (hn : (jex as).length ≤ n) (hok : ∀ w ∈ as, jok ε w) : jlv ε (lg_sl (as.map (jtr ε)) ++ List.replicate (n - (lg_sl (as.map (jtr ε))).length) Slot.unset).toArray n (jen n as) := by
  have h := lv_entry (as.map (jtr ε)) (n := n) (by rw [jsl_len hF]; exact hn)
  refine ⟨h.1, h.2.1, ?_, fun i v hv => ?_⟩
  · simp [jen]; omega
  · rw [jen] at hv
    rcases Nat.lt_or_ge i (jex as).length with hi | hi
    · rw [List.getElem?_append_left hi] at hv
      rcases jex_arg hF as 0 i v hv with e | ⟨e1, e2⟩
      · exact Or.inl e
      · rw [Nat.zero_add] at e2
        exact Or.inr ⟨hok v e1, h.2.2 _ e2⟩
    · rw [List.getElem?_append_right hi] at hv
      exact Or.inl (List.eq_of_mem_replicate (List.mem_of_getElem? hv))
/-- a method's contract out of the soundness of its runs -/
theorem jmet {l : Launch} {n : Nat} (hP : jP l n) (hfa : ∀ j, j < NJ → jfa j) {ε : jenv} {j : Nat} (hj : j < NJ) {as : List jv} (hok : ∀ w ∈ as, jok ε w) (hn : (jex as).length ≤ mxT j) {μ : jm} {v : Option jv} {μ2 : jm} (h : jexe n j 0 (jen (mxT j) as) [] μ = some (v, μ2)) : jCT l ε j as μ v μ2 := by
  intro sz
  obtain ⟨hmo, hq⟩ := hfa j hj
  refine Met.ofW (cc := bT j) (maxL := mxT j) (ret := rT j) hmo.2.2.2.2.1 rfl ?_
  intro p e s m args below meth c s₁ B hml hv
  obtain ⟨rfl, hsz, hsf, hPc, hD0, hscr⟩ := hv
  have hF := hsf.2.2.1
  have hts := atoms_spec (ws := wsT j) B.pre
  subst hsz
  have hD := hD0.self (sz := s.heap.size)
  have hA : ∀ q : Nat, s.heap.size ≤ q → va_A (jpic ε μ) s.heap.size q := fun q h => Or.inr h
  have C : jctx p s m (as.map (jtr ε)).toArray c ε (va_A (jpic ε μ) s.heap.size) (yT j).cls (bT j) (mxT j) := ⟨B.exec, B.bytes, hml, findClass_of_methodNamed B.named, fun w hw => hts w (List.mem_cons_of_mem _ hw), hsf, hA⟩
  have K := hP p e (headSpec (wsT j) (rmT j)).room s m (as.map (jtr ε)).toArray below meth c 0 0 (MQ below (jQc ε μ s.heap.size v μ2) (as.map (jtr ε)).toArray s 0 0 (va_A (jpic ε μ) s.heap.size)) ε (va_A (jpic ε μ) s.heap.size) (mxT j) (yT j).cls (bT j) (rT j) (FT.getD j 0) (LT.getD j 0) j 0 (jen (mxT j) as) [] μ (v, μ2) C ⟨Nat.le_refl _, Nat.le_refl _⟩ ⟨Nat.le_refl _, Nat.le_refl _⟩ hq h (fun arr H locs pc i st' hd hrt hw hi => j_end B.exec B.bytes B.returns B.notSynchronized hd hrt (fun t ht hW => ⟨rfl, ⟨by rw [ht]; exact hi.1, hw, hi.2.2.2⟩, hi.2.2.1.F ht⟩) hi.2.2.1.2.2)
  rw [lg_entry_eq]
  exact K _ s.heap [] (jlv_entry hF hn hok) (fun _ h => by cases h) ⟨hPc, hD, va_S.rf, hscr⟩
theorem jgd_some {g : Bool} {x : Option jr} {r : jr} (h : jgd g x = some r) : g = true ∧ x = some r := by
  cases g with
  | true => exact ⟨rfl, h⟩
  | false => cases h
theorem jP_all (l : Launch) (hfa : ∀ j, j < NJ → jfa j) : ∀ n, jP l n
  | 0 => fun p e R s m args below meth c cells slots Q ε A mx own b rt fr lo j pc ls st μ r C hR hcs hq h hfin => by
    simp [jexe] at h
  | n + 1 => fun p e R s m args below meth c cells slots Q ε A mx own b rt fr lo j pc ls st μ r C hR hcs hq h hfin => by
    have ih := jP_all l hfa n
    rw [jexe_succ] at h
    unfold jstep at h
    cases hf : jfd pc (pfT j) with
    | none => rw [hf] at h; cases h
    | some q =>
      rw [hf] at h
      obtain ⟨hm, hpc⟩ := jfd_mem hf
      obtain ⟨hck, hwo⟩ := hq q hm
      subst hpc
      have h : jgo (fun j2 as μ => jexe n j2 0 (jen (mxT j2) as) [] μ) (jexe n j) (q.1 + jkn q) (jact q (jcl q.2.1 ls) st μ) = some r := h
      have next : ∀ (pc' : Nat) (ls' st' : List jv) (μ' : jm), jexe n j pc' ls' st' μ' = some r → KW p l e R s m args below meth c cells slots Q ε A mx pc' ls' st' μ' := fun pc' ls' st' μ' h' => ih p e R s m args below meth c cells slots Q ε A mx own b rt fr lo j pc' ls' st' μ' r C hR hcs hq h' hfin
      refine k_clear q.2.1 ?_
      cases ha : jact q (jcl q.2.1 ls) st μ with
      | none => rw [ha] at h; cases h
      | some a =>
        rw [ha] at h
        refine jone C (fun j hj => (hfa j hj).1) hR hcs hck hwo ha ?_
        match a, h with
        | .inl (none, ls', st', μ'), h => exact next _ _ _ _ h
        | .inl (some g, ls', st', μ'), h =>
          obtain ⟨h1, h2⟩ := jgd_some h
          exact ⟨h1, next _ _ _ _ h2⟩
        | .inr (.inl (none, t, ls', st', μ')), h => exact next _ _ _ _ h
        | .inr (.inl (some bb, t, ls', st', μ')), h =>
          refine ⟨fun hb => ?_, fun hb => ?_⟩
          · subst hb; exact next _ _ _ _ h
          · subst hb; exact next _ _ _ _ h
        | .inr (.inr (.inl (j2, as, rk, ls', st', μ'))), h =>
          intro hln hj2 hok
          have h : jbd rk (jexe n j2 0 (jen (mxT j2) as) [] μ') (fun vs μ2 => jexe n j (q.1 + jkn q) ls' (vs ++ st') μ2) = some r := h
          obtain ⟨v, μ2, h1, h2, -⟩ := jbd_some h
          exact ⟨v, μ2, jmet ih hfa hj2 hok hln h1, next _ _ _ _ h2⟩
        | .inr (.inr (.inr (.inl (x, tb, d, ls', st', μ')))), h =>
          intro t ht
          have h : jsw x tb d (fun t => jexe n j t ls' st' μ') = some r := h
          rw [ht] at h
          exact next _ _ _ _ h
        | .inr (.inr (.inr (.inr r'))), h =>
          have e1 : r' = r := Option.some.inj h
          subst e1
          exact hfin
