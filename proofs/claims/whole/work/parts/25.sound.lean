/-! THE PLAIN MACHINE IS SOUND: what it answers, the machine does -/
abbrev jenv : Type := (Nat → Nat) × (Nat → Nat) × (Nat → Nat) × Value × Nat × Nat × Nat × (Nat → Int32) × (Nat → ClassId) × (Nat → Nat → Nat) × (Nat → ClassId)
def eA (ε : jenv) : Nat → Nat := ε.1
def eB (ε : jenv) : Nat → Nat := ε.2.1
def eO (ε : jenv) : Nat → Nat := ε.2.2.1
def eF (ε : jenv) : Value := ε.2.2.2.1
def eS (ε : jenv) : Nat := ε.2.2.2.2.1
def eN (ε : jenv) : Nat := ε.2.2.2.2.2.1
def eL (ε : jenv) : Nat := ε.2.2.2.2.2.2.1
def eX (ε : jenv) : Nat → Int32 := ε.2.2.2.2.2.2.2.1
def eD (ε : jenv) : va_G := (ε.2.2.2.2.2.2.2.2.1, ε.2.2.2.2.2.2.2.2.2.1)
def eT (ε : jenv) : Nat → ClassId := ε.2.2.2.2.2.2.2.2.2.2
/-- the arrays' classes, cell by cell -/
def jty (t : Nat) : Option FieldType := match t / 1000 with
  | 1 => some .int
  | 2 => some .long
  | 3 => some .byte
  | 4 => some .boolean
  | 5 => some (.object "OneNote$Valley")
  | _ => none
def tysJ (ε : jenv) : List (ClassId × FieldType) := (List.range 78).filterMap (fun k => (jty (shl.getD k 0)).map (fun ty => (eT ε k, ty)))
theorem tys_at {ε : jenv} {k : Nat} (hk : k < 78) {ty : FieldType} (h : jty (shl.getD k 0) = some ty) : ∃ t0 : Nat, (tysJ ε)[t0]? = some (eT ε k, ty) := List.getElem?_of_mem (List.mem_filterMap.mpr ⟨k, List.mem_range.mpr hk, by rw [h]; rfl⟩)
/-- a plain value as the machine has it -/
def jtr (ε : jenv) : jv → Value
  | .inl x => .int x
  | .inr (.inl x) => .long x
  | .inr (.inr (.inl (t, k))) => if t = 94 then eF ε else if t = 95 then .ref (eB ε k) else if t = 96 then .ref (eS ε) else if t = 97 then .ref (eN ε) else if t = 98 then .ref (eO ε k) else .ref (eA ε k)
  | .inr (.inr (.inr _)) => .null
/-- a reference is to a cell of its shape -/
def jrk (ε : jenv) (t k : Nat) : Prop := t = 94 ∨ (t = 95 ∧ k < 6) ∨ (t = 96 ∧ k = eL ε) ∨ t = 97 ∨ (t = 98 ∧ k < 6) ∨ (k < 78 ∧ shl.getD k 0 = t)
def jok (ε : jenv) : jv → Prop
  | .inl _ => True
  | .inr (.inl _) => True
  | .inr (.inr (.inl (t, k))) => jrk ε t k
  | .inr (.inr (.inr _)) => False
/-- an object's fields -/
def jfs (ε : jenv) (μ : jm) (k : Nat) : Nat → List (Nat × Nat × Nat) → List Value
  | _, [] => []
  | s, (kd, _, of) :: r => (if kd = 0 then .int (μ.1 k s) else if kd = 1 then .long (μ.2 k s) else .ref (eA ε (k + of))) :: jfs ε μ k (s + 1) r
def jce (ε : jenv) (μ : jm) (k t : Nat) : va_E := match t / 1000 with
  | 0 => .inr (t, jfs ε μ k 0 (fdl t))
  | 1 => .inl (eT ε k, t - 1000, .inl (μ.1 k))
  | 2 => .inl (eT ε k, t - 2000, .inr (.inl (μ.2 k)))
  | 3 => .inl (eT ε k, t - 3000, .inl (μ.1 k))
  | 4 => .inl (eT ε k, t - 4000, .inl (μ.1 k))
  | _ => .inl (eT ε k, 2, .inr (.inr (.inr (.inr (fun i => some (eA ε (k + 1 + 11 * i)))))))
def jpic (ε : jenv) (μ : jm) : va_W := (List.range 78).map (fun k => (eA ε k, jce ε μ k (shl.getD k 0)))
theorem jpic_at (ε : jenv) (μ : jm) {k : Nat} (h : k < 78) : (jpic ε μ)[k]? = some (eA ε k, jce ε μ k (shl.getD k 0)) := by
  simp [jpic, h]
theorem jpic_out (ε : jenv) (μ : jm) {k : Nat} (h : ¬ k < 78) : (jpic ε μ)[k]? = none := by
  simp [jpic]; omega
theorem jpic_len (ε : jenv) (μ : jm) : (jpic ε μ).length = 78 := by simp [jpic]
/-- the same cells but one -/
theorem jpic_set (ε : jenv) (μ μ' : jm) {k : Nat} (h : k < 78) (h1 : ∀ a b, a ≠ k → μ'.1 a b = μ.1 a b) (h2 : ∀ a b, a ≠ k → μ'.2 a b = μ.2 a b) : (jpic ε μ).set k (eA ε k, jce ε μ' k (shl.getD k 0)) = jpic ε μ' := by
  apply List.ext_getElem?
  intro i
  by_cases hi : i < 78
  · by_cases hk : i = k
    · subst hk
      rw [List.getElem?_set_self (by rw [jpic_len]; exact h), jpic_at ε μ' h]
    · rw [List.getElem?_set_ne (fun e => hk e.symm), jpic_at ε μ hi, jpic_at ε μ' hi]
      have e1 : μ'.1 i = μ.1 i := funext fun b => h1 i b hk
      have e2 : μ'.2 i = μ.2 i := funext fun b => h2 i b hk
      have e3 : ∀ (l : List (Nat × Nat × Nat)) (s : Nat), jfs ε μ' i s l = jfs ε μ i s l := by
        intro l
        induction l with
        | nil => intro s; rfl
        | cons a l ih =>
          intro s
          obtain ⟨kd, tg, of⟩ := a
          simp only [jfs, e1, e2, ih]
      simp only [jce, e1, e2, e3]
  · rw [jpic_out ε μ' hi]
    have : ((jpic ε μ).set k (eA ε k, jce ε μ' k (shl.getD k 0)))[i]? = none := by
      apply List.getElem?_eq_none
      rw [List.length_set, jpic_len]
      omega
    exact this
theorem jpic_D {ε : jenv} {μ μ' : jm} {A : Nat → Prop} (h : va_D A (jpic ε μ)) : va_D A (jpic ε μ') := by
  refine ⟨?_, ?_⟩
  · intro i j p q hi hj e
    have hi' : i < 78 := by
      rcases Nat.lt_or_ge i 78 with h | h
      · exact h
      · rw [jpic_out ε μ' (by omega)] at hi; cases hi
    have hj' : j < 78 := by
      rcases Nat.lt_or_ge j 78 with h | h
      · exact h
      · rw [jpic_out ε μ' (by omega)] at hj; cases hj
    rw [jpic_at ε μ' hi'] at hi
    rw [jpic_at ε μ' hj'] at hj
    cases hi; cases hj
    exact h.1 i j _ _ (jpic_at ε μ hi') (jpic_at ε μ hj') e
  · intro k q hk
    have hk' : k < 78 := by
      rcases Nat.lt_or_ge k 78 with h | h
      · exact h
      · rw [jpic_out ε μ' (by omega)] at hk; cases hk
    rw [jpic_at ε μ' hk'] at hk
    cases hk
    have h9 := h.2 k _ (jpic_at ε μ hk')
    exact h9
theorem jpic_A {ε : jenv} {μ μ' : jm} {sz q : Nat} (h : va_A (jpic ε μ) sz q) : va_A (jpic ε μ') sz q := by
  rcases h with ⟨k, e, h⟩ | h
  · have hk : k < 78 := by
      rcases Nat.lt_or_ge k 78 with h' | h'
      · exact h'
      · rw [jpic_out ε μ (by omega)] at h; cases h
    rw [jpic_at ε μ hk] at h
    cases h
    exact Or.inl ⟨k, _, jpic_at ε μ' hk⟩
  · exact Or.inr h
/-- what stands outside the cells -/
def jsf (ε : jenv) (A : Nat → Prop) (U : State) : Prop :=
  va_Z "java/lang/String" "COMPACT_STRINGS" "Z" (.int 1) A U U.heap ∧
  va_Z "jdk/internal/util/Preconditions" "SIOOBE_FORMATTER" "Ljava/util/function/BiFunction;" (eF ε) A U U.heap ∧
  (eF ε = .null ∨ ∃ a, eF ε = .ref a) ∧
  va_Z "OneNote$Text" "NUMBERS_OF" "[I" (.ref (eN ε)) A U U.heap ∧
  va_T .int (eN ε) 6 (fun i => .int (jnum i)) A U U.heap ∧
  (∀ k, k < 6 → vk_R "OneNote$Text" (jsx k) (jtx k) (eO ε k) U) ∧
  vk_S 6 (jwords.map List.length) jwords (eO ε) (eB ε) A U U.heap ∧
  (va_X (eS ε) (eL ε) (eX ε) U U.heap ∧ eS ε < U.heap.size ∧ ¬ A (eS ε)) ∧
  va_K (eD ε) vwCl (tysJ ε) U ∧
  (∀ w ∈ nws, va_Nw w U)
theorem jnw_on : ∀ w ∈ nws, w.onTables = true := by decide +kernel
theorem jnw_warm {s U : State} (hW : s.WarmedH U.vm) {w : Cond} (hw : w ∈ nws) (h : va_Nw w s) : va_Nw w U := by
  have hk : (∃ a i b n d h, w = .fieldLinkNest a i b n d h) ∨ ∃ a i x h, w = .methodLinkNest a i x h := by
    simp only [nws, List.mem_cons, List.not_mem_nil, or_false] at hw
    rcases hw with rfl | rfl | rfl | rfl | rfl | rfl | rfl | rfl | rfl | rfl | rfl | rfl | rfl | rfl | rfl | rfl | rfl | rfl | rfl | rfl | rfl | rfl | rfl | rfl | rfl | rfl | rfl | rfl | rfl | rfl | rfl | rfl | rfl <;> first | exact Or.inl ⟨_, _, _, _, _, _, rfl⟩ | exact Or.inr ⟨_, _, _, _, rfl⟩
  rcases hk with ⟨a, i, b, n, d, h', rfl⟩ | ⟨a, i, x, h', rfl⟩
  · exact va_Nw.warmF hW h
  · exact va_Nw.warmM hW h
/-- carried over to a callee's start -/
theorem jsf_to {ε : jenv} {A B : Nat → Prop} {s U : State} {H : Heap} {locs : List Loc} (h : jsf ε A s) (hS : va_S A s.heap H locs) (hU : U.heap = H) (hW : s.WarmedH U.vm) (hB : ∀ q, B q → A q) : jsf ε B U := by
  obtain ⟨h1, h2, h3, h4, h5, h6, h7, ⟨h8, h9, h10⟩, h11, h12⟩ := h
  have hk : ∀ a : Nat, a < s.heap.size → ¬ A a → H[a]? = s.heap[a]? := hS.2.1
  have al := hW.alike
  rw [jsf, hU]
  exact ⟨((h1.kept hk).moved al).narrow hB, ((h2.kept hk).moved al).narrow hB, h3, ((h4.kept hk).moved al).narrow hB, ((h5.kept hk).moved al).narrow hB, fun k hk => (h6 k hk).warm hW, ((h7.kept hk).moved al).narrow hB, ⟨(h8.kept (hk _ h9 h10)).moved al, Nat.lt_of_lt_of_le h9 hS.1, fun z => h10 (hB _ z)⟩, h11.moved al, fun w hw => jnw_warm hW hw (h12 w hw)⟩
theorem jsf_same {ε : jenv} {A : Nat → Prop} {U V : State} (hh : V.heap = U.heap) (hv : V.vm = U.vm) (h : jsf ε A U) : jsf ε A V := by
  obtain ⟨h1, h2, h3, h4, h5, h6, h7, ⟨h8, h9, h10⟩, h11, h12⟩ := h
  have al : U.vm.Alike V.vm := by rw [hv]; exact Vm.Alike.refl U.vm
  rw [jsf, hh]
  exact ⟨h1.moved al, h2.moved al, h3, h4.moved al, h5.moved al, fun k hk => (h6 k hk).same hv, h7.moved al, ⟨h8.moved al, h9, h10⟩, h11.moved al, fun w hw => va_Nw.same (jnw_on w hw) hv.symm (h12 w hw)⟩
theorem jcalling_heap (U : State) (g : JFrame) (mk : MethodId) (a : Array Value) : (U.calling g mk a).heap = U.heap := rfl
theorem jcalling_vm (U : State) (g : JFrame) (mk : MethodId) (a : Array Value) : (U.calling g mk a).vm = U.vm := rfl
theorem jsf_calling {ε : jenv} {A : Nat → Prop} {U : State} {g : JFrame} {mk : MethodId} {a : Array Value} (h : jsf ε A U) : jsf ε A (U.calling g mk a) := jsf_same (jcalling_heap U g mk a) (jcalling_vm U g mk a) h
/-- the script in the memory -/
def jscr (ε : jenv) (μ : jm) : Prop := ∀ i, i < eL ε → μ.1 99 i = eX ε i
/-- a method's contract, out of an answer of the plain machine -/
def jPc (ε : jenv) (as : List jv) (μ : jm) (sz : Nat) : Array Value → State → Prop := va_Pc (as.map (jtr ε)) (fun U => U.heap.size = sz ∧ jsf ε (va_A (jpic ε μ) sz) U ∧ va_P (eD ε) vwCl (jpic ε μ) U.heap ∧ va_D (fun _ => True) (jpic ε μ) ∧ jscr ε μ)
def jQc (ε : jenv) (μ : jm) (sz : Nat) (v : Option jv) (μ2 : jm) : Array Value → State → Outcome → State → Prop := fun _ st oc t => oc = .returned (v.map (jtr ε)) ∧ (va_P (eD ε) vwCl (jpic ε μ2) t.heap ∧ (∀ w, v = some w → jok ε w) ∧ jscr ε μ2) ∧ va_F (va_A (jpic ε μ) sz) st t
def jCT (l : Launch) (ε : jenv) (j : Nat) (as : List jv) (μ : jm) (v : Option jv) (μ2 : jm) : Prop := ∀ sz, Met l (yT j) (wsT j) (rmT j) (jPc ε as μ sz) (jQc ε μ sz v μ2) 0 0 (va_A (jpic ε μ) sz)
/-- locals -/
def jlv (ε : jenv) (arr : Array Slot) (n : Nat) (ls : List jv) : Prop := arr.size = n ∧ lv_wf arr ∧ ls.length = n ∧ ∀ (i : Nat) (v : jv), ls[i]? = some v → v = jU ∨ (jok ε v ∧ arr[i]? = some (.val (jtr ε v)))
theorem jcl_len (m : List Nat) : ∀ ls : List jv, (jcl m ls).length = ls.length := by
  induction m with
  | nil => intro ls; rfl
  | cons a r ih => intro ls; show (jcl r (ls.set a jU)).length = _; rw [ih, List.length_set]
theorem jcl_get (m : List Nat) : ∀ (ls : List jv) (i : Nat) (v : jv), (jcl m ls)[i]? = some v → v = jU ∨ ls[i]? = some v := by
  induction m with
  | nil => intro ls i v h; exact Or.inr h
  | cons a r ih =>
    intro ls i v h
    rcases ih (ls.set a jU) i v h with h | h
    · exact Or.inl h
    · rw [List.getElem?_set] at h
      split at h
      · split at h
        · exact Or.inl (Option.some.inj h).symm
        · cases h
      · exact Or.inr h
theorem jlv_cl {ε : jenv} {arr : Array Slot} {n : Nat} {ls : List jv} (m : List Nat) (h : jlv ε arr n ls) : jlv ε arr n (jcl m ls) := by
  refine ⟨h.1, h.2.1, by rw [jcl_len]; exact h.2.2.1, fun i v hv => ?_⟩
  rcases jcl_get m ls i v hv with e | e
  · exact Or.inl e
  · exact h.2.2.2 i v e
/-- the listed values, as the kit lists them -/
def jopt (ε : jenv) : jv → Option Value
  | .inr (.inr (.inr _)) => none
  | v => some (jtr ε v)
def jpl (ε : jenv) (ls : List jv) : List (Nat × Value) := (List.range ls.length).filterMap (fun i => (ls[i]?.bind (jopt ε)).map (fun v => (i, v)))
theorem jopt_some {ε : jenv} {v : jv} (h : v ≠ jU) : jopt ε v = some (jtr ε v) := by
  match v, h with
  | .inl _, _ => rfl
  | .inr (.inl _), _ => rfl
  | .inr (.inr (.inl _)), _ => rfl
  | .inr (.inr (.inr ())), h => exact absurd rfl h
theorem jpl_mem {ε : jenv} {ls : List jv} {i : Nat} {v : jv} (h : ls[i]? = some v) (hv : v ≠ jU) : (i, jtr ε v) ∈ jpl ε ls := by
  have hi : i < ls.length := (List.getElem?_eq_some_iff.mp h).1
  exact List.mem_filterMap.mpr ⟨i, List.mem_range.mpr hi, by rw [h]; show ((jopt ε v).map fun w => (i, w)) = _; rw [jopt_some hv]; rfl⟩
theorem jpl_has {ε : jenv} {arr : Array Slot} {n : Nat} {ls : List jv} (h : jlv ε arr n ls) : lv_has arr n (jpl ε ls) := by
  refine ⟨h.1, h.2.1, fun q hq => ?_⟩
  obtain ⟨i, -, hi⟩ := List.mem_filterMap.mp hq
  cases hv : ls[i]? with
  | none => rw [hv] at hi; cases hi
  | some v =>
    rw [hv] at hi
    by_cases hu : v = jU
    · subst hu; cases hi
    · rw [show ((some v).bind (jopt ε)) = jopt ε v from rfl, jopt_some hu] at hi
      cases hi
      rcases h.2.2.2 i v hv with e | e
      · exact absurd e hu
      · exact e.2
theorem jcat {ε : jenv} {v : jv} (hF : eF ε = .null ∨ ∃ a, eF ε = .ref a) : (jtr ε v).category = jwd v := by
  match v with
  | .inl _ => rfl
  | .inr (.inl _) => rfl
  | .inr (.inr (.inl (t, k))) =>
    show (jtr ε (.inr (.inr (.inl (t, k))))).category = 1
    rw [jtr]
    split
    · rcases hF with e | ⟨a, e⟩ <;> rw [e] <;> rfl
    · split
      · rfl
      · split
        · rfl
        · split
          · rfl
          · split <;> rfl
  | .inr (.inr (.inr _)) => rfl
theorem jst_len : ∀ (ls : List jv) (i : Nat) (v : jv), (jst ls i v).length = ls.length
  | [], _, _ => rfl
  | _ :: r, 0, v => rfl
  | a :: r, i + 1, v => by show ((_ :: jst r i v)).length = _; simp [jst_len r i v]
theorem jst2_len : ∀ (ls : List jv) (i : Nat) (v : jv), (jst2 ls i v).length = ls.length
  | [], _, _ => rfl
  | _ :: [], 0, v => rfl
  | _ :: _ :: r, 0, v => rfl
  | a :: r, i + 1, v => by show ((_ :: jst2 r i v)).length = _; simp [jst2_len r i v]
/-- what a store leaves: the value, or a local that was there and is no long cut in two -/
theorem jst_get : ∀ (ls : List jv) (i : Nat) (v : jv) (p : Nat) (w : jv), (jst ls i v)[p]? = some w → (p = i ∧ w = v) ∨ w = jU ∨ (p ≠ i ∧ ls[p]? = some w ∧ (p + 1 = i → jwd w = 1))
  | [], _, _, p, w, h => by simp [jst] at h
  | a :: r, 0, v, 0, w, h => Or.inl ⟨rfl, (Option.some.inj h).symm⟩
  | a :: r, 0, v, p + 1, w, h => Or.inr (Or.inr ⟨by omega, h, by omega⟩)
  | a :: r, 1, v, 0, w, h => by
    have h : some (jkl a) = some w := h
    match a, h with
    | .inl x, h => exact Or.inr (Or.inr ⟨by omega, h, fun _ => by rw [← Option.some.inj h]; rfl⟩)
    | .inr (.inl x), h => exact Or.inr (Or.inl (Option.some.inj h).symm)
    | .inr (.inr x), h => exact Or.inr (Or.inr ⟨by omega, h, fun _ => by rw [← Option.some.inj h]; rfl⟩)
  | a :: r, i + 2, v, 0, w, h => Or.inr (Or.inr ⟨by omega, h, by omega⟩)
  | a :: r, i + 1, v, p + 1, w, h => by
    have h : (jst r i v)[p]? = some w := by
      cases i <;> exact h
    rcases jst_get r i v p w h with e | e | e
    · exact Or.inl ⟨by omega, e.2⟩
    · exact Or.inr (Or.inl e)
    · exact Or.inr (Or.inr ⟨by omega, e.2.1, fun z => e.2.2 (by omega)⟩)
theorem jst2_get : ∀ (ls : List jv) (i : Nat) (v : jv) (p : Nat) (w : jv), (jst2 ls i v)[p]? = some w → (p = i ∧ w = v) ∨ w = jU ∨ (p ≠ i ∧ p ≠ i + 1 ∧ ls[p]? = some w ∧ (p + 1 = i → jwd w = 1))
  | [], _, _, p, w, h => by simp [jst2] at h
  | a :: r, 0, v, 0, w, h => Or.inl ⟨rfl, (Option.some.inj h).symm⟩
  | a :: [], 0, v, p + 1, w, h => by
    have h : ([] : List jv)[p]? = some w := h
    simp at h
  | a :: b :: r, 0, v, 1, w, h => Or.inr (Or.inl (Option.some.inj h).symm)
  | a :: b :: r, 0, v, p + 2, w, h => Or.inr (Or.inr ⟨by omega, by omega, h, by omega⟩)
  | a :: r, 1, v, 0, w, h => by
    have h : some (jkl a) = some w := h
    match a, h with
    | .inl x, h => exact Or.inr (Or.inr ⟨by omega, by omega, h, fun _ => by rw [← Option.some.inj h]; rfl⟩)
    | .inr (.inl x), h => exact Or.inr (Or.inl (Option.some.inj h).symm)
    | .inr (.inr x), h => exact Or.inr (Or.inr ⟨by omega, by omega, h, fun _ => by rw [← Option.some.inj h]; rfl⟩)
  | a :: r, i + 2, v, 0, w, h => Or.inr (Or.inr ⟨by omega, by omega, h, by omega⟩)
  | a :: r, i + 1, v, p + 1, w, h => by
    have h : (jst2 r i v)[p]? = some w := by
      cases i <;> exact h
    rcases jst2_get r i v p w h with e | e | e
    · exact Or.inl ⟨by omega, e.2⟩
    · exact Or.inr (Or.inl e)
    · exact Or.inr (Or.inr ⟨by omega, by omega, e.2.2.1, fun z => e.2.2.2 (by omega)⟩)
theorem jok_nU {ε : jenv} {v : jv} (h : jok ε v) : v ≠ jU := fun e => by subst e; exact h
theorem jlv_st {ε : jenv} {arr arr' : Array Slot} {n i : Nat} {ls : List jv} {v : jv} (hF : eF ε = .null ∨ ∃ a, eF ε = .ref a) (h : jlv ε arr n ls) (hv : jok ε v) (h' : lv_has arr' n ((i, jtr ε v) :: (jpl ε ls).filter (fun q => !(q.1 == i) && !(q.1 + 1 == i && q.2.category == 2)))) : jlv ε arr' n (jst ls i v) := by
  refine ⟨h'.1, h'.2.1, by rw [jst_len]; exact h.2.2.1, fun p w hw => ?_⟩
  rcases jst_get ls i v p w hw with ⟨rfl, rfl⟩ | e | ⟨e1, e2, e3⟩
  · exact Or.inr ⟨hv, h'.2.2 (p, jtr ε w) List.mem_cons_self⟩
  · exact Or.inl e
  · rcases h.2.2.2 p w e2 with e | ⟨e, -⟩
    · exact Or.inl e
    · refine Or.inr ⟨e, h'.2.2 (p, jtr ε w) (List.mem_cons_of_mem _ (List.mem_filter.mpr ⟨jpl_mem e2 (jok_nU e), ?_⟩))⟩
      have e4 : (jtr ε w).category = jwd w := jcat hF
      by_cases hp : p + 1 = i
      · simp [e1, e4, e3 hp]
      · simp [e1, hp]
theorem jlv_st2 {ε : jenv} {arr arr' : Array Slot} {n i : Nat} {ls : List jv} {v : jv} (hF : eF ε = .null ∨ ∃ a, eF ε = .ref a) (h : jlv ε arr n ls) (hv : jok ε v) (h' : lv_has arr' n ((i, jtr ε v) :: (jpl ε ls).filter (fun q => !(q.1 == i) && (!(q.1 == i + 1) && !(q.1 + 1 == i && q.2.category == 2))))) : jlv ε arr' n (jst2 ls i v) := by
  refine ⟨h'.1, h'.2.1, by rw [jst2_len]; exact h.2.2.1, fun p w hw => ?_⟩
  rcases jst2_get ls i v p w hw with ⟨rfl, rfl⟩ | e | ⟨e1, e2, e3, e5⟩
  · exact Or.inr ⟨hv, h'.2.2 (p, jtr ε w) List.mem_cons_self⟩
  · exact Or.inl e
  · rcases h.2.2.2 p w e3 with e | ⟨e, -⟩
    · exact Or.inl e
    · refine Or.inr ⟨e, h'.2.2 (p, jtr ε w) (List.mem_cons_of_mem _ (List.mem_filter.mpr ⟨jpl_mem e3 (jok_nU e), ?_⟩))⟩
      have e4 : (jtr ε w).category = jwd w := jcat hF
      by_cases hp : p + 1 = i
      · simp [e1, e2, e4, e5 hp]
      · simp [e1, e2, hp]
