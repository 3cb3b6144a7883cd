def R_law : String := "OneNoteLaw"
def lw_P (b : Addr) (xs : List Int32) (args : Array Value) (s : State) : Prop := args = #[.ref b] ∧ s.IntsAt b xs ∧ xs.length ≤ 320 ∧ (Jvm.Cond.and given_1 narrow_1).before args s = true
def lw_Q (_ : Array Value) (s : State) (o : Outcome) (t : State) : Prop := o = .returned (some (.int 1)) ∧ Framed s o t [] 78 3509
def lw_Z (below : List Frame) (a : Array Value) (s : State) : State → Prop := fun t => ∃ o, t.status = .running ∧ Ended t below o ∧ lw_Q a s o t
/-- the law's own end, with 1 on the stack, nothing written that was there before, its room as the claim has it -/
theorem lw_ret {p : Program} {l : Launch} {e : Env} {s : State} {m : MethodId} {below : List Frame} {meth : Method} {c : Code} {b : Nat} (hx : p.tables.exec = Jvm.exec) (hb : c.code = code) (hr : meth.sig.returnType = ret) (hlocks : meth.locks = false) {pc : Nat} {H : Heap} {ls : Array Slot} (hdg : decode code pc = .ok (.ireturn, 1)) : W p l e room_1 s m #[Value.ref b] below meth c H [] 78 3509 (lw_Z below #[Value.ref b] s) (F0 m pc ls [.int 1]) := by
  intro T hT X
  obtain ⟨fs, hret, hrun, hended, hW, hframe⟩ := X.leave (v := some (.int 1)) (hlocks := hlocks) (fun h => by rw [hr] at h; cases h)
  have hmeth' : T.vm.method? m = some meth := X.method'
  refine ⟨T.setFrames fs, ?_, .returned (some (.int 1)), hrun, hended, rfl, ⟨_, rfl⟩, hW, hframe⟩
  jvm_step X.here [X.here.top, hx, hb, hdg, hmeth', hr, ret, narrow_b1]
  (try refine ⟨rfl, ?_⟩); (try refine ⟨rfl, ?_⟩)
  first | (intro acts; rw [hret _ acts rfl rfl rfl]) | rw [hret _ _ rfl rfl rfl]
  exact Steps.refl _
/-- what holds at the law's entry: the machine, the code, the tables' words (any of lw_tbl by 'hts w (by decide +kernel)'), the script of L ints xs at the cell b, what the Statement gives of the start (any of its parts by flat_of_before) -/
def lw_At (p : Program) (s : State) (m : MethodId) (meth : Method) (c : Code) (b L : Nat) (xs : Nat → Int32) : Prop :=
  p.tables.exec = Jvm.exec ∧ c.code = code ∧ meth.sig.returnType = ret ∧ c.maxLocals = 4 ∧ s.vm.findClass R_law = some m.cls ∧ (∀ w ∈ lw_tbl, w.before #[Value.ref b] s = true) ∧ va_X b L xs s s.heap ∧ b < s.heap.size ∧ meth.locks = false ∧ (Jvm.Cond.and given_1 narrow_1).before #[Value.ref b] s = true
/-- the memory with which the law begins its loop -/
def jm0 (xs : Nat → Int32) : jm := (fun a b => if a = 99 then xs b else 0, fun a b => if a = 49 ∧ b = 1 then 1 else if a = 64 ∧ b = 5 then 1 else 0)
def jtm (k : Nat) : Term := .string "OneNote$Text" (jsx k)
/-- what the Statement says of the things outside the cells -/
theorem law_out {s : State} {b L : Nat} {xs : Nat → Int32} (hts : ∀ w ∈ lw_tbl, w.before #[Value.ref b] s = true) (hX : va_X b L xs s s.heap) (hbl : b < s.heap.size) (hgv : (Jvm.Cond.and given_1 narrow_1).before #[Value.ref b] s = true) : ∃ (fB fO : Nat → Nat) (fF : Value) (fN : Nat), ∀ ε : jenv, eB ε = fB → eO ε = fO → eF ε = fF → eN ε = fN → eS ε = b → eL ε = L → eX ε = xs → va_K (eD ε) vwCl (tysJ ε) s → jsf ε (fun q => s.heap.size ≤ q) s := by
  have hg := flat_of_before _ hgv
  have hA : ∀ a : Nat, a < s.heap.size → ¬ (fun q => s.heap.size ≤ q) a := fun a h => Nat.not_le.mpr h
  have hZ1 : va_Z "java/lang/String" "COMPACT_STRINGS" "Z" (.int 1) (fun q => s.heap.size ≤ q) s s.heap := va_Zof (hts _ (List.mem_of_getElem? (i := 517) (by decide +kernel))) (hts _ (List.mem_of_getElem? (i := 78) (by decide +kernel))) (va_eqi (hg _ (by decide +kernel))) hA
  have hZ2 := va_Zqof (C := "jdk/internal/util/Preconditions") (n := "SIOOBE_FORMATTER") (d := "Ljava/util/function/BiFunction;") (A := fun q => s.heap.size ≤ q) (hts _ (List.mem_of_getElem? (i := 533) (by decide +kernel))) (hts _ (List.mem_of_getElem? (i := 80) (by decide +kernel))) (hg _ (by decide +kernel)) hA
  obtain ⟨fF, hF, hZ2⟩ : ∃ fF : Value, (fF = .null ∨ ∃ a, fF = .ref a) ∧ va_Z "jdk/internal/util/Preconditions" "SIOOBE_FORMATTER" "Ljava/util/function/BiFunction;" fF (fun q => s.heap.size ≤ q) s s.heap := by
    rcases hZ2 with h | ⟨t, h⟩
    · exact ⟨.null, Or.inl rfl, h⟩
    · exact ⟨.ref t, Or.inr ⟨t, rfl⟩, h⟩
  have hel : ∀ j : Nat, j < 6 → (Cond.eq (.elem (.static "OneNote$Text" "NUMBERS_OF" "[I") (.int (Int32.ofNat j))) (.int (jnum j))).before #[Value.ref b] s = true := by
    intro j hj
    match j, hj with
    | 0, _ => exact hg _ (by decide +kernel)
    | 1, _ => exact hg _ (by decide +kernel)
    | 2, _ => exact hg _ (by decide +kernel)
    | 3, _ => exact hg _ (by decide +kernel)
    | 4, _ => exact hg _ (by decide +kernel)
    | 5, _ => exact hg _ (by decide +kernel)
  obtain ⟨fN, hN1, hN2⟩ := va_Tof (tm := .static "OneNote$Text" "NUMBERS_OF" "[I") (ty := .int) (N := 6) (f := fun i => .int (jnum i)) (A := fun q => s.heap.size ≤ q) (by decide) (hg _ (by decide +kernel)) (va_eqt (hg _ (by decide +kernel))) (fun j hj => va_eqt (hel j hj)) hA
  have hZ3 : va_Z "OneNote$Text" "NUMBERS_OF" "[I" (.ref fN) (fun q => s.heap.size ≤ q) s s.heap := va_Zref (hts _ (List.mem_of_getElem? (i := 568) (by decide +kernel))) (hts _ (List.mem_of_getElem? (i := 67) (by decide +kernel))) hN1 hA
  have hs6 : ∀ P : Nat → Prop, P 0 → P 1 → P 2 → P 3 → P 4 → P 5 → ∀ i, i < 6 → P i := by
    intro P h0 h1 h2 h3 h4 h5 i hi
    match i, hi with
    | 0, _ => exact h0
    | 1, _ => exact h1
    | 2, _ => exact h2
    | 3, _ => exact h3
    | 4, _ => exact h4
    | 5, _ => exact h5
  obtain ⟨fO, fB, hS, hS2⟩ := vk_Sof (args := #[Value.ref b]) (s := s) (N := 6) (tm := jtm) (len := jwords.map List.length) (byt := jwords) (A := fun q => s.heap.size ≤ q) (by decide)
    (hs6 _ (hg _ (by decide +kernel)) (hg _ (by decide +kernel)) (hg _ (by decide +kernel)) (hg _ (by decide +kernel)) (hg _ (by decide +kernel)) (hg _ (by decide +kernel)))
    (hs6 _ (hg _ (by decide +kernel)) (hg _ (by decide +kernel)) (hg _ (by decide +kernel)) (hg _ (by decide +kernel)) (hg _ (by decide +kernel)) (hg _ (by decide +kernel)))
    (hs6 _ (hg _ (by decide +kernel)) (hg _ (by decide +kernel)) (hg _ (by decide +kernel)) (hg _ (by decide +kernel)) (hg _ (by decide +kernel)) (hg _ (by decide +kernel)))
    (hs6 _ (hg _ (by decide +kernel)) (hg _ (by decide +kernel)) (hg _ (by decide +kernel)) (hg _ (by decide +kernel)) (hg _ (by decide +kernel)) (hg _ (by decide +kernel)))
    (by
      have hh : ∀ i : Nat, i < 6 → ∀ j : Nat, j < (jwords.map List.length).getD i 0 → (Cond.eq (.elem (.field (jtm i) "java/lang/String" "value" "[B") (.int (Int32.ofNat j))) (.int ((jwords.getD i []).getD j 0))) ∈ flatC (Jvm.Cond.and given_1 narrow_1) := by decide +kernel
      exact fun i hi j hj => hg _ (hh i hi j hj))
    (by
      have hh : ∀ i : Nat, i < 6 → ∀ j : Nat, j < 6 → i ≠ j → (Cond.not (Cond.eq (jtm i) (jtm j))) ∈ flatC (Jvm.Cond.and given_1 narrow_1) ∨ (Cond.not (Cond.eq (jtm j) (jtm i))) ∈ flatC (Jvm.Cond.and given_1 narrow_1) := by decide +kernel
      exact fun i j hi hj hne => (hh i hi j hj hne).imp (hg _) (hg _)) hA
  refine ⟨fB, fO, fF, fN, fun ε e1 e2 e3 e4 e5 e6 e7 hK => ?_⟩
  rw [jsf, e1, e2, e3, e4, e5, e6, e7]
  have hwn : ∀ w ∈ nws, w ∈ lw_tbl := by decide +kernel
  refine ⟨hZ1, hZ2, hF, hZ3, hN2, ?_, hS, ⟨hX, hbl, Nat.not_le.mpr hbl⟩, hK, fun w hw => va_Nw.of (jnw_on w hw) (hts w (hwn w hw))⟩
  intro k hk
  have hwk : ∀ k, k < 6 → Cond.stringRef "OneNote$Text" (jsx k) (jtx k) ∈ lw_tbl := by decide +kernel
  exact vk_R.of (hts _ (hwk k hk)) (hS2 k hk)
