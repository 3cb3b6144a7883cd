/-! what an action of the plain machine says of its stack -/
theorem jop2_some {f : Int32 → Int32 → Int32} {ls st : List jv} {μ : jm} {a : ja} (h : jop2 f ls st μ = some a) : ∃ x y r, st = .inl y :: .inl x :: r ∧ a = .inl (none, ls, .inl (f x y) :: r, μ) := by
  unfold jop2 at h
  split at h
  · exact ⟨_, _, _, rfl, (Option.some.inj h).symm⟩
  · cases h
theorem jop2g_some {f : Int32 → Int32 → Int32} {ls st : List jv} {μ : jm} {a : ja} (h : jop2g f ls st μ = some a) : ∃ x y r, st = .inl y :: .inl x :: r ∧ a = .inl (some (decide (¬ y = 0)), ls, .inl (f x y) :: r, μ) := by
  unfold jop2g at h
  split at h
  · exact ⟨_, _, _, rfl, (Option.some.inj h).symm⟩
  · cases h
theorem jop1_some {f : Int32 → Int32} {ls st : List jv} {μ : jm} {a : ja} (h : jop1 f ls st μ = some a) : ∃ x r, st = .inl x :: r ∧ a = .inl (none, ls, .inl (f x) :: r, μ) := by
  unfold jop1 at h
  split at h
  · exact ⟨_, _, rfl, (Option.some.inj h).symm⟩
  · cases h
theorem jlp2_some {f : Int64 → Int64 → Int64} {ls st : List jv} {μ : jm} {a : ja} (h : jlp2 f ls st μ = some a) : ∃ x y r, st = .inr (.inl y) :: .inr (.inl x) :: r ∧ a = .inl (none, ls, .inr (.inl (f x y)) :: r, μ) := by
  unfold jlp2 at h
  split at h
  · exact ⟨_, _, _, rfl, (Option.some.inj h).symm⟩
  · cases h
theorem jlp2g_some {f : Int64 → Int64 → Int64} {ls st : List jv} {μ : jm} {a : ja} (h : jlp2g f ls st μ = some a) : ∃ x y r, st = .inr (.inl y) :: .inr (.inl x) :: r ∧ a = .inl (some (decide (¬ y = 0)), ls, .inr (.inl (f x y)) :: r, μ) := by
  unfold jlp2g at h
  split at h
  · exact ⟨_, _, _, rfl, (Option.some.inj h).symm⟩
  · cases h
theorem jlsh_some {f : Int64 → Int32 → Int64} {ls st : List jv} {μ : jm} {a : ja} (h : jlsh f ls st μ = some a) : ∃ x y r, st = .inl y :: .inr (.inl x) :: r ∧ a = .inl (none, ls, .inr (.inl (f x y)) :: r, μ) := by
  unfold jlsh at h
  split at h
  · exact ⟨_, _, _, rfl, (Option.some.inj h).symm⟩
  · cases h
theorem jif_some {f : Int32 → Bool} {t : Nat} {ls st : List jv} {μ : jm} {a : ja} (h : jif f t ls st μ = some a) : ∃ x r, st = .inl x :: r ∧ a = .inr (.inl (some (f x), t, ls, r, μ)) := by
  unfold jif at h
  split at h
  · exact ⟨_, _, rfl, (Option.some.inj h).symm⟩
  · cases h
theorem jif2_some {f : Int32 → Int32 → Bool} {t : Nat} {ls st : List jv} {μ : jm} {a : ja} (h : jif2 f t ls st μ = some a) : ∃ x y r, st = .inl y :: .inl x :: r ∧ a = .inr (.inl (some (f x y), t, ls, r, μ)) := by
  unfold jif2 at h
  split at h
  · exact ⟨_, _, _, rfl, (Option.some.inj h).symm⟩
  · cases h
theorem jld_0 {ls : List jv} {i : Nat} {st : List jv} {μ : jm} {a : ja} (h : jld ls i st μ 0 = some a) : ∃ x, ls[i]? = some (.inl x) ∧ a = .inl (none, ls, .inl x :: st, μ) := by
  unfold jld at h
  split at h
  · rename_i x hx; exact ⟨x, hx, (Option.some.inj h).symm⟩
  · simp at h
  · simp at h
  · cases h
theorem jld_1 {ls : List jv} {i : Nat} {st : List jv} {μ : jm} {a : ja} (h : jld ls i st μ 1 = some a) : ∃ x, ls[i]? = some (.inr (.inl x)) ∧ a = .inl (none, ls, .inr (.inl x) :: st, μ) := by
  unfold jld at h
  split at h
  · simp at h
  · rename_i x hx; exact ⟨x, hx, (Option.some.inj h).symm⟩
  · simp at h
  · cases h
theorem jld_2 {ls : List jv} {i : Nat} {st : List jv} {μ : jm} {a : ja} (h : jld ls i st μ 2 = some a) : ∃ x, ls[i]? = some (.inr (.inr (.inl x))) ∧ a = .inl (none, ls, .inr (.inr (.inl x)) :: st, μ) := by
  unfold jld at h
  split at h
  · simp at h
  · simp at h
  · rename_i x hx; exact ⟨x, hx, (Option.some.inj h).symm⟩
  · cases h
theorem jsv_0 {ls : List jv} {i : Nat} {st : List jv} {μ : jm} {a : ja} (h : jsv ls i st μ 0 = some a) : ∃ x r, st = .inl x :: r ∧ a = .inl (none, jst ls i (.inl x), r, μ) := by
  unfold jsv at h
  split at h
  · exact ⟨_, _, rfl, (Option.some.inj h).symm⟩
  · simp at h
  · cases h
theorem jsv_1 {ls : List jv} {i : Nat} {st : List jv} {μ : jm} {a : ja} (h : jsv ls i st μ 1 = some a) : ∃ x r, st = .inr (.inl x) :: r ∧ a = .inl (none, jst2 ls i (.inr (.inl x)), r, μ) := by
  unfold jsv at h
  split at h
  · simp at h
  · exact ⟨_, _, rfl, (Option.some.inj h).symm⟩
  · cases h
/-! the worlds, the frame -/
def jinv (ε : jenv) (s : State) (A : Nat → Prop) (H : Heap) (locs : List Loc) (μ : jm) : Prop := va_P (eD ε) vwCl (jpic ε μ) H ∧ va_D A (jpic ε μ) ∧ va_S A s.heap H locs ∧ jscr ε μ
def jctx (p : Program) (s : State) (m : MethodId) (args : Array Value) (c : Code) (ε : jenv) (A : Nat → Prop) (own : String) (b : ByteArray) (mx : Nat) : Prop := p.tables.exec = Jvm.exec ∧ c.code = b ∧ c.maxLocals = mx ∧ s.vm.findClass own = some m.cls ∧ (∀ w ∈ ws0, w.before args s = true) ∧ jsf ε A s ∧ ∀ q, s.heap.size ≤ q → A q
def KW (p : Program) (l : Launch) (e : Env) (R : Room) (s : State) (m : MethodId) (args : Array Value) (below : List Frame) (meth : Method) (c : Code) (cells slots : Nat) (Q : State → Prop) (ε : jenv) (A : Nat → Prop) (mx pc : Nat) (ls st : List jv) (μ : jm) : Prop := ∀ (arr : Array Slot) (H : Heap) (locs : List Loc), jlv ε arr mx ls → (∀ v ∈ st, jok ε v) → jinv ε s A H locs μ → W p l e R s m args below meth c H locs cells slots Q (F0 m pc arr (st.map (jtr ε)))
theorem ok_c {ε : jenv} {v : jv} {st : List jv} (hv : jok ε v) (h : ∀ w ∈ st, jok ε w) : ∀ w ∈ v :: st, jok ε w := fun w hw => (List.mem_cons.mp hw).elim (fun e => e ▸ hv) (h w)
theorem ok_t {ε : jenv} {v : jv} {st : List jv} (h : ∀ w ∈ v :: st, jok ε w) : ∀ w ∈ st, jok ε w := fun w hw => h w (List.mem_cons_of_mem _ hw)
theorem ok_h {ε : jenv} {v : jv} {st : List jv} (h : ∀ w ∈ v :: st, jok ε w) : jok ε v := h v List.mem_cons_self
theorem jin_iff {i : Int32} {n : Nat} : inB i n = true ↔ vp_in i n := by rw [inB, decide_eq_true_iff, vp_in_iff]
/-- a reference to one of the cells -/
theorem jrk_cell {ε : jenv} {t k : Nat} (h : jrk ε t k) (h1 : t ≠ 94) (h2 : t ≠ 95) (h3 : t ≠ 96) (h4 : t ≠ 97) (h5 : t ≠ 98) : k < 78 ∧ shl.getD k 0 = t ∧ jtr ε (.inr (.inr (.inl (t, k)))) = .ref (eA ε k) := by
  have e : k < 78 ∧ shl.getD k 0 = t := by
    rcases h with h | ⟨h, -⟩ | ⟨h, -⟩ | h | ⟨h, -⟩ | h
    · exact absurd h h1
    · exact absurd h h2
    · exact absurd h h3
    · exact absurd h h4
    · exact absurd h h5
    · exact h
  exact ⟨e.1, e.2, by rw [jtr, if_neg h1, if_neg h2, if_neg h3, if_neg h4, if_neg h5]⟩
theorem jdiv {t n : Nat} (h : t / 1000 = n) (hn : 1 ≤ n) : t ≠ 94 ∧ t ≠ 95 ∧ t ≠ 96 ∧ t ≠ 97 ∧ t ≠ 98 := by
  refine ⟨?_, ?_, ?_, ?_, ?_⟩ <;> (intro e; subst e; simp at h; omega)
theorem jce_0 {ε : jenv} {μ : jm} {k t : Nat} (h : t < 1000) : jce ε μ k t = .inr (t, jfs ε μ k 0 (fdl t)) := by
  have e : t / 1000 = 0 := Nat.div_eq_of_lt h
  simp only [jce, e]
theorem jce_1 {ε : jenv} {μ : jm} {k t : Nat} (h : t / 1000 = 1) : jce ε μ k t = .inl (eT ε k, t - 1000, .inl (μ.1 k)) := by simp only [jce, h]
theorem jce_2 {ε : jenv} {μ : jm} {k t : Nat} (h : t / 1000 = 2) : jce ε μ k t = .inl (eT ε k, t - 2000, .inr (.inl (μ.2 k))) := by simp only [jce, h]
theorem jce_3 {ε : jenv} {μ : jm} {k t : Nat} (h : t / 1000 = 3) : jce ε μ k t = .inl (eT ε k, t - 3000, .inl (μ.1 k)) := by simp only [jce, h]
theorem jce_4 {ε : jenv} {μ : jm} {k t : Nat} (h : t / 1000 = 4) : jce ε μ k t = .inl (eT ε k, t - 4000, .inl (μ.1 k)) := by simp only [jce, h]
theorem jfs_at {ε : jenv} {μ : jm} {k : Nat} : ∀ (l : List (Nat × Nat × Nat)) (s i : Nat) (kd tg of : Nat), l[i]? = some (kd, tg, of) → (jfs ε μ k s l)[i]? = some (if kd = 0 then .int (μ.1 k (s + i)) else if kd = 1 then .long (μ.2 k (s + i)) else .ref (eA ε (k + of)))
  | [], s, i, kd, tg, of, h => by simp at h
  | (kd', tg', of') :: r, s, 0, kd, tg, of, h => by
    have e := Option.some.inj (show some (kd', tg', of') = some (kd, tg, of) from h)
    cases e
    rfl
  | (kd', tg', of') :: r, s, i + 1, kd, tg, of, h => by
    have h2 := jfs_at (ε := ε) (μ := μ) (k := k) r (s + 1) i kd tg of h
    have e : s + 1 + i = s + (i + 1) := by omega
    rw [e] at h2
    exact h2
theorem jfs_len {ε : jenv} {μ : jm} {k : Nat} : ∀ (l : List (Nat × Nat × Nat)) (s : Nat), (jfs ε μ k s l).length = l.length
  | [], s => rfl
  | (_, _, _) :: r, s => by show (_ :: jfs ε μ k (s + 1) r).length = _; simp [jfs_len r (s + 1)]
/-- a field written -/
theorem jfs_setI {ε : jenv} {μ : jm} {k sl : Nat} {v : Int32} : ∀ (l : List (Nat × Nat × Nat)) (s i : Nat), sl = s + i → l[i]? = some (0, 0, 0) → (∀ j, j < i → True) → (jfs ε μ k s l).set i (.int v) = jfs ε (sI μ k sl v) k s l
  | [], s, i, _, h, _ => by simp at h
  | (kd, tg, of) :: r, s, 0, hs, h, _ => by
    cases (Option.some.inj (show some (kd, tg, of) = some (0, 0, 0) from h))
    have hs : s = sl := by omega
    subst hs
    have e : ∀ (l : List (Nat × Nat × Nat)) (s2 : Nat), s < s2 → jfs ε (sI μ k s v) k s2 l = jfs ε μ k s2 l := by
      intro l
      induction l with
      | nil => intro s2 _; rfl
      | cons a l ih =>
        intro s2 h2
        obtain ⟨kd, tg, of⟩ := a
        have e1 : (sI μ k s v).1 k s2 = μ.1 k s2 := by
          show (if k = k ∧ s2 = s then v else μ.1 k s2) = _
          rw [if_neg (by omega)]
        have e2 : (sI μ k s v).2 k s2 = μ.2 k s2 := rfl
        simp only [jfs, e1, e2, ih (s2 + 1) (by omega)]
    show Value.int v :: jfs ε μ k (s + 1) r = _
    have e0 : (sI μ k s v).1 k s = v := by
      show (if k = k ∧ s = s then v else μ.1 k s) = v
      rw [if_pos ⟨rfl, rfl⟩]
    simp only [jfs, if_pos, e0, e r (s + 1) (by omega)]
  | (kd, tg, of) :: r, s, i + 1, hs, h, _ => by
    have h2 := jfs_setI (ε := ε) (μ := μ) (k := k) (sl := sl) (v := v) r (s + 1) i (by omega) h (fun _ _ => trivial)
    have e1 : (sI μ k sl v).1 k s = μ.1 k s := by
      show (if k = k ∧ s = sl then v else μ.1 k s) = _
      rw [if_neg (by omega)]
    have e2 : (sI μ k sl v).2 k s = μ.2 k s := rfl
    show _ :: (jfs ε μ k (s + 1) r).set i (.int v) = _
    rw [h2]
    simp only [jfs, e1, e2]
theorem jfs_setL {ε : jenv} {μ : jm} {k sl : Nat} {v : Int64} : ∀ (l : List (Nat × Nat × Nat)) (s i : Nat), sl = s + i → l[i]? = some (1, 0, 0) → (jfs ε μ k s l).set i (.long v) = jfs ε (sL μ k sl v) k s l
  | [], s, i, _, h => by simp at h
  | (kd, tg, of) :: r, s, 0, hs, h => by
    cases (Option.some.inj (show some (kd, tg, of) = some (1, 0, 0) from h))
    have hs : s = sl := by omega
    subst hs
    have e : ∀ (l : List (Nat × Nat × Nat)) (s2 : Nat), s < s2 → jfs ε (sL μ k s v) k s2 l = jfs ε μ k s2 l := by
      intro l
      induction l with
      | nil => intro s2 _; rfl
      | cons a l ih =>
        intro s2 h2
        obtain ⟨kd, tg, of⟩ := a
        have e1 : (sL μ k s v).2 k s2 = μ.2 k s2 := by
          show (if k = k ∧ s2 = s then v else μ.2 k s2) = _
          rw [if_neg (by omega)]
        have e2 : (sL μ k s v).1 k s2 = μ.1 k s2 := rfl
        simp only [jfs, e1, e2, ih (s2 + 1) (by omega)]
    show Value.long v :: jfs ε μ k (s + 1) r = _
    have e0 : (sL μ k s v).2 k s = v := by
      show (if k = k ∧ s = s then v else μ.2 k s) = v
      rw [if_pos ⟨rfl, rfl⟩]
    simp only [jfs, e0, e r (s + 1) (by omega)]
    simp
  | (kd, tg, of) :: r, s, i + 1, hs, h => by
    have h2 := jfs_setL (ε := ε) (μ := μ) (k := k) (sl := sl) (v := v) r (s + 1) i (by omega) h
    have e1 : (sL μ k sl v).2 k s = μ.2 k s := by
      show (if k = k ∧ s = sl then v else μ.2 k s) = _
      rw [if_neg (by omega)]
    have e2 : (sL μ k sl v).1 k s = μ.1 k s := rfl
    show _ :: (jfs ε μ k (s + 1) r).set i (.long v) = _
    rw [h2]
    simp only [jfs, e1, e2]
theorem jscr_sI {ε : jenv} {μ : jm} {k i : Nat} {v : Int32} (h : jscr ε μ) (hk : k < 78) : jscr ε (sI μ k i v) := fun j hj => by
  show (if 99 = k ∧ j = i then v else μ.1 99 j) = _
  rw [if_neg (by omega)]
  exact h j hj
/-- writing: the worlds behind it -/
theorem jinv_I {ε : jenv} {s : State} {A : Nat → Prop} {H H1 : Heap} {locs locs1 : List Loc} {μ : jm} {k i : Nat} {v : Int32} (h : jinv ε s A H locs μ) (hk : k < 78) (e : (jpic ε μ).set k (eA ε k, jce ε (sI μ k i v) k (shl.getD k 0)) = jpic ε (sI μ k i v) := by exact jpic_set ε _ _ (by assumption) (fun a b h => by show (if a = _ ∧ b = _ then _ else _) = _; rw [if_neg (fun z => h z.1)]) (fun _ _ _ => rfl)) (hP : va_P (eD ε) vwCl ((jpic ε μ).set k (eA ε k, jce ε (sI μ k i v) k (shl.getD k 0))) H1) (hS : va_S A s.heap H1 locs1) : jinv ε s A H1 locs1 (sI μ k i v) := ⟨e ▸ hP, jpic_D h.2.1, hS, jscr_sI h.2.2.2 hk⟩
theorem jinv_L {ε : jenv} {s : State} {A : Nat → Prop} {H H1 : Heap} {locs locs1 : List Loc} {μ : jm} {k i : Nat} {v : Int64} (h : jinv ε s A H locs μ) (hk : k < 78) (hP : va_P (eD ε) vwCl ((jpic ε μ).set k (eA ε k, jce ε (sL μ k i v) k (shl.getD k 0))) H1) (hS : va_S A s.heap H1 locs1) : jinv ε s A H1 locs1 (sL μ k i v) := ⟨(jpic_set ε μ (sL μ k i v) hk (fun _ _ _ => rfl) (fun a b h => by show (if a = k ∧ b = i then v else μ.2 a b) = _; rw [if_neg (fun z => h z.1)])) ▸ hP, jpic_D h.2.1, hS, h.2.2.2⟩
theorem jty_n {ε : jenv} {k t n : Nat} {ty : FieldType} (hk : k < 78) (hsh : shl.getD k 0 = t) (ht : t / 1000 = n) (h : jty (1000 * n) = some ty) (hn : n < 6) : ∃ t0 : Nat, (tysJ ε)[t0]? = some (eT ε k, ty) := tys_at hk (by rw [hsh, ← h, jty, jty, ht, Nat.mul_div_cancel_left n (by omega)])
