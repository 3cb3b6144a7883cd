/-! RUNS of the plain machine over the tables pf, mx (04) -/
def jexe : Nat → Nat → jE
  | 0, _ => fun _ _ _ _ => none
  | n + 1, j => jstep (pfT j) (fun j2 as μ => jexe n j2 0 (jen (mxT j2) as) [] μ) (jexe n j)
theorem jexe_succ (n j pc : Nat) (ls st : List jv) (μ : jm) : jexe (n + 1) j pc ls st μ = jstep (pfT j) (fun j2 as μ => jexe n j2 0 (jen (mxT j2) as) [] μ) (jexe n j) pc ls st μ := rfl
theorem jstep_mono {F : List je} {C C' : jC} {E E' : jE} {pc : Nat} {ls st : List jv} {μ : jm} {r : jr} (hC : ∀ a b c r, C a b c = some r → C' a b c = some r) (hE : ∀ a b c d r, E a b c d = some r → E' a b c d = some r) (h : jstep F C E pc ls st μ = some r) : jstep F C' E' pc ls st μ = some r := by
  unfold jstep at h ⊢
  cases hq : jfd pc F with
  | none => rw [hq] at h; exact absurd h (by simp)
  | some q => rw [hq] at h; exact jgo_mono hC hE h
theorem jexe_up : ∀ (n j pc : Nat) (ls st : List jv) (μ : jm) (r : jr), jexe n j pc ls st μ = some r → jexe (n + 1) j pc ls st μ = some r
  | 0, j, pc, ls, st, μ, r, h => by simp [jexe] at h
  | n + 1, j, pc, ls, st, μ, r, h => by
    rw [jexe_succ] at h ⊢
    exact jstep_mono (fun a b c r h => jexe_up n a 0 _ _ c r h) (fun a b c d r h => jexe_up n j a b c d r h) h
theorem jexe_le {n m : Nat} (h : n ≤ m) (j pc : Nat) (ls st : List jv) (μ : jm) (r : jr) (e : jexe n j pc ls st μ = some r) : jexe m j pc ls st μ = some r := by
  induction h with
  | refl => exact e
  | step _ ih => exact jexe_up _ _ _ _ _ _ _ ih
/-- the answer of a run, whatever fuel it takes -/
noncomputable def evj (j pc : Nat) (ls st : List jv) (μ : jm) : Option jr := @dite _ (∃ r n, jexe n j pc ls st μ = some r) (Classical.propDecidable _) (fun h => some (Classical.choose h)) (fun _ => none)
noncomputable def cj (j : Nat) (as : List jv) (μ : jm) : Option jr := evj j 0 (jen (mxT j) as) [] μ
theorem evj_iff {j pc : Nat} {ls st : List jv} {μ : jm} {r : jr} : evj j pc ls st μ = some r ↔ ∃ n, jexe n j pc ls st μ = some r := by
  constructor
  · intro h
    by_cases hx : ∃ r n, jexe n j pc ls st μ = some r
    · rw [evj, dif_pos hx] at h
      have hs := Classical.choose_spec hx
      rw [Option.some.inj h] at hs
      exact hs
    · rw [evj, dif_neg hx] at h
      exact absurd h (by simp)
  · intro ⟨n, h⟩
    have hx : ∃ r n, jexe n j pc ls st μ = some r := ⟨r, n, h⟩
    rw [evj, dif_pos hx]
    obtain ⟨m, hm⟩ := Classical.choose_spec hx
    have h1 := jexe_le (Nat.le_max_left n m) j pc ls st μ r h
    have h2 := jexe_le (Nat.le_max_right n m) j pc ls st μ _ hm
    rw [h1] at h2
    exact congrArg some (Option.some.inj h2).symm
theorem evj_fix (j pc : Nat) (ls st : List jv) (μ : jm) : evj j pc ls st μ = jstep (pfT j) cj (evj j) pc ls st μ := by
  have A : ∀ r, evj j pc ls st μ = some r → jstep (pfT j) cj (evj j) pc ls st μ = some r := by
    intro r h
    obtain ⟨n, hn⟩ := evj_iff.mp h
    cases n with
    | zero => simp [jexe] at hn
    | succ n =>
      rw [jexe_succ] at hn
      exact jstep_mono (fun a b c r h => evj_iff.mpr ⟨n, h⟩) (fun a b c d r h => evj_iff.mpr ⟨n, h⟩) hn
  have B : ∀ r, jstep (pfT j) cj (evj j) pc ls st μ = some r → evj j pc ls st μ = some r := by
    intro r h
    unfold jstep at h
    cases hq : jfd pc (pfT j) with
    | none => rw [hq] at h; exact absurd h (by simp)
    | some q =>
      rw [hq] at h
      obtain ⟨n, hn⟩ := jgo_cont (Cn := fun n j2 as μ => jexe n j2 0 (jen (mxT j2) as) [] μ) (En := fun n => jexe n j) (fun n m a b c r hl => jexe_le hl _ _ _ _ _ _) (fun n m a b c d r hl => jexe_le hl _ _ _ _ _ _) (fun a b c r h => evj_iff.mp h) (fun a b c d r h => evj_iff.mp h) h
      refine evj_iff.mpr ⟨n + 1, ?_⟩
      rw [jexe_succ, jstep, hq]
      exact hn
  cases h1 : jstep (pfT j) cj (evj j) pc ls st μ with
  | some r => exact B r h1
  | none =>
    cases h2 : evj j pc ls st μ with
    | none => rfl
    | some r => rw [A r h2] at h1; exact absurd h1 (by simp)
/-- clearing twice is clearing once -/
theorem jcl_set (m : List Nat) : ∀ (ls : List jv) (i : Nat), jcl m (ls.set i jU) = (jcl m ls).set i jU := by
  induction m with
  | nil => intro ls i; rfl
  | cons a r ih =>
    intro ls i
    show jcl r ((ls.set i jU).set a jU) = (jcl r (ls.set a jU)).set i jU
    rw [← ih]
    congr 1
    by_cases h : i = a
    · subst h; rfl
    · exact List.set_comm _ _ h
theorem jcl_idem (m : List Nat) : ∀ (ls : List jv), jcl m (jcl m ls) = jcl m ls := by
  induction m with
  | nil => intro ls; rfl
  | cons a r ih =>
    intro ls
    show jcl r ((jcl r (ls.set a jU)).set a jU) = jcl r (ls.set a jU)
    rw [jcl_set, ih, ← jcl_set, List.set_set]
def jmk (F : List je) (pc : Nat) : List Nat := match jfd pc F with
  | some q => q.2.1
  | none => []
theorem evj_clear (j pc : Nat) (ls st : List jv) (μ : jm) : evj j pc ls st μ = evj j pc (jcl (jmk (pfT j) pc) ls) st μ := by
  rw [evj_fix, evj_fix j pc (jcl (jmk (pfT j) pc) ls)]
  unfold jstep jmk
  cases hq : jfd pc (pfT j) with
  | none => rfl
  | some q => simp only [jcl_idem]
/-- a run, unrolled n steps or to the next of the cuts -/
noncomputable def jto (F : List je) (j : Nat) (cuts : List Nat) (I : jE) : jE := fun pc ls st μ => match cuts.elem pc with
  | true => evj j pc (jcl (jmk F pc) ls) st μ
  | false => I pc ls st μ
noncomputable def itj (F : List je) (j : Nat) (cuts : List Nat) : Nat → jE
  | 0 => fun pc ls st μ => evj j pc ls st μ
  | n + 1 => fun pc ls st μ => jstep F cj (jto F j cuts (itj F j cuts n)) pc ls st μ
theorem evj_it {F : List je} {j : Nat} (hF : pfT j = F) (cuts : List Nat) : ∀ (n pc : Nat) (ls st : List jv) (μ : jm), evj j pc ls st μ = itj F j cuts n pc ls st μ
  | 0, pc, ls, st, μ => rfl
  | n + 1, pc, ls, st, μ => by
    have e : jto F j cuts (itj F j cuts n) = evj j := by
      funext pc ls st μ
      unfold jto
      cases cuts.elem pc with
      | true => rw [← hF]; exact (evj_clear j pc ls st μ).symm
      | false => exact (evj_it hF cuts n pc ls st μ).symm
    show evj j pc ls st μ = jstep F cj (jto F j cuts (itj F j cuts n)) pc ls st μ
    rw [e, ← hF]
    exact evj_fix j pc ls st μ
/-- the first step of an unrolled run, where the dead locals are clear already -/
def jste (F : List je) (C : jC) (E : jE) (pc : Nat) (ls st : List jv) (μ : jm) : Option jr := match jfd pc F with
  | none => none
  | some q => jgo C E (pc + q.2.2.2.1.headD 0) (jact q ls st μ)
theorem evj_s {F : List je} {j : Nat} (hF : pfT j = F) (cuts : List Nat) (n : Nat) {pc : Nat} {ls st : List jv} {μ : jm} (hc : jcl (jmk F pc) ls = ls) : evj j pc ls st μ = jste F cj (jto F j cuts (itj F j cuts n)) pc ls st μ := by
  rw [evj_it hF cuts (n + 1)]
  show jstep F cj (jto F j cuts (itj F j cuts n)) pc ls st μ = _
  unfold jstep jste
  unfold jmk at hc
  cases hq : jfd pc F with
  | none => rfl
  | some q =>
    rw [hq] at hc
    have hc : jcl q.2.1 ls = ls := hc
    simp only [hc]
theorem cj_it {F : List je} {j : Nat} (hF : pfT j = F) (cuts : List Nat) (n : Nat) (as : List jv) (μ : jm) : cj j as μ = itj F j cuts n 0 (jen (mxT j) as) [] μ := evj_it hF cuts n 0 _ _ _
theorem bI_some {r : Int32} {μ : jm} {k : Int32 → jm → Option jr} : bI (some (some (.inl r), μ)) k = k r μ := rfl
theorem bL_some {r : Int64} {μ : jm} {k : Int64 → jm → Option jr} : bL (some (some (.inr (.inl r)), μ)) k = k r μ := rfl
theorem bV_some {μ : jm} {k : jm → Option jr} : bV (some (none, μ)) k = k μ := rfl
theorem bR_some {r : Nat × Nat} {μ : jm} {k : Nat × Nat → jm → Option jr} : bR (some (some (.inr (.inr (.inl r))), μ)) k = k r μ := rfl
