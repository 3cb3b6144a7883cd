/-! inversions of the single instructions -/
theorem jn_s {a : ja} (h : (none : Option ja) = some a) : False := by cases h
section INV
variable {pc : Nat} {mk : List Nat} {ns : List Nat} {v : Int32} {w : Int64} {sw : List (Int32 × Nat)} {ls st : List jv} {μ : jm} {a : ja}
theorem ja_i2l (h : jact (pc, mk, .i2l, ns, v, w, sw) ls st μ = some a) : ∃ x r, st = .inl x :: r ∧ a = .inl (none, ls, .inr (.inl x.toInt64) :: r, μ) := by
  match st, h with
  | .inl x :: r, h => exact ⟨x, r, rfl, (Option.some.inj h).symm⟩
  | [], h => exact (jn_s h).elim
  | .inr x :: r, h => exact (jn_s h).elim
theorem ja_l2i (h : jact (pc, mk, .l2i, ns, v, w, sw) ls st μ = some a) : ∃ x r, st = .inr (.inl x) :: r ∧ a = .inl (none, ls, .inl x.toInt32 :: r, μ) := by
  match st, h with
  | .inr (.inl x) :: r, h => exact ⟨x, r, rfl, (Option.some.inj h).symm⟩
  | [], h => exact (jn_s h).elim
  | .inl x :: r, h => exact (jn_s h).elim
  | .inr (.inr x) :: r, h => exact (jn_s h).elim
theorem ja_lcmp (h : jact (pc, mk, .lcmp, ns, v, w, sw) ls st μ = some a) : ∃ x y r, st = .inr (.inl y) :: .inr (.inl x) :: r ∧ a = .inl (none, ls, .inl (lg_cmp x y) :: r, μ) := by
  match st, h with
  | .inr (.inl y) :: .inr (.inl x) :: r, h => exact ⟨x, y, r, rfl, (Option.some.inj h).symm⟩
  | [], h => exact (jn_s h).elim
  | .inl x :: r, h => exact (jn_s h).elim
  | .inr (.inr x) :: r, h => exact (jn_s h).elim
  | .inr (.inl y) :: [], h => exact (jn_s h).elim
  | .inr (.inl y) :: .inl x :: r, h => exact (jn_s h).elim
  | .inr (.inl y) :: .inr (.inr x) :: r, h => exact (jn_s h).elim
theorem ja_dup (h : jact (pc, mk, .dup, ns, v, w, sw) ls st μ = some a) : (∃ x r, st = .inl x :: r ∧ a = .inl (none, ls, .inl x :: .inl x :: r, μ)) ∨ ∃ x r, st = .inr (.inr (.inl x)) :: r ∧ a = .inl (none, ls, .inr (.inr (.inl x)) :: .inr (.inr (.inl x)) :: r, μ) := by
  match st, h with
  | .inl x :: r, h => exact Or.inl ⟨x, r, rfl, (Option.some.inj h).symm⟩
  | .inr (.inr (.inl x)) :: r, h => exact Or.inr ⟨x, r, rfl, (Option.some.inj h).symm⟩
  | [], h => exact (jn_s h).elim
  | .inr (.inl x) :: r, h => exact (jn_s h).elim
  | .inr (.inr (.inr x)) :: r, h => exact (jn_s h).elim
theorem ja_dup2 (h : jact (pc, mk, .dup2, ns, v, w, sw) ls st μ = some a) : ∃ x y r, st = .inl y :: .inr (.inr (.inl x)) :: r ∧ a = .inl (none, ls, .inl y :: .inr (.inr (.inl x)) :: .inl y :: .inr (.inr (.inl x)) :: r, μ) := by
  match st, h with
  | .inl y :: .inr (.inr (.inl x)) :: r, h => exact ⟨x, y, r, rfl, (Option.some.inj h).symm⟩
  | [], h => exact (jn_s h).elim
  | .inr x :: r, h => exact (jn_s h).elim
  | .inl y :: [], h => exact (jn_s h).elim
  | .inl y :: .inl x :: r, h => exact (jn_s h).elim
  | .inl y :: .inr (.inl x) :: r, h => exact (jn_s h).elim
  | .inl y :: .inr (.inr (.inr x)) :: r, h => exact (jn_s h).elim
theorem ja_pop (h : jact (pc, mk, .pop, ns, v, w, sw) ls st μ = some a) : ∃ x r, st = .inl x :: r ∧ a = .inl (none, ls, r, μ) := by
  match st, h with
  | .inl x :: r, h => exact ⟨x, r, rfl, (Option.some.inj h).symm⟩
  | [], h => exact (jn_s h).elim
  | .inr x :: r, h => exact (jn_s h).elim
theorem ja_table {d0 lo hi : Int} {o : Array Int} (h : jact (pc, mk, .tableswitch d0 lo hi o, ns, v, w, sw) ls st μ = some a) : ∃ x r, st = .inl x :: r ∧ a = .inr (.inr (.inr (.inl (x, sw, jtg ns, ls, r, μ)))) := by
  match st, h with
  | .inl x :: r, h => exact ⟨x, r, rfl, (Option.some.inj h).symm⟩
  | [], h => exact (jn_s h).elim
  | .inr x :: r, h => exact (jn_s h).elim
theorem ja_lret (h : jact (pc, mk, .lreturn, ns, v, w, sw) ls st μ = some a) : ∃ x, st = [.inr (.inl x)] ∧ a = .inr (.inr (.inr (.inr (some (.inr (.inl x)), μ)))) := by
  match st, h with
  | [.inr (.inl x)], h => exact ⟨x, rfl, (Option.some.inj h).symm⟩
  | [], h => exact (jn_s h).elim
  | [.inl x], h => exact (jn_s h).elim
  | [.inr (.inr x)], h => exact (jn_s h).elim
  | .inl x :: y :: r, h => exact (jn_s h).elim
  | .inr (.inl x) :: y :: r, h => exact (jn_s h).elim
  | .inr (.inr x) :: y :: r, h => exact (jn_s h).elim
theorem ja_aret (h : jact (pc, mk, .areturn, ns, v, w, sw) ls st μ = some a) : ∃ x, st = [.inr (.inr (.inl x))] ∧ a = .inr (.inr (.inr (.inr (some (.inr (.inr (.inl x))), μ)))) := by
  match st, h with
  | [.inr (.inr (.inl x))], h => exact ⟨x, rfl, (Option.some.inj h).symm⟩
  | [], h => exact (jn_s h).elim
  | [.inl x], h => exact (jn_s h).elim
  | [.inr (.inl x)], h => exact (jn_s h).elim
  | [.inr (.inr (.inr x))], h => exact (jn_s h).elim
  | .inl x :: y :: r, h => exact (jn_s h).elim
  | .inr (.inl x) :: y :: r, h => exact (jn_s h).elim
  | .inr (.inr (.inl x)) :: y :: r, h => exact (jn_s h).elim
  | .inr (.inr (.inr x)) :: y :: r, h => exact (jn_s h).elim
theorem ja_vret (h : jact (pc, mk, .return_, ns, v, w, sw) ls st μ = some a) : st = [] ∧ a = .inr (.inr (.inr (.inr (none, μ)))) := by
  match st, h with
  | [], h => exact ⟨rfl, (Option.some.inj h).symm⟩
  | x :: r, h => exact (jn_s h).elim
theorem ja_iinc {i : Nat} {n : Int} (h : jact (pc, mk, .iinc i n, ns, v, w, sw) ls st μ = some a) : ∃ x, ls[i]? = some (.inl x) ∧ a = .inl (none, jst ls i (.inl (x + v)), st, μ) := by
  simp only [jact] at h
  split at h
  · rename_i x hx
    exact ⟨x, hx, (Option.some.inj h).symm⟩
  · exact (jn_s h).elim
theorem jwo_get {own : String} {i z ci sl kd tg of : Nat} (h98 : ¬ ci = 98) (h : jwo own (pc, mk, .getfield i, [z, ci, sl, kd, tg, of], v, w, sw)) : jwf own i ci sl := by
  simp only [jwo] at h
  split at h
  · rename_i he; simp at he; exact absurd he.2.1 h98
  · rename_i he; simp at he; exact absurd he.2.1 h98
  · rename_i he; simp at he; obtain ⟨-, rfl, rfl, -⟩ := he; exact h
  · rename_i he; exact absurd rfl (he _ _ _ _ _ _)
variable {mx fr lo : Nat} {rt : Option FieldType}
theorem jb_f {P : Prop} (h : false = true) : P := Bool.noConfusion h
theorem jr_0 {z : Nat} (h : jck2 mx rt fr lo (pc, mk, .ireturn, [z, 0], v, w, sw) = true) : rt = some .int := by
  cases rt with
  | none => exact jb_f h
  | some ty => cases ty <;> first | rfl | exact jb_f h
theorem jr_1 {z : Nat} (h : jck2 mx rt fr lo (pc, mk, .ireturn, [z, 1], v, w, sw) = true) : rt = some .boolean := by
  cases rt with
  | none => exact jb_f h
  | some ty => cases ty <;> first | rfl | exact jb_f h
theorem jr_2 {z : Nat} (h : jck2 mx rt fr lo (pc, mk, .ireturn, [z, 2], v, w, sw) = true) : rt = some .byte := by
  cases rt with
  | none => exact jb_f h
  | some ty => cases ty <;> first | rfl | exact jb_f h
theorem jr_3 {z : Nat} (h : jck2 mx rt fr lo (pc, mk, .ireturn, [z, 3], v, w, sw) = true) : rt = some .char := by
  cases rt with
  | none => exact jb_f h
  | some ty => cases ty <;> first | rfl | exact jb_f h
theorem ja_iret (h : jact (pc, mk, .ireturn, ns, v, w, sw) ls st μ = some a) : ∃ z x, st = [.inl x] ∧ ((ns = [z, 0] ∧ a = .inr (.inr (.inr (.inr (some (.inl x), μ))))) ∨ (ns = [z, 1] ∧ a = .inr (.inr (.inr (.inr (some (.inl (x &&& 1)), μ))))) ∨ (ns = [z, 2] ∧ a = .inr (.inr (.inr (.inr (some (.inl x.toInt8.toInt32), μ))))) ∨ (ns = [z, 3] ∧ a = .inr (.inr (.inr (.inr (some (.inl (x.toUInt32 % 65536).toInt32), μ)))))) := by
  have h : jret ns st μ = some a := h
  unfold jret at h
  split at h
  · exact ⟨_, _, rfl, Or.inl ⟨rfl, (Option.some.inj h).symm⟩⟩
  · exact ⟨_, _, rfl, Or.inr (Or.inl ⟨rfl, (Option.some.inj h).symm⟩)⟩
  · exact ⟨_, _, rfl, Or.inr (Or.inr (Or.inl ⟨rfl, (Option.some.inj h).symm⟩))⟩
  · exact ⟨_, _, rfl, Or.inr (Or.inr (Or.inr ⟨rfl, (Option.some.inj h).symm⟩))⟩
  · cases h
theorem ja_inv (h : jiv ns ls st μ = some a) : (∃ z j n rk m2 tg, ns = [z, j, n, rk, m2, tg] ∧ jcal j n rk m2 tg ls st μ = some a) ∨ (∃ z y, ns = [z, y] ∧ jcpy ls st μ = some a) ∨ ∃ z y x, ns = [z, y, x] ∧ jmin ls st μ = some a := by
  unfold jiv at h
  split at h
  · exact Or.inl ⟨_, _, _, _, _, _, rfl, h⟩
  · exact Or.inr (Or.inl ⟨_, _, rfl, h⟩)
  · exact Or.inr (Or.inr ⟨_, _, _, rfl, h⟩)
  · cases h
theorem ja_gs (h : jgs ns v ls st μ = some a) : ∃ z, (ns = [z, 0] ∧ a = .inl (none, ls, .inl v :: st, μ)) ∨ (ns = [z, 1] ∧ a = .inl (none, ls, .inr (.inr (.inl (94, 0))) :: st, μ)) ∨ (ns = [z, 2] ∧ a = .inl (none, ls, .inr (.inr (.inl (97, 0))) :: st, μ)) := by
  unfold jgs at h
  split at h
  · exact ⟨_, Or.inl ⟨rfl, (Option.some.inj h).symm⟩⟩
  · exact ⟨_, Or.inr (Or.inl ⟨rfl, (Option.some.inj h).symm⟩)⟩
  · exact ⟨_, Or.inr (Or.inr ⟨rfl, (Option.some.inj h).symm⟩)⟩
  · cases h
end INV
