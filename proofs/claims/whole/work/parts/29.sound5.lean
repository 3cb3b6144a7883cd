/-! ONE STEP, ALL STEPS, A METHOD'S CONTRACT -/
/-- the end of a method: its instruction, its stack, its answer -/
def jrt (i : Instr) (rt : Option FieldType) (st : List Value) (rv : Option Value) : Prop :=
  (i = .ireturn ∧ ∃ (x : Int32) (ty : FieldType), rt = some ty ∧ (ty = .int ∨ ty = .boolean ∨ ty = .byte ∨ ty = .char) ∧ st = [.int x] ∧ rv = some (narrow ty (.int x))) ∨
  (i = .lreturn ∧ ∃ x : Int64, rt = some .long ∧ st = [.long x] ∧ rv = some (.long x)) ∨
  (i = .areturn ∧ ∃ w : Value, rt = some (.object "java/lang/String") ∧ (w = .null ∨ ∃ a, w = .ref a) ∧ st = [w] ∧ rv = some w) ∨
  (i = .return_ ∧ rt = none ∧ st = [] ∧ rv = none)
def jKA (K : Nat → List jv → List jv → jm → Prop) (KC : Nat → List jv → Nat → List jv → List jv → jm → Prop) (KR : jr → Prop) (p2 : Nat) (a : ja) : Prop := match a with
  | .inl (none, ls, st, μ) => K p2 ls st μ
  | .inl (some g, ls, st, μ) => g = true ∧ K p2 ls st μ
  | .inr (.inl (none, t, ls, st, μ)) => K t ls st μ
  | .inr (.inl (some b, t, ls, st, μ)) => (b = true → K t ls st μ) ∧ (b = false → K p2 ls st μ)
  | .inr (.inr (.inl (j, as, rk, ls, st, μ))) => KC j as rk ls st μ
  | .inr (.inr (.inr (.inl (x, tb, d, ls, st, μ)))) => ∀ t, (∀ k : Nat → Option jr, jsw x tb d k = k t) → K t ls st μ
  | .inr (.inr (.inr (.inr r))) => KR r
def jtab (l : Int) (pc : Nat) (o : List Int) (a : Nat) : List (Int32 × Nat) := (o.zipIdx a).map (fun x => (Int32.ofInt (l + (x.2 : Int)), ((pc : Int) + x.1).toNat))
theorem jofI {z : Int} (h1 : -2147483648 ≤ z) (h2 : z < 2147483648) : (Int32.ofInt z).toInt = z := by
  have e : Int32.size = 4294967296 := rfl
  rw [Int32.toInt_ofInt, e]
  exact Int.bmod_eq_of_le (by omega) (by omega)
/-- a switch's table: outside it, and in it -/
theorem jsw_tab (x : Int32) (l : Int) (pc d : Nat) (hl : -2147483648 ≤ l) : ∀ (o : List Int) (a : Nat), l + (a : Int) + (o.length : Int) ≤ 2147483648 → ((x.toInt < l + (a : Int) ∨ l + (a : Int) + (o.length : Int) ≤ x.toInt) → ∀ k : Nat → Option jr, jsw x (jtab l pc o a) d k = k d) ∧ (∀ (n : Nat) (off : Int), o[n]? = some off → x.toInt = l + (a : Int) + (n : Int) → ∀ k : Nat → Option jr, jsw x (jtab l pc o a) d k = k ((pc : Int) + off).toNat)
  | [], a, h => ⟨fun _ k => rfl, fun n off h => by simp at h⟩
  | z :: o, a, h => by
    have hlen : ((z :: o).length : Int) = (o.length : Int) + 1 := by simp
    rw [hlen] at h ⊢
    obtain ⟨i1, i2⟩ := jsw_tab x l pc d hl o (a + 1) (by push_cast; omega)
    have hv : (Int32.ofInt (l + (a : Int))).toInt = l + (a : Int) := jofI (by omega) (by omega)
    have e0 : ∀ k : Nat → Option jr, jsw x (jtab l pc (z :: o) a) d k = jbr (decide (x = Int32.ofInt (l + (a : Int)))) (k ((pc : Int) + z).toNat) (jsw x (jtab l pc o (a + 1)) d k) := fun k => rfl
    refine ⟨fun hx k => ?_, fun n off hn hx k => ?_⟩
    · have hne : ¬ x = Int32.ofInt (l + (a : Int)) := fun e => by rw [e, hv] at hx; omega
      rw [e0, decide_eq_false hne]
      exact i1 (by push_cast; omega) k
    · cases n with
      | zero =>
        have he : x = Int32.ofInt (l + (a : Int)) := Int32.toInt_inj.mp (by rw [hv]; omega)
        rw [e0, decide_eq_true he]
        cases (Option.some.inj (show some z = some off from hn))
        rfl
      | succ n =>
        have hne : ¬ x = Int32.ofInt (l + (a : Int)) := fun e => by rw [e, hv] at hx; omega
        rw [e0, decide_eq_false hne]
        exact i2 n off hn (by push_cast at hx ⊢; omega) k
section SND5
variable {p : Program} {l : Launch} {e : Env} {R : Room} {s : State} {m : MethodId} {args : Array Value} {below : List Frame} {meth : Method} {c : Code} {cells slots : Nat} {Q : State → Prop} {ε : jenv} {A : Nat → Prop} {mx : Nat} {own : String} {b : ByteArray}
theorem k_table {pc len dt : Nat} {d lo hi : Int} {o : Array Int} {ls r : List jv} {x : Int32} {μ : jm} {sw : List (Int32 × Nat)} (C : jctx p s m args c ε A own b mx) (hd : decode b pc = .ok (.tableswitch d lo hi o, len)) (h1 : (pc : Int) + d = (dt : Int)) (h2 : hi = lo + (o.size : Int) - 1) (h3 : -2147483648 ≤ lo) (h4 : hi < 2147483648) (h5 : sw = jtab lo pc o.toList 0) (h6 : ∀ z ∈ o.toList, 0 ≤ (pc : Int) + z) (k : ∀ t, (∀ k : Nat → Option jr, jsw x sw dt k = k t) → KW p l e R s m args below meth c cells slots Q ε A mx t ls r μ) : KW p l e R s m args below meth c cells slots Q ε A mx pc ls (.inl x :: r) μ := fun arr H locs hl hs hi' => by
  obtain ⟨t1, t2⟩ := jsw_tab x lo pc dt h3 o.toList 0 (by simp; omega)
  rw [← h5] at t1 t2
  by_cases hx : x.toInt < lo ∨ hi < x.toInt
  · refine lv_tableOut C.1 C.2.1 hd hx h1 ?_
    exact k dt (t1 (by simp; omega)) arr H locs hl (ok_t hs) hi'
  · have hx1 : ¬ x.toInt < lo := fun z => hx (Or.inl z)
    have hx2 : ¬ hi < x.toInt := fun z => hx (Or.inr z)
    have hlt : (x.toInt - lo).toNat < o.size := by omega
    have ho : o[(x.toInt - lo).toNat]? = some (o[(x.toInt - lo).toNat]) := by simp [hlt]
    have ho2 : o.toList[(x.toInt - lo).toNat]? = some (o[(x.toInt - lo).toNat]) := by rw [Array.getElem?_toList]; exact ho
    have hpos : 0 ≤ (pc : Int) + o[(x.toInt - lo).toNat] := h6 _ (List.mem_of_getElem? ho2)
    refine lv_tableIn (tgt := ((pc : Int) + o[(x.toInt - lo).toNat]).toNat) C.1 C.2.1 hd hx1 hx2 ho (by omega) ?_
    exact k _ (t2 _ _ ho2 (by simp; omega)) arr H locs hl (ok_t hs) hi'
theorem jgf_some {ns : List Nat} {v : Int32} {ls st : List jv} {μ : jm} {a : ja} (h : jgf ns v ls st μ = some a) : ∃ z ci sl kd tg of k0 r w, ns = [z, ci, sl, kd, tg, of] ∧ st = .inr (.inr (.inl (ci, k0))) :: r ∧ a = .inl (none, ls, w :: r, μ) ∧ ((kd = 0 ∧ w = .inl (gI μ k0 sl)) ∨ (kd = 1 ∧ w = .inr (.inl (gL μ k0 sl))) ∨ (kd = 2 ∧ w = .inr (.inr (.inl (tg, k0 + of)))) ∨ (kd = 3 ∧ w = .inr (.inr (.inl (tg, k0)))) ∨ (4 ≤ kd ∧ w = .inl v)) := by
  unfold jgf at h
  split at h
  · rename_i z ci sl kd tg of cc k0 r
    split at h
    · rename_i hc
      have hc : cc = ci := Nat.eq_of_beq_eq_true hc
      subst hc
      match kd, h with
      | 0, h => exact ⟨z, cc, sl, 0, tg, of, k0, r, _, rfl, rfl, (Option.some.inj h).symm, Or.inl ⟨rfl, rfl⟩⟩
      | 1, h => exact ⟨z, cc, sl, 1, tg, of, k0, r, _, rfl, rfl, (Option.some.inj h).symm, Or.inr (Or.inl ⟨rfl, rfl⟩)⟩
      | 2, h => exact ⟨z, cc, sl, 2, tg, of, k0, r, _, rfl, rfl, (Option.some.inj h).symm, Or.inr (Or.inr (Or.inl ⟨rfl, rfl⟩))⟩
      | 3, h => exact ⟨z, cc, sl, 3, tg, of, k0, r, _, rfl, rfl, (Option.some.inj h).symm, Or.inr (Or.inr (Or.inr (Or.inl ⟨rfl, rfl⟩)))⟩
      | n + 4, h => exact ⟨z, cc, sl, n + 4, tg, of, k0, r, _, rfl, rfl, (Option.some.inj h).symm, Or.inr (Or.inr (Or.inr (Or.inr ⟨by omega, rfl⟩)))⟩
    · cases h
  · cases h
theorem jpf_some {ns : List Nat} {ls st : List jv} {μ : jm} {a : ja} (h : jpf ns ls st μ = some a) : ∃ z ci sl k0 r, (∃ x, ns = [z, ci, sl, 0] ∧ st = .inl x :: .inr (.inr (.inl (ci, k0))) :: r ∧ a = .inl (none, ls, r, sI μ k0 sl x)) ∨ (∃ x, ns = [z, ci, sl, 1] ∧ st = .inr (.inl x) :: .inr (.inr (.inl (ci, k0))) :: r ∧ a = .inl (none, ls, r, sL μ k0 sl x)) := by
  unfold jpf at h
  split at h
  · rename_i z ci sl kd x cc k0 r
    split at h
    · rename_i hc
      rw [Bool.and_eq_true] at hc
      have h1 : cc = ci := Nat.eq_of_beq_eq_true hc.1
      have h2 : kd = 0 := Nat.eq_of_beq_eq_true hc.2
      subst h1; subst h2
      exact ⟨z, cc, sl, k0, r, Or.inl ⟨x, rfl, rfl, (Option.some.inj h).symm⟩⟩
    · cases h
  · rename_i z ci sl kd x cc k0 r
    split at h
    · rename_i hc
      rw [Bool.and_eq_true] at hc
      have h1 : cc = ci := Nat.eq_of_beq_eq_true hc.1
      have h2 : kd = 1 := Nat.eq_of_beq_eq_true hc.2
      subst h1; subst h2
      exact ⟨z, cc, sl, k0, r, Or.inr ⟨x, rfl, rfl, (Option.some.inj h).symm⟩⟩
    · cases h
  · cases h
theorem jiald_some {ls st : List jv} {μ : jm} {a : ja} (h : jiald ls st μ = some a) : ∃ x t k0 r, st = .inl x :: .inr (.inr (.inl (t, k0))) :: r ∧ ((t = 96 ∧ a = .inl (some (inB x k0), ls, .inl (gI μ 99 (ix x)) :: r, μ)) ∨ (t = 97 ∧ a = .inl (some (inB x 6), ls, .inl (jnum (ix x)) :: r, μ)) ∨ (t / 1000 = 1 ∧ a = .inl (some (inB x (t - 1000)), ls, .inl (gI μ k0 (ix x)) :: r, μ))) := by
  unfold jiald at h
  split at h
  · rename_i x t k0 r
    refine ⟨x, t, k0, r, rfl, ?_⟩
    split at h
    · rename_i hc; exact Or.inl ⟨Nat.eq_of_beq_eq_true hc, (Option.some.inj h).symm⟩
    · split at h
      · rename_i hc; exact Or.inr (Or.inl ⟨Nat.eq_of_beq_eq_true hc, (Option.some.inj h).symm⟩)
      · split at h
        · rename_i hc; exact Or.inr (Or.inr ⟨Nat.eq_of_beq_eq_true hc, (Option.some.inj h).symm⟩)
        · cases h
  · cases h
theorem jbald_some {ls st : List jv} {μ : jm} {a : ja} (h : jbald ls st μ = some a) : ∃ x t k0 r, st = .inl x :: .inr (.inr (.inl (t, k0))) :: r ∧ ((t = 95 ∧ a = .inl (some (inB x (jwl k0)), ls, .inl (jwb k0 (ix x)) :: r, μ)) ∨ (t / 1000 = 3 ∧ a = .inl (some (inB x (t - 3000)), ls, .inl (gI μ k0 (ix x)) :: r, μ)) ∨ (t / 1000 = 4 ∧ a = .inl (some (inB x (t - 4000)), ls, .inl (gI μ k0 (ix x)) :: r, μ))) := by
  unfold jbald at h
  split at h
  · rename_i x t k0 r
    refine ⟨x, t, k0, r, rfl, ?_⟩
    split at h
    · rename_i hc; exact Or.inl ⟨Nat.eq_of_beq_eq_true hc, (Option.some.inj h).symm⟩
    · split at h
      · rename_i hc; exact Or.inr (Or.inl ⟨Nat.eq_of_beq_eq_true hc, (Option.some.inj h).symm⟩)
      · split at h
        · rename_i hc; exact Or.inr (Or.inr ⟨Nat.eq_of_beq_eq_true hc, (Option.some.inj h).symm⟩)
        · cases h
  · cases h
theorem jlald_some {ls st : List jv} {μ : jm} {a : ja} (h : jlald ls st μ = some a) : ∃ x t k0 r, st = .inl x :: .inr (.inr (.inl (t, k0))) :: r ∧ t / 1000 = 2 ∧ a = .inl (some (inB x (t - 2000)), ls, .inr (.inl (gL μ k0 (ix x))) :: r, μ) := by
  unfold jlald at h
  split at h
  · rename_i x t k0 r
    split at h
    · rename_i hc; exact ⟨x, t, k0, r, rfl, Nat.eq_of_beq_eq_true hc, (Option.some.inj h).symm⟩
    · cases h
  · cases h
theorem jaald_some {ls st : List jv} {μ : jm} {a : ja} (h : jaald ls st μ = some a) : ∃ x k0 r, st = .inl x :: .inr (.inr (.inl (5002, k0))) :: r ∧ a = .inl (some (inB x 2), ls, .inr (.inr (.inl (8, k0 + 1 + 11 * ix x))) :: r, μ) := by
  unfold jaald at h
  split at h
  · rename_i x t k0 r
    split at h
    · rename_i hc
      have e : t = 5002 := Nat.eq_of_beq_eq_true hc
      subst e
      exact ⟨x, k0, r, rfl, (Option.some.inj h).symm⟩
    · cases h
  · cases h
theorem jalen_some {ls st : List jv} {μ : jm} {a : ja} (h : jalen ls st μ = some a) : ∃ t k0 r v, st = .inr (.inr (.inl (t, k0))) :: r ∧ a = .inl (none, ls, .inl v :: r, μ) ∧ ((t = 96 ∧ v = nI k0) ∨ (t = 95 ∧ v = nI (jwl k0)) ∨ (t / 1000 = 1 ∧ v = nI (t - 1000)) ∨ (t / 1000 = 2 ∧ v = nI (t - 2000))) := by
  unfold jalen at h
  split at h
  · rename_i t k0 r
    split at h
    · rename_i hc; exact ⟨t, k0, r, _, rfl, (Option.some.inj h).symm, Or.inl ⟨Nat.eq_of_beq_eq_true hc, rfl⟩⟩
    · split at h
      · rename_i hc; exact ⟨t, k0, r, _, rfl, (Option.some.inj h).symm, Or.inr (Or.inl ⟨Nat.eq_of_beq_eq_true hc, rfl⟩)⟩
      · split at h
        · rename_i hc; exact ⟨t, k0, r, _, rfl, (Option.some.inj h).symm, Or.inr (Or.inr (Or.inl ⟨Nat.eq_of_beq_eq_true hc, rfl⟩))⟩
        · split at h
          · rename_i hc; exact ⟨t, k0, r, _, rfl, (Option.some.inj h).symm, Or.inr (Or.inr (Or.inr ⟨Nat.eq_of_beq_eq_true hc, rfl⟩))⟩
          · cases h
  · cases h
theorem jiast_some {ls st : List jv} {μ : jm} {a : ja} (h : jiast ls st μ = some a) : ∃ v x t k0 r, st = .inl v :: .inl x :: .inr (.inr (.inl (t, k0))) :: r ∧ t / 1000 = 1 ∧ a = .inl (some (inB x (t - 1000)), ls, r, sI μ k0 (ix x) v) := by
  unfold jiast at h
  split at h
  · rename_i v x t k0 r
    split at h
    · rename_i hc; exact ⟨v, x, t, k0, r, rfl, Nat.eq_of_beq_eq_true hc, (Option.some.inj h).symm⟩
    · cases h
  · cases h
theorem jbast_some {ls st : List jv} {μ : jm} {a : ja} (h : jbast ls st μ = some a) : ∃ v x t k0 r, st = .inl v :: .inl x :: .inr (.inr (.inl (t, k0))) :: r ∧ ((t / 1000 = 3 ∧ a = .inl (some (inB x (t - 3000)), ls, r, sI μ k0 (ix x) v.toInt8.toInt32)) ∨ (t / 1000 = 4 ∧ a = .inl (some (inB x (t - 4000)), ls, r, sI μ k0 (ix x) (v &&& 1)))) := by
  unfold jbast at h
  split at h
  · rename_i v x t k0 r
    split at h
    · rename_i hc; exact ⟨v, x, t, k0, r, rfl, Or.inl ⟨Nat.eq_of_beq_eq_true hc, (Option.some.inj h).symm⟩⟩
    · split at h
      · rename_i hc; exact ⟨v, x, t, k0, r, rfl, Or.inr ⟨Nat.eq_of_beq_eq_true hc, (Option.some.inj h).symm⟩⟩
      · cases h
  · cases h
theorem jlast_some {ls st : List jv} {μ : jm} {a : ja} (h : jlast ls st μ = some a) : ∃ v x t k0 r, st = .inr (.inl v) :: .inl x :: .inr (.inr (.inl (t, k0))) :: r ∧ t / 1000 = 2 ∧ a = .inl (some (inB x (t - 2000)), ls, r, sL μ k0 (ix x) v) := by
  unfold jlast at h
  split at h
  · rename_i v x t k0 r
    split at h
    · rename_i hc; exact ⟨v, x, t, k0, r, rfl, Nat.eq_of_beq_eq_true hc, (Option.some.inj h).symm⟩
    · cases h
  · cases h
theorem jcpy_some {ls st : List jv} {μ : jm} {a : ja} (h : jcpy ls st μ = some a) : ∃ n dp t1 k1 sp t0 k0 r, st = .inl n :: .inl dp :: .inr (.inr (.inl (t1, k1))) :: .inl sp :: .inr (.inr (.inl (t0, k0))) :: r ∧ t0 / 1000 = 1 ∧ t1 / 1000 = 1 ∧ jws r ≤ 8 ∧ a = .inl (some (jcg sp dp n (t0 - 1000) (t1 - 1000)), ls, r, cpI μ k0 (ix sp) k1 (ix dp) (ix n)) := by
  unfold jcpy at h
  split at h
  · rename_i n dp t1 k1 sp t0 k0 r
    split at h
    · rename_i hc
      rw [Bool.and_eq_true, Bool.and_eq_true] at hc
      exact ⟨n, dp, t1, k1, sp, t0, k0, r, rfl, Nat.eq_of_beq_eq_true hc.1.1, Nat.eq_of_beq_eq_true hc.1.2, Nat.le_of_ble_eq_true hc.2, (Option.some.inj h).symm⟩
    · cases h
  · cases h
theorem jmin_some {ls st : List jv} {μ : jm} {a : ja} (h : jmin ls st μ = some a) : ∃ x y r, st = .inl y :: .inl x :: r ∧ jws r ≤ 8 ∧ a = .inl (none, ls, .inl (if y < x then y else x) :: r, μ) := by
  unfold jmin at h
  split at h
  · rename_i y x r
    split at h
    · rename_i hc; exact ⟨x, y, r, rfl, Nat.le_of_ble_eq_true hc, (Option.some.inj h).symm⟩
    · cases h
  · cases h
theorem jcal_some {j n rk m2 tg : Nat} {ls st : List jv} {μ : jm} {a : ja} (h : jcal j n rk m2 tg ls st μ = some a) : jws (st.drop n) ≤ 8 ∧ n ≤ st.length ∧ (jex (st.take n).reverse).length ≤ m2 ∧ jrv tg (st.take n).reverse = true ∧ a = .inr (.inr (.inl (j, (st.take n).reverse, rk, ls, st.drop n, μ))) := by
  unfold jcal at h
  split at h
  · rename_i hc
    rw [Bool.and_eq_true, Bool.and_eq_true, Bool.and_eq_true] at hc
    exact ⟨Nat.le_of_ble_eq_true hc.1, Nat.le_of_ble_eq_true hc.2.1, Nat.le_of_ble_eq_true hc.2.2.1, hc.2.2.2, (Option.some.inj h).symm⟩
  · cases h
end SND5
