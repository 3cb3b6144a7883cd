/-! one instruction of the plain machine, as the machine does it -/
section SND
variable {p : Program} {l : Launch} {e : Env} {R : Room} {s : State} {m : MethodId} {args : Array Value} {below : List Frame} {meth : Method} {c : Code} {cells slots : Nat} {Q : State → Prop} {ε : jenv} {A : Nat → Prop} {mx : Nat} {own : String} {b : ByteArray}
/-- clearing locals loses nothing -/
theorem k_clear {pc : Nat} {ls st : List jv} {μ : jm} (mk : List Nat) (k : KW p l e R s m args below meth c cells slots Q ε A mx pc (jcl mk ls) st μ) : KW p l e R s m args below meth c cells slots Q ε A mx pc ls st μ := fun arr H locs hl hs hi => k arr H locs (jlv_cl mk hl) hs hi
theorem k_lget {arr : Array Slot} {ls : List jv} {i : Nat} {v : jv} (hl : jlv ε arr mx ls) (h : ls[i]? = some v) (hv : v ≠ jU) : jok ε v ∧ arr[i]? = some (.val (jtr ε v)) := (hl.2.2.2 i v h).resolve_left hv
theorem k_istore {pc i : Nat} {ls r : List jv} {x : Int32} {μ : jm} (C : jctx p s m args c ε A own b mx) (hn : i < mx) (hd : decode b pc = .ok (.istore i, 2)) (k : KW p l e R s m args below meth c cells slots Q ε A mx (pc + 2) (jst ls i (.inl x)) r μ) : KW p l e R s m args below meth c cells slots Q ε A mx pc ls (.inl x :: r) μ := fun arr H locs hl hs hi =>
  lv_istore C.1 C.2.1 hd (jpl_has hl) hn rfl (fun arr' h' => k arr' H locs (jlv_st (v := .inl x) C.2.2.2.2.2.1.2.2.1 hl trivial h') (ok_t hs) hi)
theorem k_istore_n {pc : Nat} {i : Fin 4} {ls r : List jv} {x : Int32} {μ : jm} (C : jctx p s m args c ε A own b mx) (hn : i.val < mx) (hd : decode b pc = .ok (.istore_n i, 1)) (k : KW p l e R s m args below meth c cells slots Q ε A mx (pc + 1) (jst ls i.val (.inl x)) r μ) : KW p l e R s m args below meth c cells slots Q ε A mx pc ls (.inl x :: r) μ := fun arr H locs hl hs hi =>
  lv_istore_n C.1 C.2.1 hd rfl (jpl_has hl) hn rfl (fun arr' h' => k arr' H locs (jlv_st (v := .inl x) C.2.2.2.2.2.1.2.2.1 hl trivial h') (ok_t hs) hi)
theorem k_lstore {pc i : Nat} {ls r : List jv} {x : Int64} {μ : jm} (C : jctx p s m args c ε A own b mx) (hn : i + 1 < mx) (hd : decode b pc = .ok (.lstore i, 2)) (k : KW p l e R s m args below meth c cells slots Q ε A mx (pc + 2) (jst2 ls i (.inr (.inl x))) r μ) : KW p l e R s m args below meth c cells slots Q ε A mx pc ls (.inr (.inl x) :: r) μ := fun arr H locs hl hs hi =>
  lv_lstore C.1 C.2.1 hd (jpl_has hl) hn rfl (fun arr' h' => k arr' H locs (jlv_st2 (v := .inr (.inl x)) C.2.2.2.2.2.1.2.2.1 hl trivial h') (ok_t hs) hi)
theorem k_lstore_n {pc : Nat} {i : Fin 4} {ls r : List jv} {x : Int64} {μ : jm} (C : jctx p s m args c ε A own b mx) (hn : i.val + 1 < mx) (hd : decode b pc = .ok (.lstore_n i, 1)) (k : KW p l e R s m args below meth c cells slots Q ε A mx (pc + 1) (jst2 ls i.val (.inr (.inl x))) r μ) : KW p l e R s m args below meth c cells slots Q ε A mx pc ls (.inr (.inl x) :: r) μ := fun arr H locs hl hs hi =>
  lv_lstore_n C.1 C.2.1 hd rfl (jpl_has hl) hn rfl (fun arr' h' => k arr' H locs (jlv_st2 (v := .inr (.inl x)) C.2.2.2.2.2.1.2.2.1 hl trivial h') (ok_t hs) hi)
theorem k_iinc {pc i : Nat} {n : Int} {ls st : List jv} {x v : Int32} {μ : jm} (C : jctx p s m args c ε A own b mx) (hn : i < mx) (hx : ls[i]? = some (.inl x)) (hv : Int32.ofInt n = v) (hd : decode b pc = .ok (.iinc i n, 3)) (k : KW p l e R s m args below meth c cells slots Q ε A mx (pc + 3) (jst ls i (.inl (x + v))) st μ) : KW p l e R s m args below meth c cells slots Q ε A mx pc ls st μ := fun arr H locs hl hs hi => by
  have h0 := jpl_has hl
  have hx2 := (k_lget hl hx (by intro z; cases z)).2
  have h1 : lv_has arr mx ((i, .int x) :: jpl ε ls) := ⟨h0.1, h0.2.1, fun q hq => (List.mem_cons.mp hq).elim (fun z => by rw [z]; exact hx2) (h0.2.2 q)⟩
  refine lv_iinc (k := 0) C.1 C.2.1 hd h1 rfl (by rw [hv]) hn rfl (fun arr' h' => k arr' H locs (jlv_st (v := .inl (x + v)) C.2.2.2.2.2.1.2.2.1 hl trivial ?_) hs hi)
  refine ⟨h'.1, h'.2.1, fun q hq => h'.2.2 q ?_⟩
  rcases List.mem_cons.mp hq with z | z
  · rw [z]; exact List.mem_cons_self
  · refine List.mem_cons_of_mem _ ?_
    obtain ⟨z1, z2⟩ := List.mem_filter.mp z
    exact List.mem_filter.mpr ⟨List.mem_cons_of_mem _ z1, z2⟩
/-! fields -/
theorem jcls {ci : Nat} (h : ci < 11) : ∃ q : vw_C, vwCl[ci]? = some q ∧ ∀ w ∈ u_ws q.1 q.2.1 q.2.2, w ∈ ws0 := by
  match ci, h with
  | 0, _ => exact ⟨_, rfl, by decide +kernel⟩
  | 1, _ => exact ⟨_, rfl, by decide +kernel⟩
  | 2, _ => exact ⟨_, rfl, by decide +kernel⟩
  | 3, _ => exact ⟨_, rfl, by decide +kernel⟩
  | 4, _ => exact ⟨_, rfl, by decide +kernel⟩
  | 5, _ => exact ⟨_, rfl, by decide +kernel⟩
  | 6, _ => exact ⟨_, rfl, by decide +kernel⟩
  | 7, _ => exact ⟨_, rfl, by decide +kernel⟩
  | 8, _ => exact ⟨_, rfl, by decide +kernel⟩
  | 9, _ => exact ⟨_, rfl, by decide +kernel⟩
  | 10, _ => exact ⟨_, rfl, by decide +kernel⟩
/-- the types of the fields, their names apart -/
theorem jtys {ci : Nat} (h : ci < 11) : ∃ (C : String) (T : u_T) (N : Nat) (ty : Nat → FieldType), vwCl[ci]? = some (C, T, N) ∧ (∀ k, k < N → parseFieldDescriptor (T k).2.2.1 = some (ty k)) ∧ (∀ a, a < N → ∀ b, b < N → a ≠ b → (T a).2.1 ≠ (T b).2.1) := by
  match ci, h with
  | 0, _ => exact ⟨_, _, _, tyX0, rfl, tyX0_ok, nmX0⟩
  | 1, _ => exact ⟨_, _, _, tyX1, rfl, tyX1_ok, nmX1⟩
  | 2, _ => exact ⟨_, _, _, tyX2, rfl, tyX2_ok, nmX2⟩
  | 3, _ => exact ⟨_, _, _, tyX3, rfl, tyX3_ok, nmX3⟩
  | 4, _ => exact ⟨_, _, _, tyX4, rfl, tyX4_ok, nmX4⟩
  | 5, _ => exact ⟨_, _, _, tyX5, rfl, tyX5_ok, nmX5⟩
  | 6, _ => exact ⟨_, _, _, tyX7, rfl, tyX7_ok, nmX7⟩
  | 7, _ => exact ⟨_, _, _, tyX8, rfl, tyX8_ok, nmX8⟩
  | 8, _ => exact ⟨_, _, _, tyX9, rfl, tyX9_ok, nmX9⟩
  | 9, _ => exact ⟨_, _, _, tyX10, rfl, tyX10_ok, nmX10⟩
  | 10, _ => exact ⟨_, _, _, tyX11, rfl, tyX11_ok, nmX11⟩
theorem jsh_ok : ∀ k, k < 78 → ∀ f ∈ fdl (shl.getD k 0), (shl.getD k 0) < 11 → f.1 = 2 → k + f.2.2 < 78 ∧ shl.getD (k + f.2.2) 0 = f.2.1 := by decide +kernel
theorem k_get {pc i ci sl kd tg of : Nat} {ls r : List jv} {k0 : Nat} {v : jv} {μ : jm} (C : jctx p s m args c ε A own b mx) (hci : ci < 11) (hf : (fdl ci)[sl]? = some (kd, tg, of)) (hw : jwf own i ci sl) (hv : (kd = 0 ∧ v = .inl (gI μ k0 sl)) ∨ (kd = 1 ∧ v = .inr (.inl (gL μ k0 sl))) ∨ (kd = 2 ∧ v = .inr (.inr (.inl (tg, k0 + of))))) (hd : decode b pc = .ok (.getfield i, 3)) (k : KW p l e R s m args below meth c cells slots Q ε A mx (pc + 3) ls (v :: r) μ) : KW p l e R s m args below meth c cells slots Q ε A mx pc ls (.inr (.inr (.inl (ci, k0))) :: r) μ := fun arr H locs hl hs hi => by
  obtain ⟨hx, hb, hml, hown, hts, hsf, hA⟩ := C
  obtain ⟨h1, h2, h3, h4, h5, h6, h7, h8, hK, hN⟩ := hsf
  obtain ⟨hk, hsh, htr⟩ := jrk_cell (ok_h hs) (by omega) (by omega) (by omega) (by omega) (by omega)
  obtain ⟨q, hq, hin⟩ := jcls hci
  obtain ⟨Cn, T, N, hw1, hw2, hw3, hw4⟩ := hw
  rw [hw1] at hq
  cases hq
  have he : (jpic ε μ)[k0]? = some (eA ε k0, .inr (ci, jfs ε μ k0 0 (fdl ci))) := by rw [jpic_at ε μ hk, hsh, jce_0 (by omega)]
  have hat := jfs_at (ε := ε) (μ := μ) (k := k0) (fdl ci) 0 sl kd tg of hf
  have hval : (jfs ε μ k0 0 (fdl ci))[sl]? = some (jtr ε v) ∧ jok ε v := by
    rcases hv with ⟨rfl, rfl⟩ | ⟨rfl, rfl⟩ | ⟨rfl, rfl⟩
    · refine ⟨?_, trivial⟩
      rw [hat]
      show some (Value.int (μ.1 k0 (0 + sl))) = some (Value.int (gI μ k0 sl))
      rw [Nat.zero_add]
      rfl
    · refine ⟨?_, trivial⟩
      rw [hat]
      show some (Value.long (μ.2 k0 (0 + sl))) = some (Value.long (gL μ k0 sl))
      rw [Nat.zero_add]
      rfl
    · have ho := jsh_ok k0 hk (2, tg, of) (by rw [hsh]; exact List.mem_of_getElem? hf) (by rw [hsh]; exact hci) rfl
      have hr : jrk ε tg (k0 + of) := Or.inr (Or.inr (Or.inr (Or.inr (Or.inr ⟨ho.1, ho.2⟩))))
      refine ⟨?_, hr⟩
      rw [hat]
      have htg : tg ≠ 94 ∧ tg ≠ 95 ∧ tg ≠ 96 ∧ tg ≠ 97 ∧ tg ≠ 98 := by
        have : ∀ k, k < 78 → shl.getD k 0 ≠ 94 ∧ shl.getD k 0 ≠ 95 ∧ shl.getD k 0 ≠ 96 ∧ shl.getD k 0 ≠ 97 ∧ shl.getD k 0 ≠ 98 := by decide +kernel
        have := this _ ho.1
        rw [ho.2] at this
        exact this
      rw [(jrk_cell hr htg.1 htg.2.1 htg.2.2.1 htg.2.2.2.1 htg.2.2.2.2).2.2]
      rfl
  have K := k arr H locs hl (ok_c hval.2 (ok_t hs)) hi
  show W p l e R s m args below meth c H locs cells slots Q (F0 m pc arr (jtr ε (.inr (.inr (.inl (ci, k0)))) :: r.map (jtr ε)))
  rw [htr]
  rcases hw4 with hlk | ⟨h, hlk⟩
  · exact va_get (D := eD ε) hx hb hts hin hown hK hi.1 k0 he hw1 sl hw2 (hts _ hlk) (fun x hx => by rw [hw3] at hx; exact hx) hval.1 hd K
  · exact va_getN (D := eD ε) hx hb hts hin hown hK hi.1 k0 he hw1 sl hw2 (va_Nw.use rfl (hN _ hlk)) (fun x hx => by rw [hw3] at hx; exact hx) hval.1 hd K
theorem k_putI {pc i ci sl : Nat} {ls r : List jv} {k0 : Nat} {v : Int32} {μ : jm} (C : jctx p s m args c ε A own b mx) (hci : ci < 11) (hf : (fdl ci)[sl]? = some (0, 0, 0)) (hw : jwp own i ci sl 0) (hd : decode b pc = .ok (.putfield i, 3)) (k : KW p l e R s m args below meth c cells slots Q ε A mx (pc + 3) ls r (sI μ k0 sl v)) : KW p l e R s m args below meth c cells slots Q ε A mx pc ls (.inl v :: .inr (.inr (.inl (ci, k0))) :: r) μ := fun arr H locs hl hs hi => by
  obtain ⟨hx, hb, hml, hown, hts, hsf, hA⟩ := C
  obtain ⟨h1, h2, h3, h4, h5, h6, h7, h8, hK, hN⟩ := hsf
  obtain ⟨hk, hsh, htr⟩ := jrk_cell (ok_h (ok_t hs)) (by omega) (by omega) (by omega) (by omega) (by omega)
  obtain ⟨q, hq, hin⟩ := jcls hci
  obtain ⟨Cn, T, N, hw1, hw2, hw3, hw4, hw5, hw6⟩ := hw
  obtain ⟨Cn', T', N', ty, hq', hty, hnm⟩ := jtys hci
  rw [hw1] at hq hq'
  cases hq
  cases hq'
  have he : (jpic ε μ)[k0]? = some (eA ε k0, .inr (ci, jfs ε μ k0 0 (fdl ci))) := by rw [jpic_at ε μ hk, hsh, jce_0 (by omega)]
  have hln : sl < (fdl ci).length := (List.getElem?_eq_some_iff.mp hf).1
  show W p l e R s m args below meth c H locs cells slots Q (F0 m pc arr (.int v :: jtr ε (.inr (.inr (.inl (ci, k0)))) :: r.map (jtr ε)))
  rw [htr]
  have hset : (jfs ε μ k0 0 (fdl ci)).set sl (.int v) = jfs ε (sI μ k0 sl v) k0 0 (fdl ci) := jfs_setI (fdl ci) 0 sl (by omega) hf (fun _ _ => trivial)
  refine va_put (D := eD ε) (A := A) (ty := .int) hx hb hts hin ty hty hnm hown hK hi.1 hi.2.1 hi.2.2.1 k0 he hw1 sl hw2 (hts _ hw6) (fun x hx => by rw [hw3] at hx; exact hx) hw4 hw5 rfl rfl (by rw [jfs_len]; exact hln) hd (fun H1 locs1 hP hD hS => ?_)
  rw [hset] at hP
  have e2 : jce ε (sI μ k0 sl v) k0 (shl.getD k0 0) = .inr (ci, jfs ε (sI μ k0 sl v) k0 0 (fdl ci)) := by rw [hsh, jce_0 (by omega)]
  exact k arr H1 locs1 hl (ok_t (ok_t hs)) (jinv_I hi hk (hP := by rw [e2]; exact hP) (hS := hS))
theorem k_putL {pc i ci sl : Nat} {ls r : List jv} {k0 : Nat} {v : Int64} {μ : jm} (C : jctx p s m args c ε A own b mx) (hci : ci < 11) (hf : (fdl ci)[sl]? = some (1, 0, 0)) (hw : jwp own i ci sl 1) (hd : decode b pc = .ok (.putfield i, 3)) (k : KW p l e R s m args below meth c cells slots Q ε A mx (pc + 3) ls r (sL μ k0 sl v)) : KW p l e R s m args below meth c cells slots Q ε A mx pc ls (.inr (.inl v) :: .inr (.inr (.inl (ci, k0))) :: r) μ := fun arr H locs hl hs hi => by
  obtain ⟨hx, hb, hml, hown, hts, hsf, hA⟩ := C
  obtain ⟨h1, h2, h3, h4, h5, h6, h7, h8, hK, hN⟩ := hsf
  obtain ⟨hk, hsh, htr⟩ := jrk_cell (ok_h (ok_t hs)) (by omega) (by omega) (by omega) (by omega) (by omega)
  obtain ⟨q, hq, hin⟩ := jcls hci
  obtain ⟨Cn, T, N, hw1, hw2, hw3, hw4, hw5, hw6⟩ := hw
  obtain ⟨Cn', T', N', ty, hq', hty, hnm⟩ := jtys hci
  rw [hw1] at hq hq'
  cases hq
  cases hq'
  have he : (jpic ε μ)[k0]? = some (eA ε k0, .inr (ci, jfs ε μ k0 0 (fdl ci))) := by rw [jpic_at ε μ hk, hsh, jce_0 (by omega)]
  have hln : sl < (fdl ci).length := (List.getElem?_eq_some_iff.mp hf).1
  show W p l e R s m args below meth c H locs cells slots Q (F0 m pc arr (.long v :: jtr ε (.inr (.inr (.inl (ci, k0)))) :: r.map (jtr ε)))
  rw [htr]
  have hset : (jfs ε μ k0 0 (fdl ci)).set sl (.long v) = jfs ε (sL μ k0 sl v) k0 0 (fdl ci) := jfs_setL (fdl ci) 0 sl (by omega) hf
  refine va_put (D := eD ε) (A := A) (ty := .long) hx hb hts hin ty hty hnm hown hK hi.1 hi.2.1 hi.2.2.1 k0 he hw1 sl hw2 (hts _ hw6) (fun x hx => by rw [hw3] at hx; exact hx) hw4 hw5 rfl rfl (by rw [jfs_len]; exact hln) hd (fun H1 locs1 hP hD hS => ?_)
  rw [hset] at hP
  have e2 : jce ε (sL μ k0 sl v) k0 (shl.getD k0 0) = .inr (ci, jfs ε (sL μ k0 sl v) k0 0 (fdl ci)) := by rw [hsh, jce_0 (by omega)]
  exact k arr H1 locs1 hl (ok_t (ok_t hs)) (jinv_L hi hk (by rw [e2]; exact hP) hS)
/-! arrays -/
theorem k_iald {pc t k0 : Nat} {ls r : List jv} {x : Int32} {μ : jm} (C : jctx p s m args c ε A own b mx) (ht : t / 1000 = 1) (hin : inB x (t - 1000) = true) (hd : decode b pc = .ok (.iaload, 1)) (k : KW p l e R s m args below meth c cells slots Q ε A mx (pc + 1) ls (.inl (gI μ k0 (ix x)) :: r) μ) : KW p l e R s m args below meth c cells slots Q ε A mx pc ls (.inl x :: .inr (.inr (.inl (t, k0))) :: r) μ := fun arr H locs hl hs hi => by
  obtain ⟨t1, t2, t3, t4, t5⟩ := jdiv ht (Nat.le_refl 1)
  obtain ⟨hk, hsh, htr⟩ := jrk_cell (ok_h (ok_t hs)) t1 t2 t3 t4 t5
  show W p l e R s m args below meth c H locs cells slots Q (F0 m pc arr (.int x :: jtr ε (.inr (.inr (.inl (t, k0)))) :: r.map (jtr ε)))
  rw [htr]
  obtain ⟨t0, ht0⟩ := jty_n (ε := ε) (ty := .int) hk hsh ht rfl (by omega)
  exact va_iald (D := eD ε) C.1 C.2.1 C.2.2.2.2.2.1.2.2.2.2.2.2.2.2.1 hi.1 k0 t0 (by rw [jpic_at ε μ hk, hsh, jce_1 ht]; rfl) ht0 (jin_iff.mp hin) hd (k arr H locs hl (ok_c trivial (ok_t (ok_t hs))) hi)
theorem k_bald {pc t k0 : Nat} {ls r : List jv} {x : Int32} {μ : jm} (C : jctx p s m args c ε A own b mx) (ht : t / 1000 = 3) (hin : inB x (t - 3000) = true) (hd : decode b pc = .ok (.baload, 1)) (k : KW p l e R s m args below meth c cells slots Q ε A mx (pc + 1) ls (.inl (gI μ k0 (ix x)) :: r) μ) : KW p l e R s m args below meth c cells slots Q ε A mx pc ls (.inl x :: .inr (.inr (.inl (t, k0))) :: r) μ := fun arr H locs hl hs hi => by
  obtain ⟨t1, t2, t3, t4, t5⟩ := jdiv ht (by omega)
  obtain ⟨hk, hsh, htr⟩ := jrk_cell (ok_h (ok_t hs)) t1 t2 t3 t4 t5
  show W p l e R s m args below meth c H locs cells slots Q (F0 m pc arr (.int x :: jtr ε (.inr (.inr (.inl (t, k0)))) :: r.map (jtr ε)))
  rw [htr]
  obtain ⟨t0, ht0⟩ := jty_n (ε := ε) (ty := .byte) hk hsh ht rfl (by omega)
  exact va_bald (D := eD ε) C.1 C.2.1 C.2.2.2.2.2.1.2.2.2.2.2.2.2.2.1 hi.1 k0 t0 (by rw [jpic_at ε μ hk, hsh, jce_3 ht]; rfl) ht0 (jin_iff.mp hin) hd (k arr H locs hl (ok_c trivial (ok_t (ok_t hs))) hi)
theorem k_zald {pc t k0 : Nat} {ls r : List jv} {x : Int32} {μ : jm} (C : jctx p s m args c ε A own b mx) (ht : t / 1000 = 4) (hin : inB x (t - 4000) = true) (hd : decode b pc = .ok (.baload, 1)) (k : KW p l e R s m args below meth c cells slots Q ε A mx (pc + 1) ls (.inl (gI μ k0 (ix x)) :: r) μ) : KW p l e R s m args below meth c cells slots Q ε A mx pc ls (.inl x :: .inr (.inr (.inl (t, k0))) :: r) μ := fun arr H locs hl hs hi => by
  obtain ⟨t1, t2, t3, t4, t5⟩ := jdiv ht (by omega)
  obtain ⟨hk, hsh, htr⟩ := jrk_cell (ok_h (ok_t hs)) t1 t2 t3 t4 t5
  show W p l e R s m args below meth c H locs cells slots Q (F0 m pc arr (.int x :: jtr ε (.inr (.inr (.inl (t, k0)))) :: r.map (jtr ε)))
  rw [htr]
  obtain ⟨t0, ht0⟩ := jty_n (ε := ε) (ty := .boolean) hk hsh ht rfl (by omega)
  exact va_zald (D := eD ε) C.1 C.2.1 C.2.2.2.2.2.1.2.2.2.2.2.2.2.2.1 hi.1 k0 t0 (by rw [jpic_at ε μ hk, hsh, jce_4 ht]; rfl) ht0 (jin_iff.mp hin) hd (k arr H locs hl (ok_c trivial (ok_t (ok_t hs))) hi)
theorem k_lald {pc t k0 : Nat} {ls r : List jv} {x : Int32} {μ : jm} (C : jctx p s m args c ε A own b mx) (ht : t / 1000 = 2) (hin : inB x (t - 2000) = true) (hd : decode b pc = .ok (.laload, 1)) (k : KW p l e R s m args below meth c cells slots Q ε A mx (pc + 1) ls (.inr (.inl (gL μ k0 (ix x))) :: r) μ) : KW p l e R s m args below meth c cells slots Q ε A mx pc ls (.inl x :: .inr (.inr (.inl (t, k0))) :: r) μ := fun arr H locs hl hs hi => by
  obtain ⟨t1, t2, t3, t4, t5⟩ := jdiv ht (by omega)
  obtain ⟨hk, hsh, htr⟩ := jrk_cell (ok_h (ok_t hs)) t1 t2 t3 t4 t5
  show W p l e R s m args below meth c H locs cells slots Q (F0 m pc arr (.int x :: jtr ε (.inr (.inr (.inl (t, k0)))) :: r.map (jtr ε)))
  rw [htr]
  obtain ⟨t0, ht0⟩ := jty_n (ε := ε) (ty := .long) hk hsh ht rfl (by omega)
  exact va_lald (D := eD ε) C.1 C.2.1 C.2.2.2.2.2.1.2.2.2.2.2.2.2.2.1 hi.1 k0 t0 (by rw [jpic_at ε μ hk, hsh, jce_2 ht]; rfl) ht0 (jin_iff.mp hin) hd (k arr H locs hl (ok_c trivial (ok_t (ok_t hs))) hi)
theorem jsh_5002 : ∀ k, k < 78 → shl.getD k 0 = 5002 → ∀ i, i < 2 → k + 1 + 11 * i < 78 ∧ shl.getD (k + 1 + 11 * i) 0 = 8 := by decide +kernel
theorem k_aald {pc k0 : Nat} {ls r : List jv} {x : Int32} {μ : jm} (C : jctx p s m args c ε A own b mx) (hin : inB x 2 = true) (hd : decode b pc = .ok (.aaload, 1)) (k : KW p l e R s m args below meth c cells slots Q ε A mx (pc + 1) ls (.inr (.inr (.inl (8, k0 + 1 + 11 * ix x))) :: r) μ) : KW p l e R s m args below meth c cells slots Q ε A mx pc ls (.inl x :: .inr (.inr (.inl (5002, k0))) :: r) μ := fun arr H locs hl hs hi => by
  obtain ⟨hk, hsh, htr⟩ := jrk_cell (ok_h (ok_t hs)) (by decide) (by decide) (by decide) (by decide) (by decide)
  show W p l e R s m args below meth c H locs cells slots Q (F0 m pc arr (.int x :: jtr ε (.inr (.inr (.inl (5002, k0)))) :: r.map (jtr ε)))
  rw [htr]
  have hi2 : ix x < 2 := by
    obtain ⟨j, hj, e⟩ := vp_in_of (jin_iff.mp hin) (by decide)
    rw [ix, e, nI_clamp (by omega)]
    exact hj
  have ho := jsh_5002 k0 hk hsh (ix x) hi2
  have hr : jrk ε 8 (k0 + 1 + 11 * ix x) := Or.inr (Or.inr (Or.inr (Or.inr (Or.inr ho))))
  have K := k arr H locs hl (ok_c hr (ok_t (ok_t hs))) hi
  have e3 : jtr ε (.inr (.inr (.inl (8, k0 + 1 + 11 * ix x)))) = .ref (eA ε (k0 + 1 + 11 * ix x)) := rfl
  obtain ⟨t0, ht0⟩ := jty_n (ε := ε) (ty := .object "OneNote$Valley") (n := 5) hk hsh rfl rfl (by omega)
  exact va_aldq (D := eD ε) (C := "OneNote$Valley") C.1 C.2.1 C.2.2.2.2.2.1.2.2.2.2.2.2.2.2.1 hi.1 k0 t0 (f := fun i => some (eA ε (k0 + 1 + 11 * i))) (n := 2) (cA := eT ε k0) (by rw [jpic_at ε μ hk, hsh]; rfl) ht0 (jin_iff.mp hin) hd K
theorem k_alen {pc t k0 : Nat} {ls r : List jv} {μ : jm} {v : Int32} (C : jctx p s m args c ε A own b mx) (ht : (t / 1000 = 1 ∧ v = nI (t - 1000)) ∨ (t / 1000 = 2 ∧ v = nI (t - 2000))) (hd : decode b pc = .ok (.arraylength, 1)) (k : KW p l e R s m args below meth c cells slots Q ε A mx (pc + 1) ls (.inl v :: r) μ) : KW p l e R s m args below meth c cells slots Q ε A mx pc ls (.inr (.inr (.inl (t, k0))) :: r) μ := fun arr H locs hl hs hi => by
  have K := k arr H locs hl (ok_c trivial (ok_t hs)) hi
  rcases ht with ⟨ht, rfl⟩ | ⟨ht, rfl⟩
  · obtain ⟨t1, t2, t3, t4, t5⟩ := jdiv ht (by omega)
    obtain ⟨hk, hsh, htr⟩ := jrk_cell (ok_h hs) t1 t2 t3 t4 t5
    show W p l e R s m args below meth c H locs cells slots Q (F0 m pc arr (jtr ε (.inr (.inr (.inl (t, k0)))) :: r.map (jtr ε)))
    rw [htr]
    obtain ⟨t0, ht0⟩ := jty_n (ε := ε) (ty := .int) hk hsh ht rfl (by omega)
    exact va_alen (D := eD ε) (ty := .int) (x := (t - 1000, .inl (μ.1 k0))) (v := nI (t - 1000)) (cA := eT ε k0) C.1 C.2.1 C.2.2.2.2.2.1.2.2.2.2.2.2.2.2.1 hi.1 k0 t0 (by rw [jpic_at ε μ hk, hsh, jce_1 ht]) ht0 rfl hd K
  · obtain ⟨t1, t2, t3, t4, t5⟩ := jdiv ht (by omega)
    obtain ⟨hk, hsh, htr⟩ := jrk_cell (ok_h hs) t1 t2 t3 t4 t5
    show W p l e R s m args below meth c H locs cells slots Q (F0 m pc arr (jtr ε (.inr (.inr (.inl (t, k0)))) :: r.map (jtr ε)))
    rw [htr]
    obtain ⟨t0, ht0⟩ := jty_n (ε := ε) (ty := .long) hk hsh ht rfl (by omega)
    exact va_alen (D := eD ε) (ty := .long) (x := (t - 2000, .inr (.inl (μ.2 k0)))) (v := nI (t - 2000)) (cA := eT ε k0) C.1 C.2.1 C.2.2.2.2.2.1.2.2.2.2.2.2.2.2.1 hi.1 k0 t0 (by rw [jpic_at ε μ hk, hsh, jce_2 ht]) ht0 rfl hd K
theorem sI_upd (μ : jm) (k i : Nat) (v : Int32) : (sI μ k i v).1 k = upd (μ.1 k) i v := by
  funext j
  show (if k = k ∧ j = i then v else μ.1 k j) = (if j = i then v else μ.1 k j)
  by_cases h : j = i <;> simp [h]
theorem sL_upd (μ : jm) (k i : Nat) (v : Int64) : (sL μ k i v).2 k = vp_updL (μ.2 k) i v := by
  funext j
  show (if k = k ∧ j = i then v else μ.2 k j) = (if j = i then v else μ.2 k j)
  by_cases h : j = i <;> simp [h]
theorem k_iast {pc t k0 : Nat} {ls r : List jv} {x v : Int32} {μ : jm} (C : jctx p s m args c ε A own b mx) (ht : t / 1000 = 1) (hin : inB x (t - 1000) = true) (hd : decode b pc = .ok (.iastore, 1)) (k : KW p l e R s m args below meth c cells slots Q ε A mx (pc + 1) ls r (sI μ k0 (ix x) v)) : KW p l e R s m args below meth c cells slots Q ε A mx pc ls (.inl v :: .inl x :: .inr (.inr (.inl (t, k0))) :: r) μ := fun arr H locs hl hs hi => by
  obtain ⟨t1, t2, t3, t4, t5⟩ := jdiv ht (by omega)
  obtain ⟨hk, hsh, htr⟩ := jrk_cell (ok_h (ok_t (ok_t hs))) t1 t2 t3 t4 t5
  show W p l e R s m args below meth c H locs cells slots Q (F0 m pc arr (.int v :: .int x :: jtr ε (.inr (.inr (.inl (t, k0)))) :: r.map (jtr ε)))
  rw [htr]
  obtain ⟨t0, ht0⟩ := jty_n (ε := ε) (ty := .int) hk hsh ht rfl (by omega)
  refine va_iast (D := eD ε) (A := A) C.1 C.2.1 C.2.2.2.2.2.1.2.2.2.2.2.2.2.2.1 hi.1 hi.2.1 hi.2.2.1 k0 t0 (by rw [jpic_at ε μ hk, hsh, jce_1 ht]) ht0 (jin_iff.mp hin) hd (fun H1 locs1 hP hD hS => ?_)
  have e2 : jce ε (sI μ k0 (ix x) v) k0 (shl.getD k0 0) = .inl (eT ε k0, t - 1000, .inl (upd (μ.1 k0) (ix x) v)) := by rw [hsh, jce_1 ht, sI_upd]
  exact k arr H1 locs1 hl (ok_t (ok_t (ok_t hs))) (jinv_I hi hk (hP := by rw [e2]; exact hP) (hS := hS))
theorem k_bast {pc t k0 : Nat} {ls r : List jv} {x v : Int32} {μ : jm} (C : jctx p s m args c ε A own b mx) (ht : t / 1000 = 3) (hin : inB x (t - 3000) = true) (hd : decode b pc = .ok (.bastore, 1)) (k : KW p l e R s m args below meth c cells slots Q ε A mx (pc + 1) ls r (sI μ k0 (ix x) v.toInt8.toInt32)) : KW p l e R s m args below meth c cells slots Q ε A mx pc ls (.inl v :: .inl x :: .inr (.inr (.inl (t, k0))) :: r) μ := fun arr H locs hl hs hi => by
  obtain ⟨t1, t2, t3, t4, t5⟩ := jdiv ht (by omega)
  obtain ⟨hk, hsh, htr⟩ := jrk_cell (ok_h (ok_t (ok_t hs))) t1 t2 t3 t4 t5
  show W p l e R s m args below meth c H locs cells slots Q (F0 m pc arr (.int v :: .int x :: jtr ε (.inr (.inr (.inl (t, k0)))) :: r.map (jtr ε)))
  rw [htr]
  obtain ⟨t0, ht0⟩ := jty_n (ε := ε) (ty := .byte) hk hsh ht rfl (by omega)
  refine va_bast (D := eD ε) (A := A) C.1 C.2.1 C.2.2.2.2.2.1.2.2.2.2.2.2.2.2.1 hi.1 hi.2.1 hi.2.2.1 k0 t0 (by rw [jpic_at ε μ hk, hsh, jce_3 ht]) ht0 (jin_iff.mp hin) hd (fun H1 locs1 hP hD hS => ?_)
  have e2 : jce ε (sI μ k0 (ix x) v.toInt8.toInt32) k0 (shl.getD k0 0) = .inl (eT ε k0, t - 3000, .inl (upd (μ.1 k0) (ix x) v.toInt8.toInt32)) := by rw [hsh, jce_3 ht, sI_upd]
  exact k arr H1 locs1 hl (ok_t (ok_t (ok_t hs))) (jinv_I hi hk (hP := by rw [e2]; exact hP) (hS := hS))
theorem k_zast {pc t k0 : Nat} {ls r : List jv} {x v : Int32} {μ : jm} (C : jctx p s m args c ε A own b mx) (ht : t / 1000 = 4) (hin : inB x (t - 4000) = true) (hd : decode b pc = .ok (.bastore, 1)) (k : KW p l e R s m args below meth c cells slots Q ε A mx (pc + 1) ls r (sI μ k0 (ix x) (v &&& 1))) : KW p l e R s m args below meth c cells slots Q ε A mx pc ls (.inl v :: .inl x :: .inr (.inr (.inl (t, k0))) :: r) μ := fun arr H locs hl hs hi => by
  obtain ⟨t1, t2, t3, t4, t5⟩ := jdiv ht (by omega)
  obtain ⟨hk, hsh, htr⟩ := jrk_cell (ok_h (ok_t (ok_t hs))) t1 t2 t3 t4 t5
  show W p l e R s m args below meth c H locs cells slots Q (F0 m pc arr (.int v :: .int x :: jtr ε (.inr (.inr (.inl (t, k0)))) :: r.map (jtr ε)))
  rw [htr]
  obtain ⟨t0, ht0⟩ := jty_n (ε := ε) (ty := .boolean) hk hsh ht rfl (by omega)
  refine va_zast (D := eD ε) (A := A) C.1 C.2.1 C.2.2.2.2.2.1.2.2.2.2.2.2.2.2.1 hi.1 hi.2.1 hi.2.2.1 k0 t0 (by rw [jpic_at ε μ hk, hsh, jce_4 ht]) ht0 (jin_iff.mp hin) hd (fun H1 locs1 hP hD hS => ?_)
  have e2 : jce ε (sI μ k0 (ix x) (v &&& 1)) k0 (shl.getD k0 0) = .inl (eT ε k0, t - 4000, .inl (upd (μ.1 k0) (ix x) (v &&& 1))) := by rw [hsh, jce_4 ht, sI_upd]
  exact k arr H1 locs1 hl (ok_t (ok_t (ok_t hs))) (jinv_I hi hk (hP := by rw [e2]; exact hP) (hS := hS))
theorem k_last {pc t k0 : Nat} {ls r : List jv} {x : Int32} {v : Int64} {μ : jm} (C : jctx p s m args c ε A own b mx) (ht : t / 1000 = 2) (hin : inB x (t - 2000) = true) (hd : decode b pc = .ok (.lastore, 1)) (k : KW p l e R s m args below meth c cells slots Q ε A mx (pc + 1) ls r (sL μ k0 (ix x) v)) : KW p l e R s m args below meth c cells slots Q ε A mx pc ls (.inr (.inl v) :: .inl x :: .inr (.inr (.inl (t, k0))) :: r) μ := fun arr H locs hl hs hi => by
  obtain ⟨t1, t2, t3, t4, t5⟩ := jdiv ht (by omega)
  obtain ⟨hk, hsh, htr⟩ := jrk_cell (ok_h (ok_t (ok_t hs))) t1 t2 t3 t4 t5
  show W p l e R s m args below meth c H locs cells slots Q (F0 m pc arr (.long v :: .int x :: jtr ε (.inr (.inr (.inl (t, k0)))) :: r.map (jtr ε)))
  rw [htr]
  obtain ⟨t0, ht0⟩ := jty_n (ε := ε) (ty := .long) hk hsh ht rfl (by omega)
  refine va_last (D := eD ε) (A := A) C.1 C.2.1 C.2.2.2.2.2.1.2.2.2.2.2.2.2.2.1 hi.1 hi.2.1 hi.2.2.1 k0 t0 (by rw [jpic_at ε μ hk, hsh, jce_2 ht]) ht0 (jin_iff.mp hin) hd (fun H1 locs1 hP hD hS => ?_)
  have e2 : jce ε (sL μ k0 (ix x) v) k0 (shl.getD k0 0) = .inl (eT ε k0, t - 2000, .inr (.inl (vp_updL (μ.2 k0) (ix x) v))) := by rw [hsh, jce_2 ht, sL_upd]
  exact k arr H1 locs1 hl (ok_t (ok_t (ok_t hs))) (jinv_L hi hk (by rw [e2]; exact hP) hS)
end SND
