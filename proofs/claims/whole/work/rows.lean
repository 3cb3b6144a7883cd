section
/-! THE PLAIN MACHINE: values, memory, one instruction, runs; equations of runs -/
abbrev jv : Type := Int32 ⊕ (Int64 ⊕ ((Nat × Nat) ⊕ Unit))
abbrev jm : Type := (Nat → Nat → Int32) × (Nat → Nat → Int64)
abbrev jr : Type := Option jv × jm
abbrev je : Type := Nat × List Nat × Instr × List Nat × Int32 × Int64 × List (Int32 × Nat)
abbrev ja : Type := (Option Bool × List jv × List jv × jm) ⊕ ((Option Bool × Nat × List jv × List jv × jm) ⊕ ((Nat × List jv × Nat × List jv × List jv × jm) ⊕ ((Int32 × List (Int32 × Nat) × Nat × List jv × List jv × jm) ⊕ jr)))
abbrev jI (x : Int32) : jv := .inl x
abbrev jL (x : Int64) : jv := .inr (.inl x)
abbrev jR (c k : Nat) : jv := .inr (.inr (.inl (c, k)))
abbrev jU : jv := .inr (.inr (.inr ()))
def gI (μ : jm) (k i : Nat) : Int32 := μ.1 k i
def gL (μ : jm) (k i : Nat) : Int64 := μ.2 k i
def sI (μ : jm) (k i : Nat) (v : Int32) : jm := (fun a b => if a = k ∧ b = i then v else μ.1 a b, μ.2)
def sL (μ : jm) (k i : Nat) (v : Int64) : jm := (μ.1, fun a b => if a = k ∧ b = i then v else μ.2 a b)
def cpI (μ : jm) (k0 sp k1 dp n : Nat) : jm := (fun a b => if a = k1 then va_cpy (μ.1 k0) (μ.1 k1) sp dp n b else μ.1 a b, μ.2)
def inB (i : Int32) (n : Nat) : Bool := decide (0 ≤ i.toInt ∧ i.toInt < n)
def ix (i : Int32) : Nat := i.toNatClampNeg
/-- the constants of the class's text: the numbers of an item, the words' bytes -/
def jnum (i : Nat) : Int32 := [2, 2, 3, 2, 4, 1].getD i 0
def jwords : List (List Int32) := [[100, 111, 111, 114], [104, 101, 97, 114, 115], [111, 110, 101], [109, 97, 116, 101, 115], [99, 104, 111, 114, 100], [115, 108, 97, 99, 107]]
def jwl (k : Nat) : Nat := (jwords.getD k []).length
def jwb (k i : Nat) : Int32 := (jwords.getD k []).getD i 0
def jwd : jv → Nat
  | .inr (.inl _) => 2
  | _ => 1
def jws (st : List jv) : Nat := (st.map jwd).sum
/-- locals: cleared, stored, at a method's entry -/
def jcl : List Nat → List jv → List jv
  | [], ls => ls
  | i :: r, ls => jcl r (ls.set i jU)
def jkl : jv → jv
  | .inr (.inl _) => jU
  | a => a
def jst : List jv → Nat → jv → List jv
  | [], _, _ => []
  | _ :: r, 0, v => v :: r
  | a :: r, i + 1, v => (match i with
    | 0 => jkl a
    | _ => a) :: jst r i v
def jsu : List jv → List jv
  | [] => []
  | _ :: r => jU :: r
def jst2 : List jv → Nat → jv → List jv
  | [], _, _ => []
  | _ :: r, 0, v => v :: jsu r
  | a :: r, i + 1, v => (match i with
    | 0 => jkl a
    | _ => a) :: jst2 r i v
def jex : List jv → List jv
  | [] => []
  | .inr (.inl x) :: r => .inr (.inl x) :: jU :: jex r
  | v :: r => v :: jex r
def jen (n : Nat) (as : List jv) : List jv := jex as ++ List.replicate (n - (jex as).length) jU
def aN (ls st : List jv) (μ : jm) : Option ja := some (.inl (none, ls, st, μ))
def aG (g : Bool) (ls st : List jv) (μ : jm) : Option ja := some (.inl (some g, ls, st, μ))
def aJ (t : Nat) (ls st : List jv) (μ : jm) : Option ja := some (.inr (.inl (none, t, ls, st, μ)))
def aB (b : Bool) (t : Nat) (ls st : List jv) (μ : jm) : Option ja := some (.inr (.inl (some b, t, ls, st, μ)))
def aC (j : Nat) (as : List jv) (rk : Nat) (ls st : List jv) (μ : jm) : Option ja := some (.inr (.inr (.inl (j, as, rk, ls, st, μ))))
def aS (x : Int32) (tb : List (Int32 × Nat)) (d : Nat) (ls st : List jv) (μ : jm) : Option ja := some (.inr (.inr (.inr (.inl (x, tb, d, ls, st, μ)))))
def aR (v : Option jv) (μ : jm) : Option ja := some (.inr (.inr (.inr (.inr (v, μ)))))
def jld (ls : List jv) (i : Nat) (st : List jv) (μ : jm) (w : Nat) : Option ja := match ls[i]? with
  | some (.inl x) => if w = 0 then aN ls (.inl x :: st) μ else none
  | some (.inr (.inl x)) => if w = 1 then aN ls (.inr (.inl x) :: st) μ else none
  | some (.inr (.inr (.inl x))) => if w = 2 then aN ls (.inr (.inr (.inl x)) :: st) μ else none
  | _ => none
def jsv (ls : List jv) (i : Nat) (st : List jv) (μ : jm) (w : Nat) : Option ja := match st with
  | .inl x :: r => if w = 0 then aN (jst ls i (.inl x)) r μ else none
  | .inr (.inl x) :: r => if w = 1 then aN (jst2 ls i (.inr (.inl x))) r μ else none
  | _ => none
def jop2 (f : Int32 → Int32 → Int32) (ls st : List jv) (μ : jm) : Option ja := match st with
  | .inl y :: .inl x :: r => aN ls (.inl (f x y) :: r) μ
  | _ => none
def jop2g (f : Int32 → Int32 → Int32) (ls st : List jv) (μ : jm) : Option ja := match st with
  | .inl y :: .inl x :: r => aG (decide (¬ y = 0)) ls (.inl (f x y) :: r) μ
  | _ => none
def jop1 (f : Int32 → Int32) (ls st : List jv) (μ : jm) : Option ja := match st with
  | .inl x :: r => aN ls (.inl (f x) :: r) μ
  | _ => none
def jlp2 (f : Int64 → Int64 → Int64) (ls st : List jv) (μ : jm) : Option ja := match st with
  | .inr (.inl y) :: .inr (.inl x) :: r => aN ls (.inr (.inl (f x y)) :: r) μ
  | _ => none
def jlp2g (f : Int64 → Int64 → Int64) (ls st : List jv) (μ : jm) : Option ja := match st with
  | .inr (.inl y) :: .inr (.inl x) :: r => aG (decide (¬ y = 0)) ls (.inr (.inl (f x y)) :: r) μ
  | _ => none
def jlsh (f : Int64 → Int32 → Int64) (ls st : List jv) (μ : jm) : Option ja := match st with
  | .inl y :: .inr (.inl x) :: r => aN ls (.inr (.inl (f x y)) :: r) μ
  | _ => none
def jif (f : Int32 → Bool) (t : Nat) (ls st : List jv) (μ : jm) : Option ja := match st with
  | .inl x :: r => aB (f x) t ls r μ
  | _ => none
def jif2 (f : Int32 → Int32 → Bool) (t : Nat) (ls st : List jv) (μ : jm) : Option ja := match st with
  | .inl y :: .inl x :: r => aB (f x y) t ls r μ
  | _ => none
def jgf (ns : List Nat) (v : Int32) (ls st : List jv) (μ : jm) : Option ja := match ns, st with
  | [_, ci, sl, kd, tg, of], .inr (.inr (.inl (c, k))) :: r =>
    if Nat.beq c ci then (match kd with
      | 0 => aN ls (.inl (gI μ k sl) :: r) μ
      | 1 => aN ls (.inr (.inl (gL μ k sl)) :: r) μ
      | 2 => aN ls (.inr (.inr (.inl (tg, k + of))) :: r) μ
      | 3 => aN ls (.inr (.inr (.inl (tg, k))) :: r) μ
      | _ => aN ls (.inl v :: r) μ) else none
  | _, _ => none
def jpf (ns : List Nat) (ls st : List jv) (μ : jm) : Option ja := match ns, st with
  | [_, ci, sl, kd], .inl x :: .inr (.inr (.inl (c, k))) :: r => if Nat.beq c ci && Nat.beq kd 0 then aN ls r (sI μ k sl x) else none
  | [_, ci, sl, kd], .inr (.inl x) :: .inr (.inr (.inl (c, k))) :: r => if Nat.beq c ci && Nat.beq kd 1 then aN ls r (sL μ k sl x) else none
  | _, _ => none
def jiald (ls st : List jv) (μ : jm) : Option ja := match st with
  | .inl i :: .inr (.inr (.inl (t, k))) :: r =>
    if Nat.beq t 96 then aG (inB i k) ls (.inl (gI μ 99 (ix i)) :: r) μ
    else if Nat.beq t 97 then aG (inB i 6) ls (.inl (jnum (ix i)) :: r) μ
    else if Nat.beq (t / 1000) 1 then aG (inB i (t - 1000)) ls (.inl (gI μ k (ix i)) :: r) μ else none
  | _ => none
def jbald (ls st : List jv) (μ : jm) : Option ja := match st with
  | .inl i :: .inr (.inr (.inl (t, k))) :: r =>
    if Nat.beq t 95 then aG (inB i (jwl k)) ls (.inl (jwb k (ix i)) :: r) μ
    else if Nat.beq (t / 1000) 3 then aG (inB i (t - 3000)) ls (.inl (gI μ k (ix i)) :: r) μ
    else if Nat.beq (t / 1000) 4 then aG (inB i (t - 4000)) ls (.inl (gI μ k (ix i)) :: r) μ else none
  | _ => none
def jlald (ls st : List jv) (μ : jm) : Option ja := match st with
  | .inl i :: .inr (.inr (.inl (t, k))) :: r =>
    if Nat.beq (t / 1000) 2 then aG (inB i (t - 2000)) ls (.inr (.inl (gL μ k (ix i))) :: r) μ else none
  | _ => none
def jaald (ls st : List jv) (μ : jm) : Option ja := match st with
  | .inl i :: .inr (.inr (.inl (t, k))) :: r =>
    if Nat.beq t 5002 then aG (inB i 2) ls (.inr (.inr (.inl (8, k + 1 + 11 * ix i))) :: r) μ else none
  | _ => none
def jalen (ls st : List jv) (μ : jm) : Option ja := match st with
  | .inr (.inr (.inl (t, k))) :: r =>
    if Nat.beq t 96 then aN ls (.inl (nI k) :: r) μ
    else if Nat.beq t 95 then aN ls (.inl (nI (jwl k)) :: r) μ
    else if Nat.beq (t / 1000) 1 then aN ls (.inl (nI (t - 1000)) :: r) μ
    else if Nat.beq (t / 1000) 2 then aN ls (.inl (nI (t - 2000)) :: r) μ else none
  | _ => none
def jiast (ls st : List jv) (μ : jm) : Option ja := match st with
  | .inl x :: .inl i :: .inr (.inr (.inl (t, k))) :: r =>
    if Nat.beq (t / 1000) 1 then aG (inB i (t - 1000)) ls r (sI μ k (ix i) x) else none
  | _ => none
def jbast (ls st : List jv) (μ : jm) : Option ja := match st with
  | .inl x :: .inl i :: .inr (.inr (.inl (t, k))) :: r =>
    if Nat.beq (t / 1000) 3 then aG (inB i (t - 3000)) ls r (sI μ k (ix i) x.toInt8.toInt32)
    else if Nat.beq (t / 1000) 4 then aG (inB i (t - 4000)) ls r (sI μ k (ix i) (x &&& 1)) else none
  | _ => none
def jlast (ls st : List jv) (μ : jm) : Option ja := match st with
  | .inr (.inl x) :: .inl i :: .inr (.inr (.inl (t, k))) :: r =>
    if Nat.beq (t / 1000) 2 then aG (inB i (t - 2000)) ls r (sL μ k (ix i) x) else none
  | _ => none
def jcg (sp dp n : Int32) (l0 l1 : Nat) : Bool := decide (0 ≤ sp.toInt ∧ 0 ≤ dp.toInt ∧ 0 ≤ n.toInt ∧ ix sp + ix n ≤ l0 ∧ ix dp + ix n ≤ l1)
def jcpy (ls st : List jv) (μ : jm) : Option ja := match st with
  | .inl n :: .inl dp :: .inr (.inr (.inl (t1, k1))) :: .inl sp :: .inr (.inr (.inl (t0, k0))) :: r =>
    if Nat.beq (t0 / 1000) 1 && Nat.beq (t1 / 1000) 1 && Nat.ble (jws r) 8 then aG (jcg sp dp n (t0 - 1000) (t1 - 1000)) ls r (cpI μ k0 (ix sp) k1 (ix dp) (ix n)) else none
  | _ => none
def jmin (ls st : List jv) (μ : jm) : Option ja := match st with
  | .inl y :: .inl x :: r => (match Nat.ble (jws r) 8 with
    | true => aN ls (.inl (if y < x then y else x) :: r) μ
    | false => none)
  | _ => none
def jrv (tg : Nat) (as : List jv) : Bool := Nat.beq tg 200 || (match as with
  | .inr (.inr (.inl (t, _))) :: _ => Nat.beq t tg
  | _ => false)
def jcal (j n rk mx tg : Nat) (ls st : List jv) (μ : jm) : Option ja := match Nat.ble (jws (st.drop n)) 8 && (Nat.ble n st.length && (Nat.ble (jex (st.take n).reverse).length mx && jrv tg (st.take n).reverse)) with
  | true => aC j (st.take n).reverse rk ls (st.drop n) μ
  | false => none
def jiv (ns : List Nat) (ls st : List jv) (μ : jm) : Option ja := match ns with
  | [_, j, n, rk, mx, tg] => jcal j n rk mx tg ls st μ
  | [_, _] => jcpy ls st μ
  | [_, _, _] => jmin ls st μ
  | _ => none
def jgs (ns : List Nat) (v : Int32) (ls st : List jv) (μ : jm) : Option ja := match ns with
  | [_, 0] => aN ls (.inl v :: st) μ
  | [_, 1] => aN ls (.inr (.inr (.inl (94, 0))) :: st) μ
  | [_, 2] => aN ls (.inr (.inr (.inl (97, 0))) :: st) μ
  | _ => none
def jret (ns : List Nat) (st : List jv) (μ : jm) : Option ja := match ns, st with
  | [_, 0], [.inl x] => aR (some (.inl x)) μ
  | [_, 1], [.inl x] => aR (some (.inl (x &&& 1))) μ
  | [_, 2], [.inl x] => aR (some (.inl x.toInt8.toInt32)) μ
  | [_, 3], [.inl x] => aR (some (.inl (x.toUInt32 % 65536).toInt32)) μ
  | _, _ => none
def jtg (ns : List Nat) : Nat := ns.getD 1 0
def jact (q : je) (ls st : List jv) (μ : jm) : Option ja :=
  match q.2.2.1 with
  | .iconst _ => aN ls (.inl q.2.2.2.2.1 :: st) μ
  | .bipush _ => aN ls (.inl q.2.2.2.2.1 :: st) μ
  | .sipush _ => aN ls (.inl q.2.2.2.2.1 :: st) μ
  | .ldc_w _ => aN ls (.inl q.2.2.2.2.1 :: st) μ
  | .ldc _ => aN ls (.inr (.inr (.inl (98, jtg q.2.2.2.1))) :: st) μ
  | .lconst _ => aN ls (.inr (.inl q.2.2.2.2.2.1) :: st) μ
  | .ldc2_w _ => aN ls (.inr (.inl q.2.2.2.2.2.1) :: st) μ
  | .iload i => jld ls i st μ 0
  | .iload_n i => jld ls i.val st μ 0
  | .lload i => jld ls i st μ 1
  | .lload_n i => jld ls i.val st μ 1
  | .aload i => jld ls i st μ 2
  | .aload_n i => jld ls i.val st μ 2
  | .istore i => jsv ls i st μ 0
  | .istore_n i => jsv ls i.val st μ 0
  | .lstore i => jsv ls i st μ 1
  | .lstore_n i => jsv ls i.val st μ 1
  | .iinc i _ => (match ls[i]? with
    | some (.inl x) => aN (jst ls i (.inl (x + q.2.2.2.2.1))) st μ
    | _ => none)
  | .iadd => jop2 (fun x y => x + y) ls st μ
  | .isub => jop2 (fun x y => x - y) ls st μ
  | .imul => jop2 (fun x y => x * y) ls st μ
  | .iand => jop2 (fun x y => x &&& y) ls st μ
  | .ior => jop2 (fun x y => x ||| y) ls st μ
  | .ixor => jop2 (fun x y => x ^^^ y) ls st μ
  | .ishl => jop2 (fun x y => x <<< (y &&& 31)) ls st μ
  | .ishr => jop2 (fun x y => x >>> (y &&& 31)) ls st μ
  | .iushr => jop2 (fun x y => (x.toUInt32 >>> (y.toUInt32 &&& Int32.toUInt32 31)).toInt32) ls st μ
  | .idiv => jop2g (fun x y => x / y) ls st μ
  | .irem => jop2g (fun x y => x - x / y * y) ls st μ
  | .ineg => jop1 (fun x => -x) ls st μ
  | .i2b => jop1 (fun x => x.toInt8.toInt32) ls st μ
  | .i2c => jop1 (fun x => (x.toUInt32 % 65536).toInt32) ls st μ
  | .ladd => jlp2 (fun x y => x + y) ls st μ
  | .lsub => jlp2 (fun x y => x - y) ls st μ
  | .lmul => jlp2 (fun x y => x * y) ls st μ
  | .land => jlp2 (fun x y => x &&& y) ls st μ
  | .lor => jlp2 (fun x y => x ||| y) ls st μ
  | .ldiv => jlp2g (fun x y => x / y) ls st μ
  | .lrem => jlp2g (fun x y => x - x / y * y) ls st μ
  | .lshl => jlsh (fun x y => x <<< (y.toInt64 &&& 63)) ls st μ
  | .lshr => jlsh (fun x y => x >>> (y.toInt64 &&& 63)) ls st μ
  | .i2l => (match st with
    | .inl x :: r => aN ls (.inr (.inl x.toInt64) :: r) μ
    | _ => none)
  | .l2i => (match st with
    | .inr (.inl x) :: r => aN ls (.inl x.toInt32 :: r) μ
    | _ => none)
  | .lcmp => (match st with
    | .inr (.inl y) :: .inr (.inl x) :: r => aN ls (.inl (lg_cmp x y) :: r) μ
    | _ => none)
  | .dup => (match st with
    | .inl x :: r => aN ls (.inl x :: .inl x :: r) μ
    | .inr (.inr (.inl x)) :: r => aN ls (.inr (.inr (.inl x)) :: .inr (.inr (.inl x)) :: r) μ
    | _ => none)
  | .dup2 => (match st with
    | .inl y :: .inr (.inr (.inl x)) :: r => aN ls (.inl y :: .inr (.inr (.inl x)) :: .inl y :: .inr (.inr (.inl x)) :: r) μ
    | _ => none)
  | .pop => (match st with
    | .inl _ :: r => aN ls r μ
    | _ => none)
  | .goto _ => aJ (jtg q.2.2.2.1) ls st μ
  | .ifCond .eq _ => jif (fun x => decide (x = 0)) (jtg q.2.2.2.1) ls st μ
  | .ifCond .ne _ => jif (fun x => decide (¬ x = 0)) (jtg q.2.2.2.1) ls st μ
  | .ifCond .lt _ => jif (fun x => decide (x < 0)) (jtg q.2.2.2.1) ls st μ
  | .ifCond .ge _ => jif (fun x => decide (0 ≤ x)) (jtg q.2.2.2.1) ls st μ
  | .ifCond .gt _ => jif (fun x => decide (0 < x)) (jtg q.2.2.2.1) ls st μ
  | .ifCond .le _ => jif (fun x => decide (x ≤ 0)) (jtg q.2.2.2.1) ls st μ
  | .if_icmp .eq _ => jif2 (fun x y => decide (x = y)) (jtg q.2.2.2.1) ls st μ
  | .if_icmp .ne _ => jif2 (fun x y => decide (¬ x = y)) (jtg q.2.2.2.1) ls st μ
  | .if_icmp .lt _ => jif2 (fun x y => decide (x < y)) (jtg q.2.2.2.1) ls st μ
  | .if_icmp .ge _ => jif2 (fun x y => decide (y ≤ x)) (jtg q.2.2.2.1) ls st μ
  | .if_icmp .gt _ => jif2 (fun x y => decide (y < x)) (jtg q.2.2.2.1) ls st μ
  | .if_icmp .le _ => jif2 (fun x y => decide (x ≤ y)) (jtg q.2.2.2.1) ls st μ
  | .tableswitch _ _ _ _ => (match st with
    | .inl x :: r => aS x q.2.2.2.2.2.2 (jtg q.2.2.2.1) ls r μ
    | _ => none)
  | .getfield _ => jgf q.2.2.2.1 q.2.2.2.2.1 ls st μ
  | .putfield _ => jpf q.2.2.2.1 ls st μ
  | .getstatic _ => jgs q.2.2.2.1 q.2.2.2.2.1 ls st μ
  | .iaload => jiald ls st μ
  | .baload => jbald ls st μ
  | .laload => jlald ls st μ
  | .aaload => jaald ls st μ
  | .arraylength => jalen ls st μ
  | .iastore => jiast ls st μ
  | .bastore => jbast ls st μ
  | .lastore => jlast ls st μ
  | .invokevirtual _ => jiv q.2.2.2.1 ls st μ
  | .invokestatic _ => jiv q.2.2.2.1 ls st μ
  | .ireturn => jret q.2.2.2.1 st μ
  | .lreturn => (match st with
    | [.inr (.inl x)] => aR (some (.inr (.inl x))) μ
    | _ => none)
  | .areturn => (match st with
    | [.inr (.inr (.inl x))] => aR (some (.inr (.inr (.inl x)))) μ
    | _ => none)
  | .return_ => (match st with
    | [] => aR none μ
    | _ => none)
  | _ => none
/-- a call's answer handed on -/
def bV (o : Option jr) (k : jm → Option jr) : Option jr := match o with
  | some (none, μ) => k μ
  | _ => none
def bI (o : Option jr) (k : Int32 → jm → Option jr) : Option jr := match o with
  | some (some (.inl r), μ) => k r μ
  | _ => none
def bL (o : Option jr) (k : Int64 → jm → Option jr) : Option jr := match o with
  | some (some (.inr (.inl r)), μ) => k r μ
  | _ => none
def bR (o : Option jr) (k : Nat × Nat → jm → Option jr) : Option jr := match o with
  | some (some (.inr (.inr (.inl r))), μ) => k r μ
  | _ => none
def jbd (rk : Nat) (o : Option jr) (k : List jv → jm → Option jr) : Option jr := match rk with
  | 0 => bV o (fun μ => k [] μ)
  | 1 => bI o (fun r μ => k [.inl r] μ)
  | 2 => bL o (fun r μ => k [.inr (.inl r)] μ)
  | _ => bR o (fun r μ => k [.inr (.inr (.inl r))] μ)
def jgd (g : Bool) (x : Option jr) : Option jr := match g with
  | true => x
  | false => none
def jbr (b : Bool) (x y : Option jr) : Option jr := match b with
  | true => x
  | false => y
def jsw (x : Int32) (tb : List (Int32 × Nat)) (d : Nat) (k : Nat → Option jr) : Option jr := match tb with
  | [] => k d
  | (v, t) :: r => jbr (decide (x = v)) (k t) (jsw x r d k)
def jfd (pc : Nat) : List je → Option je
  | [] => none
  | q :: r => match Nat.beq q.1 pc with
    | true => some q
    | false => jfd pc r
abbrev jE : Type := Nat → List jv → List jv → jm → Option jr
abbrev jC : Type := Nat → List jv → jm → Option jr
/-- what follows an action: calls by way of C, the rest by way of E; the next place is p2 -/
def jgo (C : jC) (E : jE) (p2 : Nat) (a : Option ja) : Option jr := match a with
  | none => none
  | some (.inl (none, ls, st, μ)) => E p2 ls st μ
  | some (.inl (some g, ls, st, μ)) => jgd g (E p2 ls st μ)
  | some (.inr (.inl (none, t, ls, st, μ))) => E t ls st μ
  | some (.inr (.inl (some b, t, ls, st, μ))) => jbr b (E t ls st μ) (E p2 ls st μ)
  | some (.inr (.inr (.inl (j2, as, rk, ls, st, μ)))) => jbd rk (C j2 as μ) (fun vs μ2 => E p2 ls (vs ++ st) μ2)
  | some (.inr (.inr (.inr (.inl (x, tb, d, ls, st, μ))))) => jsw x tb d (fun t => E t ls st μ)
  | some (.inr (.inr (.inr (.inr r)))) => some r
def jstep (F : List je) (C : jC) (E : jE) (pc : Nat) (ls st : List jv) (μ : jm) : Option jr := match jfd pc F with
  | none => none
  | some q => jgo C E (pc + q.2.2.2.1.headD 0) (jact q (jcl q.2.1 ls) st μ)
theorem jbd_mono {rk : Nat} {o o' : Option jr} {k k' : List jv → jm → Option jr} {r : jr} (ho : ∀ r, o = some r → o' = some r) (hk : ∀ vs μ r, k vs μ = some r → k' vs μ = some r) (h : jbd rk o k = some r) : jbd rk o' k' = some r := by
  cases o with
  | none =>
    exfalso
    match rk, h with
    | 0, h => simp [jbd, bV] at h
    | 1, h => simp [jbd, bI] at h
    | 2, h => simp [jbd, bL] at h
    | _ + 3, h => simp [jbd, bR] at h
  | some q =>
    rw [ho q rfl]
    obtain ⟨v, μ⟩ := q
    match rk, h with
    | 0, h => cases v with
      | none => exact hk _ _ _ h
      | some v => simp [jbd, bV] at h
    | 1, h => match v, h with
      | some (.inl x), h => exact hk _ _ _ h
      | some (.inr x), h => simp [jbd, bI] at h
      | none, h => simp [jbd, bI] at h
    | 2, h => match v, h with
      | some (.inr (.inl x)), h => exact hk _ _ _ h
      | some (.inr (.inr x)), h => simp [jbd, bL] at h
      | some (.inl x), h => simp [jbd, bL] at h
      | none, h => simp [jbd, bL] at h
    | n + 3, h => match v, h with
      | some (.inr (.inr (.inl x))), h => exact hk _ _ _ h
      | some (.inr (.inr (.inr x))), h => simp [jbd, bR] at h
      | some (.inr (.inl x)), h => simp [jbd, bR] at h
      | some (.inl x), h => simp [jbd, bR] at h
      | none, h => simp [jbd, bR] at h
/-- a call whose answer is there: what is handed on -/
theorem jbd_some {rk : Nat} {o : Option jr} {k : List jv → jm → Option jr} {r : jr} (h : jbd rk o k = some r) : ∃ (v : Option jv) (μ : jm), o = some (v, μ) ∧ k v.toList μ = some r ∧ ∀ k' : List jv → jm → Option jr, jbd rk o k' = k' v.toList μ := by
  cases o with
  | none =>
    exfalso
    match rk, h with
    | 0, h => simp [jbd, bV] at h
    | 1, h => simp [jbd, bI] at h
    | 2, h => simp [jbd, bL] at h
    | _ + 3, h => simp [jbd, bR] at h
  | some q =>
    obtain ⟨v, μ⟩ := q
    refine ⟨v, μ, rfl, ?_⟩
    match rk, h with
    | 0, h => cases v with
      | none => exact ⟨h, fun _ => rfl⟩
      | some v => simp [jbd, bV] at h
    | 1, h => match v, h with
      | some (.inl x), h => exact ⟨h, fun _ => rfl⟩
      | some (.inr x), h => simp [jbd, bI] at h
      | none, h => simp [jbd, bI] at h
    | 2, h => match v, h with
      | some (.inr (.inl x)), h => exact ⟨h, fun _ => rfl⟩
      | some (.inr (.inr x)), h => simp [jbd, bL] at h
      | some (.inl x), h => simp [jbd, bL] at h
      | none, h => simp [jbd, bL] at h
    | n + 3, h => match v, h with
      | some (.inr (.inr (.inl x))), h => exact ⟨h, fun _ => rfl⟩
      | some (.inr (.inr (.inr x))), h => simp [jbd, bR] at h
      | some (.inr (.inl x)), h => simp [jbd, bR] at h
      | some (.inl x), h => simp [jbd, bR] at h
      | none, h => simp [jbd, bR] at h
/-- a switch goes to one place -/
theorem jsw_one (x : Int32) : ∀ (tb : List (Int32 × Nat)) (d : Nat), ∃ t, ∀ k : Nat → Option jr, jsw x tb d k = k t
  | [], d => ⟨d, fun _ => rfl⟩
  | (v, t) :: r, d => by
    by_cases h : x = v
    · exact ⟨t, fun k => by rw [jsw, decide_eq_true h]; rfl⟩
    · obtain ⟨t', ht⟩ := jsw_one x r d
      exact ⟨t', fun k => by rw [jsw, decide_eq_false h, ← ht k]; rfl⟩
theorem jgo_mono {C C' : jC} {E E' : jE} {p2 : Nat} {a : Option ja} {r : jr} (hC : ∀ a b c r, C a b c = some r → C' a b c = some r) (hE : ∀ a b c d r, E a b c d = some r → E' a b c d = some r) (h : jgo C E p2 a = some r) : jgo C' E' p2 a = some r := by
  match a, h with
  | none, h => simp [jgo] at h
  | some (.inl (none, ls, st, μ)), h => exact hE p2 ls st μ r h
  | some (.inl (some g, ls, st, μ)), h =>
    cases g with
    | true => exact hE p2 ls st μ r h
    | false => exact absurd (show (none : Option jr) = some r from h) (by simp)
  | some (.inr (.inl (none, t, ls, st, μ))), h => exact hE t ls st μ r h
  | some (.inr (.inl (some b, t, ls, st, μ))), h =>
    cases b with
    | true => exact hE t ls st μ r h
    | false => exact hE p2 ls st μ r h
  | some (.inr (.inr (.inl (j2, as, rk, ls, st, μ)))), h => exact jbd_mono (hC _ _ _) (fun vs μ2 r h => hE _ _ _ _ _ h) (show jbd rk (C j2 as μ) (fun vs μ2 => E p2 ls (vs ++ st) μ2) = some r from h)
  | some (.inr (.inr (.inr (.inl (x, tb, d, ls, st, μ))))), h =>
    obtain ⟨t, ht⟩ := jsw_one x tb d
    have h : jsw x tb d (fun t => E t ls st μ) = some r := h
    show jsw x tb d (fun t => E' t ls st μ) = some r
    rw [ht] at h ⊢
    exact hE _ _ _ _ _ h
  | some (.inr (.inr (.inr (.inr r')))), h => exact h
/-- a step whose parts end within some fuel each ends within one -/
theorem jgo_cont {C : jC} {E : jE} {Cn : Nat → jC} {En : Nat → jE} {p2 : Nat} {a : Option ja} {r : jr}
    (mC : ∀ n m a b c r, n ≤ m → Cn n a b c = some r → Cn m a b c = some r) (mE : ∀ n m a b c d r, n ≤ m → En n a b c d = some r → En m a b c d = some r)
    (hC : ∀ a b c r, C a b c = some r → ∃ n, Cn n a b c = some r) (hE : ∀ a b c d r, E a b c d = some r → ∃ n, En n a b c d = some r) (h : jgo C E p2 a = some r) : ∃ n, jgo (Cn n) (En n) p2 a = some r := by
  match a, h with
  | none, h => simp [jgo] at h
  | some (.inl (none, ls, st, μ)), h => exact hE p2 ls st μ r h
  | some (.inl (some g, ls, st, μ)), h =>
    cases g with
    | true => exact hE p2 ls st μ r h
    | false => exact absurd (show (none : Option jr) = some r from h) (by simp)
  | some (.inr (.inl (none, t, ls, st, μ))), h => exact hE t ls st μ r h
  | some (.inr (.inl (some b, t, ls, st, μ))), h =>
    cases b with
    | true => exact hE t ls st μ r h
    | false => exact hE p2 ls st μ r h
  | some (.inr (.inr (.inl (j2, as, rk, ls, st, μ)))), h =>
    have h : jbd rk (C j2 as μ) (fun vs μ2 => E p2 ls (vs ++ st) μ2) = some r := h
    obtain ⟨v, μ2, h1, h2, -⟩ := jbd_some h
    obtain ⟨n1, e1⟩ := hC _ _ _ _ h1
    obtain ⟨n2, e2⟩ := hE _ _ _ _ _ h2
    refine ⟨max n1 n2, ?_⟩
    have e1' := mC n1 (max n1 n2) _ _ _ _ (Nat.le_max_left _ _) e1
    have e2' := mE n2 (max n1 n2) _ _ _ _ _ (Nat.le_max_right _ _) e2
    show jbd rk (Cn (max n1 n2) j2 as μ) (fun vs μ2 => En (max n1 n2) p2 ls (vs ++ st) μ2) = some r
    rw [h1] at h
    obtain ⟨v', μ2', h1', -, h4⟩ := jbd_some h
    cases h1'
    rw [e1', h4]
    exact e2'
  | some (.inr (.inr (.inr (.inl (x, tb, d, ls, st, μ))))), h =>
    obtain ⟨t, ht⟩ := jsw_one x tb d
    have h : jsw x tb d (fun t => E t ls st μ) = some r := h
    rw [ht] at h
    obtain ⟨n, hn⟩ := hE _ _ _ _ _ h
    refine ⟨n, ?_⟩
    show jsw x tb d (fun t => En n t ls st μ) = some r
    rw [ht]
    exact hn
  | some (.inr (.inr (.inr (.inr r')))), h => exact ⟨0, h⟩
end
section
/-! THE PROGRAM, by program out of the bytecode: a method is its entries (place, locals that are dead there, instruction, numbers, constants, a table) -/
/-- 0: java/lang/Integer.bitCount(I)I -/
def K0 : List je := [(0, [], .iload_n 0, [1], 0, 0, []), (1, [], .iload_n 0, [1], 0, 0, []), (2, [], .iconst 1, [1], 1, 0, []), (3, [], .iushr, [1], 0, 0, []), (4, [], .ldc_w 265, [3], 1431655765, 0, []), (7, [], .iand, [1], 0, 0, []), (8, [], .isub, [1], 0, 0, []), (9, [], .istore_n 0, [1], 0, 0, []), (10, [], .iload_n 0, [1], 0, 0, []), (11, [], .ldc_w 266, [3], 858993459, 0, []), (14, [], .iand, [1], 0, 0, []), (15, [], .iload_n 0, [1], 0, 0, []), (16, [], .iconst 2, [1], 2, 0, []), (17, [], .iushr, [1], 0, 0, []), (18, [], .ldc_w 266, [3], 858993459, 0, []), (21, [], .iand, [1], 0, 0, []), (22, [], .iadd, [1], 0, 0, []), (23, [], .istore_n 0, [1], 0, 0, []), (24, [], .iload_n 0, [1], 0, 0, []), (25, [], .iload_n 0, [1], 0, 0, []), (26, [], .iconst 4, [1], 4, 0, []), (27, [], .iushr, [1], 0, 0, []), (28, [], .iadd, [1], 0, 0, []), (29, [], .ldc_w 267, [3], 252645135, 0, []), (32, [], .iand, [1], 0, 0, []), (33, [], .istore_n 0, [1], 0, 0, []), (34, [], .iload_n 0, [1], 0, 0, []), (35, [], .iload_n 0, [1], 0, 0, []), (36, [], .bipush 8, [2], 8, 0, []), (38, [], .iushr, [1], 0, 0, []), (39, [], .iadd, [1], 0, 0, []), (40, [], .istore_n 0, [1], 0, 0, []), (41, [], .iload_n 0, [1], 0, 0, []), (42, [], .iload_n 0, [1], 0, 0, []), (43, [], .bipush 16, [2], 16, 0, []), (45, [], .iushr, [1], 0, 0, []), (46, [], .iadd, [1], 0, 0, []), (47, [], .istore_n 0, [1], 0, 0, []), (48, [], .iload_n 0, [1], 0, 0, []), (49, [], .bipush 63, [2], 63, 0, []), (51, [], .iand, [1], 0, 0, []), (52, [], .ireturn, [1, 0], 0, 0, [])]
/-- 1: java/util/Arrays.fill([II)V -/
def K1 : List je := [(0, [], .iconst 0, [1], 0, 0, []), (1, [], .istore_n 2, [1], 0, 0, []), (2, [], .aload_n 0, [1], 0, 0, []), (3, [], .arraylength, [1], 0, 0, []), (4, [], .istore_n 3, [1], 0, 0, []), (5, [], .iload_n 2, [1], 0, 0, []), (6, [], .iload_n 3, [1], 0, 0, []), (7, [], .if_icmp .ge 13, [3, 20], 0, 0, []), (10, [], .aload_n 0, [1], 0, 0, []), (11, [], .iload_n 2, [1], 0, 0, []), (12, [], .iload_n 1, [1], 0, 0, []), (13, [], .iastore, [1], 0, 0, []), (14, [], .iinc 2 1, [3], 1, 0, []), (17, [], .goto (-12), [3, 5], 0, 0, []), (20, [], .return_, [1], 0, 0, [])]
/-- 2: java/util/Arrays.fill([JJ)V -/
def K2 : List je := [(0, [], .iconst 0, [1], 0, 0, []), (1, [], .istore_n 3, [1], 0, 0, []), (2, [], .aload_n 0, [1], 0, 0, []), (3, [], .arraylength, [1], 0, 0, []), (4, [], .istore 4, [2], 0, 0, []), (6, [2], .iload_n 3, [1], 0, 0, []), (7, [], .iload 4, [2], 0, 0, []), (9, [], .if_icmp .ge 13, [3, 22], 0, 0, []), (12, [], .aload_n 0, [1], 0, 0, []), (13, [], .iload_n 3, [1], 0, 0, []), (14, [], .lload_n 1, [1], 0, 0, []), (15, [], .lastore, [1], 0, 0, []), (16, [], .iinc 3 1, [3], 1, 0, []), (19, [], .goto (-13), [3, 6], 0, 0, []), (22, [], .return_, [1], 0, 0, [])]
/-- 3: jdk/internal/util/Preconditions.checkIndex(IILjava/util/function/BiFunction;)I -/
def K3 : List je := [(0, [], .iload_n 0, [1], 0, 0, []), (1, [], .ifCond .lt 8, [3, 9], 0, 0, []), (4, [], .iload_n 0, [1], 0, 0, []), (5, [], .iload_n 1, [1], 0, 0, []), (6, [], .if_icmp .lt 10, [3, 16], 0, 0, []), (16, [], .iload_n 0, [1], 0, 0, []), (17, [], .ireturn, [1, 0], 0, 0, [])]
/-- 4: java/lang/String.length()I -/
def K4 : List je := [(0, [], .aload_n 0, [1], 0, 0, []), (1, [], .getfield 9, [3, 98, 0, 3, 95, 0], 0, 0, []), (4, [], .arraylength, [1], 0, 0, []), (5, [], .aload_n 0, [1], 0, 0, []), (6, [], .invokevirtual 335, [3, 5, 1, 1, 1, 98], 0, 0, []), (9, [], .ishr, [1], 0, 0, []), (10, [], .ireturn, [1, 0], 0, 0, [])]
/-- 5: java/lang/String.coder()B -/
def K5 : List je := [(0, [], .getstatic 38, [3, 0], 1, 0, []), (3, [], .ifCond .eq 10, [3, 13], 0, 0, []), (6, [], .aload_n 0, [1], 0, 0, []), (7, [], .getfield 15, [3, 98, 0, 4, 0, 0], 0, 0, []), (10, [], .goto 4, [3, 14], 0, 0, []), (13, [], .iconst 1, [1], 1, 0, []), (14, [], .ireturn, [1, 2], 0, 0, [])]
/-- 6: java/lang/String.charAt(I)C -/
def K6 : List je := [(0, [], .aload_n 0, [1], 0, 0, []), (1, [], .invokevirtual 492, [3, 7, 1, 1, 1, 98], 0, 0, []), (4, [], .ifCond .eq 12, [3, 16], 0, 0, []), (7, [], .aload_n 0, [1], 0, 0, []), (8, [], .getfield 9, [3, 98, 0, 3, 95, 0], 0, 0, []), (11, [], .iload_n 1, [1], 0, 0, []), (12, [], .invokestatic 495, [3, 9, 2, 1, 2, 200], 0, 0, []), (15, [], .ireturn, [1, 3], 0, 0, [])]
/-- 7: java/lang/String.isLatin1()Z -/
def K7 : List je := [(0, [], .getstatic 38, [3, 0], 1, 0, []), (3, [], .ifCond .eq 14, [3, 17], 0, 0, []), (6, [], .aload_n 0, [1], 0, 0, []), (7, [], .getfield 15, [3, 98, 0, 4, 0, 0], 0, 0, []), (10, [], .ifCond .ne 7, [3, 17], 0, 0, []), (13, [], .iconst 1, [1], 1, 0, []), (14, [], .goto 4, [3, 18], 0, 0, []), (17, [], .iconst 0, [1], 0, 0, []), (18, [], .ireturn, [1, 1], 0, 0, [])]
/-- 8: java/lang/String.checkIndex(II)V -/
def K8 : List je := [(0, [], .iload_n 0, [1], 0, 0, []), (1, [], .iload_n 1, [1], 0, 0, []), (2, [], .getstatic 1053, [3, 1], 0, 0, []), (5, [], .invokestatic 1059, [3, 3, 3, 1, 3, 200], 0, 0, []), (8, [], .pop, [1], 0, 0, []), (9, [], .return_, [1], 0, 0, [])]
/-- 9: java/lang/StringLatin1.charAt([BI)C -/
def K9 : List je := [(0, [], .iload_n 1, [1], 0, 0, []), (1, [], .aload_n 0, [1], 0, 0, []), (2, [], .arraylength, [1], 0, 0, []), (3, [], .invokestatic 9, [3, 8, 2, 0, 2, 200], 0, 0, []), (6, [], .aload_n 0, [1], 0, 0, []), (7, [], .iload_n 1, [1], 0, 0, []), (8, [], .baload, [1], 0, 0, []), (9, [], .sipush 255, [3], 255, 0, []), (12, [], .iand, [1], 0, 0, []), (13, [], .i2c, [1], 0, 0, []), (14, [], .ireturn, [1, 3], 0, 0, [])]
/-- 10: OneNote$Ring.isNote(I)Z -/
def K10 : List je := [(0, [], .iload_n 0, [1], 0, 0, []), (1, [], .ifCond .lt 13, [3, 14], 0, 0, []), (4, [], .iload_n 0, [1], 0, 0, []), (5, [], .bipush 12, [2], 12, 0, []), (7, [], .if_icmp .ge 7, [3, 14], 0, 0, []), (10, [], .iconst 1, [1], 1, 0, []), (11, [], .goto 4, [3, 15], 0, 0, []), (14, [], .iconst 0, [1], 0, 0, []), (15, [], .ireturn, [1, 1], 0, 0, [])]
/-- 11: OneNote$Ring.raised(II)I -/
def K11 : List je := [(0, [], .iload_n 0, [1], 0, 0, []), (1, [], .iload_n 1, [1], 0, 0, []), (2, [], .ishl, [1], 0, 0, []), (3, [], .iload_n 0, [1], 0, 0, []), (4, [], .bipush 12, [2], 12, 0, []), (6, [], .iload_n 1, [1], 0, 0, []), (7, [], .isub, [1], 0, 0, []), (8, [], .ishr, [1], 0, 0, []), (9, [], .ior, [1], 0, 0, []), (10, [], .sipush 4095, [3], 4095, 0, []), (13, [], .iand, [1], 0, 0, []), (14, [], .ireturn, [1, 0], 0, 0, [])]
/-- 12: OneNote$Ring.near(II)I -/
def K12 : List je := [(0, [], .iload_n 0, [1], 0, 0, []), (1, [], .istore_n 2, [1], 0, 0, []), (2, [], .iconst 1, [1], 1, 0, []), (3, [], .istore_n 3, [1], 0, 0, []), (4, [], .iload_n 3, [1], 0, 0, []), (5, [], .iload_n 1, [1], 0, 0, []), (6, [], .if_icmp .gt 26, [3, 32], 0, 0, []), (9, [], .iload_n 2, [1], 0, 0, []), (10, [], .iload_n 0, [1], 0, 0, []), (11, [], .iload_n 3, [1], 0, 0, []), (12, [], .invokestatic 9, [3, 11, 2, 1, 2, 200], 0, 0, []), (15, [], .iload_n 0, [1], 0, 0, []), (16, [], .bipush 12, [2], 12, 0, []), (18, [], .iload_n 3, [1], 0, 0, []), (19, [], .isub, [1], 0, 0, []), (20, [], .invokestatic 9, [3, 11, 2, 1, 2, 200], 0, 0, []), (23, [], .ior, [1], 0, 0, []), (24, [], .ior, [1], 0, 0, []), (25, [], .istore_n 2, [1], 0, 0, []), (26, [], .iinc 3 1, [3], 1, 0, []), (29, [], .goto (-25), [3, 4], 0, 0, []), (32, [], .iload_n 2, [1], 0, 0, []), (33, [], .ireturn, [1, 0], 0, 0, [])]
/-- 13: OneNote$Ring.filledByOneMore(III)I -/
def K13 : List je := [(0, [], .iload_n 2, [1], 0, 0, []), (1, [], .iload_n 2, [1], 0, 0, []), (2, [], .ineg, [1], 0, 0, []), (3, [], .iand, [1], 0, 0, []), (4, [], .istore_n 3, [1], 0, 0, []), (5, [], .iload_n 2, [1], 0, 0, []), (6, [], .iload_n 3, [1], 0, 0, []), (7, [], .iconst (-1), [1], (-1), 0, []), (8, [], .ixor, [1], 0, 0, []), (9, [], .iand, [1], 0, 0, []), (10, [], .istore 4, [2], 0, 0, []), (12, [], .iload 4, [2], 0, 0, []), (14, [], .iload 4, [2], 0, 0, []), (16, [], .ineg, [1], 0, 0, []), (17, [], .iand, [1], 0, 0, []), (18, [], .istore 5, [2], 0, 0, []), (20, [], .iload 4, [2], 0, 0, []), (22, [], .iload 5, [2], 0, 0, []), (24, [], .iconst (-1), [1], (-1), 0, []), (25, [], .ixor, [1], 0, 0, []), (26, [], .iand, [1], 0, 0, []), (27, [], .istore 6, [2], 0, 0, []), (29, [], .iconst 0, [1], 0, 0, []), (30, [], .istore 7, [2], 0, 0, []), (32, [], .iload_n 1, [1], 0, 0, []), (33, [], .iload_n 3, [1], 0, 0, []), (34, [], .iand, [1], 0, 0, []), (35, [], .ifCond .eq 14, [3, 49], 0, 0, []), (38, [], .iload 7, [2], 0, 0, []), (40, [], .iload_n 0, [1], 0, 0, []), (41, [], .bipush 85, [2], 85, 0, []), (43, [], .iand, [1], 0, 0, []), (44, [], .iconst 1, [1], 1, 0, []), (45, [], .ishl, [1], 0, 0, []), (46, [], .ior, [1], 0, 0, []), (47, [], .istore 7, [2], 0, 0, []), (49, [2, 3, 4], .iload_n 1, [1], 0, 0, []), (50, [], .iload 5, [2], 0, 0, []), (52, [], .iand, [1], 0, 0, []), (53, [], .ifCond .eq 14, [3, 67], 0, 0, []), (56, [], .iload 7, [2], 0, 0, []), (58, [], .iload_n 0, [1], 0, 0, []), (59, [], .bipush 51, [2], 51, 0, []), (61, [], .iand, [1], 0, 0, []), (62, [], .iconst 2, [1], 2, 0, []), (63, [], .ishl, [1], 0, 0, []), (64, [], .ior, [1], 0, 0, []), (65, [], .istore 7, [2], 0, 0, []), (67, [], .iload_n 1, [1], 0, 0, []), (68, [], .iload 6, [2], 0, 0, []), (70, [], .iand, [1], 0, 0, []), (71, [], .ifCond .eq 14, [3, 85], 0, 0, []), (74, [], .iload 7, [2], 0, 0, []), (76, [], .iload_n 0, [1], 0, 0, []), (77, [], .bipush 15, [2], 15, 0, []), (79, [], .iand, [1], 0, 0, []), (80, [], .iconst 4, [1], 4, 0, []), (81, [], .ishl, [1], 0, 0, []), (82, [], .ior, [1], 0, 0, []), (83, [], .istore 7, [2], 0, 0, []), (85, [], .iload 7, [2], 0, 0, []), (87, [], .ireturn, [1, 0], 0, 0, [])]
/-- 14: OneNote$Ring.isWholeChord(I)Z -/
def K14 : List je := [(0, [], .iload_n 0, [1], 0, 0, []), (1, [], .bipush 7, [2], 7, 0, []), (3, [], .ishr, [1], 0, 0, []), (4, [], .iconst 1, [1], 1, 0, []), (5, [], .iand, [1], 0, 0, []), (6, [], .ifCond .eq 7, [3, 13], 0, 0, []), (9, [], .iconst 1, [1], 1, 0, []), (10, [], .goto 4, [3, 14], 0, 0, []), (13, [], .iconst 0, [1], 0, 0, []), (14, [], .ireturn, [1, 1], 0, 0, [])]
/-- 15: OneNote$Valley.addDoor(II)I -/
def K15 : List je := [(0, [], .aload_n 0, [1], 0, 0, []), (1, [], .getfield 9, [3, 8, 0, 2, 1006, 1], 0, 0, []), (4, [], .iload_n 1, [1], 0, 0, []), (5, [], .iload_n 2, [1], 0, 0, []), (6, [], .invokestatic 59, [3, 16, 3, 1, 3, 200], 0, 0, []), (9, [], .ireturn, [1, 0], 0, 0, [])]
/-- 16: OneNote$Valley.join([III)I -/
def K16 : List je := [(0, [], .iload_n 1, [1], 0, 0, []), (1, [], .invokestatic 63, [3, 95, 1, 1, 1, 200], 0, 0, []), (4, [], .ifCond .eq 15, [3, 19], 0, 0, []), (7, [], .iload_n 2, [1], 0, 0, []), (8, [], .invokestatic 63, [3, 95, 1, 1, 1, 200], 0, 0, []), (11, [], .ifCond .eq 8, [3, 19], 0, 0, []), (14, [], .iload_n 1, [1], 0, 0, []), (15, [], .iload_n 2, [1], 0, 0, []), (16, [], .if_icmp .ne 6, [3, 22], 0, 0, []), (19, [], .bipush (-2), [2], (-2), 0, []), (21, [], .ireturn, [1, 0], 0, 0, []), (22, [], .aload_n 0, [1], 0, 0, []), (23, [], .iload_n 1, [1], 0, 0, []), (24, [], .iaload, [1], 0, 0, []), (25, [], .iload_n 2, [1], 0, 0, []), (26, [], .ishr, [1], 0, 0, []), (27, [], .iconst 1, [1], 1, 0, []), (28, [], .iand, [1], 0, 0, []), (29, [], .ifCond .eq 6, [3, 35], 0, 0, []), (32, [], .bipush (-3), [2], (-3), 0, []), (34, [], .ireturn, [1, 0], 0, 0, []), (35, [], .aload_n 0, [1], 0, 0, []), (36, [], .iload_n 1, [1], 0, 0, []), (37, [], .dup2, [1], 0, 0, []), (38, [], .iaload, [1], 0, 0, []), (39, [], .iconst 1, [1], 1, 0, []), (40, [], .iload_n 2, [1], 0, 0, []), (41, [], .ishl, [1], 0, 0, []), (42, [], .ior, [1], 0, 0, []), (43, [], .iastore, [1], 0, 0, []), (44, [], .aload_n 0, [1], 0, 0, []), (45, [], .iload_n 2, [1], 0, 0, []), (46, [], .dup2, [1], 0, 0, []), (47, [], .iaload, [1], 0, 0, []), (48, [], .iconst 1, [1], 1, 0, []), (49, [], .iload_n 1, [1], 0, 0, []), (50, [], .ishl, [1], 0, 0, []), (51, [], .ior, [1], 0, 0, []), (52, [], .iastore, [1], 0, 0, []), (53, [], .iconst 1, [1], 1, 0, []), (54, [], .ireturn, [1, 0], 0, 0, [])]
/-- 17: OneNote$Valley.addHearing(II)I -/
def K17 : List je := [(0, [], .aload_n 0, [1], 0, 0, []), (1, [], .getfield 15, [3, 8, 1, 2, 1006, 2], 0, 0, []), (4, [], .iload_n 1, [1], 0, 0, []), (5, [], .iload_n 2, [1], 0, 0, []), (6, [], .invokestatic 59, [3, 16, 3, 1, 3, 200], 0, 0, []), (9, [], .ireturn, [1, 0], 0, 0, [])]
/-- 18: OneNote$Valley.addPerson(III)I -/
def K18 : List je := [(0, [], .iload_n 1, [1], 0, 0, []), (1, [], .ifCond .lt 22, [3, 23], 0, 0, []), (4, [], .iload_n 1, [1], 0, 0, []), (5, [], .iconst 5, [1], 5, 0, []), (6, [], .if_icmp .gt 17, [3, 23], 0, 0, []), (9, [], .iload_n 2, [1], 0, 0, []), (10, [], .invokestatic 66, [3, 10, 1, 1, 1, 200], 0, 0, []), (13, [], .ifCond .eq 10, [3, 23], 0, 0, []), (16, [], .iload_n 3, [1], 0, 0, []), (17, [], .invokestatic 63, [3, 95, 1, 1, 1, 200], 0, 0, []), (20, [], .ifCond .ne 6, [3, 26], 0, 0, []), (23, [0, 1, 2, 3], .bipush (-2), [2], (-2), 0, []), (25, [], .ireturn, [1, 0], 0, 0, []), (26, [], .aload_n 0, [1], 0, 0, []), (27, [], .getfield 42, [3, 8, 6, 0, 0, 0], 0, 0, []), (30, [], .bipush 7, [2], 7, 0, []), (32, [], .if_icmp .lt 6, [3, 38], 0, 0, []), (35, [], .bipush (-4), [2], (-4), 0, []), (37, [], .ireturn, [1, 0], 0, 0, []), (38, [], .aload_n 0, [1], 0, 0, []), (39, [], .getfield 18, [3, 8, 2, 2, 1007, 3], 0, 0, []), (42, [], .aload_n 0, [1], 0, 0, []), (43, [], .getfield 42, [3, 8, 6, 0, 0, 0], 0, 0, []), (46, [], .iload_n 1, [1], 0, 0, []), (47, [], .iastore, [1], 0, 0, []), (48, [], .aload_n 0, [1], 0, 0, []), (49, [], .getfield 21, [3, 8, 3, 2, 1007, 4], 0, 0, []), (52, [], .aload_n 0, [1], 0, 0, []), (53, [], .getfield 42, [3, 8, 6, 0, 0, 0], 0, 0, []), (56, [], .iload_n 2, [1], 0, 0, []), (57, [], .iastore, [1], 0, 0, []), (58, [], .aload_n 0, [1], 0, 0, []), (59, [], .getfield 24, [3, 8, 4, 2, 1007, 5], 0, 0, []), (62, [], .aload_n 0, [1], 0, 0, []), (63, [], .getfield 42, [3, 8, 6, 0, 0, 0], 0, 0, []), (66, [], .iload_n 3, [1], 0, 0, []), (67, [], .iastore, [1], 0, 0, []), (68, [], .aload_n 0, [1], 0, 0, []), (69, [], .getfield 27, [3, 8, 5, 2, 1007, 6], 0, 0, []), (72, [], .aload_n 0, [1], 0, 0, []), (73, [], .getfield 42, [3, 8, 6, 0, 0, 0], 0, 0, []), (76, [], .iconst (-1), [1], (-1), 0, []), (77, [], .iastore, [1], 0, 0, []), (78, [], .aload_n 0, [1], 0, 0, []), (79, [], .dup, [1], 0, 0, []), (80, [], .getfield 42, [3, 8, 6, 0, 0, 0], 0, 0, []), (83, [], .iconst 1, [1], 1, 0, []), (84, [], .iadd, [1], 0, 0, []), (85, [], .putfield 42, [3, 8, 6, 0], 0, 0, []), (88, [], .aload_n 0, [1], 0, 0, []), (89, [], .getfield 42, [3, 8, 6, 0, 0, 0], 0, 0, []), (92, [], .iconst 1, [1], 1, 0, []), (93, [], .isub, [1], 0, 0, []), (94, [], .ireturn, [1, 0], 0, 0, [])]
/-- 19: OneNote$Valley.addMates(II)I -/
def K19 : List je := [(0, [], .aload_n 0, [1], 0, 0, []), (1, [], .iload_n 1, [1], 0, 0, []), (2, [], .invokevirtual 50, [3, 20, 2, 1, 2, 8], 0, 0, []), (5, [], .ifCond .eq 16, [3, 21], 0, 0, []), (8, [], .aload_n 0, [1], 0, 0, []), (9, [], .iload_n 2, [1], 0, 0, []), (10, [], .invokevirtual 50, [3, 20, 2, 1, 2, 8], 0, 0, []), (13, [], .ifCond .eq 8, [3, 21], 0, 0, []), (16, [], .iload_n 1, [1], 0, 0, []), (17, [], .iload_n 2, [1], 0, 0, []), (18, [], .if_icmp .ne 6, [3, 24], 0, 0, []), (21, [0, 1, 2], .bipush (-2), [2], (-2), 0, []), (23, [], .ireturn, [1, 0], 0, 0, []), (24, [], .aload_n 0, [1], 0, 0, []), (25, [], .getfield 27, [3, 8, 5, 2, 1007, 6], 0, 0, []), (28, [], .iload_n 1, [1], 0, 0, []), (29, [], .iaload, [1], 0, 0, []), (30, [], .iconst (-1), [1], (-1), 0, []), (31, [], .if_icmp .ne 13, [3, 44], 0, 0, []), (34, [], .aload_n 0, [1], 0, 0, []), (35, [], .getfield 27, [3, 8, 5, 2, 1007, 6], 0, 0, []), (38, [], .iload_n 2, [1], 0, 0, []), (39, [], .iaload, [1], 0, 0, []), (40, [], .iconst (-1), [1], (-1), 0, []), (41, [], .if_icmp .eq 6, [3, 47], 0, 0, []), (44, [0, 1, 2], .bipush (-3), [2], (-3), 0, []), (46, [], .ireturn, [1, 0], 0, 0, []), (47, [], .aload_n 0, [1], 0, 0, []), (48, [], .getfield 27, [3, 8, 5, 2, 1007, 6], 0, 0, []), (51, [], .iload_n 1, [1], 0, 0, []), (52, [], .iload_n 2, [1], 0, 0, []), (53, [], .iastore, [1], 0, 0, []), (54, [], .aload_n 0, [1], 0, 0, []), (55, [], .getfield 27, [3, 8, 5, 2, 1007, 6], 0, 0, []), (58, [], .iload_n 2, [1], 0, 0, []), (59, [], .iload_n 1, [1], 0, 0, []), (60, [], .iastore, [1], 0, 0, []), (61, [], .iconst 1, [1], 1, 0, []), (62, [], .ireturn, [1, 0], 0, 0, [])]
/-- 20: OneNote$Valley.isPerson(I)Z -/
def K20 : List je := [(0, [], .iload_n 1, [1], 0, 0, []), (1, [], .ifCond .lt 15, [3, 16], 0, 0, []), (4, [], .iload_n 1, [1], 0, 0, []), (5, [], .aload_n 0, [1], 0, 0, []), (6, [], .getfield 42, [3, 8, 6, 0, 0, 0], 0, 0, []), (9, [], .if_icmp .ge 7, [3, 16], 0, 0, []), (12, [], .iconst 1, [1], 1, 0, []), (13, [], .goto 4, [3, 17], 0, 0, []), (16, [], .iconst 0, [1], 0, 0, []), (17, [], .ireturn, [1, 1], 0, 0, [])]
/-- 21: OneNote$Valley.move(II)I -/
def K21 : List je := [(0, [], .aload_n 0, [1], 0, 0, []), (1, [], .iload_n 1, [1], 0, 0, []), (2, [], .invokevirtual 50, [3, 20, 2, 1, 2, 8], 0, 0, []), (5, [], .ifCond .eq 10, [3, 15], 0, 0, []), (8, [], .iload_n 2, [1], 0, 0, []), (9, [], .invokestatic 63, [3, 95, 1, 1, 1, 200], 0, 0, []), (12, [], .ifCond .ne 6, [3, 18], 0, 0, []), (15, [], .bipush (-2), [2], (-2), 0, []), (17, [], .ireturn, [1, 0], 0, 0, []), (18, [], .aload_n 0, [1], 0, 0, []), (19, [], .getfield 24, [3, 8, 4, 2, 1007, 5], 0, 0, []), (22, [], .iload_n 1, [1], 0, 0, []), (23, [], .iaload, [1], 0, 0, []), (24, [], .istore_n 3, [1], 0, 0, []), (25, [], .aload_n 0, [1], 0, 0, []), (26, [], .getfield 24, [3, 8, 4, 2, 1007, 5], 0, 0, []), (29, [], .iload_n 1, [1], 0, 0, []), (30, [], .iload_n 2, [1], 0, 0, []), (31, [], .iastore, [1], 0, 0, []), (32, [], .iload_n 3, [1], 0, 0, []), (33, [], .ireturn, [1, 0], 0, 0, [])]
/-- 22: OneNote$Valley.addChord(IIII)I -/
def K22 : List je := [(0, [], .iload_n 1, [1], 0, 0, []), (1, [], .invokestatic 66, [3, 10, 1, 1, 1, 200], 0, 0, []), (4, [], .ifCond .eq 31, [3, 35], 0, 0, []), (7, [], .iload_n 2, [1], 0, 0, []), (8, [], .invokestatic 66, [3, 10, 1, 1, 1, 200], 0, 0, []), (11, [], .ifCond .eq 24, [3, 35], 0, 0, []), (14, [], .iload_n 3, [1], 0, 0, []), (15, [], .invokestatic 66, [3, 10, 1, 1, 1, 200], 0, 0, []), (18, [], .ifCond .eq 17, [3, 35], 0, 0, []), (21, [], .iload_n 1, [1], 0, 0, []), (22, [], .iload_n 2, [1], 0, 0, []), (23, [], .if_icmp .ge 12, [3, 35], 0, 0, []), (26, [], .iload_n 2, [1], 0, 0, []), (27, [], .iload_n 3, [1], 0, 0, []), (28, [], .if_icmp .ge 7, [3, 35], 0, 0, []), (31, [], .iconst 1, [1], 1, 0, []), (32, [], .goto 4, [3, 36], 0, 0, []), (35, [5, 6], .iconst 0, [1], 0, 0, []), (36, [5, 6], .istore 5, [2], 0, 0, []), (38, [], .iload 5, [2], 0, 0, []), (40, [], .ifCond .eq 16, [3, 56], 0, 0, []), (43, [], .iload 4, [2], 0, 0, []), (45, [], .iconst 1, [1], 1, 0, []), (46, [], .if_icmp .lt 10, [3, 56], 0, 0, []), (49, [], .iload 4, [2], 0, 0, []), (51, [], .bipush 9, [2], 9, 0, []), (53, [], .if_icmp .le 6, [3, 59], 0, 0, []), (56, [], .bipush (-2), [2], (-2), 0, []), (58, [], .ireturn, [1, 0], 0, 0, []), (59, [], .iconst 1, [1], 1, 0, []), (60, [], .iload_n 1, [1], 0, 0, []), (61, [], .ishl, [1], 0, 0, []), (62, [], .iconst 1, [1], 1, 0, []), (63, [], .iload_n 2, [1], 0, 0, []), (64, [], .ishl, [1], 0, 0, []), (65, [], .ior, [1], 0, 0, []), (66, [], .iconst 1, [1], 1, 0, []), (67, [], .iload_n 3, [1], 0, 0, []), (68, [], .ishl, [1], 0, 0, []), (69, [], .ior, [1], 0, 0, []), (70, [], .istore 6, [2], 0, 0, []), (72, [], .aload_n 0, [1], 0, 0, []), (73, [], .iload 6, [2], 0, 0, []), (75, [], .invokevirtual 75, [3, 23, 2, 1, 3, 8], 0, 0, []), (78, [], .ifCond .eq 6, [3, 84], 0, 0, []), (81, [], .bipush (-2), [2], (-2), 0, []), (83, [], .ireturn, [1, 0], 0, 0, []), (84, [], .aload_n 0, [1], 0, 0, []), (85, [], .getfield 53, [3, 8, 9, 0, 0, 0], 0, 0, []), (88, [], .bipush 8, [2], 8, 0, []), (90, [], .if_icmp .lt 6, [3, 96], 0, 0, []), (93, [], .bipush (-4), [2], (-4), 0, []), (95, [], .ireturn, [1, 0], 0, 0, []), (96, [], .aload_n 0, [1], 0, 0, []), (97, [], .getfield 30, [3, 8, 7, 2, 1008, 7], 0, 0, []), (100, [], .aload_n 0, [1], 0, 0, []), (101, [], .getfield 53, [3, 8, 9, 0, 0, 0], 0, 0, []), (104, [], .iload 6, [2], 0, 0, []), (106, [], .iastore, [1], 0, 0, []), (107, [], .aload_n 0, [1], 0, 0, []), (108, [], .getfield 33, [3, 8, 8, 2, 1008, 8], 0, 0, []), (111, [], .aload_n 0, [1], 0, 0, []), (112, [], .getfield 53, [3, 8, 9, 0, 0, 0], 0, 0, []), (115, [], .iload 4, [2], 0, 0, []), (117, [], .iastore, [1], 0, 0, []), (118, [], .aload_n 0, [1], 0, 0, []), (119, [], .dup, [1], 0, 0, []), (120, [], .getfield 53, [3, 8, 9, 0, 0, 0], 0, 0, []), (123, [], .iconst 1, [1], 1, 0, []), (124, [], .iadd, [1], 0, 0, []), (125, [], .putfield 53, [3, 8, 9, 0], 0, 0, []), (128, [], .aload_n 0, [1], 0, 0, []), (129, [], .getfield 53, [3, 8, 9, 0, 0, 0], 0, 0, []), (132, [], .iconst 1, [1], 1, 0, []), (133, [], .isub, [1], 0, 0, []), (134, [], .ireturn, [1, 0], 0, 0, [])]
/-- 23: OneNote$Valley.hasChordOf(I)Z -/
def K23 : List je := [(0, [], .iconst 0, [1], 0, 0, []), (1, [], .istore_n 2, [1], 0, 0, []), (2, [], .iload_n 2, [1], 0, 0, []), (3, [], .aload_n 0, [1], 0, 0, []), (4, [], .getfield 53, [3, 8, 9, 0, 0, 0], 0, 0, []), (7, [], .if_icmp .ge 21, [3, 28], 0, 0, []), (10, [], .aload_n 0, [1], 0, 0, []), (11, [], .getfield 30, [3, 8, 7, 2, 1008, 7], 0, 0, []), (14, [], .iload_n 2, [1], 0, 0, []), (15, [], .iaload, [1], 0, 0, []), (16, [], .iload_n 1, [1], 0, 0, []), (17, [], .if_icmp .ne 5, [3, 22], 0, 0, []), (20, [], .iconst 1, [1], 1, 0, []), (21, [], .ireturn, [1, 1], 0, 0, []), (22, [], .iinc 2 1, [3], 1, 0, []), (25, [], .goto (-23), [3, 2], 0, 0, []), (28, [], .iconst 0, [1], 0, 0, []), (29, [], .ireturn, [1, 1], 0, 0, [])]
/-- 24: OneNote$Valley.changeSlack(I)I -/
def K24 : List je := [(0, [], .iload_n 1, [1], 0, 0, []), (1, [], .ifCond .lt 8, [3, 9], 0, 0, []), (4, [], .iload_n 1, [1], 0, 0, []), (5, [], .iconst 2, [1], 2, 0, []), (6, [], .if_icmp .le 6, [3, 12], 0, 0, []), (9, [], .bipush (-2), [2], (-2), 0, []), (11, [], .ireturn, [1, 0], 0, 0, []), (12, [], .aload_n 0, [1], 0, 0, []), (13, [], .getfield 78, [3, 8, 10, 0, 0, 0], 0, 0, []), (16, [], .istore_n 2, [1], 0, 0, []), (17, [], .aload_n 0, [1], 0, 0, []), (18, [], .iload_n 1, [1], 0, 0, []), (19, [], .putfield 78, [3, 8, 10, 0], 0, 0, []), (22, [], .iload_n 2, [1], 0, 0, []), (23, [], .ireturn, [1, 0], 0, 0, [])]
/-- 25: OneNote$Valley.isMember(II)Z -/
def K25 : List je := [(0, [], .aload_n 0, [1], 0, 0, []), (1, [], .iload_n 2, [1], 0, 0, []), (2, [], .invokevirtual 46, [3, 26, 2, 1, 2, 8], 0, 0, []), (5, [], .ifCond .eq 23, [3, 28], 0, 0, []), (8, [], .aload_n 0, [1], 0, 0, []), (9, [], .iload_n 1, [1], 0, 0, []), (10, [], .invokevirtual 50, [3, 20, 2, 1, 2, 8], 0, 0, []), (13, [], .ifCond .eq 15, [3, 28], 0, 0, []), (16, [], .iload_n 2, [1], 0, 0, []), (17, [], .iload_n 1, [1], 0, 0, []), (18, [], .ishr, [1], 0, 0, []), (19, [], .iconst 1, [1], 1, 0, []), (20, [], .iand, [1], 0, 0, []), (21, [], .ifCond .eq 7, [3, 28], 0, 0, []), (24, [], .iconst 1, [1], 1, 0, []), (25, [], .goto 4, [3, 29], 0, 0, []), (28, [], .iconst 0, [1], 0, 0, []), (29, [], .ireturn, [1, 1], 0, 0, [])]
/-- 26: OneNote$Valley.isSet(I)Z -/
def K26 : List je := [(0, [], .iload_n 1, [1], 0, 0, []), (1, [], .ifCond .lt 17, [3, 18], 0, 0, []), (4, [], .iload_n 1, [1], 0, 0, []), (5, [], .iconst 1, [1], 1, 0, []), (6, [], .aload_n 0, [1], 0, 0, []), (7, [], .getfield 42, [3, 8, 6, 0, 0, 0], 0, 0, []), (10, [], .ishl, [1], 0, 0, []), (11, [], .if_icmp .ge 7, [3, 18], 0, 0, []), (14, [], .iconst 1, [1], 1, 0, []), (15, [], .goto 4, [3, 19], 0, 0, []), (18, [], .iconst 0, [1], 0, 0, []), (19, [], .ireturn, [1, 1], 0, 0, [])]
/-- 27: OneNote$Valley.becomeEmpty()V -/
def K27 : List je := [(0, [], .aload_n 0, [1], 0, 0, []), (1, [], .getfield 9, [3, 8, 0, 2, 1006, 1], 0, 0, []), (4, [], .iconst 0, [1], 0, 0, []), (5, [], .invokestatic 93, [3, 1, 2, 0, 4, 200], 0, 0, []), (8, [], .aload_n 0, [1], 0, 0, []), (9, [], .getfield 15, [3, 8, 1, 2, 1006, 2], 0, 0, []), (12, [], .iconst 0, [1], 0, 0, []), (13, [], .invokestatic 93, [3, 1, 2, 0, 4, 200], 0, 0, []), (16, [], .aload_n 0, [1], 0, 0, []), (17, [], .iconst 0, [1], 0, 0, []), (18, [], .putfield 42, [3, 8, 6, 0], 0, 0, []), (21, [], .aload_n 0, [1], 0, 0, []), (22, [], .iconst 0, [1], 0, 0, []), (23, [], .putfield 53, [3, 8, 9, 0], 0, 0, []), (26, [], .aload_n 0, [1], 0, 0, []), (27, [], .iconst 0, [1], 0, 0, []), (28, [], .putfield 78, [3, 8, 10, 0], 0, 0, []), (31, [], .aload_n 0, [1], 0, 0, []), (32, [], .iconst 0, [1], 0, 0, []), (33, [], .putfield 84, [3, 8, 12, 0], 0, 0, []), (36, [], .aload_n 0, [1], 0, 0, []), (37, [], .iconst 0, [1], 0, 0, []), (38, [], .putfield 56, [3, 8, 14, 0], 0, 0, []), (41, [], .return_, [1], 0, 0, [])]
/-- 28: OneNote$Valley.copyAll(LOneNote$Valley;)V -/
def K28 : List je := [(0, [], .aload_n 1, [1], 0, 0, []), (1, [], .getfield 9, [3, 8, 0, 2, 1006, 1], 0, 0, []), (4, [], .iconst 0, [1], 0, 0, []), (5, [], .aload_n 0, [1], 0, 0, []), (6, [], .getfield 9, [3, 8, 0, 2, 1006, 1], 0, 0, []), (9, [], .iconst 0, [1], 0, 0, []), (10, [], .bipush 6, [2], 6, 0, []), (12, [], .invokestatic 99, [3, 1000], 0, 0, []), (15, [], .aload_n 1, [1], 0, 0, []), (16, [], .getfield 15, [3, 8, 1, 2, 1006, 2], 0, 0, []), (19, [], .iconst 0, [1], 0, 0, []), (20, [], .aload_n 0, [1], 0, 0, []), (21, [], .getfield 15, [3, 8, 1, 2, 1006, 2], 0, 0, []), (24, [], .iconst 0, [1], 0, 0, []), (25, [], .bipush 6, [2], 6, 0, []), (27, [], .invokestatic 99, [3, 1000], 0, 0, []), (30, [], .aload_n 0, [1], 0, 0, []), (31, [], .aload_n 1, [1], 0, 0, []), (32, [], .invokevirtual 105, [3, 29, 2, 0, 2, 8], 0, 0, []), (35, [], .aload_n 1, [1], 0, 0, []), (36, [], .getfield 30, [3, 8, 7, 2, 1008, 7], 0, 0, []), (39, [], .iconst 0, [1], 0, 0, []), (40, [], .aload_n 0, [1], 0, 0, []), (41, [], .getfield 30, [3, 8, 7, 2, 1008, 7], 0, 0, []), (44, [], .iconst 0, [1], 0, 0, []), (45, [], .bipush 8, [2], 8, 0, []), (47, [], .invokestatic 99, [3, 1000], 0, 0, []), (50, [], .aload_n 1, [1], 0, 0, []), (51, [], .getfield 33, [3, 8, 8, 2, 1008, 8], 0, 0, []), (54, [], .iconst 0, [1], 0, 0, []), (55, [], .aload_n 0, [1], 0, 0, []), (56, [], .getfield 33, [3, 8, 8, 2, 1008, 8], 0, 0, []), (59, [], .iconst 0, [1], 0, 0, []), (60, [], .bipush 8, [2], 8, 0, []), (62, [], .invokestatic 99, [3, 1000], 0, 0, []), (65, [], .aload_n 0, [1], 0, 0, []), (66, [], .aload_n 1, [1], 0, 0, []), (67, [], .getfield 53, [3, 8, 9, 0, 0, 0], 0, 0, []), (70, [], .putfield 53, [3, 8, 9, 0], 0, 0, []), (73, [], .aload_n 0, [1], 0, 0, []), (74, [], .aload_n 1, [1], 0, 0, []), (75, [], .getfield 78, [3, 8, 10, 0, 0, 0], 0, 0, []), (78, [], .putfield 78, [3, 8, 10, 0], 0, 0, []), (81, [], .aload_n 1, [1], 0, 0, []), (82, [], .getfield 36, [3, 8, 11, 2, 1006, 9], 0, 0, []), (85, [], .iconst 0, [1], 0, 0, []), (86, [], .aload_n 0, [1], 0, 0, []), (87, [], .getfield 36, [3, 8, 11, 2, 1006, 9], 0, 0, []), (90, [], .iconst 0, [1], 0, 0, []), (91, [], .bipush 6, [2], 6, 0, []), (93, [], .invokestatic 99, [3, 1000], 0, 0, []), (96, [], .aload_n 0, [1], 0, 0, []), (97, [], .aload_n 1, [1], 0, 0, []), (98, [], .getfield 84, [3, 8, 12, 0, 0, 0], 0, 0, []), (101, [], .putfield 84, [3, 8, 12, 0], 0, 0, []), (104, [], .aload_n 1, [1], 0, 0, []), (105, [], .getfield 39, [3, 8, 13, 2, 1006, 10], 0, 0, []), (108, [], .iconst 0, [1], 0, 0, []), (109, [], .aload_n 0, [1], 0, 0, []), (110, [], .getfield 39, [3, 8, 13, 2, 1006, 10], 0, 0, []), (113, [], .iconst 0, [1], 0, 0, []), (114, [], .bipush 6, [2], 6, 0, []), (116, [], .invokestatic 99, [3, 1000], 0, 0, []), (119, [], .aload_n 0, [1], 0, 0, []), (120, [], .aload_n 1, [1], 0, 0, []), (121, [], .getfield 56, [3, 8, 14, 0, 0, 0], 0, 0, []), (124, [], .putfield 56, [3, 8, 14, 0], 0, 0, []), (127, [], .return_, [1], 0, 0, [])]
/-- 29: OneNote$Valley.copyPeople(LOneNote$Valley;)V -/
def K29 : List je := [(0, [], .aload_n 1, [1], 0, 0, []), (1, [], .getfield 18, [3, 8, 2, 2, 1007, 3], 0, 0, []), (4, [], .iconst 0, [1], 0, 0, []), (5, [], .aload_n 0, [1], 0, 0, []), (6, [], .getfield 18, [3, 8, 2, 2, 1007, 3], 0, 0, []), (9, [], .iconst 0, [1], 0, 0, []), (10, [], .bipush 7, [2], 7, 0, []), (12, [], .invokestatic 99, [3, 1000], 0, 0, []), (15, [], .aload_n 1, [1], 0, 0, []), (16, [], .getfield 21, [3, 8, 3, 2, 1007, 4], 0, 0, []), (19, [], .iconst 0, [1], 0, 0, []), (20, [], .aload_n 0, [1], 0, 0, []), (21, [], .getfield 21, [3, 8, 3, 2, 1007, 4], 0, 0, []), (24, [], .iconst 0, [1], 0, 0, []), (25, [], .bipush 7, [2], 7, 0, []), (27, [], .invokestatic 99, [3, 1000], 0, 0, []), (30, [], .aload_n 1, [1], 0, 0, []), (31, [], .getfield 24, [3, 8, 4, 2, 1007, 5], 0, 0, []), (34, [], .iconst 0, [1], 0, 0, []), (35, [], .aload_n 0, [1], 0, 0, []), (36, [], .getfield 24, [3, 8, 4, 2, 1007, 5], 0, 0, []), (39, [], .iconst 0, [1], 0, 0, []), (40, [], .bipush 7, [2], 7, 0, []), (42, [], .invokestatic 99, [3, 1000], 0, 0, []), (45, [], .aload_n 1, [1], 0, 0, []), (46, [], .getfield 27, [3, 8, 5, 2, 1007, 6], 0, 0, []), (49, [], .iconst 0, [1], 0, 0, []), (50, [], .aload_n 0, [1], 0, 0, []), (51, [], .getfield 27, [3, 8, 5, 2, 1007, 6], 0, 0, []), (54, [], .iconst 0, [1], 0, 0, []), (55, [], .bipush 7, [2], 7, 0, []), (57, [], .invokestatic 99, [3, 1000], 0, 0, []), (60, [], .aload_n 0, [1], 0, 0, []), (61, [], .aload_n 1, [1], 0, 0, []), (62, [], .getfield 42, [3, 8, 6, 0, 0, 0], 0, 0, []), (65, [], .putfield 42, [3, 8, 6, 0], 0, 0, []), (68, [], .return_, [1], 0, 0, [])]
/-- 30: OneNote$Valley.isChord(I)Z -/
def K30 : List je := [(0, [], .iload_n 1, [1], 0, 0, []), (1, [], .ifCond .lt 15, [3, 16], 0, 0, []), (4, [], .iload_n 1, [1], 0, 0, []), (5, [], .aload_n 0, [1], 0, 0, []), (6, [], .getfield 53, [3, 8, 9, 0, 0, 0], 0, 0, []), (9, [], .if_icmp .ge 7, [3, 16], 0, 0, []), (12, [], .iconst 1, [1], 1, 0, []), (13, [], .goto 4, [3, 17], 0, 0, []), (16, [], .iconst 0, [1], 0, 0, []), (17, [], .ireturn, [1, 1], 0, 0, [])]
/-- 31: OneNote$Valley.peopleIn(I)I -/
def K31 : List je := [(0, [], .iconst 0, [1], 0, 0, []), (1, [], .istore_n 2, [1], 0, 0, []), (2, [], .iconst 0, [1], 0, 0, []), (3, [], .istore_n 3, [1], 0, 0, []), (4, [], .iload_n 3, [1], 0, 0, []), (5, [], .aload_n 0, [1], 0, 0, []), (6, [], .getfield 42, [3, 8, 6, 0, 0, 0], 0, 0, []), (9, [], .if_icmp .ge 28, [3, 37], 0, 0, []), (12, [], .iload_n 1, [1], 0, 0, []), (13, [], .aload_n 0, [1], 0, 0, []), (14, [], .getfield 24, [3, 8, 4, 2, 1007, 5], 0, 0, []), (17, [], .iload_n 3, [1], 0, 0, []), (18, [], .iaload, [1], 0, 0, []), (19, [], .ishr, [1], 0, 0, []), (20, [], .iconst 1, [1], 1, 0, []), (21, [], .iand, [1], 0, 0, []), (22, [], .ifCond .eq 9, [3, 31], 0, 0, []), (25, [], .iload_n 2, [1], 0, 0, []), (26, [], .iconst 1, [1], 1, 0, []), (27, [], .iload_n 3, [1], 0, 0, []), (28, [], .ishl, [1], 0, 0, []), (29, [], .ior, [1], 0, 0, []), (30, [], .istore_n 2, [1], 0, 0, []), (31, [], .iinc 3 1, [3], 1, 0, []), (34, [], .goto (-30), [3, 4], 0, 0, []), (37, [], .iload_n 2, [1], 0, 0, []), (38, [], .ireturn, [1, 0], 0, 0, [])]
/-- 32: OneNote$Valley.hasDoor(II)Z -/
def K32 : List je := [(0, [], .aload_n 0, [1], 0, 0, []), (1, [], .getfield 9, [3, 8, 0, 2, 1006, 1], 0, 0, []), (4, [], .iload_n 1, [1], 0, 0, []), (5, [], .iaload, [1], 0, 0, []), (6, [], .iload_n 2, [1], 0, 0, []), (7, [], .ishr, [1], 0, 0, []), (8, [], .iconst 1, [1], 1, 0, []), (9, [], .iand, [1], 0, 0, []), (10, [], .ifCond .eq 7, [3, 17], 0, 0, []), (13, [], .iconst 1, [1], 1, 0, []), (14, [], .goto 4, [3, 18], 0, 0, []), (17, [], .iconst 0, [1], 0, 0, []), (18, [], .ireturn, [1, 1], 0, 0, [])]
/-- 33: OneNote$Valley.addToSpeech(I)I -/
def K33 : List je := [(0, [], .aload_n 0, [1], 0, 0, []), (1, [], .iload_n 1, [1], 0, 0, []), (2, [], .invokevirtual 81, [3, 30, 2, 1, 2, 8], 0, 0, []), (5, [], .ifCond .ne 6, [3, 11], 0, 0, []), (8, [], .bipush (-2), [2], (-2), 0, []), (10, [], .ireturn, [1, 0], 0, 0, []), (11, [], .aload_n 0, [1], 0, 0, []), (12, [], .getfield 84, [3, 8, 12, 0, 0, 0], 0, 0, []), (15, [], .bipush 6, [2], 6, 0, []), (17, [], .if_icmp .lt 6, [3, 23], 0, 0, []), (20, [], .bipush (-4), [2], (-4), 0, []), (22, [], .ireturn, [1, 0], 0, 0, []), (23, [], .aload_n 0, [1], 0, 0, []), (24, [], .getfield 36, [3, 8, 11, 2, 1006, 9], 0, 0, []), (27, [], .aload_n 0, [1], 0, 0, []), (28, [], .getfield 84, [3, 8, 12, 0, 0, 0], 0, 0, []), (31, [], .iload_n 1, [1], 0, 0, []), (32, [], .iastore, [1], 0, 0, []), (33, [], .aload_n 0, [1], 0, 0, []), (34, [], .dup, [1], 0, 0, []), (35, [], .getfield 84, [3, 8, 12, 0, 0, 0], 0, 0, []), (38, [], .iconst 1, [1], 1, 0, []), (39, [], .iadd, [1], 0, 0, []), (40, [], .putfield 84, [3, 8, 12, 0], 0, 0, []), (43, [], .aload_n 0, [1], 0, 0, []), (44, [], .getfield 84, [3, 8, 12, 0, 0, 0], 0, 0, []), (47, [], .ireturn, [1, 0], 0, 0, [])]
/-- 34: OneNote$Valley.endSpeech()I -/
def K34 : List je := [(0, [], .aload_n 0, [1], 0, 0, []), (1, [], .getfield 84, [3, 8, 12, 0, 0, 0], 0, 0, []), (4, [], .istore_n 1, [1], 0, 0, []), (5, [], .aload_n 0, [1], 0, 0, []), (6, [], .iconst 0, [1], 0, 0, []), (7, [], .putfield 84, [3, 8, 12, 0], 0, 0, []), (10, [], .iload_n 1, [1], 0, 0, []), (11, [], .ireturn, [1, 0], 0, 0, [])]
/-- 35: OneNote$Valley.chordsOfSpeech()I -/
def K35 : List je := [(0, [], .iconst 0, [1], 0, 0, []), (1, [], .istore_n 1, [1], 0, 0, []), (2, [], .iconst 0, [1], 0, 0, []), (3, [], .istore_n 2, [1], 0, 0, []), (4, [], .iload_n 2, [1], 0, 0, []), (5, [], .aload_n 0, [1], 0, 0, []), (6, [], .getfield 84, [3, 8, 12, 0, 0, 0], 0, 0, []), (9, [], .if_icmp .ge 20, [3, 29], 0, 0, []), (12, [], .iload_n 1, [1], 0, 0, []), (13, [], .iconst 1, [1], 1, 0, []), (14, [], .aload_n 0, [1], 0, 0, []), (15, [], .getfield 36, [3, 8, 11, 2, 1006, 9], 0, 0, []), (18, [], .iload_n 2, [1], 0, 0, []), (19, [], .iaload, [1], 0, 0, []), (20, [], .ishl, [1], 0, 0, []), (21, [], .ior, [1], 0, 0, []), (22, [], .istore_n 1, [1], 0, 0, []), (23, [], .iinc 2 1, [3], 1, 0, []), (26, [], .goto (-22), [3, 4], 0, 0, []), (29, [], .iload_n 1, [1], 0, 0, []), (30, [], .ireturn, [1, 0], 0, 0, [])]
/-- 36: OneNote$Valley.addHole(I)I -/
def K36 : List je := [(0, [], .iload_n 1, [1], 0, 0, []), (1, [], .ifCond .lt 18, [3, 19], 0, 0, []), (4, [], .iload_n 1, [1], 0, 0, []), (5, [], .sipush 4095, [3], 4095, 0, []), (8, [], .if_icmp .gt 11, [3, 19], 0, 0, []), (11, [], .iload_n 1, [1], 0, 0, []), (12, [], .invokestatic 87, [3, 0, 1, 1, 1, 200], 0, 0, []), (15, [], .iconst 3, [1], 3, 0, []), (16, [], .if_icmp .le 6, [3, 22], 0, 0, []), (19, [], .bipush (-2), [2], (-2), 0, []), (21, [], .ireturn, [1, 0], 0, 0, []), (22, [], .aload_n 0, [1], 0, 0, []), (23, [], .getfield 56, [3, 8, 14, 0, 0, 0], 0, 0, []), (26, [], .bipush 6, [2], 6, 0, []), (28, [], .if_icmp .lt 6, [3, 34], 0, 0, []), (31, [], .bipush (-4), [2], (-4), 0, []), (33, [], .ireturn, [1, 0], 0, 0, []), (34, [], .aload_n 0, [1], 0, 0, []), (35, [], .getfield 39, [3, 8, 13, 2, 1006, 10], 0, 0, []), (38, [], .aload_n 0, [1], 0, 0, []), (39, [], .getfield 56, [3, 8, 14, 0, 0, 0], 0, 0, []), (42, [], .iload_n 1, [1], 0, 0, []), (43, [], .iastore, [1], 0, 0, []), (44, [], .aload_n 0, [1], 0, 0, []), (45, [], .dup, [1], 0, 0, []), (46, [], .getfield 56, [3, 8, 14, 0, 0, 0], 0, 0, []), (49, [], .iconst 1, [1], 1, 0, []), (50, [], .iadd, [1], 0, 0, []), (51, [], .putfield 56, [3, 8, 14, 0], 0, 0, []), (54, [], .aload_n 0, [1], 0, 0, []), (55, [], .getfield 56, [3, 8, 14, 0, 0, 0], 0, 0, []), (58, [], .iconst 1, [1], 1, 0, []), (59, [], .isub, [1], 0, 0, []), (60, [], .ireturn, [1, 0], 0, 0, [])]
/-- 37: OneNote$Valley.endHoles()I -/
def K37 : List je := [(0, [], .aload_n 0, [1], 0, 0, []), (1, [], .getfield 56, [3, 8, 14, 0, 0, 0], 0, 0, []), (4, [], .istore_n 1, [1], 0, 0, []), (5, [], .aload_n 0, [1], 0, 0, []), (6, [], .iconst 0, [1], 0, 0, []), (7, [], .putfield 56, [3, 8, 14, 0], 0, 0, []), (10, [], .iload_n 1, [1], 0, 0, []), (11, [], .ireturn, [1, 0], 0, 0, [])]
/-- 38: OneNote$Valley.isHole(I)Z -/
def K38 : List je := [(0, [], .iload_n 1, [1], 0, 0, []), (1, [], .ifCond .lt 15, [3, 16], 0, 0, []), (4, [], .iload_n 1, [1], 0, 0, []), (5, [], .aload_n 0, [1], 0, 0, []), (6, [], .getfield 56, [3, 8, 14, 0, 0, 0], 0, 0, []), (9, [], .if_icmp .ge 7, [3, 16], 0, 0, []), (12, [], .iconst 1, [1], 1, 0, []), (13, [], .goto 4, [3, 17], 0, 0, []), (16, [], .iconst 0, [1], 0, 0, []), (17, [], .ireturn, [1, 1], 0, 0, [])]
/-- 39: OneNote$Valley.chordsWith(I)I -/
def K39 : List je := [(0, [], .iconst 0, [1], 0, 0, []), (1, [], .istore_n 2, [1], 0, 0, []), (2, [], .iconst 0, [1], 0, 0, []), (3, [], .istore_n 3, [1], 0, 0, []), (4, [], .iload_n 3, [1], 0, 0, []), (5, [], .aload_n 0, [1], 0, 0, []), (6, [], .getfield 53, [3, 8, 9, 0, 0, 0], 0, 0, []), (9, [], .if_icmp .ge 28, [3, 37], 0, 0, []), (12, [], .iload_n 1, [1], 0, 0, []), (13, [], .aload_n 0, [1], 0, 0, []), (14, [], .getfield 30, [3, 8, 7, 2, 1008, 7], 0, 0, []), (17, [], .iload_n 3, [1], 0, 0, []), (18, [], .iaload, [1], 0, 0, []), (19, [], .iconst (-1), [1], (-1), 0, []), (20, [], .ixor, [1], 0, 0, []), (21, [], .iand, [1], 0, 0, []), (22, [], .ifCond .ne 9, [3, 31], 0, 0, []), (25, [], .iload_n 2, [1], 0, 0, []), (26, [], .iconst 1, [1], 1, 0, []), (27, [], .iload_n 3, [1], 0, 0, []), (28, [], .ishl, [1], 0, 0, []), (29, [], .ior, [1], 0, 0, []), (30, [], .istore_n 2, [1], 0, 0, []), (31, [], .iinc 3 1, [3], 1, 0, []), (34, [], .goto (-30), [3, 4], 0, 0, []), (37, [], .iload_n 2, [1], 0, 0, []), (38, [], .ireturn, [1, 0], 0, 0, [])]
/-- 40: OneNote$Valley.wed(II)V -/
def K40 : List je := [(0, [], .aload_n 0, [1], 0, 0, []), (1, [], .iload_n 1, [1], 0, 0, []), (2, [], .invokevirtual 71, [3, 41, 2, 0, 3, 8], 0, 0, []), (5, [], .aload_n 0, [1], 0, 0, []), (6, [], .iload_n 2, [1], 0, 0, []), (7, [], .invokevirtual 71, [3, 41, 2, 0, 3, 8], 0, 0, []), (10, [], .aload_n 0, [1], 0, 0, []), (11, [], .getfield 18, [3, 8, 2, 2, 1007, 3], 0, 0, []), (14, [], .iload_n 1, [1], 0, 0, []), (15, [], .iconst 2, [1], 2, 0, []), (16, [], .iastore, [1], 0, 0, []), (17, [], .aload_n 0, [1], 0, 0, []), (18, [], .getfield 18, [3, 8, 2, 2, 1007, 3], 0, 0, []), (21, [], .iload_n 2, [1], 0, 0, []), (22, [], .iconst 2, [1], 2, 0, []), (23, [], .iastore, [1], 0, 0, []), (24, [], .aload_n 0, [1], 0, 0, []), (25, [], .getfield 27, [3, 8, 5, 2, 1007, 6], 0, 0, []), (28, [], .iload_n 1, [1], 0, 0, []), (29, [], .iload_n 2, [1], 0, 0, []), (30, [], .iastore, [1], 0, 0, []), (31, [], .aload_n 0, [1], 0, 0, []), (32, [], .getfield 27, [3, 8, 5, 2, 1007, 6], 0, 0, []), (35, [], .iload_n 2, [1], 0, 0, []), (36, [], .iload_n 1, [1], 0, 0, []), (37, [], .iastore, [1], 0, 0, []), (38, [], .return_, [1], 0, 0, [])]
/-- 41: OneNote$Valley.freeSpouseOf(I)V -/
def K41 : List je := [(0, [], .aload_n 0, [1], 0, 0, []), (1, [], .getfield 27, [3, 8, 5, 2, 1007, 6], 0, 0, []), (4, [], .iload_n 1, [1], 0, 0, []), (5, [], .iaload, [1], 0, 0, []), (6, [], .istore_n 2, [1], 0, 0, []), (7, [], .aload_n 0, [1], 0, 0, []), (8, [], .iload_n 2, [1], 0, 0, []), (9, [], .invokevirtual 50, [3, 20, 2, 1, 2, 8], 0, 0, []), (12, [], .ifCond .eq 10, [3, 22], 0, 0, []), (15, [], .aload_n 0, [1], 0, 0, []), (16, [], .getfield 27, [3, 8, 5, 2, 1007, 6], 0, 0, []), (19, [], .iload_n 2, [1], 0, 0, []), (20, [], .iconst (-1), [1], (-1), 0, []), (21, [], .iastore, [1], 0, 0, []), (22, [], .return_, [1], 0, 0, [])]
/-- 42: OneNote$Valley.digestOn(J)J -/
def K42 : List je := [(0, [], .aload_n 0, [1], 0, 0, []), (1, [], .lload_n 1, [1], 0, 0, []), (2, [], .invokevirtual 109, [3, 43, 2, 2, 7, 8], 0, 0, []), (5, [], .lstore_n 3, [1], 0, 0, []), (6, [], .iconst 0, [1], 0, 0, []), (7, [], .istore 5, [2], 0, 0, []), (9, [1, 2, 4], .iload 5, [2], 0, 0, []), (11, [], .aload_n 0, [1], 0, 0, []), (12, [], .getfield 42, [3, 8, 6, 0, 0, 0], 0, 0, []), (15, [], .if_icmp .ge 69, [3, 84], 0, 0, []), (18, [], .ldc2_w 113, [3], 0, 31, []), (21, [], .lload_n 3, [1], 0, 0, []), (22, [], .lmul, [1], 0, 0, []), (23, [], .aload_n 0, [1], 0, 0, []), (24, [], .getfield 18, [3, 8, 2, 2, 1007, 3], 0, 0, []), (27, [], .iload 5, [2], 0, 0, []), (29, [], .iaload, [1], 0, 0, []), (30, [], .i2l, [1], 0, 0, []), (31, [], .ladd, [1], 0, 0, []), (32, [], .lstore_n 3, [1], 0, 0, []), (33, [], .ldc2_w 113, [3], 0, 31, []), (36, [], .lload_n 3, [1], 0, 0, []), (37, [], .lmul, [1], 0, 0, []), (38, [], .aload_n 0, [1], 0, 0, []), (39, [], .getfield 21, [3, 8, 3, 2, 1007, 4], 0, 0, []), (42, [], .iload 5, [2], 0, 0, []), (44, [], .iaload, [1], 0, 0, []), (45, [], .i2l, [1], 0, 0, []), (46, [], .ladd, [1], 0, 0, []), (47, [], .lstore_n 3, [1], 0, 0, []), (48, [], .ldc2_w 113, [3], 0, 31, []), (51, [], .lload_n 3, [1], 0, 0, []), (52, [], .lmul, [1], 0, 0, []), (53, [], .aload_n 0, [1], 0, 0, []), (54, [], .getfield 24, [3, 8, 4, 2, 1007, 5], 0, 0, []), (57, [], .iload 5, [2], 0, 0, []), (59, [], .iaload, [1], 0, 0, []), (60, [], .i2l, [1], 0, 0, []), (61, [], .ladd, [1], 0, 0, []), (62, [], .lstore_n 3, [1], 0, 0, []), (63, [], .ldc2_w 113, [3], 0, 31, []), (66, [], .lload_n 3, [1], 0, 0, []), (67, [], .lmul, [1], 0, 0, []), (68, [], .aload_n 0, [1], 0, 0, []), (69, [], .getfield 27, [3, 8, 5, 2, 1007, 6], 0, 0, []), (72, [], .iload 5, [2], 0, 0, []), (74, [], .iaload, [1], 0, 0, []), (75, [], .i2l, [1], 0, 0, []), (76, [], .ladd, [1], 0, 0, []), (77, [], .lstore_n 3, [1], 0, 0, []), (78, [], .iinc 5 1, [3], 1, 0, []), (81, [], .goto (-72), [3, 9], 0, 0, []), (84, [], .iconst 0, [1], 0, 0, []), (85, [], .istore 5, [2], 0, 0, []), (87, [1, 2, 4], .iload 5, [2], 0, 0, []), (89, [], .aload_n 0, [1], 0, 0, []), (90, [], .getfield 53, [3, 8, 9, 0, 0, 0], 0, 0, []), (93, [], .if_icmp .ge 39, [3, 132], 0, 0, []), (96, [], .ldc2_w 113, [3], 0, 31, []), (99, [], .lload_n 3, [1], 0, 0, []), (100, [], .lmul, [1], 0, 0, []), (101, [], .aload_n 0, [1], 0, 0, []), (102, [], .getfield 30, [3, 8, 7, 2, 1008, 7], 0, 0, []), (105, [], .iload 5, [2], 0, 0, []), (107, [], .iaload, [1], 0, 0, []), (108, [], .i2l, [1], 0, 0, []), (109, [], .ladd, [1], 0, 0, []), (110, [], .lstore_n 3, [1], 0, 0, []), (111, [], .ldc2_w 113, [3], 0, 31, []), (114, [], .lload_n 3, [1], 0, 0, []), (115, [], .lmul, [1], 0, 0, []), (116, [], .aload_n 0, [1], 0, 0, []), (117, [], .getfield 33, [3, 8, 8, 2, 1008, 8], 0, 0, []), (120, [], .iload 5, [2], 0, 0, []), (122, [], .iaload, [1], 0, 0, []), (123, [], .i2l, [1], 0, 0, []), (124, [], .ladd, [1], 0, 0, []), (125, [], .lstore_n 3, [1], 0, 0, []), (126, [], .iinc 5 1, [3], 1, 0, []), (129, [], .goto (-42), [3, 87], 0, 0, []), (132, [], .ldc2_w 113, [3], 0, 31, []), (135, [], .lload_n 3, [1], 0, 0, []), (136, [], .lmul, [1], 0, 0, []), (137, [], .aload_n 0, [1], 0, 0, []), (138, [], .getfield 78, [3, 8, 10, 0, 0, 0], 0, 0, []), (141, [], .i2l, [1], 0, 0, []), (142, [], .ladd, [1], 0, 0, []), (143, [], .lstore_n 3, [1], 0, 0, []), (144, [], .iconst 0, [1], 0, 0, []), (145, [], .istore 5, [2], 0, 0, []), (147, [1, 2, 4], .iload 5, [2], 0, 0, []), (149, [], .aload_n 0, [1], 0, 0, []), (150, [], .getfield 84, [3, 8, 12, 0, 0, 0], 0, 0, []), (153, [], .if_icmp .ge 24, [3, 177], 0, 0, []), (156, [], .ldc2_w 113, [3], 0, 31, []), (159, [], .lload_n 3, [1], 0, 0, []), (160, [], .lmul, [1], 0, 0, []), (161, [], .aload_n 0, [1], 0, 0, []), (162, [], .getfield 36, [3, 8, 11, 2, 1006, 9], 0, 0, []), (165, [], .iload 5, [2], 0, 0, []), (167, [], .iaload, [1], 0, 0, []), (168, [], .i2l, [1], 0, 0, []), (169, [], .ladd, [1], 0, 0, []), (170, [], .lstore_n 3, [1], 0, 0, []), (171, [], .iinc 5 1, [3], 1, 0, []), (174, [], .goto (-27), [3, 147], 0, 0, []), (177, [], .iconst 0, [1], 0, 0, []), (178, [], .istore 5, [2], 0, 0, []), (180, [1, 2, 4], .iload 5, [2], 0, 0, []), (182, [], .aload_n 0, [1], 0, 0, []), (183, [], .getfield 56, [3, 8, 14, 0, 0, 0], 0, 0, []), (186, [], .if_icmp .ge 24, [3, 210], 0, 0, []), (189, [], .ldc2_w 113, [3], 0, 31, []), (192, [], .lload_n 3, [1], 0, 0, []), (193, [], .lmul, [1], 0, 0, []), (194, [], .aload_n 0, [1], 0, 0, []), (195, [], .getfield 39, [3, 8, 13, 2, 1006, 10], 0, 0, []), (198, [], .iload 5, [2], 0, 0, []), (200, [], .iaload, [1], 0, 0, []), (201, [], .i2l, [1], 0, 0, []), (202, [], .ladd, [1], 0, 0, []), (203, [], .lstore_n 3, [1], 0, 0, []), (204, [], .iinc 5 1, [3], 1, 0, []), (207, [], .goto (-27), [3, 180], 0, 0, []), (210, [], .lload_n 3, [1], 0, 0, []), (211, [], .lreturn, [1], 0, 0, [])]
/-- 43: OneNote$Valley.digestOfRooms(J)J -/
def K43 : List je := [(0, [], .lload_n 1, [1], 0, 0, []), (1, [], .lstore_n 3, [1], 0, 0, []), (2, [], .iconst 0, [1], 0, 0, []), (3, [], .istore 5, [2], 0, 0, []), (5, [1, 2, 4, 6], .iload 5, [2], 0, 0, []), (7, [], .bipush 6, [2], 6, 0, []), (9, [], .if_icmp .ge 65, [3, 74], 0, 0, []), (12, [], .iconst 0, [1], 0, 0, []), (13, [], .istore 6, [2], 0, 0, []), (15, [1, 2, 4], .iload 6, [2], 0, 0, []), (17, [], .iload 5, [2], 0, 0, []), (19, [], .if_icmp .ge 49, [3, 68], 0, 0, []), (22, [], .ldc2_w 113, [3], 0, 31, []), (25, [], .lload_n 3, [1], 0, 0, []), (26, [], .lmul, [1], 0, 0, []), (27, [], .aload_n 0, [1], 0, 0, []), (28, [], .getfield 9, [3, 8, 0, 2, 1006, 1], 0, 0, []), (31, [], .iload 5, [2], 0, 0, []), (33, [], .iaload, [1], 0, 0, []), (34, [], .iload 6, [2], 0, 0, []), (36, [], .ishr, [1], 0, 0, []), (37, [], .iconst 1, [1], 1, 0, []), (38, [], .iand, [1], 0, 0, []), (39, [], .i2l, [1], 0, 0, []), (40, [], .ladd, [1], 0, 0, []), (41, [], .lstore_n 3, [1], 0, 0, []), (42, [], .ldc2_w 113, [3], 0, 31, []), (45, [], .lload_n 3, [1], 0, 0, []), (46, [], .lmul, [1], 0, 0, []), (47, [], .aload_n 0, [1], 0, 0, []), (48, [], .getfield 15, [3, 8, 1, 2, 1006, 2], 0, 0, []), (51, [], .iload 5, [2], 0, 0, []), (53, [], .iaload, [1], 0, 0, []), (54, [], .iload 6, [2], 0, 0, []), (56, [], .ishr, [1], 0, 0, []), (57, [], .iconst 1, [1], 1, 0, []), (58, [], .iand, [1], 0, 0, []), (59, [], .i2l, [1], 0, 0, []), (60, [], .ladd, [1], 0, 0, []), (61, [], .lstore_n 3, [1], 0, 0, []), (62, [], .iinc 6 1, [3], 1, 0, []), (65, [], .goto (-50), [3, 15], 0, 0, []), (68, [], .iinc 5 1, [3], 1, 0, []), (71, [], .goto (-66), [3, 5], 0, 0, []), (74, [], .lload_n 3, [1], 0, 0, []), (75, [], .lreturn, [1], 0, 0, [])]
/-- 44: OneNote$Fraction.become(JJ)V -/
def K44 : List je := [(0, [], .lload_n 1, [1], 0, 0, []), (1, [], .lload_n 3, [1], 0, 0, []), (2, [], .invokestatic 16, [3, 45, 2, 2, 11, 200], 0, 0, []), (5, [], .lstore 5, [2], 0, 0, []), (7, [], .lload 5, [2], 0, 0, []), (9, [], .lconst 0, [1], 0, 0, []), (10, [], .lcmp, [1], 0, 0, []), (11, [], .ifCond .le 19, [3, 30], 0, 0, []), (14, [], .aload_n 0, [1], 0, 0, []), (15, [], .lload_n 1, [1], 0, 0, []), (16, [], .lload 5, [2], 0, 0, []), (18, [], .ldiv, [1], 0, 0, []), (19, [], .putfield 7, [3, 4, 0, 1], 0, 0, []), (22, [], .aload_n 0, [1], 0, 0, []), (23, [], .lload_n 3, [1], 0, 0, []), (24, [], .lload 5, [2], 0, 0, []), (26, [], .ldiv, [1], 0, 0, []), (27, [], .putfield 13, [3, 4, 1, 1], 0, 0, []), (30, [], .return_, [1], 0, 0, [])]
/-- 45: OneNote$Fraction.commonDivisor(JJ)J -/
def K45 : List je := [(0, [], .lload_n 0, [1], 0, 0, []), (1, [], .lstore 4, [2], 0, 0, []), (3, [], .lload_n 2, [1], 0, 0, []), (4, [], .lstore 6, [2], 0, 0, []), (6, [], .iconst 0, [1], 0, 0, []), (7, [], .istore 8, [2], 0, 0, []), (9, [0, 1, 2, 3, 5, 7, 9, 10], .iload 8, [2], 0, 0, []), (11, [], .sipush 1000, [3], 1000, 0, []), (14, [], .if_icmp .ge 31, [3, 45], 0, 0, []), (17, [], .lload 6, [2], 0, 0, []), (19, [], .lconst 0, [1], 0, 0, []), (20, [], .lcmp, [1], 0, 0, []), (21, [], .ifCond .eq 24, [3, 45], 0, 0, []), (24, [], .lload 4, [2], 0, 0, []), (26, [], .lload 6, [2], 0, 0, []), (28, [], .lrem, [1], 0, 0, []), (29, [], .lstore 9, [2], 0, 0, []), (31, [], .lload 6, [2], 0, 0, []), (33, [], .lstore 4, [2], 0, 0, []), (35, [], .lload 9, [2], 0, 0, []), (37, [], .lstore 6, [2], 0, 0, []), (39, [], .iinc 8 1, [3], 1, 0, []), (42, [], .goto (-33), [3, 9], 0, 0, []), (45, [], .lload 4, [2], 0, 0, []), (47, [], .lreturn, [1], 0, 0, [])]
/-- 46: OneNote$Choir.notesOf(LOneNote$Valley;II)I -/
def K46 : List je := [(0, [], .iconst 1, [1], 1, 0, []), (1, [], .aload_n 0, [1], 0, 0, []), (2, [], .getfield 18, [3, 8, 3, 2, 1007, 4], 0, 0, []), (5, [], .iload_n 1, [1], 0, 0, []), (6, [], .iaload, [1], 0, 0, []), (7, [], .ishl, [1], 0, 0, []), (8, [], .istore_n 3, [1], 0, 0, []), (9, [], .aload_n 0, [1], 0, 0, []), (10, [], .getfield 23, [3, 8, 2, 2, 1007, 3], 0, 0, []), (13, [], .iload_n 1, [1], 0, 0, []), (14, [], .iaload, [1], 0, 0, []), (15, [], .tableswitch 99 1 5 #[33, 50, 76, 76, 84], [33, 114], 0, 0, [(1, 48), (2, 65), (3, 91), (4, 91), (5, 99)]), (48, [], .iload_n 2, [1], 0, 0, []), (49, [], .iconst 1, [1], 1, 0, []), (50, [], .iload_n 1, [1], 0, 0, []), (51, [], .ishl, [1], 0, 0, []), (52, [], .if_icmp .ne 7, [3, 59], 0, 0, []), (55, [], .iload_n 3, [1], 0, 0, []), (56, [], .goto 8, [3, 64], 0, 0, []), (59, [], .iload_n 3, [1], 0, 0, []), (60, [], .iconst 1, [1], 1, 0, []), (61, [], .invokestatic 26, [3, 11, 2, 1, 2, 200], 0, 0, []), (64, [0, 1, 2, 3], .ireturn, [1, 0], 0, 0, []), (65, [], .aload_n 0, [1], 0, 0, []), (66, [], .getfield 32, [3, 8, 5, 2, 1007, 6], 0, 0, []), (69, [], .iload_n 1, [1], 0, 0, []), (70, [], .iaload, [1], 0, 0, []), (71, [], .iload_n 2, [1], 0, 0, []), (72, [], .invokestatic 35, [3, 47, 2, 1, 2, 200], 0, 0, []), (75, [], .ifCond .eq 14, [3, 89], 0, 0, []), (78, [], .iload_n 3, [1], 0, 0, []), (79, [], .iload_n 3, [1], 0, 0, []), (80, [], .bipush 7, [2], 7, 0, []), (82, [], .invokestatic 26, [3, 11, 2, 1, 2, 200], 0, 0, []), (85, [], .ior, [1], 0, 0, []), (86, [], .goto 4, [3, 90], 0, 0, []), (89, [], .iload_n 3, [1], 0, 0, []), (90, [0, 1, 2, 3], .ireturn, [1, 0], 0, 0, []), (91, [0, 1, 2], .iload_n 3, [1], 0, 0, []), (92, [], .iload_n 3, [1], 0, 0, []), (93, [], .iconst 1, [1], 1, 0, []), (94, [], .invokestatic 26, [3, 11, 2, 1, 2, 200], 0, 0, []), (97, [], .ior, [1], 0, 0, []), (98, [], .ireturn, [1, 0], 0, 0, []), (99, [], .iload_n 3, [1], 0, 0, []), (100, [], .iload_n 3, [1], 0, 0, []), (101, [], .iconst 1, [1], 1, 0, []), (102, [], .invokestatic 26, [3, 11, 2, 1, 2, 200], 0, 0, []), (105, [], .ior, [1], 0, 0, []), (106, [], .iload_n 3, [1], 0, 0, []), (107, [], .bipush 6, [2], 6, 0, []), (109, [], .invokestatic 26, [3, 11, 2, 1, 2, 200], 0, 0, []), (112, [], .ior, [1], 0, 0, []), (113, [], .ireturn, [1, 0], 0, 0, []), (114, [], .iload_n 3, [1], 0, 0, []), (115, [], .ireturn, [1, 0], 0, 0, [])]
/-- 47: OneNote$Choir.isMateIn(II)Z -/
def K47 : List je := [(0, [], .iload_n 0, [1], 0, 0, []), (1, [], .ifCond .lt 21, [3, 22], 0, 0, []), (4, [], .iload_n 0, [1], 0, 0, []), (5, [], .bipush 7, [2], 7, 0, []), (7, [], .if_icmp .ge 15, [3, 22], 0, 0, []), (10, [], .iload_n 1, [1], 0, 0, []), (11, [], .iload_n 0, [1], 0, 0, []), (12, [], .ishr, [1], 0, 0, []), (13, [], .iconst 1, [1], 1, 0, []), (14, [], .iand, [1], 0, 0, []), (15, [], .ifCond .eq 7, [3, 22], 0, 0, []), (18, [], .iconst 1, [1], 1, 0, []), (19, [], .goto 4, [3, 23], 0, 0, []), (22, [], .iconst 0, [1], 0, 0, []), (23, [], .ireturn, [1, 1], 0, 0, [])]
/-- 48: OneNote$Choir.canSay(LOneNote$Valley;II)Z -/
def K48 : List je := [(0, [], .aload_n 0, [1], 0, 0, []), (1, [], .aload_n 1, [1], 0, 0, []), (2, [], .iload_n 2, [1], 0, 0, []), (3, [], .invokevirtual 61, [3, 49, 3, 0, 4, 1], 0, 0, []), (6, [], .aload_n 1, [1], 0, 0, []), (7, [], .iload_n 3, [1], 0, 0, []), (8, [], .invokevirtual 65, [3, 30, 2, 1, 2, 8], 0, 0, []), (11, [], .ifCond .eq 20, [3, 31], 0, 0, []), (14, [], .aload_n 0, [1], 0, 0, []), (15, [], .aload_n 1, [1], 0, 0, []), (16, [], .getfield 68, [3, 8, 7, 2, 1008, 7], 0, 0, []), (19, [], .iload_n 3, [1], 0, 0, []), (20, [], .iaload, [1], 0, 0, []), (21, [], .invokevirtual 71, [3, 50, 2, 1, 5, 1], 0, 0, []), (24, [], .ifCond .eq 7, [3, 31], 0, 0, []), (27, [], .iconst 1, [1], 1, 0, []), (28, [], .goto 4, [3, 32], 0, 0, []), (31, [], .iconst 0, [1], 0, 0, []), (32, [], .ireturn, [1, 1], 0, 0, [])]
/-- 49: OneNote$Choir.gather(LOneNote$Valley;I)V -/
def K49 : List je := [(0, [], .iconst 0, [1], 0, 0, []), (1, [], .istore_n 3, [1], 0, 0, []), (2, [], .iload_n 3, [1], 0, 0, []), (3, [], .bipush 7, [2], 7, 0, []), (5, [], .if_icmp .ge 65, [3, 70], 0, 0, []), (8, [], .aload_n 0, [1], 0, 0, []), (9, [], .getfield 9, [3, 1, 0, 2, 1007, 1], 0, 0, []), (12, [], .iload_n 3, [1], 0, 0, []), (13, [], .iconst 0, [1], 0, 0, []), (14, [], .iastore, [1], 0, 0, []), (15, [], .aload_n 1, [1], 0, 0, []), (16, [], .iload_n 3, [1], 0, 0, []), (17, [], .iload_n 2, [1], 0, 0, []), (18, [], .invokevirtual 39, [3, 25, 3, 1, 3, 8], 0, 0, []), (21, [], .ifCond .eq 43, [3, 64], 0, 0, []), (24, [], .aload_n 0, [1], 0, 0, []), (25, [], .getfield 9, [3, 1, 0, 2, 1007, 1], 0, 0, []), (28, [], .iload_n 3, [1], 0, 0, []), (29, [], .aload_n 1, [1], 0, 0, []), (30, [], .iload_n 3, [1], 0, 0, []), (31, [], .iload_n 2, [1], 0, 0, []), (32, [], .invokestatic 42, [3, 46, 3, 1, 4, 200], 0, 0, []), (35, [], .aload_n 1, [1], 0, 0, []), (36, [], .getfield 46, [3, 8, 10, 0, 0, 0], 0, 0, []), (39, [], .invokestatic 50, [3, 12, 2, 1, 4, 200], 0, 0, []), (42, [], .iastore, [1], 0, 0, []), (43, [], .aload_n 0, [1], 0, 0, []), (44, [], .getfield 15, [3, 1, 1, 2, 1007, 2], 0, 0, []), (47, [], .iload_n 3, [1], 0, 0, []), (48, [], .aload_n 1, [1], 0, 0, []), (49, [], .getfield 23, [3, 8, 2, 2, 1007, 3], 0, 0, []), (52, [], .iload_n 3, [1], 0, 0, []), (53, [], .iaload, [1], 0, 0, []), (54, [], .iconst 4, [1], 4, 0, []), (55, [], .if_icmp .lt 7, [3, 62], 0, 0, []), (58, [], .iconst 2, [1], 2, 0, []), (59, [], .goto 4, [3, 63], 0, 0, []), (62, [], .iconst 1, [1], 1, 0, []), (63, [], .iastore, [1], 0, 0, []), (64, [], .iinc 3 1, [3], 1, 0, []), (67, [], .goto (-65), [3, 2], 0, 0, []), (70, [], .return_, [1], 0, 0, [])]
/-- 50: OneNote$Choir.fillsAll(I)Z -/
def K50 : List je := [(0, [], .iconst 1, [1], 1, 0, []), (1, [], .istore_n 2, [1], 0, 0, []), (2, [], .iconst 0, [1], 0, 0, []), (3, [], .istore_n 3, [1], 0, 0, []), (4, [4], .iload_n 3, [1], 0, 0, []), (5, [], .bipush 7, [2], 7, 0, []), (7, [], .if_icmp .ge 54, [3, 61], 0, 0, []), (10, [], .aload_n 0, [1], 0, 0, []), (11, [], .getfield 9, [3, 1, 0, 2, 1007, 1], 0, 0, []), (14, [], .iload_n 3, [1], 0, 0, []), (15, [], .iaload, [1], 0, 0, []), (16, [], .iload_n 1, [1], 0, 0, []), (17, [], .iand, [1], 0, 0, []), (18, [], .ifCond .eq 37, [3, 55], 0, 0, []), (21, [], .iconst 0, [1], 0, 0, []), (22, [], .istore 4, [2], 0, 0, []), (24, [], .iload 4, [2], 0, 0, []), (26, [], .aload_n 0, [1], 0, 0, []), (27, [], .getfield 15, [3, 1, 1, 2, 1007, 2], 0, 0, []), (30, [], .iload_n 3, [1], 0, 0, []), (31, [], .iaload, [1], 0, 0, []), (32, [], .if_icmp .ge 23, [3, 55], 0, 0, []), (35, [], .iload_n 2, [1], 0, 0, []), (36, [], .iload_n 2, [1], 0, 0, []), (37, [], .aload_n 0, [1], 0, 0, []), (38, [], .getfield 9, [3, 1, 0, 2, 1007, 1], 0, 0, []), (41, [], .iload_n 3, [1], 0, 0, []), (42, [], .iaload, [1], 0, 0, []), (43, [], .iload_n 1, [1], 0, 0, []), (44, [], .invokestatic 53, [3, 13, 3, 1, 8, 200], 0, 0, []), (47, [], .ior, [1], 0, 0, []), (48, [], .istore_n 2, [1], 0, 0, []), (49, [], .iinc 4 1, [3], 1, 0, []), (52, [], .goto (-28), [3, 24], 0, 0, []), (55, [], .iinc 3 1, [3], 1, 0, []), (58, [], .goto (-54), [3, 4], 0, 0, []), (61, [], .iload_n 2, [1], 0, 0, []), (62, [], .invokestatic 57, [3, 14, 1, 1, 1, 200], 0, 0, []), (65, [], .ireturn, [1, 1], 0, 0, [])]
/-- 51: OneNote$Choir.chordsOf(LOneNote$Valley;I)I -/
def K51 : List je := [(0, [], .aload_n 0, [1], 0, 0, []), (1, [], .aload_n 1, [1], 0, 0, []), (2, [], .iload_n 2, [1], 0, 0, []), (3, [], .invokevirtual 61, [3, 49, 3, 0, 4, 1], 0, 0, []), (6, [], .iconst 0, [1], 0, 0, []), (7, [], .istore_n 3, [1], 0, 0, []), (8, [], .iconst 0, [1], 0, 0, []), (9, [], .istore 4, [2], 0, 0, []), (11, [2], .iload 4, [2], 0, 0, []), (13, [], .aload_n 1, [1], 0, 0, []), (14, [], .getfield 74, [3, 8, 9, 0, 0, 0], 0, 0, []), (17, [], .if_icmp .ge 30, [3, 47], 0, 0, []), (20, [], .aload_n 0, [1], 0, 0, []), (21, [], .aload_n 1, [1], 0, 0, []), (22, [], .getfield 68, [3, 8, 7, 2, 1008, 7], 0, 0, []), (25, [], .iload 4, [2], 0, 0, []), (27, [], .iaload, [1], 0, 0, []), (28, [], .invokevirtual 71, [3, 50, 2, 1, 5, 1], 0, 0, []), (31, [], .ifCond .eq 10, [3, 41], 0, 0, []), (34, [], .iload_n 3, [1], 0, 0, []), (35, [], .iconst 1, [1], 1, 0, []), (36, [], .iload 4, [2], 0, 0, []), (38, [], .ishl, [1], 0, 0, []), (39, [], .ior, [1], 0, 0, []), (40, [], .istore_n 3, [1], 0, 0, []), (41, [], .iinc 4 1, [3], 1, 0, []), (44, [], .goto (-33), [3, 11], 0, 0, []), (47, [], .iload_n 3, [1], 0, 0, []), (48, [], .ireturn, [1, 0], 0, 0, [])]
/-- 52: OneNote$Choir.smallestSet(LOneNote$Valley;II)I -/
def K52 : List je := [(0, [], .iconst (-1), [1], (-1), 0, []), (1, [], .istore 4, [2], 0, 0, []), (3, [], .bipush 8, [2], 8, 0, []), (5, [], .istore 5, [2], 0, 0, []), (7, [], .iconst 0, [1], 0, 0, []), (8, [], .istore 6, [2], 0, 0, []), (10, [7], .iload 6, [2], 0, 0, []), (12, [], .iload_n 2, [1], 0, 0, []), (13, [], .if_icmp .gt 62, [3, 75], 0, 0, []), (16, [], .iload 6, [2], 0, 0, []), (18, [], .iload_n 2, [1], 0, 0, []), (19, [], .iconst (-1), [1], (-1), 0, []), (20, [], .ixor, [1], 0, 0, []), (21, [], .iand, [1], 0, 0, []), (22, [], .ifCond .ne 17, [3, 39], 0, 0, []), (25, [], .iload 6, [2], 0, 0, []), (27, [], .invokestatic 77, [3, 0, 1, 1, 1, 200], 0, 0, []), (30, [], .iload 5, [2], 0, 0, []), (32, [], .if_icmp .ge 7, [3, 39], 0, 0, []), (35, [], .iconst 1, [1], 1, 0, []), (36, [], .goto 4, [3, 40], 0, 0, []), (39, [7], .iconst 0, [1], 0, 0, []), (40, [7], .istore 7, [2], 0, 0, []), (42, [], .iload 7, [2], 0, 0, []), (44, [], .ifCond .eq 25, [3, 69], 0, 0, []), (47, [], .aload_n 0, [1], 0, 0, []), (48, [], .aload_n 1, [1], 0, 0, []), (49, [], .iload 6, [2], 0, 0, []), (51, [], .iload_n 3, [1], 0, 0, []), (52, [], .invokevirtual 83, [3, 48, 4, 1, 4, 1], 0, 0, []), (55, [], .ifCond .eq 14, [3, 69], 0, 0, []), (58, [], .iload 6, [2], 0, 0, []), (60, [], .istore 4, [2], 0, 0, []), (62, [], .iload 6, [2], 0, 0, []), (64, [], .invokestatic 77, [3, 0, 1, 1, 1, 200], 0, 0, []), (67, [], .istore 5, [2], 0, 0, []), (69, [], .iinc 6 1, [3], 1, 0, []), (72, [], .goto (-62), [3, 10], 0, 0, []), (75, [], .iload 4, [2], 0, 0, []), (77, [], .ireturn, [1, 0], 0, 0, [])]
/-- 53: OneNote$Choir.canSayAll(LOneNote$Valley;II)Z -/
def K53 : List je := [(0, [], .aload_n 0, [1], 0, 0, []), (1, [], .aload_n 1, [1], 0, 0, []), (2, [], .iload_n 2, [1], 0, 0, []), (3, [], .invokevirtual 61, [3, 49, 3, 0, 4, 1], 0, 0, []), (6, [], .iconst 0, [1], 0, 0, []), (7, [], .istore 4, [2], 0, 0, []), (9, [2], .iload 4, [2], 0, 0, []), (11, [], .aload_n 1, [1], 0, 0, []), (12, [], .getfield 74, [3, 8, 9, 0, 0, 0], 0, 0, []), (15, [], .if_icmp .ge 34, [3, 49], 0, 0, []), (18, [], .iload_n 3, [1], 0, 0, []), (19, [], .iload 4, [2], 0, 0, []), (21, [], .ishr, [1], 0, 0, []), (22, [], .iconst 1, [1], 1, 0, []), (23, [], .iand, [1], 0, 0, []), (24, [], .ifCond .eq 19, [3, 43], 0, 0, []), (27, [], .aload_n 0, [1], 0, 0, []), (28, [], .aload_n 1, [1], 0, 0, []), (29, [], .getfield 68, [3, 8, 7, 2, 1008, 7], 0, 0, []), (32, [], .iload 4, [2], 0, 0, []), (34, [], .iaload, [1], 0, 0, []), (35, [], .invokevirtual 71, [3, 50, 2, 1, 5, 1], 0, 0, []), (38, [], .ifCond .ne 5, [3, 43], 0, 0, []), (41, [], .iconst 0, [1], 0, 0, []), (42, [], .ireturn, [1, 1], 0, 0, []), (43, [], .iinc 4 1, [3], 1, 0, []), (46, [], .goto (-37), [3, 9], 0, 0, []), (49, [], .iconst 1, [1], 1, 0, []), (50, [], .ireturn, [1, 1], 0, 0, [])]
/-- 54: OneNote$Choir.blockers(LOneNote$Valley;II)I -/
def K54 : List je := [(0, [], .iconst 0, [1], 0, 0, []), (1, [], .istore 4, [2], 0, 0, []), (3, [], .iconst 0, [1], 0, 0, []), (4, [], .istore 5, [2], 0, 0, []), (6, [6], .iload 5, [2], 0, 0, []), (8, [], .bipush 7, [2], 7, 0, []), (10, [], .if_icmp .ge 44, [3, 54], 0, 0, []), (13, [], .iload_n 2, [1], 0, 0, []), (14, [], .iconst 1, [1], 1, 0, []), (15, [], .iload 5, [2], 0, 0, []), (17, [], .ishl, [1], 0, 0, []), (18, [], .iand, [1], 0, 0, []), (19, [], .istore 6, [2], 0, 0, []), (21, [], .iload 6, [2], 0, 0, []), (23, [], .ifCond .eq 25, [3, 48], 0, 0, []), (26, [], .aload_n 0, [1], 0, 0, []), (27, [], .aload_n 1, [1], 0, 0, []), (28, [], .iload_n 2, [1], 0, 0, []), (29, [], .iload 6, [2], 0, 0, []), (31, [], .iconst (-1), [1], (-1), 0, []), (32, [], .ixor, [1], 0, 0, []), (33, [], .iand, [1], 0, 0, []), (34, [], .iload_n 3, [1], 0, 0, []), (35, [], .invokevirtual 83, [3, 48, 4, 1, 4, 1], 0, 0, []), (38, [], .ifCond .ne 10, [3, 48], 0, 0, []), (41, [], .iload 4, [2], 0, 0, []), (43, [], .iload 6, [2], 0, 0, []), (45, [], .ior, [1], 0, 0, []), (46, [], .istore 4, [2], 0, 0, []), (48, [], .iinc 5 1, [3], 1, 0, []), (51, [], .goto (-45), [3, 6], 0, 0, []), (54, [], .iload 4, [2], 0, 0, []), (56, [], .ireturn, [1, 0], 0, 0, [])]
/-- 55: OneNote$Choir.setsSwungBy(LOneNote$Valley;III)I -/
def K55 : List je := [(0, [], .iconst 1, [1], 1, 0, []), (1, [], .iload_n 3, [1], 0, 0, []), (2, [], .ishl, [1], 0, 0, []), (3, [], .istore 5, [2], 0, 0, []), (5, [], .iload_n 2, [1], 0, 0, []), (6, [], .iload 5, [2], 0, 0, []), (8, [], .iconst (-1), [1], (-1), 0, []), (9, [], .ixor, [1], 0, 0, []), (10, [], .iand, [1], 0, 0, []), (11, [], .istore 6, [2], 0, 0, []), (13, [], .iconst 0, [1], 0, 0, []), (14, [], .istore 7, [2], 0, 0, []), (16, [], .iconst 0, [1], 0, 0, []), (17, [], .istore 8, [2], 0, 0, []), (19, [2, 3, 9], .iload 8, [2], 0, 0, []), (21, [], .iload 6, [2], 0, 0, []), (23, [], .if_icmp .gt 61, [3, 84], 0, 0, []), (26, [], .iload 8, [2], 0, 0, []), (28, [], .iload 6, [2], 0, 0, []), (30, [], .iconst (-1), [1], (-1), 0, []), (31, [], .ixor, [1], 0, 0, []), (32, [], .iand, [1], 0, 0, []), (33, [], .ifCond .ne 7, [3, 40], 0, 0, []), (36, [], .iconst 1, [1], 1, 0, []), (37, [], .goto 4, [3, 41], 0, 0, []), (40, [], .iconst 0, [1], 0, 0, []), (41, [2, 3, 9], .istore 9, [2], 0, 0, []), (43, [], .iload 9, [2], 0, 0, []), (45, [], .ifCond .eq 33, [3, 78], 0, 0, []), (48, [], .aload_n 0, [1], 0, 0, []), (49, [], .aload_n 1, [1], 0, 0, []), (50, [], .iload 8, [2], 0, 0, []), (52, [], .iload 4, [2], 0, 0, []), (54, [], .invokevirtual 83, [3, 48, 4, 1, 4, 1], 0, 0, []), (57, [], .ifCond .ne 21, [3, 78], 0, 0, []), (60, [], .aload_n 0, [1], 0, 0, []), (61, [], .aload_n 1, [1], 0, 0, []), (62, [], .iload 8, [2], 0, 0, []), (64, [], .iload 5, [2], 0, 0, []), (66, [], .ior, [1], 0, 0, []), (67, [], .iload 4, [2], 0, 0, []), (69, [], .invokevirtual 83, [3, 48, 4, 1, 4, 1], 0, 0, []), (72, [], .ifCond .eq 6, [3, 78], 0, 0, []), (75, [], .iinc 7 1, [3], 1, 0, []), (78, [], .iinc 8 1, [3], 1, 0, []), (81, [], .goto (-62), [3, 19], 0, 0, []), (84, [], .iload 7, [2], 0, 0, []), (86, [], .ireturn, [1, 0], 0, 0, [])]
/-- 56: OneNote$Choir.bestCouple(LOneNote$Valley;LOneNote$Valley;I)I -/
def K56 : List je := [(0, [], .aload_n 2, [1], 0, 0, []), (1, [], .aload_n 1, [1], 0, 0, []), (2, [], .invokevirtual 87, [3, 28, 2, 0, 2, 8], 0, 0, []), (5, [], .iconst (-1), [1], (-1), 0, []), (6, [], .istore 4, [2], 0, 0, []), (8, [], .iconst (-1), [1], (-1), 0, []), (9, [], .istore 5, [2], 0, 0, []), (11, [], .iconst 0, [1], 0, 0, []), (12, [], .istore 6, [2], 0, 0, []), (14, [7, 8, 9], .iload 6, [2], 0, 0, []), (16, [], .bipush 7, [2], 7, 0, []), (18, [], .if_icmp .ge 120, [3, 138], 0, 0, []), (21, [], .iload 6, [2], 0, 0, []), (23, [], .iconst 1, [1], 1, 0, []), (24, [], .iadd, [1], 0, 0, []), (25, [], .istore 7, [2], 0, 0, []), (27, [8, 9], .iload 7, [2], 0, 0, []), (29, [], .bipush 7, [2], 7, 0, []), (31, [], .if_icmp .ge 101, [3, 132], 0, 0, []), (34, [], .aload_n 1, [1], 0, 0, []), (35, [], .iload 6, [2], 0, 0, []), (37, [], .iload_n 3, [1], 0, 0, []), (38, [], .invokevirtual 39, [3, 25, 3, 1, 3, 8], 0, 0, []), (41, [], .ifCond .eq 17, [3, 58], 0, 0, []), (44, [], .aload_n 1, [1], 0, 0, []), (45, [], .iload 7, [2], 0, 0, []), (47, [], .iload_n 3, [1], 0, 0, []), (48, [], .invokevirtual 39, [3, 25, 3, 1, 3, 8], 0, 0, []), (51, [], .ifCond .eq 7, [3, 58], 0, 0, []), (54, [], .iconst 1, [1], 1, 0, []), (55, [], .goto 4, [3, 59], 0, 0, []), (58, [8, 9], .iconst 0, [1], 0, 0, []), (59, [8, 9], .istore 8, [2], 0, 0, []), (61, [], .iload 8, [2], 0, 0, []), (63, [], .ifCond .eq 63, [3, 126], 0, 0, []), (66, [], .aload_n 1, [1], 0, 0, []), (67, [], .getfield 32, [3, 8, 5, 2, 1007, 6], 0, 0, []), (70, [], .iload 6, [2], 0, 0, []), (72, [], .iaload, [1], 0, 0, []), (73, [], .iload 7, [2], 0, 0, []), (75, [], .if_icmp .ne 6, [3, 81], 0, 0, []), (78, [], .goto 48, [3, 126], 0, 0, []), (81, [], .aload_n 2, [1], 0, 0, []), (82, [], .aload_n 1, [1], 0, 0, []), (83, [], .invokevirtual 91, [3, 29, 2, 0, 2, 8], 0, 0, []), (86, [], .aload_n 2, [1], 0, 0, []), (87, [], .iload 6, [2], 0, 0, []), (89, [], .iload 7, [2], 0, 0, []), (91, [], .invokevirtual 94, [3, 40, 3, 0, 3, 8], 0, 0, []), (94, [], .aload_n 0, [1], 0, 0, []), (95, [], .aload_n 2, [1], 0, 0, []), (96, [], .iload_n 3, [1], 0, 0, []), (97, [], .invokevirtual 98, [3, 51, 3, 1, 5, 1], 0, 0, []), (100, [], .invokestatic 77, [3, 0, 1, 1, 1, 200], 0, 0, []), (103, [], .istore 9, [2], 0, 0, []), (105, [], .iload 9, [2], 0, 0, []), (107, [], .iload 5, [2], 0, 0, []), (109, [], .if_icmp .le 17, [3, 126], 0, 0, []), (112, [], .iload 9, [2], 0, 0, []), (114, [], .istore 5, [2], 0, 0, []), (116, [], .bipush 10, [2], 10, 0, []), (118, [], .iload 6, [2], 0, 0, []), (120, [], .imul, [1], 0, 0, []), (121, [], .iload 7, [2], 0, 0, []), (123, [], .iadd, [1], 0, 0, []), (124, [], .istore 4, [2], 0, 0, []), (126, [], .iinc 7 1, [3], 1, 0, []), (129, [], .goto (-102), [3, 27], 0, 0, []), (132, [], .iinc 6 1, [3], 1, 0, []), (135, [], .goto (-121), [3, 14], 0, 0, []), (138, [], .iload 4, [2], 0, 0, []), (140, [], .ireturn, [1, 0], 0, 0, [])]
/-- 57: OneNote$Errand.seek(LOneNote$Valley;LOneNote$Choir;I)Z -/
def K57 : List je := [(0, [], .aload_n 0, [1], 0, 0, []), (1, [], .aload_n 1, [1], 0, 0, []), (2, [], .invokevirtual 15, [3, 58, 2, 0, 5, 2], 0, 0, []), (5, [], .aload_n 0, [1], 0, 0, []), (6, [], .iconst (-1), [1], (-1), 0, []), (7, [], .putfield 19, [3, 2, 1, 0], 0, 0, []), (10, [], .aload_n 1, [1], 0, 0, []), (11, [], .invokevirtual 23, [3, 35, 1, 1, 3, 8], 0, 0, []), (14, [], .istore 4, [2], 0, 0, []), (16, [], .iconst 1, [1], 1, 0, []), (17, [], .aload_n 1, [1], 0, 0, []), (18, [], .getfield 29, [3, 8, 6, 0, 0, 0], 0, 0, []), (21, [], .ishl, [1], 0, 0, []), (22, [], .istore 5, [2], 0, 0, []), (24, [], .iconst 0, [1], 0, 0, []), (25, [], .istore 6, [2], 0, 0, []), (27, [7, 8], .iload 6, [2], 0, 0, []), (29, [], .iload 5, [2], 0, 0, []), (31, [], .if_icmp .ge 83, [3, 114], 0, 0, []), (34, [], .aload_n 0, [1], 0, 0, []), (35, [], .aload_n 1, [1], 0, 0, []), (36, [], .iload 6, [2], 0, 0, []), (38, [], .iload_n 3, [1], 0, 0, []), (39, [], .invokevirtual 32, [3, 60, 4, 1, 8, 2], 0, 0, []), (42, [], .istore 7, [2], 0, 0, []), (44, [], .iload 7, [2], 0, 0, []), (46, [], .iconst (-1), [1], (-1), 0, []), (47, [], .if_icmp .ne 6, [3, 53], 0, 0, []), (50, [], .goto 58, [3, 108], 0, 0, []), (53, [], .aload_n 0, [1], 0, 0, []), (54, [], .aload_n 1, [1], 0, 0, []), (55, [], .iload 7, [2], 0, 0, []), (57, [], .iload 6, [2], 0, 0, []), (59, [], .iload_n 3, [1], 0, 0, []), (60, [], .invokevirtual 36, [3, 61, 5, 1, 8, 2], 0, 0, []), (63, [], .istore 8, [2], 0, 0, []), (65, [], .aload_n 0, [1], 0, 0, []), (66, [], .iload 8, [2], 0, 0, []), (68, [], .iload 7, [2], 0, 0, []), (70, [], .iload 6, [2], 0, 0, []), (72, [], .invokevirtual 40, [3, 62, 4, 1, 4, 2], 0, 0, []), (75, [], .ifCond .eq 33, [3, 108], 0, 0, []), (78, [], .aload_n 2, [1], 0, 0, []), (79, [], .aload_n 1, [1], 0, 0, []), (80, [], .iload 6, [2], 0, 0, []), (82, [], .iload 4, [2], 0, 0, []), (84, [], .invokevirtual 44, [3, 53, 4, 1, 5, 1], 0, 0, []), (87, [], .ifCond .eq 21, [3, 108], 0, 0, []), (90, [], .aload_n 0, [1], 0, 0, []), (91, [], .iload 8, [2], 0, 0, []), (93, [], .putfield 19, [3, 2, 1, 0], 0, 0, []), (96, [], .aload_n 0, [1], 0, 0, []), (97, [], .iload 7, [2], 0, 0, []), (99, [], .putfield 50, [3, 2, 2, 0], 0, 0, []), (102, [], .aload_n 0, [1], 0, 0, []), (103, [], .iload 6, [2], 0, 0, []), (105, [], .putfield 53, [3, 2, 3, 0], 0, 0, []), (108, [7, 8], .iinc 6 1, [3], 1, 0, []), (111, [], .goto (-84), [3, 27], 0, 0, []), (114, [], .aload_n 0, [1], 0, 0, []), (115, [], .getfield 19, [3, 2, 1, 0, 0, 0], 0, 0, []), (118, [], .iconst (-1), [1], (-1), 0, []), (119, [], .if_icmp .eq 7, [3, 126], 0, 0, []), (122, [], .iconst 1, [1], 1, 0, []), (123, [], .goto 4, [3, 127], 0, 0, []), (126, [], .iconst 0, [1], 0, 0, []), (127, [0, 1, 2, 3, 4, 5, 6, 7, 8], .ireturn, [1, 1], 0, 0, [])]
/-- 58: OneNote$Errand.measure(LOneNote$Valley;)V -/
def K58 : List je := [(0, [], .iconst 0, [1], 0, 0, []), (1, [], .istore_n 2, [1], 0, 0, []), (2, [3, 4], .iload_n 2, [1], 0, 0, []), (3, [], .bipush 6, [2], 6, 0, []), (5, [], .if_icmp .ge 65, [3, 70], 0, 0, []), (8, [], .iconst 0, [1], 0, 0, []), (9, [], .istore_n 3, [1], 0, 0, []), (10, [4], .iload_n 3, [1], 0, 0, []), (11, [], .bipush 6, [2], 6, 0, []), (13, [], .if_icmp .ge 21, [3, 34], 0, 0, []), (16, [], .aload_n 0, [1], 0, 0, []), (17, [], .getfield 9, [3, 2, 0, 2, 1036, 1], 0, 0, []), (20, [], .iload_n 2, [1], 0, 0, []), (21, [], .bipush 6, [2], 6, 0, []), (23, [], .imul, [1], 0, 0, []), (24, [], .iload_n 3, [1], 0, 0, []), (25, [], .iadd, [1], 0, 0, []), (26, [], .iconst (-1), [1], (-1), 0, []), (27, [], .iastore, [1], 0, 0, []), (28, [], .iinc 3 1, [3], 1, 0, []), (31, [], .goto (-21), [3, 10], 0, 0, []), (34, [], .iconst 1, [1], 1, 0, []), (35, [], .iload_n 2, [1], 0, 0, []), (36, [], .ishl, [1], 0, 0, []), (37, [], .istore_n 3, [1], 0, 0, []), (38, [], .iconst 0, [1], 0, 0, []), (39, [], .istore 4, [2], 0, 0, []), (41, [], .iload 4, [2], 0, 0, []), (43, [], .bipush 6, [2], 6, 0, []), (45, [], .if_icmp .ge 19, [3, 64], 0, 0, []), (48, [], .aload_n 0, [1], 0, 0, []), (49, [], .aload_n 1, [1], 0, 0, []), (50, [], .iload_n 2, [1], 0, 0, []), (51, [], .iload_n 3, [1], 0, 0, []), (52, [], .iload 4, [2], 0, 0, []), (54, [], .invokevirtual 56, [3, 59, 5, 1, 8, 2], 0, 0, []), (57, [], .istore_n 3, [1], 0, 0, []), (58, [], .iinc 4 1, [3], 1, 0, []), (61, [], .goto (-20), [3, 41], 0, 0, []), (64, [], .iinc 2 1, [3], 1, 0, []), (67, [], .goto (-65), [3, 2], 0, 0, []), (70, [], .return_, [1], 0, 0, [])]
/-- 59: OneNote$Errand.spreadOnce(LOneNote$Valley;III)I -/
def K59 : List je := [(0, [], .iload_n 3, [1], 0, 0, []), (1, [], .istore 5, [2], 0, 0, []), (3, [], .iconst 0, [1], 0, 0, []), (4, [], .istore 6, [2], 0, 0, []), (6, [7], .iload 6, [2], 0, 0, []), (8, [], .bipush 6, [2], 6, 0, []), (10, [], .if_icmp .ge 59, [3, 69], 0, 0, []), (13, [], .iload_n 2, [1], 0, 0, []), (14, [], .bipush 6, [2], 6, 0, []), (16, [], .imul, [1], 0, 0, []), (17, [], .iload 6, [2], 0, 0, []), (19, [], .iadd, [1], 0, 0, []), (20, [], .istore 7, [2], 0, 0, []), (22, [], .iload_n 3, [1], 0, 0, []), (23, [], .iload 6, [2], 0, 0, []), (25, [], .ishr, [1], 0, 0, []), (26, [], .iconst 1, [1], 1, 0, []), (27, [], .iand, [1], 0, 0, []), (28, [], .ifCond .eq 35, [3, 63], 0, 0, []), (31, [], .aload_n 0, [1], 0, 0, []), (32, [], .getfield 9, [3, 2, 0, 2, 1036, 1], 0, 0, []), (35, [], .iload 7, [2], 0, 0, []), (37, [], .iaload, [1], 0, 0, []), (38, [], .iconst (-1), [1], (-1), 0, []), (39, [], .if_icmp .ne 24, [3, 63], 0, 0, []), (42, [], .aload_n 0, [1], 0, 0, []), (43, [], .getfield 9, [3, 2, 0, 2, 1036, 1], 0, 0, []), (46, [], .iload 7, [2], 0, 0, []), (48, [], .iload 4, [2], 0, 0, []), (50, [], .iastore, [1], 0, 0, []), (51, [], .iload 5, [2], 0, 0, []), (53, [], .aload_n 1, [1], 0, 0, []), (54, [], .getfield 59, [3, 8, 0, 2, 1006, 1], 0, 0, []), (57, [], .iload 6, [2], 0, 0, []), (59, [], .iaload, [1], 0, 0, []), (60, [], .ior, [1], 0, 0, []), (61, [], .istore 5, [2], 0, 0, []), (63, [], .iinc 6 1, [3], 1, 0, []), (66, [], .goto (-60), [3, 6], 0, 0, []), (69, [], .iload 5, [2], 0, 0, []), (71, [], .ireturn, [1, 0], 0, 0, [])]
/-- 60: OneNote$Errand.nearestRoom(LOneNote$Valley;II)I -/
def K60 : List je := [(0, [], .iconst (-1), [1], (-1), 0, []), (1, [], .istore 4, [2], 0, 0, []), (3, [], .iconst 0, [1], 0, 0, []), (4, [], .istore 5, [2], 0, 0, []), (6, [], .iconst 0, [1], 0, 0, []), (7, [], .istore 6, [2], 0, 0, []), (9, [7], .iload 6, [2], 0, 0, []), (11, [], .bipush 6, [2], 6, 0, []), (13, [], .if_icmp .ge 47, [3, 60], 0, 0, []), (16, [], .aload_n 0, [1], 0, 0, []), (17, [], .aload_n 1, [1], 0, 0, []), (18, [], .iload 6, [2], 0, 0, []), (20, [], .iload_n 2, [1], 0, 0, []), (21, [], .iload_n 3, [1], 0, 0, []), (22, [], .invokevirtual 36, [3, 61, 5, 1, 8, 2], 0, 0, []), (25, [], .istore 7, [2], 0, 0, []), (27, [], .iload 7, [2], 0, 0, []), (29, [], .iconst (-1), [1], (-1), 0, []), (30, [], .if_icmp .eq 24, [3, 54], 0, 0, []), (33, [], .iload 4, [2], 0, 0, []), (35, [], .iconst (-1), [1], (-1), 0, []), (36, [], .if_icmp .eq 10, [3, 46], 0, 0, []), (39, [], .iload 7, [2], 0, 0, []), (41, [], .iload 5, [2], 0, 0, []), (43, [], .if_icmp .ge 11, [3, 54], 0, 0, []), (46, [], .iload 6, [2], 0, 0, []), (48, [], .istore 4, [2], 0, 0, []), (50, [], .iload 7, [2], 0, 0, []), (52, [], .istore 5, [2], 0, 0, []), (54, [], .iinc 6 1, [3], 1, 0, []), (57, [], .goto (-48), [3, 9], 0, 0, []), (60, [], .iload 4, [2], 0, 0, []), (62, [], .ireturn, [1, 0], 0, 0, [])]
/-- 61: OneNote$Errand.stepsTo(LOneNote$Valley;III)I -/
def K61 : List je := [(0, [], .iconst 0, [1], 0, 0, []), (1, [], .istore 5, [2], 0, 0, []), (3, [], .iconst 0, [1], 0, 0, []), (4, [], .istore 6, [2], 0, 0, []), (6, [7], .iload 6, [2], 0, 0, []), (8, [], .aload_n 1, [1], 0, 0, []), (9, [], .getfield 29, [3, 8, 6, 0, 0, 0], 0, 0, []), (12, [], .if_icmp .ge 59, [3, 71], 0, 0, []), (15, [], .iload_n 3, [1], 0, 0, []), (16, [], .iload 6, [2], 0, 0, []), (18, [], .ishr, [1], 0, 0, []), (19, [], .iconst 1, [1], 1, 0, []), (20, [], .iand, [1], 0, 0, []), (21, [], .ifCond .eq 44, [3, 65], 0, 0, []), (24, [], .aload_n 0, [1], 0, 0, []), (25, [], .getfield 9, [3, 2, 0, 2, 1036, 1], 0, 0, []), (28, [], .aload_n 1, [1], 0, 0, []), (29, [], .getfield 62, [3, 8, 4, 2, 1007, 5], 0, 0, []), (32, [], .iload 6, [2], 0, 0, []), (34, [], .iaload, [1], 0, 0, []), (35, [], .bipush 6, [2], 6, 0, []), (37, [], .imul, [1], 0, 0, []), (38, [], .iload_n 2, [1], 0, 0, []), (39, [], .iadd, [1], 0, 0, []), (40, [], .iaload, [1], 0, 0, []), (41, [], .istore 7, [2], 0, 0, []), (43, [], .iload 7, [2], 0, 0, []), (45, [], .iconst (-1), [1], (-1), 0, []), (46, [], .if_icmp .eq 10, [3, 56], 0, 0, []), (49, [], .iload 7, [2], 0, 0, []), (51, [], .iload 4, [2], 0, 0, []), (53, [], .if_icmp .le 5, [3, 58], 0, 0, []), (56, [], .iconst (-1), [1], (-1), 0, []), (57, [], .ireturn, [1, 0], 0, 0, []), (58, [], .iload 5, [2], 0, 0, []), (60, [], .iload 7, [2], 0, 0, []), (62, [], .iadd, [1], 0, 0, []), (63, [], .istore 5, [2], 0, 0, []), (65, [], .iinc 6 1, [3], 1, 0, []), (68, [], .goto (-62), [3, 6], 0, 0, []), (71, [], .iload 5, [2], 0, 0, []), (73, [], .ireturn, [1, 0], 0, 0, [])]
/-- 62: OneNote$Errand.isBetter(III)Z -/
def K62 : List je := [(0, [], .aload_n 0, [1], 0, 0, []), (1, [], .getfield 19, [3, 2, 1, 0, 0, 0], 0, 0, []), (4, [], .iconst (-1), [1], (-1), 0, []), (5, [], .if_icmp .eq 11, [3, 16], 0, 0, []), (8, [], .iload_n 1, [1], 0, 0, []), (9, [], .aload_n 0, [1], 0, 0, []), (10, [], .getfield 19, [3, 2, 1, 0, 0, 0], 0, 0, []), (13, [], .if_icmp .eq 25, [3, 38], 0, 0, []), (16, [2, 3], .aload_n 0, [1], 0, 0, []), (17, [], .getfield 19, [3, 2, 1, 0, 0, 0], 0, 0, []), (20, [], .iconst (-1), [1], (-1), 0, []), (21, [], .if_icmp .eq 11, [3, 32], 0, 0, []), (24, [], .iload_n 1, [1], 0, 0, []), (25, [], .aload_n 0, [1], 0, 0, []), (26, [], .getfield 19, [3, 2, 1, 0, 0, 0], 0, 0, []), (29, [], .if_icmp .ge 7, [3, 36], 0, 0, []), (32, [], .iconst 1, [1], 1, 0, []), (33, [], .goto 4, [3, 37], 0, 0, []), (36, [], .iconst 0, [1], 0, 0, []), (37, [], .ireturn, [1, 1], 0, 0, []), (38, [], .iload_n 2, [1], 0, 0, []), (39, [], .aload_n 0, [1], 0, 0, []), (40, [], .getfield 50, [3, 2, 2, 0, 0, 0], 0, 0, []), (43, [], .if_icmp .eq 17, [3, 60], 0, 0, []), (46, [], .iload_n 2, [1], 0, 0, []), (47, [], .aload_n 0, [1], 0, 0, []), (48, [], .getfield 50, [3, 2, 2, 0, 0, 0], 0, 0, []), (51, [], .if_icmp .ge 7, [3, 58], 0, 0, []), (54, [], .iconst 1, [1], 1, 0, []), (55, [], .goto 4, [3, 59], 0, 0, []), (58, [], .iconst 0, [1], 0, 0, []), (59, [0, 1, 2, 3], .ireturn, [1, 1], 0, 0, []), (60, [], .iload_n 3, [1], 0, 0, []), (61, [], .invokestatic 65, [3, 0, 1, 1, 1, 200], 0, 0, []), (64, [], .aload_n 0, [1], 0, 0, []), (65, [], .getfield 53, [3, 2, 3, 0, 0, 0], 0, 0, []), (68, [], .invokestatic 65, [3, 0, 1, 1, 1, 200], 0, 0, []), (71, [], .if_icmp .ge 7, [3, 78], 0, 0, []), (74, [], .iconst 1, [1], 1, 0, []), (75, [], .goto 4, [3, 79], 0, 0, []), (78, [], .iconst 0, [1], 0, 0, []), (79, [0, 1, 2, 3], .ireturn, [1, 1], 0, 0, [])]
/-- 63: OneNote$Fog.confuses(III)Z -/
def K63 : List je := [(0, [], .iconst 1, [1], 1, 0, []), (1, [], .istore_n 3, [1], 0, 0, []), (2, [], .iconst 0, [1], 0, 0, []), (3, [], .istore 4, [2], 0, 0, []), (5, [5], .iload 4, [2], 0, 0, []), (7, [], .bipush 12, [2], 12, 0, []), (9, [], .if_icmp .ge 34, [3, 43], 0, 0, []), (12, [], .iload_n 0, [1], 0, 0, []), (13, [], .iconst 1, [1], 1, 0, []), (14, [], .iload 4, [2], 0, 0, []), (16, [], .ishl, [1], 0, 0, []), (17, [], .iand, [1], 0, 0, []), (18, [], .istore 5, [2], 0, 0, []), (20, [], .iload 5, [2], 0, 0, []), (22, [], .ifCond .eq 15, [3, 37], 0, 0, []), (25, [], .iload_n 3, [1], 0, 0, []), (26, [], .iload 5, [2], 0, 0, []), (28, [], .iload_n 2, [1], 0, 0, []), (29, [], .invokestatic 15, [3, 12, 2, 1, 4, 200], 0, 0, []), (32, [], .iload_n 1, [1], 0, 0, []), (33, [], .invokestatic 21, [3, 13, 3, 1, 8, 200], 0, 0, []), (36, [], .istore_n 3, [1], 0, 0, []), (37, [], .iinc 4 1, [3], 1, 0, []), (40, [], .goto (-35), [3, 5], 0, 0, []), (43, [], .iload_n 3, [1], 0, 0, []), (44, [], .invokestatic 25, [3, 14, 1, 1, 1, 200], 0, 0, []), (47, [], .ireturn, [1, 1], 0, 0, [])]
/-- 64: OneNote$Fog.leastToGo(LOneNote$Valley;I)I -/
def K64 : List je := [(0, [], .aload_n 0, [1], 0, 0, []), (1, [], .aload_n 1, [1], 0, 0, []), (2, [], .iload_n 2, [1], 0, 0, []), (3, [], .invokevirtual 29, [3, 65, 3, 0, 5, 3], 0, 0, []), (6, [], .iconst 1, [1], 1, 0, []), (7, [], .aload_n 1, [1], 0, 0, []), (8, [], .getfield 33, [3, 8, 9, 0, 0, 0], 0, 0, []), (11, [], .ishl, [1], 0, 0, []), (12, [], .iconst 1, [1], 1, 0, []), (13, [], .isub, [1], 0, 0, []), (14, [], .istore_n 3, [1], 0, 0, []), (15, [], .iload_n 3, [1], 0, 0, []), (16, [], .istore 4, [2], 0, 0, []), (18, [], .iconst 0, [1], 0, 0, []), (19, [], .istore 5, [2], 0, 0, []), (21, [1, 2], .iload 5, [2], 0, 0, []), (23, [], .iload_n 3, [1], 0, 0, []), (24, [], .if_icmp .gt 39, [3, 63], 0, 0, []), (27, [], .iload 5, [2], 0, 0, []), (29, [], .invokestatic 39, [3, 0, 1, 1, 1, 200], 0, 0, []), (32, [], .iload 4, [2], 0, 0, []), (34, [], .invokestatic 39, [3, 0, 1, 1, 1, 200], 0, 0, []), (37, [], .if_icmp .ge 20, [3, 57], 0, 0, []), (40, [], .aload_n 0, [1], 0, 0, []), (41, [], .iload_n 3, [1], 0, 0, []), (42, [], .iload 5, [2], 0, 0, []), (44, [], .iconst (-1), [1], (-1), 0, []), (45, [], .ixor, [1], 0, 0, []), (46, [], .iand, [1], 0, 0, []), (47, [], .invokevirtual 45, [3, 66, 2, 1, 3, 3], 0, 0, []), (50, [], .ifCond .eq 7, [3, 57], 0, 0, []), (53, [], .iload 5, [2], 0, 0, []), (55, [], .istore 4, [2], 0, 0, []), (57, [], .iinc 5 1, [3], 1, 0, []), (60, [], .goto (-39), [3, 21], 0, 0, []), (63, [], .iload 4, [2], 0, 0, []), (65, [], .ireturn, [1, 0], 0, 0, [])]
/-- 65: OneNote$Fog.findRivals(LOneNote$Valley;I)V -/
def K65 : List je := [(0, [], .iconst 0, [1], 0, 0, []), (1, [], .istore_n 3, [1], 0, 0, []), (2, [4], .iload_n 3, [1], 0, 0, []), (3, [], .aload_n 1, [1], 0, 0, []), (4, [], .getfield 33, [3, 8, 9, 0, 0, 0], 0, 0, []), (7, [], .if_icmp .ge 73, [3, 80], 0, 0, []), (10, [], .aload_n 0, [1], 0, 0, []), (11, [], .getfield 9, [3, 3, 0, 2, 1008, 1], 0, 0, []), (14, [], .iload_n 3, [1], 0, 0, []), (15, [], .iconst 0, [1], 0, 0, []), (16, [], .iastore, [1], 0, 0, []), (17, [], .iconst 0, [1], 0, 0, []), (18, [], .istore 4, [2], 0, 0, []), (20, [], .iload 4, [2], 0, 0, []), (22, [], .aload_n 1, [1], 0, 0, []), (23, [], .getfield 33, [3, 8, 9, 0, 0, 0], 0, 0, []), (26, [], .if_icmp .ge 48, [3, 74], 0, 0, []), (29, [], .iload_n 3, [1], 0, 0, []), (30, [], .iload 4, [2], 0, 0, []), (32, [], .if_icmp .eq 36, [3, 68], 0, 0, []), (35, [], .aload_n 1, [1], 0, 0, []), (36, [], .getfield 48, [3, 8, 7, 2, 1008, 7], 0, 0, []), (39, [], .iload_n 3, [1], 0, 0, []), (40, [], .iaload, [1], 0, 0, []), (41, [], .aload_n 1, [1], 0, 0, []), (42, [], .getfield 48, [3, 8, 7, 2, 1008, 7], 0, 0, []), (45, [], .iload 4, [2], 0, 0, []), (47, [], .iaload, [1], 0, 0, []), (48, [], .iload_n 2, [1], 0, 0, []), (49, [], .invokestatic 51, [3, 63, 3, 1, 6, 200], 0, 0, []), (52, [], .ifCond .eq 16, [3, 68], 0, 0, []), (55, [], .aload_n 0, [1], 0, 0, []), (56, [], .getfield 9, [3, 3, 0, 2, 1008, 1], 0, 0, []), (59, [], .iload_n 3, [1], 0, 0, []), (60, [], .dup2, [1], 0, 0, []), (61, [], .iaload, [1], 0, 0, []), (62, [], .iconst 1, [1], 1, 0, []), (63, [], .iload 4, [2], 0, 0, []), (65, [], .ishl, [1], 0, 0, []), (66, [], .ior, [1], 0, 0, []), (67, [], .iastore, [1], 0, 0, []), (68, [], .iinc 4 1, [3], 1, 0, []), (71, [], .goto (-51), [3, 20], 0, 0, []), (74, [], .iinc 3 1, [3], 1, 0, []), (77, [], .goto (-75), [3, 2], 0, 0, []), (80, [], .return_, [1], 0, 0, [])]
/-- 66: OneNote$Fog.isClear(I)Z -/
def K66 : List je := [(0, [], .iconst 0, [1], 0, 0, []), (1, [], .istore_n 2, [1], 0, 0, []), (2, [], .iload_n 2, [1], 0, 0, []), (3, [], .bipush 8, [2], 8, 0, []), (5, [], .if_icmp .ge 30, [3, 35], 0, 0, []), (8, [], .iload_n 1, [1], 0, 0, []), (9, [], .iload_n 2, [1], 0, 0, []), (10, [], .ishr, [1], 0, 0, []), (11, [], .iconst 1, [1], 1, 0, []), (12, [], .iand, [1], 0, 0, []), (13, [], .ifCond .eq 16, [3, 29], 0, 0, []), (16, [], .aload_n 0, [1], 0, 0, []), (17, [], .getfield 9, [3, 3, 0, 2, 1008, 1], 0, 0, []), (20, [], .iload_n 2, [1], 0, 0, []), (21, [], .iaload, [1], 0, 0, []), (22, [], .iload_n 1, [1], 0, 0, []), (23, [], .iand, [1], 0, 0, []), (24, [], .ifCond .eq 5, [3, 29], 0, 0, []), (27, [], .iconst 0, [1], 0, 0, []), (28, [], .ireturn, [1, 1], 0, 0, []), (29, [], .iinc 2 1, [3], 1, 0, []), (32, [], .goto (-30), [3, 2], 0, 0, []), (35, [], .iconst 1, [1], 1, 0, []), (36, [], .ireturn, [1, 1], 0, 0, [])]
/-- 67: OneNote$Rumour.spread(LOneNote$Valley;I)V -/
def K67 : List je := [(0, [], .aload_n 0, [1], 0, 0, []), (1, [], .iload_n 2, [1], 0, 0, []), (2, [], .putfield 15, [3, 6, 2, 0], 0, 0, []), (5, [], .aload_n 0, [1], 0, 0, []), (6, [], .iconst 0, [1], 0, 0, []), (7, [], .putfield 19, [3, 6, 1, 0], 0, 0, []), (10, [], .iconst 0, [1], 0, 0, []), (11, [], .istore_n 3, [1], 0, 0, []), (12, [2, 4, 5], .iload_n 3, [1], 0, 0, []), (13, [], .aload_n 1, [1], 0, 0, []), (14, [], .getfield 22, [3, 8, 6, 0, 0, 0], 0, 0, []), (17, [], .if_icmp .ge 26, [3, 43], 0, 0, []), (20, [], .aload_n 0, [1], 0, 0, []), (21, [], .dup, [1], 0, 0, []), (22, [], .getfield 19, [3, 6, 1, 0, 0, 0], 0, 0, []), (25, [], .iconst 1, [1], 1, 0, []), (26, [], .aload_n 1, [1], 0, 0, []), (27, [], .getfield 27, [3, 8, 4, 2, 1007, 5], 0, 0, []), (30, [], .iload_n 3, [1], 0, 0, []), (31, [], .iaload, [1], 0, 0, []), (32, [], .ishl, [1], 0, 0, []), (33, [], .ior, [1], 0, 0, []), (34, [], .putfield 19, [3, 6, 1, 0], 0, 0, []), (37, [], .iinc 3 1, [3], 1, 0, []), (40, [], .goto (-28), [3, 12], 0, 0, []), (43, [], .iconst 0, [1], 0, 0, []), (44, [], .istore_n 3, [1], 0, 0, []), (45, [2, 4, 5], .iload_n 3, [1], 0, 0, []), (46, [], .bipush 6, [2], 6, 0, []), (48, [], .if_icmp .ge 30, [3, 78], 0, 0, []), (51, [], .aload_n 0, [1], 0, 0, []), (52, [], .getfield 9, [3, 6, 0, 2, 1006, 1], 0, 0, []), (55, [], .iload_n 3, [1], 0, 0, []), (56, [], .iload_n 3, [1], 0, 0, []), (57, [], .aload_n 0, [1], 0, 0, []), (58, [], .getfield 15, [3, 6, 2, 0, 0, 0], 0, 0, []), (61, [], .if_icmp .ne 7, [3, 68], 0, 0, []), (64, [], .iconst 0, [1], 0, 0, []), (65, [], .goto 6, [3, 71], 0, 0, []), (68, [], .sipush 1000, [3], 1000, 0, []), (71, [], .iastore, [1], 0, 0, []), (72, [], .iinc 3 1, [3], 1, 0, []), (75, [], .goto (-30), [3, 45], 0, 0, []), (78, [], .iconst 0, [1], 0, 0, []), (79, [], .istore_n 3, [1], 0, 0, []), (80, [2, 4, 5], .iload_n 3, [1], 0, 0, []), (81, [], .bipush 6, [2], 6, 0, []), (83, [], .if_icmp .ge 63, [3, 146], 0, 0, []), (86, [], .iconst 0, [1], 0, 0, []), (87, [], .istore 4, [2], 0, 0, []), (89, [2, 5], .iload 4, [2], 0, 0, []), (91, [], .bipush 6, [2], 6, 0, []), (93, [], .if_icmp .ge 47, [3, 140], 0, 0, []), (96, [], .aload_n 0, [1], 0, 0, []), (97, [], .aload_n 1, [1], 0, 0, []), (98, [], .iload 4, [2], 0, 0, []), (100, [], .invokevirtual 30, [3, 68, 3, 1, 6, 6], 0, 0, []), (103, [], .istore 5, [2], 0, 0, []), (105, [], .iload 5, [2], 0, 0, []), (107, [], .iconst (-1), [1], (-1), 0, []), (108, [], .if_icmp .eq 26, [3, 134], 0, 0, []), (111, [], .aload_n 0, [1], 0, 0, []), (112, [], .getfield 9, [3, 6, 0, 2, 1006, 1], 0, 0, []), (115, [], .iload 4, [2], 0, 0, []), (117, [], .aload_n 0, [1], 0, 0, []), (118, [], .getfield 9, [3, 6, 0, 2, 1006, 1], 0, 0, []), (121, [], .iload 4, [2], 0, 0, []), (123, [], .iaload, [1], 0, 0, []), (124, [], .aload_n 0, [1], 0, 0, []), (125, [], .iload 5, [2], 0, 0, []), (127, [], .invokevirtual 34, [3, 69, 2, 1, 3, 6], 0, 0, []), (130, [], .invokestatic 38, [3, 0, 0], 0, 0, []), (133, [], .iastore, [1], 0, 0, []), (134, [], .iinc 4 1, [3], 1, 0, []), (137, [], .goto (-48), [3, 89], 0, 0, []), (140, [], .iinc 3 1, [3], 1, 0, []), (143, [], .goto (-63), [3, 80], 0, 0, []), (146, [], .return_, [1], 0, 0, [])]
/-- 68: OneNote$Rumour.nextRoom(LOneNote$Valley;I)I -/
def K68 : List je := [(0, [], .iconst (-1), [1], (-1), 0, []), (1, [], .istore_n 3, [1], 0, 0, []), (2, [], .iconst 0, [1], 0, 0, []), (3, [], .istore 4, [2], 0, 0, []), (5, [5], .iload 4, [2], 0, 0, []), (7, [], .bipush 6, [2], 6, 0, []), (9, [], .if_icmp .ge 70, [3, 79], 0, 0, []), (12, [], .aload_n 1, [1], 0, 0, []), (13, [], .getfield 44, [3, 8, 1, 2, 1006, 2], 0, 0, []), (16, [], .iload_n 2, [1], 0, 0, []), (17, [], .iaload, [1], 0, 0, []), (18, [], .iload 4, [2], 0, 0, []), (20, [], .ishr, [1], 0, 0, []), (21, [], .iconst 1, [1], 1, 0, []), (22, [], .iand, [1], 0, 0, []), (23, [], .ifCond .eq 20, [3, 43], 0, 0, []), (26, [], .aload_n 0, [1], 0, 0, []), (27, [], .getfield 9, [3, 6, 0, 2, 1006, 1], 0, 0, []), (30, [], .iload 4, [2], 0, 0, []), (32, [], .iaload, [1], 0, 0, []), (33, [], .sipush 1000, [3], 1000, 0, []), (36, [], .if_icmp .ge 7, [3, 43], 0, 0, []), (39, [], .iconst 1, [1], 1, 0, []), (40, [], .goto 4, [3, 44], 0, 0, []), (43, [5], .iconst 0, [1], 0, 0, []), (44, [5], .istore 5, [2], 0, 0, []), (46, [], .iload 5, [2], 0, 0, []), (48, [], .ifCond .eq 25, [3, 73], 0, 0, []), (51, [], .iload_n 3, [1], 0, 0, []), (52, [], .iconst (-1), [1], (-1), 0, []), (53, [], .if_icmp .eq 17, [3, 70], 0, 0, []), (56, [], .aload_n 0, [1], 0, 0, []), (57, [], .iload 4, [2], 0, 0, []), (59, [], .invokevirtual 34, [3, 69, 2, 1, 3, 6], 0, 0, []), (62, [], .aload_n 0, [1], 0, 0, []), (63, [], .iload_n 3, [1], 0, 0, []), (64, [], .invokevirtual 34, [3, 69, 2, 1, 3, 6], 0, 0, []), (67, [], .if_icmp .ge 6, [3, 73], 0, 0, []), (70, [], .iload 4, [2], 0, 0, []), (72, [], .istore_n 3, [1], 0, 0, []), (73, [], .iinc 4 1, [3], 1, 0, []), (76, [], .goto (-71), [3, 5], 0, 0, []), (79, [], .iload_n 3, [1], 0, 0, []), (80, [], .ireturn, [1, 0], 0, 0, [])]
/-- 69: OneNote$Rumour.costBy(I)I -/
def K69 : List je := [(0, [], .iload_n 1, [1], 0, 0, []), (1, [], .aload_n 0, [1], 0, 0, []), (2, [], .getfield 15, [3, 6, 2, 0, 0, 0], 0, 0, []), (5, [], .if_icmp .eq 14, [3, 19], 0, 0, []), (8, [], .aload_n 0, [1], 0, 0, []), (9, [], .getfield 19, [3, 6, 1, 0, 0, 0], 0, 0, []), (12, [], .iload_n 1, [1], 0, 0, []), (13, [], .ishr, [1], 0, 0, []), (14, [], .iconst 1, [1], 1, 0, []), (15, [], .iand, [1], 0, 0, []), (16, [], .ifCond .eq 7, [3, 23], 0, 0, []), (19, [2], .iconst 1, [1], 1, 0, []), (20, [], .goto 4, [3, 24], 0, 0, []), (23, [], .iconst 0, [1], 0, 0, []), (24, [], .istore_n 2, [1], 0, 0, []), (25, [], .aload_n 0, [1], 0, 0, []), (26, [], .getfield 9, [3, 6, 0, 2, 1006, 1], 0, 0, []), (29, [], .iload_n 1, [1], 0, 0, []), (30, [], .iaload, [1], 0, 0, []), (31, [], .iload_n 2, [1], 0, 0, []), (32, [], .ifCond .eq 7, [3, 39], 0, 0, []), (35, [], .iconst 1, [1], 1, 0, []), (36, [], .goto 5, [3, 41], 0, 0, []), (39, [], .bipush 17, [2], 17, 0, []), (41, [], .iadd, [1], 0, 0, []), (42, [], .ireturn, [1, 0], 0, 0, [])]
/-- 70: OneNote$Rumour.sentFrom(I)I -/
def K70 : List je := [(0, [], .aload_n 0, [1], 0, 0, []), (1, [], .getfield 9, [3, 6, 0, 2, 1006, 1], 0, 0, []), (4, [], .iload_n 1, [1], 0, 0, []), (5, [], .iaload, [1], 0, 0, []), (6, [], .sipush 1000, [3], 1000, 0, []), (9, [], .if_icmp .lt 7, [3, 16], 0, 0, []), (12, [], .iconst (-1), [1], (-1), 0, []), (13, [], .goto 12, [3, 25], 0, 0, []), (16, [], .aload_n 0, [1], 0, 0, []), (17, [], .getfield 9, [3, 6, 0, 2, 1006, 1], 0, 0, []), (20, [], .iload_n 1, [1], 0, 0, []), (21, [], .iaload, [1], 0, 0, []), (22, [], .bipush 16, [2], 16, 0, []), (24, [], .idiv, [1], 0, 0, []), (25, [], .ireturn, [1, 0], 0, 0, [])]
/-- 71: OneNote$Rumour.roomOfRow(LOneNote$Valley;II)I -/
def K71 : List je := [(0, [], .aload_n 0, [1], 0, 0, []), (1, [], .getfield 9, [3, 6, 0, 2, 1006, 1], 0, 0, []), (4, [], .iload_n 2, [1], 0, 0, []), (5, [], .iaload, [1], 0, 0, []), (6, [], .sipush 1000, [3], 1000, 0, []), (9, [], .if_icmp .lt 5, [3, 14], 0, 0, []), (12, [], .iconst (-1), [1], (-1), 0, []), (13, [], .ireturn, [1, 0], 0, 0, []), (14, [], .iload_n 3, [1], 0, 0, []), (15, [], .aload_n 0, [1], 0, 0, []), (16, [], .getfield 9, [3, 6, 0, 2, 1006, 1], 0, 0, []), (19, [], .iload_n 2, [1], 0, 0, []), (20, [], .iaload, [1], 0, 0, []), (21, [], .bipush 16, [2], 16, 0, []), (23, [], .irem, [1], 0, 0, []), (24, [], .if_icmp .le 6, [3, 30], 0, 0, []), (27, [], .bipush (-5), [2], (-5), 0, []), (29, [], .ireturn, [1, 0], 0, 0, []), (30, [], .iload_n 2, [1], 0, 0, []), (31, [], .istore 4, [2], 0, 0, []), (33, [], .iconst 0, [1], 0, 0, []), (34, [], .istore 5, [2], 0, 0, []), (36, [2], .iload 5, [2], 0, 0, []), (38, [], .iload_n 3, [1], 0, 0, []), (39, [], .if_icmp .ge 24, [3, 63], 0, 0, []), (42, [], .iload 4, [2], 0, 0, []), (44, [], .iconst (-1), [1], (-1), 0, []), (45, [], .if_icmp .eq 18, [3, 63], 0, 0, []), (48, [], .aload_n 0, [1], 0, 0, []), (49, [], .aload_n 1, [1], 0, 0, []), (50, [], .iload 4, [2], 0, 0, []), (52, [], .invokevirtual 30, [3, 68, 3, 1, 6, 6], 0, 0, []), (55, [], .istore 4, [2], 0, 0, []), (57, [], .iinc 5 1, [3], 1, 0, []), (60, [], .goto (-24), [3, 36], 0, 0, []), (63, [], .iload 4, [2], 0, 0, []), (65, [], .ireturn, [1, 0], 0, 0, [])]
/-- 72: OneNote$Guess.countRows(LOneNote$Valley;)I -/
def K72 : List je := [(0, [], .aload_n 0, [1], 0, 0, []), (1, [], .aload_n 1, [1], 0, 0, []), (2, [], .iconst 0, [1], 0, 0, []), (3, [], .iconst (-1), [1], (-1), 0, []), (4, [], .iconst (-1), [1], (-1), 0, []), (5, [], .invokevirtual 15, [3, 73, 5, 2, 14, 5], 0, 0, []), (8, [], .l2i, [1], 0, 0, []), (9, [], .ireturn, [1, 0], 0, 0, [])]
/-- 73: OneNote$Guess.sumRows(LOneNote$Valley;ZII)J -/
def K73 : List je := [(0, [], .aload_n 0, [1], 0, 0, []), (1, [], .getfield 9, [3, 5, 0, 2, 2008, 1], 0, 0, []), (4, [], .lconst 0, [1], 0, 0, []), (5, [], .invokestatic 19, [3, 2, 2, 0, 5, 200], 0, 0, []), (8, [], .lconst 1, [1], 0, 1, []), (9, [], .lstore 5, [2], 0, 0, []), (11, [], .iconst 0, [1], 0, 0, []), (12, [], .istore 7, [2], 0, 0, []), (14, [6, 8, 9, 10, 11, 12, 13], .iload 7, [2], 0, 0, []), (16, [], .aload_n 1, [1], 0, 0, []), (17, [], .getfield 25, [3, 8, 14, 0, 0, 0], 0, 0, []), (20, [], .if_icmp .ge 127, [3, 147], 0, 0, []), (23, [], .aload_n 1, [1], 0, 0, []), (24, [], .aload_n 1, [1], 0, 0, []), (25, [], .getfield 31, [3, 8, 13, 2, 1006, 10], 0, 0, []), (28, [], .iload 7, [2], 0, 0, []), (30, [], .iaload, [1], 0, 0, []), (31, [], .invokevirtual 35, [3, 39, 2, 1, 4, 8], 0, 0, []), (34, [], .istore 8, [2], 0, 0, []), (36, [], .iload 7, [2], 0, 0, []), (38, [], .iload_n 3, [1], 0, 0, []), (39, [], .if_icmp .ne 12, [3, 51], 0, 0, []), (42, [], .iload 8, [2], 0, 0, []), (44, [], .iconst 1, [1], 1, 0, []), (45, [], .iload 4, [2], 0, 0, []), (47, [], .ishl, [1], 0, 0, []), (48, [], .iand, [1], 0, 0, []), (49, [], .istore 8, [2], 0, 0, []), (51, [], .lload 5, [2], 0, 0, []), (53, [], .lstore 9, [2], 0, 0, []), (55, [], .lconst 0, [1], 0, 0, []), (56, [], .lstore 5, [2], 0, 0, []), (58, [], .iconst 0, [1], 0, 0, []), (59, [], .istore 11, [2], 0, 0, []), (61, [6, 10, 12, 13], .iload 11, [2], 0, 0, []), (63, [], .aload_n 1, [1], 0, 0, []), (64, [], .getfield 39, [3, 8, 9, 0, 0, 0], 0, 0, []), (67, [], .if_icmp .ge 74, [3, 141], 0, 0, []), (70, [], .iload 8, [2], 0, 0, []), (72, [], .iload 11, [2], 0, 0, []), (74, [], .ishr, [1], 0, 0, []), (75, [], .iconst 1, [1], 1, 0, []), (76, [], .iand, [1], 0, 0, []), (77, [], .ifCond .eq 16, [3, 93], 0, 0, []), (80, [], .lload 9, [2], 0, 0, []), (82, [], .aload_n 0, [1], 0, 0, []), (83, [], .getfield 9, [3, 5, 0, 2, 2008, 1], 0, 0, []), (86, [], .iload 11, [2], 0, 0, []), (88, [], .laload, [1], 0, 0, []), (89, [], .lsub, [1], 0, 0, []), (90, [], .goto 4, [3, 94], 0, 0, []), (93, [], .lconst 0, [1], 0, 0, []), (94, [], .lstore 12, [2], 0, 0, []), (96, [], .aload_n 0, [1], 0, 0, []), (97, [], .getfield 9, [3, 5, 0, 2, 2008, 1], 0, 0, []), (100, [], .iload 11, [2], 0, 0, []), (102, [], .iload_n 2, [1], 0, 0, []), (103, [], .ifCond .eq 17, [3, 120], 0, 0, []), (106, [], .lload 12, [2], 0, 0, []), (108, [], .aload_n 1, [1], 0, 0, []), (109, [], .getfield 42, [3, 8, 8, 2, 1008, 8], 0, 0, []), (112, [], .iload 11, [2], 0, 0, []), (114, [], .iaload, [1], 0, 0, []), (115, [], .i2l, [1], 0, 0, []), (116, [], .lmul, [1], 0, 0, []), (117, [], .goto 5, [3, 122], 0, 0, []), (120, [], .lload 12, [2], 0, 0, []), (122, [], .lastore, [1], 0, 0, []), (123, [], .lload 5, [2], 0, 0, []), (125, [], .aload_n 0, [1], 0, 0, []), (126, [], .getfield 9, [3, 5, 0, 2, 2008, 1], 0, 0, []), (129, [], .iload 11, [2], 0, 0, []), (131, [], .laload, [1], 0, 0, []), (132, [], .ladd, [1], 0, 0, []), (133, [], .lstore 5, [2], 0, 0, []), (135, [], .iinc 11 1, [3], 1, 0, []), (138, [], .goto (-77), [3, 61], 0, 0, []), (141, [], .iinc 7 1, [3], 1, 0, []), (144, [], .goto (-130), [3, 14], 0, 0, []), (147, [], .lload 5, [2], 0, 0, []), (149, [], .lreturn, [1], 0, 0, [])]
/-- 74: OneNote$Guess.weighRows(LOneNote$Valley;II)J -/
def K74 : List je := [(0, [], .aload_n 0, [1], 0, 0, []), (1, [], .aload_n 1, [1], 0, 0, []), (2, [], .iconst 1, [1], 1, 0, []), (3, [], .iload_n 2, [1], 0, 0, []), (4, [], .iload_n 3, [1], 0, 0, []), (5, [], .invokevirtual 15, [3, 73, 5, 2, 14, 5], 0, 0, []), (8, [], .lreturn, [1], 0, 0, [])]
/-- 75: OneNote$Chant.learn(LOneNote$Valley;II)V -/
def K75 : List je := [(0, [], .aload_n 0, [1], 0, 0, []), (1, [], .iload_n 2, [1], 0, 0, []), (2, [], .putfield 18, [3, 0, 2, 0], 0, 0, []), (5, [], .aload_n 0, [1], 0, 0, []), (6, [], .aload_n 1, [1], 0, 0, []), (7, [], .iload_n 3, [1], 0, 0, []), (8, [], .invokevirtual 22, [3, 76, 3, 0, 6, 0], 0, 0, []), (11, [], .iconst 1, [1], 1, 0, []), (12, [], .istore 4, [2], 0, 0, []), (14, [1, 3, 5], .iload 4, [2], 0, 0, []), (16, [], .iload_n 2, [1], 0, 0, []), (17, [], .if_icmp .gt 55, [3, 72], 0, 0, []), (20, [], .iload 4, [2], 0, 0, []), (22, [], .iload_n 2, [1], 0, 0, []), (23, [], .iconst (-1), [1], (-1), 0, []), (24, [], .ixor, [1], 0, 0, []), (25, [], .iand, [1], 0, 0, []), (26, [], .ifCond .ne 40, [3, 66], 0, 0, []), (29, [], .iconst 0, [1], 0, 0, []), (30, [], .istore 5, [2], 0, 0, []), (32, [1, 3], .iload 5, [2], 0, 0, []), (34, [], .bipush 7, [2], 7, 0, []), (36, [], .if_icmp .ge 30, [3, 66], 0, 0, []), (39, [], .aload_n 0, [1], 0, 0, []), (40, [], .getfield 9, [3, 0, 0, 2, 1896, 1], 0, 0, []), (43, [], .iload 4, [2], 0, 0, []), (45, [], .bipush 7, [2], 7, 0, []), (47, [], .imul, [1], 0, 0, []), (48, [], .iload 5, [2], 0, 0, []), (50, [], .iadd, [1], 0, 0, []), (51, [], .aload_n 0, [1], 0, 0, []), (52, [], .iload 4, [2], 0, 0, []), (54, [], .iload 5, [2], 0, 0, []), (56, [], .invokevirtual 26, [3, 77, 3, 1, 4, 0], 0, 0, []), (59, [], .iastore, [1], 0, 0, []), (60, [], .iinc 5 1, [3], 1, 0, []), (63, [], .goto (-31), [3, 32], 0, 0, []), (66, [], .iinc 4 1, [3], 1, 0, []), (69, [], .goto (-55), [3, 14], 0, 0, []), (72, [], .return_, [1], 0, 0, [])]
/-- 76: OneNote$Chant.findNeighbours(LOneNote$Valley;I)V -/
def K76 : List je := [(0, [], .iconst 0, [1], 0, 0, []), (1, [], .istore_n 3, [1], 0, 0, []), (2, [4, 5], .iload_n 3, [1], 0, 0, []), (3, [], .bipush 7, [2], 7, 0, []), (5, [], .if_icmp .ge 84, [3, 89], 0, 0, []), (8, [], .aload_n 0, [1], 0, 0, []), (9, [], .getfield 15, [3, 0, 1, 2, 1007, 2], 0, 0, []), (12, [], .iload_n 3, [1], 0, 0, []), (13, [], .iconst 0, [1], 0, 0, []), (14, [], .iastore, [1], 0, 0, []), (15, [], .iconst 0, [1], 0, 0, []), (16, [], .istore 4, [2], 0, 0, []), (18, [5], .iload_n 3, [1], 0, 0, []), (19, [], .aload_n 1, [1], 0, 0, []), (20, [], .getfield 30, [3, 8, 6, 0, 0, 0], 0, 0, []), (23, [], .if_icmp .ge 60, [3, 83], 0, 0, []), (26, [], .iload 4, [2], 0, 0, []), (28, [], .aload_n 1, [1], 0, 0, []), (29, [], .getfield 30, [3, 8, 6, 0, 0, 0], 0, 0, []), (32, [], .if_icmp .ge 51, [3, 83], 0, 0, []), (35, [], .iconst 1, [1], 1, 0, []), (36, [], .aload_n 1, [1], 0, 0, []), (37, [], .getfield 35, [3, 8, 3, 2, 1007, 4], 0, 0, []), (40, [], .iload_n 3, [1], 0, 0, []), (41, [], .iaload, [1], 0, 0, []), (42, [], .ishl, [1], 0, 0, []), (43, [], .iload_n 2, [1], 0, 0, []), (44, [], .invokestatic 38, [3, 12, 2, 1, 4, 200], 0, 0, []), (47, [], .istore 5, [2], 0, 0, []), (49, [], .iload 5, [2], 0, 0, []), (51, [], .aload_n 1, [1], 0, 0, []), (52, [], .getfield 35, [3, 8, 3, 2, 1007, 4], 0, 0, []), (55, [], .iload 4, [2], 0, 0, []), (57, [], .iaload, [1], 0, 0, []), (58, [], .ishr, [1], 0, 0, []), (59, [], .iconst 1, [1], 1, 0, []), (60, [], .iand, [1], 0, 0, []), (61, [], .ifCond .eq 16, [3, 77], 0, 0, []), (64, [], .aload_n 0, [1], 0, 0, []), (65, [], .getfield 15, [3, 0, 1, 2, 1007, 2], 0, 0, []), (68, [], .iload_n 3, [1], 0, 0, []), (69, [], .dup2, [1], 0, 0, []), (70, [], .iaload, [1], 0, 0, []), (71, [], .iconst 1, [1], 1, 0, []), (72, [], .iload 4, [2], 0, 0, []), (74, [], .ishl, [1], 0, 0, []), (75, [], .ior, [1], 0, 0, []), (76, [], .iastore, [1], 0, 0, []), (77, [], .iinc 4 1, [3], 1, 0, []), (80, [], .goto (-62), [3, 18], 0, 0, []), (83, [], .iinc 3 1, [3], 1, 0, []), (86, [], .goto (-84), [3, 2], 0, 0, []), (89, [], .return_, [1], 0, 0, [])]
/-- 77: OneNote$Chant.ordersFrom(II)I -/
def K77 : List je := [(0, [], .iload_n 1, [1], 0, 0, []), (1, [], .iload_n 2, [1], 0, 0, []), (2, [], .ishr, [1], 0, 0, []), (3, [], .iconst 1, [1], 1, 0, []), (4, [], .iand, [1], 0, 0, []), (5, [], .ifCond .ne 5, [3, 10], 0, 0, []), (8, [], .iconst 0, [1], 0, 0, []), (9, [], .ireturn, [1, 0], 0, 0, []), (10, [], .iload_n 1, [1], 0, 0, []), (11, [], .iconst 1, [1], 1, 0, []), (12, [], .iload_n 2, [1], 0, 0, []), (13, [], .ishl, [1], 0, 0, []), (14, [], .iconst (-1), [1], (-1), 0, []), (15, [], .ixor, [1], 0, 0, []), (16, [], .iand, [1], 0, 0, []), (17, [], .istore_n 3, [1], 0, 0, []), (18, [], .iload_n 3, [1], 0, 0, []), (19, [], .ifCond .ne 7, [3, 26], 0, 0, []), (22, [], .iconst 1, [1], 1, 0, []), (23, [], .goto 16, [3, 39], 0, 0, []), (26, [], .aload_n 0, [1], 0, 0, []), (27, [], .iload_n 3, [1], 0, 0, []), (28, [], .iload_n 3, [1], 0, 0, []), (29, [], .aload_n 0, [1], 0, 0, []), (30, [], .getfield 15, [3, 0, 1, 2, 1007, 2], 0, 0, []), (33, [], .iload_n 2, [1], 0, 0, []), (34, [], .iaload, [1], 0, 0, []), (35, [], .iand, [1], 0, 0, []), (36, [], .invokevirtual 43, [3, 78, 3, 1, 5, 0], 0, 0, []), (39, [], .ireturn, [1, 0], 0, 0, [])]
/-- 78: OneNote$Chant.ordersAmong(II)I -/
def K78 : List je := [(0, [], .iconst 0, [1], 0, 0, []), (1, [], .istore_n 3, [1], 0, 0, []), (2, [], .iconst 0, [1], 0, 0, []), (3, [], .istore 4, [2], 0, 0, []), (5, [], .iload 4, [2], 0, 0, []), (7, [], .bipush 7, [2], 7, 0, []), (9, [], .if_icmp .ge 33, [3, 42], 0, 0, []), (12, [], .iload_n 2, [1], 0, 0, []), (13, [], .iload 4, [2], 0, 0, []), (15, [], .ishr, [1], 0, 0, []), (16, [], .iconst 1, [1], 1, 0, []), (17, [], .iand, [1], 0, 0, []), (18, [], .ifCond .eq 18, [3, 36], 0, 0, []), (21, [], .iload_n 3, [1], 0, 0, []), (22, [], .aload_n 0, [1], 0, 0, []), (23, [], .getfield 9, [3, 0, 0, 2, 1896, 1], 0, 0, []), (26, [], .iload_n 1, [1], 0, 0, []), (27, [], .bipush 7, [2], 7, 0, []), (29, [], .imul, [1], 0, 0, []), (30, [], .iload 4, [2], 0, 0, []), (32, [], .iadd, [1], 0, 0, []), (33, [], .iaload, [1], 0, 0, []), (34, [], .iadd, [1], 0, 0, []), (35, [], .istore_n 3, [1], 0, 0, []), (36, [], .iinc 4 1, [3], 1, 0, []), (39, [], .goto (-34), [3, 5], 0, 0, []), (42, [], .iload_n 3, [1], 0, 0, []), (43, [], .ireturn, [1, 0], 0, 0, [])]
/-- 79: OneNote$Chant.orders()I -/
def K79 : List je := [(0, [], .aload_n 0, [1], 0, 0, []), (1, [], .getfield 18, [3, 0, 2, 0, 0, 0], 0, 0, []), (4, [], .ifCond .ne 7, [3, 11], 0, 0, []), (7, [], .iconst 1, [1], 1, 0, []), (8, [], .goto 15, [3, 23], 0, 0, []), (11, [], .aload_n 0, [1], 0, 0, []), (12, [], .aload_n 0, [1], 0, 0, []), (13, [], .getfield 18, [3, 0, 2, 0, 0, 0], 0, 0, []), (16, [], .aload_n 0, [1], 0, 0, []), (17, [], .getfield 18, [3, 0, 2, 0, 0, 0], 0, 0, []), (20, [], .invokevirtual 43, [3, 78, 3, 1, 5, 0], 0, 0, []), (23, [], .ireturn, [1, 0], 0, 0, [])]
/-- 80: OneNote$Chant.placeInFirst(I)I -/
def K80 : List je := [(0, [], .iload_n 1, [1], 0, 0, []), (1, [], .aload_n 0, [1], 0, 0, []), (2, [], .getfield 18, [3, 0, 2, 0, 0, 0], 0, 0, []), (5, [], .invokestatic 46, [3, 0, 1, 1, 1, 200], 0, 0, []), (8, [], .if_icmp .ge 10, [3, 18], 0, 0, []), (11, [], .aload_n 0, [1], 0, 0, []), (12, [], .invokevirtual 52, [3, 79, 1, 1, 1, 0], 0, 0, []), (15, [], .ifCond .ne 6, [3, 21], 0, 0, []), (18, [], .bipush (-5), [2], (-5), 0, []), (20, [], .ireturn, [1, 0], 0, 0, []), (21, [], .aload_n 0, [1], 0, 0, []), (22, [], .getfield 18, [3, 0, 2, 0, 0, 0], 0, 0, []), (25, [], .istore_n 2, [1], 0, 0, []), (26, [], .aload_n 0, [1], 0, 0, []), (27, [], .getfield 18, [3, 0, 2, 0, 0, 0], 0, 0, []), (30, [], .istore_n 3, [1], 0, 0, []), (31, [], .iconst (-1), [1], (-1), 0, []), (32, [], .istore 4, [2], 0, 0, []), (34, [], .iconst 0, [1], 0, 0, []), (35, [], .istore 5, [2], 0, 0, []), (37, [], .iload 5, [2], 0, 0, []), (39, [], .iload_n 1, [1], 0, 0, []), (40, [], .if_icmp .gt 45, [3, 85], 0, 0, []), (43, [], .aload_n 0, [1], 0, 0, []), (44, [], .iload_n 2, [1], 0, 0, []), (45, [], .iload_n 3, [1], 0, 0, []), (46, [], .invokevirtual 56, [3, 81, 3, 1, 4, 0], 0, 0, []), (49, [], .istore 4, [2], 0, 0, []), (51, [], .iload 4, [2], 0, 0, []), (53, [], .iconst (-1), [1], (-1), 0, []), (54, [], .if_icmp .ne 6, [3, 60], 0, 0, []), (57, [], .bipush (-5), [2], (-5), 0, []), (59, [], .ireturn, [1, 0], 0, 0, []), (60, [], .iload_n 2, [1], 0, 0, []), (61, [], .iconst 1, [1], 1, 0, []), (62, [], .iload 4, [2], 0, 0, []), (64, [], .ishl, [1], 0, 0, []), (65, [], .iconst (-1), [1], (-1), 0, []), (66, [], .ixor, [1], 0, 0, []), (67, [], .iand, [1], 0, 0, []), (68, [], .istore_n 2, [1], 0, 0, []), (69, [], .iload_n 2, [1], 0, 0, []), (70, [], .aload_n 0, [1], 0, 0, []), (71, [], .getfield 15, [3, 0, 1, 2, 1007, 2], 0, 0, []), (74, [], .iload 4, [2], 0, 0, []), (76, [], .iaload, [1], 0, 0, []), (77, [], .iand, [1], 0, 0, []), (78, [], .istore_n 3, [1], 0, 0, []), (79, [], .iinc 5 1, [3], 1, 0, []), (82, [], .goto (-45), [3, 37], 0, 0, []), (85, [], .iload 4, [2], 0, 0, []), (87, [], .ireturn, [1, 0], 0, 0, [])]
/-- 81: OneNote$Chant.leastBeginning(II)I -/
def K81 : List je := [(0, [], .iconst 0, [1], 0, 0, []), (1, [], .istore_n 3, [1], 0, 0, []), (2, [], .iload_n 3, [1], 0, 0, []), (3, [], .bipush 7, [2], 7, 0, []), (5, [], .if_icmp .ge 33, [3, 38], 0, 0, []), (8, [], .iload_n 2, [1], 0, 0, []), (9, [], .iload_n 3, [1], 0, 0, []), (10, [], .ishr, [1], 0, 0, []), (11, [], .iconst 1, [1], 1, 0, []), (12, [], .iand, [1], 0, 0, []), (13, [], .ifCond .eq 19, [3, 32], 0, 0, []), (16, [], .aload_n 0, [1], 0, 0, []), (17, [], .getfield 9, [3, 0, 0, 2, 1896, 1], 0, 0, []), (20, [], .iload_n 1, [1], 0, 0, []), (21, [], .bipush 7, [2], 7, 0, []), (23, [], .imul, [1], 0, 0, []), (24, [], .iload_n 3, [1], 0, 0, []), (25, [], .iadd, [1], 0, 0, []), (26, [], .iaload, [1], 0, 0, []), (27, [], .ifCond .le 5, [3, 32], 0, 0, []), (30, [], .iload_n 3, [1], 0, 0, []), (31, [], .ireturn, [1, 0], 0, 0, []), (32, [], .iinc 3 1, [3], 1, 0, []), (35, [], .goto (-33), [3, 2], 0, 0, []), (38, [], .iconst (-1), [1], (-1), 0, []), (39, [], .ireturn, [1, 0], 0, 0, [])]
/-- 82: OneNote$Text.append(JI)I -/
def K82 : List je := [(0, [], .iload_n 3, [1], 0, 0, []), (1, [], .iconst 1, [1], 1, 0, []), (2, [], .if_icmp .lt 9, [3, 11], 0, 0, []), (5, [], .iload_n 3, [1], 0, 0, []), (6, [], .bipush 8, [2], 8, 0, []), (8, [], .if_icmp .le 6, [3, 14], 0, 0, []), (11, [], .bipush (-2), [2], (-2), 0, []), (13, [], .ireturn, [1, 0], 0, 0, []), (14, [], .aload_n 0, [1], 0, 0, []), (15, [], .getfield 19, [3, 7, 1, 0, 0, 0], 0, 0, []), (18, [], .iload_n 3, [1], 0, 0, []), (19, [], .iadd, [1], 0, 0, []), (20, [], .sipush 200, [3], 200, 0, []), (23, [], .if_icmp .le 6, [3, 29], 0, 0, []), (26, [], .bipush (-4), [2], (-4), 0, []), (28, [], .ireturn, [1, 0], 0, 0, []), (29, [], .iload_n 3, [1], 0, 0, []), (30, [], .iconst 1, [1], 1, 0, []), (31, [], .isub, [1], 0, 0, []), (32, [], .istore 4, [2], 0, 0, []), (34, [2, 3], .iload 4, [2], 0, 0, []), (36, [], .ifCond .lt 37, [3, 73], 0, 0, []), (39, [], .aload_n 0, [1], 0, 0, []), (40, [], .getfield 9, [3, 7, 0, 2, 3200, 1], 0, 0, []), (43, [], .aload_n 0, [1], 0, 0, []), (44, [], .getfield 19, [3, 7, 1, 0, 0, 0], 0, 0, []), (47, [], .lload_n 1, [1], 0, 0, []), (48, [], .bipush 8, [2], 8, 0, []), (50, [], .iload 4, [2], 0, 0, []), (52, [], .imul, [1], 0, 0, []), (53, [], .lshr, [1], 0, 0, []), (54, [], .l2i, [1], 0, 0, []), (55, [], .i2b, [1], 0, 0, []), (56, [], .bastore, [1], 0, 0, []), (57, [], .aload_n 0, [1], 0, 0, []), (58, [], .dup, [1], 0, 0, []), (59, [], .getfield 19, [3, 7, 1, 0, 0, 0], 0, 0, []), (62, [], .iconst 1, [1], 1, 0, []), (63, [], .iadd, [1], 0, 0, []), (64, [], .putfield 19, [3, 7, 1, 0], 0, 0, []), (67, [], .iinc 4 (-1), [3], (-1), 0, []), (70, [], .goto (-36), [3, 34], 0, 0, []), (73, [], .aload_n 0, [1], 0, 0, []), (74, [], .getfield 19, [3, 7, 1, 0, 0, 0], 0, 0, []), (77, [], .ireturn, [1, 0], 0, 0, [])]
/-- 83: OneNote$Text.erase()I -/
def K83 : List je := [(0, [], .aload_n 0, [1], 0, 0, []), (1, [], .getfield 19, [3, 7, 1, 0, 0, 0], 0, 0, []), (4, [], .istore_n 1, [1], 0, 0, []), (5, [], .aload_n 0, [1], 0, 0, []), (6, [], .iconst 0, [1], 0, 0, []), (7, [], .putfield 19, [3, 7, 1, 0], 0, 0, []), (10, [], .iload_n 1, [1], 0, 0, []), (11, [], .ireturn, [1, 0], 0, 0, [])]
/-- 84: OneNote$Text.tellTo(LOneNote$Valley;)I -/
def K84 : List je := [(0, [], .aload_n 1, [1], 0, 0, []), (1, [], .invokevirtual 23, [3, 27, 1, 0, 1, 8], 0, 0, []), (4, [], .aload_n 0, [1], 0, 0, []), (5, [], .iconst 0, [1], 0, 0, []), (6, [], .putfield 28, [3, 7, 2, 0], 0, 0, []), (9, [], .iconst 0, [1], 0, 0, []), (10, [], .istore_n 2, [1], 0, 0, []), (11, [], .iconst (-1), [1], (-1), 0, []), (12, [], .istore_n 3, [1], 0, 0, []), (13, [], .aload_n 0, [1], 0, 0, []), (14, [], .invokevirtual 31, [3, 85, 1, 0, 1, 7], 0, 0, []), (17, [], .aload_n 0, [1], 0, 0, []), (18, [], .getfield 34, [3, 7, 3, 0, 0, 0], 0, 0, []), (21, [], .ifCond .eq 50, [3, 71], 0, 0, []), (24, [], .iload_n 2, [1], 0, 0, []), (25, [], .sipush 200, [3], 200, 0, []), (28, [], .if_icmp .gt 43, [3, 71], 0, 0, []), (31, [], .aload_n 0, [1], 0, 0, []), (32, [], .invokevirtual 37, [3, 92, 1, 1, 2, 7], 0, 0, []), (35, [], .ifCond .ne 11, [3, 46], 0, 0, []), (38, [], .bipush (-10), [2], (-10), 0, []), (40, [], .aload_n 0, [1], 0, 0, []), (41, [], .getfield 41, [3, 7, 4, 0, 0, 0], 0, 0, []), (44, [], .isub, [1], 0, 0, []), (45, [], .ireturn, [1, 0], 0, 0, []), (46, [], .iload_n 3, [1], 0, 0, []), (47, [], .iconst (-1), [1], (-1), 0, []), (48, [], .if_icmp .ne 13, [3, 61], 0, 0, []), (51, [], .aload_n 0, [1], 0, 0, []), (52, [], .aload_n 1, [1], 0, 0, []), (53, [], .invokevirtual 44, [3, 93, 2, 1, 2, 7], 0, 0, []), (56, [], .ifCond .ge 5, [3, 61], 0, 0, []), (59, [], .iload_n 2, [1], 0, 0, []), (60, [], .istore_n 3, [1], 0, 0, []), (61, [], .iinc 2 1, [3], 1, 0, []), (64, [], .aload_n 0, [1], 0, 0, []), (65, [], .invokevirtual 31, [3, 85, 1, 0, 1, 7], 0, 0, []), (68, [], .goto (-51), [3, 17], 0, 0, []), (71, [0, 1], .iload_n 3, [1], 0, 0, []), (72, [], .iconst (-1), [1], (-1), 0, []), (73, [], .if_icmp .ne 7, [3, 80], 0, 0, []), (76, [], .iload_n 2, [1], 0, 0, []), (77, [], .goto 8, [3, 85], 0, 0, []), (80, [], .sipush (-1000), [3], (-1000), 0, []), (83, [], .iload_n 3, [1], 0, 0, []), (84, [], .isub, [1], 0, 0, []), (85, [], .ireturn, [1, 0], 0, 0, [])]
/-- 85: OneNote$Text.readToken()V -/
def K85 : List je := [(0, [], .aload_n 0, [1], 0, 0, []), (1, [], .getfield 28, [3, 7, 2, 0, 0, 0], 0, 0, []), (4, [], .aload_n 0, [1], 0, 0, []), (5, [], .getfield 19, [3, 7, 1, 0, 0, 0], 0, 0, []), (8, [], .if_icmp .ge 30, [3, 38], 0, 0, []), (11, [], .aload_n 0, [1], 0, 0, []), (12, [], .getfield 9, [3, 7, 0, 2, 3200, 1], 0, 0, []), (15, [], .aload_n 0, [1], 0, 0, []), (16, [], .getfield 28, [3, 7, 2, 0, 0, 0], 0, 0, []), (19, [], .baload, [1], 0, 0, []), (20, [], .bipush 32, [2], 32, 0, []), (22, [], .if_icmp .ne 16, [3, 38], 0, 0, []), (25, [], .aload_n 0, [1], 0, 0, []), (26, [], .dup, [1], 0, 0, []), (27, [], .getfield 28, [3, 7, 2, 0, 0, 0], 0, 0, []), (30, [], .iconst 1, [1], 1, 0, []), (31, [], .iadd, [1], 0, 0, []), (32, [], .putfield 28, [3, 7, 2, 0], 0, 0, []), (35, [], .goto (-35), [3, 0], 0, 0, []), (38, [], .aload_n 0, [1], 0, 0, []), (39, [], .aload_n 0, [1], 0, 0, []), (40, [], .getfield 28, [3, 7, 2, 0, 0, 0], 0, 0, []), (43, [], .putfield 41, [3, 7, 4, 0], 0, 0, []), (46, [], .aload_n 0, [1], 0, 0, []), (47, [], .getfield 28, [3, 7, 2, 0, 0, 0], 0, 0, []), (50, [], .aload_n 0, [1], 0, 0, []), (51, [], .getfield 19, [3, 7, 1, 0, 0, 0], 0, 0, []), (54, [], .if_icmp .lt 11, [3, 65], 0, 0, []), (57, [], .aload_n 0, [1], 0, 0, []), (58, [], .iconst 0, [1], 0, 0, []), (59, [], .putfield 34, [3, 7, 3, 0], 0, 0, []), (62, [], .goto 80, [3, 142], 0, 0, []), (65, [], .aload_n 0, [1], 0, 0, []), (66, [], .getfield 9, [3, 7, 0, 2, 3200, 1], 0, 0, []), (69, [], .aload_n 0, [1], 0, 0, []), (70, [], .getfield 28, [3, 7, 2, 0, 0, 0], 0, 0, []), (73, [], .baload, [1], 0, 0, []), (74, [], .invokestatic 79, [3, 86, 1, 1, 1, 200], 0, 0, []), (77, [], .ifCond .eq 10, [3, 87], 0, 0, []), (80, [], .aload_n 0, [1], 0, 0, []), (81, [], .invokevirtual 83, [3, 87, 1, 0, 2, 7], 0, 0, []), (84, [], .goto 58, [3, 142], 0, 0, []), (87, [], .aload_n 0, [1], 0, 0, []), (88, [], .getfield 9, [3, 7, 0, 2, 3200, 1], 0, 0, []), (91, [], .aload_n 0, [1], 0, 0, []), (92, [], .getfield 28, [3, 7, 2, 0, 0, 0], 0, 0, []), (95, [], .baload, [1], 0, 0, []), (96, [], .invokestatic 86, [3, 90, 1, 1, 1, 200], 0, 0, []), (99, [], .ifCond .eq 10, [3, 109], 0, 0, []), (102, [], .aload_n 0, [1], 0, 0, []), (103, [], .invokevirtual 89, [3, 91, 1, 0, 1, 7], 0, 0, []), (106, [], .goto 36, [3, 142], 0, 0, []), (109, [], .aload_n 0, [1], 0, 0, []), (110, [], .aload_n 0, [1], 0, 0, []), (111, [], .getfield 9, [3, 7, 0, 2, 3200, 1], 0, 0, []), (114, [], .aload_n 0, [1], 0, 0, []), (115, [], .getfield 28, [3, 7, 2, 0, 0, 0], 0, 0, []), (118, [], .baload, [1], 0, 0, []), (119, [], .bipush 59, [2], 59, 0, []), (121, [], .if_icmp .ne 7, [3, 128], 0, 0, []), (124, [], .iconst 3, [1], 3, 0, []), (125, [], .goto 4, [3, 129], 0, 0, []), (128, [], .iconst 4, [1], 4, 0, []), (129, [], .putfield 34, [3, 7, 3, 0], 0, 0, []), (132, [], .aload_n 0, [1], 0, 0, []), (133, [], .dup, [1], 0, 0, []), (134, [], .getfield 28, [3, 7, 2, 0, 0, 0], 0, 0, []), (137, [], .iconst 1, [1], 1, 0, []), (138, [], .iadd, [1], 0, 0, []), (139, [], .putfield 28, [3, 7, 2, 0], 0, 0, []), (142, [], .return_, [1], 0, 0, [])]
/-- 86: OneNote$Text.isLetter(I)Z -/
def K86 : List je := [(0, [], .iload_n 0, [1], 0, 0, []), (1, [], .bipush 97, [2], 97, 0, []), (3, [], .if_icmp .lt 13, [3, 16], 0, 0, []), (6, [], .iload_n 0, [1], 0, 0, []), (7, [], .bipush 122, [2], 122, 0, []), (9, [], .if_icmp .gt 7, [3, 16], 0, 0, []), (12, [], .iconst 1, [1], 1, 0, []), (13, [], .goto 4, [3, 17], 0, 0, []), (16, [], .iconst 0, [1], 0, 0, []), (17, [], .ireturn, [1, 1], 0, 0, [])]
/-- 87: OneNote$Text.readWord()V -/
def K87 : List je := [(0, [1], .aload_n 0, [1], 0, 0, []), (1, [], .getfield 28, [3, 7, 2, 0, 0, 0], 0, 0, []), (4, [], .aload_n 0, [1], 0, 0, []), (5, [], .getfield 19, [3, 7, 1, 0, 0, 0], 0, 0, []), (8, [], .if_icmp .ge 31, [3, 39], 0, 0, []), (11, [], .aload_n 0, [1], 0, 0, []), (12, [], .getfield 9, [3, 7, 0, 2, 3200, 1], 0, 0, []), (15, [], .aload_n 0, [1], 0, 0, []), (16, [], .getfield 28, [3, 7, 2, 0, 0, 0], 0, 0, []), (19, [], .baload, [1], 0, 0, []), (20, [], .invokestatic 79, [3, 86, 1, 1, 1, 200], 0, 0, []), (23, [], .ifCond .eq 16, [3, 39], 0, 0, []), (26, [], .aload_n 0, [1], 0, 0, []), (27, [], .dup, [1], 0, 0, []), (28, [], .getfield 28, [3, 7, 2, 0, 0, 0], 0, 0, []), (31, [], .iconst 1, [1], 1, 0, []), (32, [], .iadd, [1], 0, 0, []), (33, [], .putfield 28, [3, 7, 2, 0], 0, 0, []), (36, [], .goto (-36), [3, 0], 0, 0, []), (39, [], .aload_n 0, [1], 0, 0, []), (40, [], .iconst 4, [1], 4, 0, []), (41, [], .putfield 34, [3, 7, 3, 0], 0, 0, []), (44, [], .iconst 0, [1], 0, 0, []), (45, [], .istore_n 1, [1], 0, 0, []), (46, [], .iload_n 1, [1], 0, 0, []), (47, [], .bipush 6, [2], 6, 0, []), (49, [], .if_icmp .ge 30, [3, 79], 0, 0, []), (52, [], .aload_n 0, [1], 0, 0, []), (53, [], .iload_n 1, [1], 0, 0, []), (54, [], .invokestatic 92, [3, 88, 1, 3, 1, 200], 0, 0, []), (57, [], .invokevirtual 96, [3, 89, 2, 1, 3, 7], 0, 0, []), (60, [], .ifCond .eq 13, [3, 73], 0, 0, []), (63, [], .aload_n 0, [1], 0, 0, []), (64, [], .iconst 1, [1], 1, 0, []), (65, [], .putfield 34, [3, 7, 3, 0], 0, 0, []), (68, [], .aload_n 0, [1], 0, 0, []), (69, [], .iload_n 1, [1], 0, 0, []), (70, [], .putfield 48, [3, 7, 5, 0], 0, 0, []), (73, [], .iinc 1 1, [3], 1, 0, []), (76, [], .goto (-30), [3, 46], 0, 0, []), (79, [], .return_, [1], 0, 0, [])]
/-- 88: OneNote$Text.wordOf(I)Ljava/lang/String; -/
def K88 : List je := [(0, [], .iload_n 0, [1], 0, 0, []), (1, [], .tableswitch 50 0 4 #[35, 38, 41, 44, 47], [35, 51], 0, 0, [(0, 36), (1, 39), (2, 42), (3, 45), (4, 48)]), (36, [], .ldc 109, [2, 0], 0, 0, []), (38, [], .areturn, [1], 0, 0, []), (39, [], .ldc 111, [2, 1], 0, 0, []), (41, [], .areturn, [1], 0, 0, []), (42, [], .ldc 113, [2, 2], 0, 0, []), (44, [], .areturn, [1], 0, 0, []), (45, [], .ldc 115, [2, 3], 0, 0, []), (47, [], .areturn, [1], 0, 0, []), (48, [], .ldc 117, [2, 4], 0, 0, []), (50, [], .areturn, [1], 0, 0, []), (51, [], .ldc 119, [2, 5], 0, 0, []), (53, [], .areturn, [1], 0, 0, [])]
/-- 89: OneNote$Text.isTokenWord(Ljava/lang/String;)Z -/
def K89 : List je := [(0, [], .aload_n 0, [1], 0, 0, []), (1, [], .getfield 28, [3, 7, 2, 0, 0, 0], 0, 0, []), (4, [], .aload_n 0, [1], 0, 0, []), (5, [], .getfield 41, [3, 7, 4, 0, 0, 0], 0, 0, []), (8, [], .isub, [1], 0, 0, []), (9, [], .aload_n 1, [1], 0, 0, []), (10, [], .invokevirtual 100, [3, 4, 1, 1, 1, 98], 0, 0, []), (13, [], .if_icmp .eq 5, [3, 18], 0, 0, []), (16, [], .iconst 0, [1], 0, 0, []), (17, [], .ireturn, [1, 1], 0, 0, []), (18, [], .iconst 0, [1], 0, 0, []), (19, [], .istore_n 2, [1], 0, 0, []), (20, [], .iload_n 2, [1], 0, 0, []), (21, [], .aload_n 1, [1], 0, 0, []), (22, [], .invokevirtual 100, [3, 4, 1, 1, 1, 98], 0, 0, []), (25, [], .if_icmp .ge 30, [3, 55], 0, 0, []), (28, [], .aload_n 0, [1], 0, 0, []), (29, [], .getfield 9, [3, 7, 0, 2, 3200, 1], 0, 0, []), (32, [], .aload_n 0, [1], 0, 0, []), (33, [], .getfield 41, [3, 7, 4, 0, 0, 0], 0, 0, []), (36, [], .iload_n 2, [1], 0, 0, []), (37, [], .iadd, [1], 0, 0, []), (38, [], .baload, [1], 0, 0, []), (39, [], .aload_n 1, [1], 0, 0, []), (40, [], .iload_n 2, [1], 0, 0, []), (41, [], .invokevirtual 105, [3, 6, 2, 1, 2, 98], 0, 0, []), (44, [], .if_icmp .eq 5, [3, 49], 0, 0, []), (47, [], .iconst 0, [1], 0, 0, []), (48, [], .ireturn, [1, 1], 0, 0, []), (49, [], .iinc 2 1, [3], 1, 0, []), (52, [], .goto (-32), [3, 20], 0, 0, []), (55, [], .iconst 1, [1], 1, 0, []), (56, [], .ireturn, [1, 1], 0, 0, [])]
/-- 90: OneNote$Text.isFigure(I)Z -/
def K90 : List je := [(0, [], .iload_n 0, [1], 0, 0, []), (1, [], .bipush 48, [2], 48, 0, []), (3, [], .if_icmp .lt 13, [3, 16], 0, 0, []), (6, [], .iload_n 0, [1], 0, 0, []), (7, [], .bipush 57, [2], 57, 0, []), (9, [], .if_icmp .gt 7, [3, 16], 0, 0, []), (12, [], .iconst 1, [1], 1, 0, []), (13, [], .goto 4, [3, 17], 0, 0, []), (16, [], .iconst 0, [1], 0, 0, []), (17, [], .ireturn, [1, 1], 0, 0, [])]
/-- 91: OneNote$Text.readNumber()V -/
def K91 : List je := [(0, [], .aload_n 0, [1], 0, 0, []), (1, [], .iconst 0, [1], 0, 0, []), (2, [], .putfield 48, [3, 7, 5, 0], 0, 0, []), (5, [], .aload_n 0, [1], 0, 0, []), (6, [], .getfield 28, [3, 7, 2, 0, 0, 0], 0, 0, []), (9, [], .aload_n 0, [1], 0, 0, []), (10, [], .getfield 19, [3, 7, 1, 0, 0, 0], 0, 0, []), (13, [], .if_icmp .ge 55, [3, 68], 0, 0, []), (16, [], .aload_n 0, [1], 0, 0, []), (17, [], .getfield 9, [3, 7, 0, 2, 3200, 1], 0, 0, []), (20, [], .aload_n 0, [1], 0, 0, []), (21, [], .getfield 28, [3, 7, 2, 0, 0, 0], 0, 0, []), (24, [], .baload, [1], 0, 0, []), (25, [], .invokestatic 86, [3, 90, 1, 1, 1, 200], 0, 0, []), (28, [], .ifCond .eq 40, [3, 68], 0, 0, []), (31, [], .aload_n 0, [1], 0, 0, []), (32, [], .bipush 10, [2], 10, 0, []), (34, [], .aload_n 0, [1], 0, 0, []), (35, [], .getfield 48, [3, 7, 5, 0, 0, 0], 0, 0, []), (38, [], .imul, [1], 0, 0, []), (39, [], .aload_n 0, [1], 0, 0, []), (40, [], .getfield 9, [3, 7, 0, 2, 3200, 1], 0, 0, []), (43, [], .aload_n 0, [1], 0, 0, []), (44, [], .getfield 28, [3, 7, 2, 0, 0, 0], 0, 0, []), (47, [], .baload, [1], 0, 0, []), (48, [], .iadd, [1], 0, 0, []), (49, [], .bipush 48, [2], 48, 0, []), (51, [], .isub, [1], 0, 0, []), (52, [], .putfield 48, [3, 7, 5, 0], 0, 0, []), (55, [], .aload_n 0, [1], 0, 0, []), (56, [], .dup, [1], 0, 0, []), (57, [], .getfield 28, [3, 7, 2, 0, 0, 0], 0, 0, []), (60, [], .iconst 1, [1], 1, 0, []), (61, [], .iadd, [1], 0, 0, []), (62, [], .putfield 28, [3, 7, 2, 0], 0, 0, []), (65, [], .goto (-60), [3, 5], 0, 0, []), (68, [], .aload_n 0, [1], 0, 0, []), (69, [], .aload_n 0, [1], 0, 0, []), (70, [], .getfield 28, [3, 7, 2, 0, 0, 0], 0, 0, []), (73, [], .aload_n 0, [1], 0, 0, []), (74, [], .getfield 41, [3, 7, 4, 0, 0, 0], 0, 0, []), (77, [], .isub, [1], 0, 0, []), (78, [], .iconst 2, [1], 2, 0, []), (79, [], .if_icmp .gt 7, [3, 86], 0, 0, []), (82, [], .iconst 2, [1], 2, 0, []), (83, [], .goto 4, [3, 87], 0, 0, []), (86, [], .iconst 4, [1], 4, 0, []), (87, [], .putfield 34, [3, 7, 3, 0], 0, 0, []), (90, [], .return_, [1], 0, 0, [])]
/-- 92: OneNote$Text.readItem()Z -/
def K92 : List je := [(0, [], .aload_n 0, [1], 0, 0, []), (1, [], .getfield 34, [3, 7, 3, 0, 0, 0], 0, 0, []), (4, [], .iconst 1, [1], 1, 0, []), (5, [], .if_icmp .eq 5, [3, 10], 0, 0, []), (8, [], .iconst 0, [1], 0, 0, []), (9, [], .ireturn, [1, 1], 0, 0, []), (10, [], .aload_n 0, [1], 0, 0, []), (11, [], .aload_n 0, [1], 0, 0, []), (12, [], .getfield 48, [3, 7, 5, 0, 0, 0], 0, 0, []), (15, [], .putfield 51, [3, 7, 6, 0], 0, 0, []), (18, [], .iconst 0, [1], 0, 0, []), (19, [], .istore_n 1, [1], 0, 0, []), (20, [], .iload_n 1, [1], 0, 0, []), (21, [], .getstatic 54, [3, 2], 0, 0, []), (24, [], .aload_n 0, [1], 0, 0, []), (25, [], .getfield 51, [3, 7, 6, 0, 0, 0], 0, 0, []), (28, [], .iaload, [1], 0, 0, []), (29, [], .if_icmp .ge 33, [3, 62], 0, 0, []), (32, [], .aload_n 0, [1], 0, 0, []), (33, [], .invokevirtual 31, [3, 85, 1, 0, 1, 7], 0, 0, []), (36, [], .aload_n 0, [1], 0, 0, []), (37, [], .getfield 34, [3, 7, 3, 0, 0, 0], 0, 0, []), (40, [], .iconst 2, [1], 2, 0, []), (41, [], .if_icmp .eq 5, [3, 46], 0, 0, []), (44, [], .iconst 0, [1], 0, 0, []), (45, [], .ireturn, [1, 1], 0, 0, []), (46, [], .aload_n 0, [1], 0, 0, []), (47, [], .getfield 15, [3, 7, 7, 2, 1004, 2], 0, 0, []), (50, [], .iload_n 1, [1], 0, 0, []), (51, [], .aload_n 0, [1], 0, 0, []), (52, [], .getfield 48, [3, 7, 5, 0, 0, 0], 0, 0, []), (55, [], .iastore, [1], 0, 0, []), (56, [], .iinc 1 1, [3], 1, 0, []), (59, [], .goto (-39), [3, 20], 0, 0, []), (62, [], .aload_n 0, [1], 0, 0, []), (63, [], .invokevirtual 31, [3, 85, 1, 0, 1, 7], 0, 0, []), (66, [], .aload_n 0, [1], 0, 0, []), (67, [], .getfield 34, [3, 7, 3, 0, 0, 0], 0, 0, []), (70, [], .iconst 3, [1], 3, 0, []), (71, [], .if_icmp .ne 7, [3, 78], 0, 0, []), (74, [], .iconst 1, [1], 1, 0, []), (75, [], .goto 4, [3, 79], 0, 0, []), (78, [], .iconst 0, [1], 0, 0, []), (79, [], .ireturn, [1, 1], 0, 0, [])]
/-- 93: OneNote$Text.tellItem(LOneNote$Valley;)I -/
def K93 : List je := [(0, [], .aload_n 0, [1], 0, 0, []), (1, [], .getfield 51, [3, 7, 6, 0, 0, 0], 0, 0, []), (4, [], .tableswitch 139 0 4 #[36, 53, 70, 93, 110], [36, 143], 0, 0, [(0, 40), (1, 57), (2, 74), (3, 97), (4, 114)]), (40, [], .aload_n 1, [1], 0, 0, []), (41, [], .aload_n 0, [1], 0, 0, []), (42, [], .getfield 15, [3, 7, 7, 2, 1004, 2], 0, 0, []), (45, [], .iconst 0, [1], 0, 0, []), (46, [], .iaload, [1], 0, 0, []), (47, [], .aload_n 0, [1], 0, 0, []), (48, [], .getfield 15, [3, 7, 7, 2, 1004, 2], 0, 0, []), (51, [], .iconst 1, [1], 1, 0, []), (52, [], .iaload, [1], 0, 0, []), (53, [], .invokevirtual 57, [3, 15, 3, 1, 3, 8], 0, 0, []), (56, [], .ireturn, [1, 0], 0, 0, []), (57, [], .aload_n 1, [1], 0, 0, []), (58, [], .aload_n 0, [1], 0, 0, []), (59, [], .getfield 15, [3, 7, 7, 2, 1004, 2], 0, 0, []), (62, [], .iconst 0, [1], 0, 0, []), (63, [], .iaload, [1], 0, 0, []), (64, [], .aload_n 0, [1], 0, 0, []), (65, [], .getfield 15, [3, 7, 7, 2, 1004, 2], 0, 0, []), (68, [], .iconst 1, [1], 1, 0, []), (69, [], .iaload, [1], 0, 0, []), (70, [], .invokevirtual 61, [3, 17, 3, 1, 3, 8], 0, 0, []), (73, [], .ireturn, [1, 0], 0, 0, []), (74, [], .aload_n 1, [1], 0, 0, []), (75, [], .aload_n 0, [1], 0, 0, []), (76, [], .getfield 15, [3, 7, 7, 2, 1004, 2], 0, 0, []), (79, [], .iconst 0, [1], 0, 0, []), (80, [], .iaload, [1], 0, 0, []), (81, [], .aload_n 0, [1], 0, 0, []), (82, [], .getfield 15, [3, 7, 7, 2, 1004, 2], 0, 0, []), (85, [], .iconst 1, [1], 1, 0, []), (86, [], .iaload, [1], 0, 0, []), (87, [], .aload_n 0, [1], 0, 0, []), (88, [], .getfield 15, [3, 7, 7, 2, 1004, 2], 0, 0, []), (91, [], .iconst 2, [1], 2, 0, []), (92, [], .iaload, [1], 0, 0, []), (93, [], .invokevirtual 64, [3, 18, 4, 1, 4, 8], 0, 0, []), (96, [], .ireturn, [1, 0], 0, 0, []), (97, [], .aload_n 1, [1], 0, 0, []), (98, [], .aload_n 0, [1], 0, 0, []), (99, [], .getfield 15, [3, 7, 7, 2, 1004, 2], 0, 0, []), (102, [], .iconst 0, [1], 0, 0, []), (103, [], .iaload, [1], 0, 0, []), (104, [], .aload_n 0, [1], 0, 0, []), (105, [], .getfield 15, [3, 7, 7, 2, 1004, 2], 0, 0, []), (108, [], .iconst 1, [1], 1, 0, []), (109, [], .iaload, [1], 0, 0, []), (110, [], .invokevirtual 68, [3, 19, 3, 1, 3, 8], 0, 0, []), (113, [], .ireturn, [1, 0], 0, 0, []), (114, [], .aload_n 1, [1], 0, 0, []), (115, [], .aload_n 0, [1], 0, 0, []), (116, [], .getfield 15, [3, 7, 7, 2, 1004, 2], 0, 0, []), (119, [], .iconst 0, [1], 0, 0, []), (120, [], .iaload, [1], 0, 0, []), (121, [], .aload_n 0, [1], 0, 0, []), (122, [], .getfield 15, [3, 7, 7, 2, 1004, 2], 0, 0, []), (125, [], .iconst 1, [1], 1, 0, []), (126, [], .iaload, [1], 0, 0, []), (127, [], .aload_n 0, [1], 0, 0, []), (128, [], .getfield 15, [3, 7, 7, 2, 1004, 2], 0, 0, []), (131, [], .iconst 2, [1], 2, 0, []), (132, [], .iaload, [1], 0, 0, []), (133, [], .aload_n 0, [1], 0, 0, []), (134, [], .getfield 15, [3, 7, 7, 2, 1004, 2], 0, 0, []), (137, [], .iconst 3, [1], 3, 0, []), (138, [], .iaload, [1], 0, 0, []), (139, [], .invokevirtual 71, [3, 22, 5, 1, 7, 8], 0, 0, []), (142, [], .ireturn, [1, 0], 0, 0, []), (143, [], .aload_n 1, [1], 0, 0, []), (144, [], .aload_n 0, [1], 0, 0, []), (145, [], .getfield 15, [3, 7, 7, 2, 1004, 2], 0, 0, []), (148, [], .iconst 0, [1], 0, 0, []), (149, [], .iaload, [1], 0, 0, []), (150, [], .invokevirtual 75, [3, 24, 2, 1, 3, 8], 0, 0, []), (153, [], .ireturn, [1, 0], 0, 0, [])]
/-- 94: OneNote.door(II)I -/
def K94 : List je := [(0, [], .aload_n 0, [1], 0, 0, []), (1, [], .aload_n 0, [1], 0, 0, []), (2, [], .getfield 12, [3, 9, 0, 2, 8, 1], 0, 0, []), (5, [], .iload_n 1, [1], 0, 0, []), (6, [], .iload_n 2, [1], 0, 0, []), (7, [], .invokevirtual 79, [3, 15, 3, 1, 3, 8], 0, 0, []), (10, [], .invokevirtual 83, [3, 96, 2, 1, 2, 9], 0, 0, []), (13, [], .ireturn, [1, 0], 0, 0, [])]
/-- 95: OneNote.isRoom(I)Z -/
def K95 : List je := [(0, [], .iload_n 0, [1], 0, 0, []), (1, [], .ifCond .lt 13, [3, 14], 0, 0, []), (4, [], .iload_n 0, [1], 0, 0, []), (5, [], .bipush 6, [2], 6, 0, []), (7, [], .if_icmp .ge 7, [3, 14], 0, 0, []), (10, [], .iconst 1, [1], 1, 0, []), (11, [], .goto 4, [3, 15], 0, 0, []), (14, [], .iconst 0, [1], 0, 0, []), (15, [], .ireturn, [1, 1], 0, 0, [])]
/-- 96: OneNote.told(I)I -/
def K96 : List je := [(0, [], .iload_n 1, [1], 0, 0, []), (1, [], .bipush (-2), [2], (-2), 0, []), (3, [], .if_icmp .ne 16, [3, 19], 0, 0, []), (6, [], .aload_n 0, [1], 0, 0, []), (7, [], .dup, [1], 0, 0, []), (8, [], .getfield 270, [3, 9, 6, 0, 0, 0], 0, 0, []), (11, [], .iconst 1, [1], 1, 0, []), (12, [], .iadd, [1], 0, 0, []), (13, [], .putfield 270, [3, 9, 6, 0], 0, 0, []), (16, [], .goto 38, [3, 54], 0, 0, []), (19, [], .iload_n 1, [1], 0, 0, []), (20, [], .bipush (-3), [2], (-3), 0, []), (22, [], .if_icmp .ne 16, [3, 38], 0, 0, []), (25, [], .aload_n 0, [1], 0, 0, []), (26, [], .dup, [1], 0, 0, []), (27, [], .getfield 273, [3, 9, 7, 0, 0, 0], 0, 0, []), (30, [], .iconst 1, [1], 1, 0, []), (31, [], .iadd, [1], 0, 0, []), (32, [], .putfield 273, [3, 9, 7, 0], 0, 0, []), (35, [], .goto 19, [3, 54], 0, 0, []), (38, [], .iload_n 1, [1], 0, 0, []), (39, [], .bipush (-4), [2], (-4), 0, []), (41, [], .if_icmp .ne 13, [3, 54], 0, 0, []), (44, [], .aload_n 0, [1], 0, 0, []), (45, [], .dup, [1], 0, 0, []), (46, [], .getfield 276, [3, 9, 8, 0, 0, 0], 0, 0, []), (49, [], .iconst 1, [1], 1, 0, []), (50, [], .iadd, [1], 0, 0, []), (51, [], .putfield 276, [3, 9, 8, 0], 0, 0, []), (54, [], .iload_n 1, [1], 0, 0, []), (55, [], .ireturn, [1, 0], 0, 0, [])]
/-- 97: OneNote.hears(II)I -/
def K97 : List je := [(0, [], .aload_n 0, [1], 0, 0, []), (1, [], .aload_n 0, [1], 0, 0, []), (2, [], .getfield 12, [3, 9, 0, 2, 8, 1], 0, 0, []), (5, [], .iload_n 1, [1], 0, 0, []), (6, [], .iload_n 2, [1], 0, 0, []), (7, [], .invokevirtual 87, [3, 17, 3, 1, 3, 8], 0, 0, []), (10, [], .invokevirtual 83, [3, 96, 2, 1, 2, 9], 0, 0, []), (13, [], .ireturn, [1, 0], 0, 0, [])]
/-- 98: OneNote.one(III)I -/
def K98 : List je := [(0, [], .aload_n 0, [1], 0, 0, []), (1, [], .aload_n 0, [1], 0, 0, []), (2, [], .getfield 12, [3, 9, 0, 2, 8, 1], 0, 0, []), (5, [], .iload_n 1, [1], 0, 0, []), (6, [], .iload_n 2, [1], 0, 0, []), (7, [], .iload_n 3, [1], 0, 0, []), (8, [], .invokevirtual 90, [3, 18, 4, 1, 4, 8], 0, 0, []), (11, [], .invokevirtual 83, [3, 96, 2, 1, 2, 9], 0, 0, []), (14, [], .ireturn, [1, 0], 0, 0, [])]
/-- 99: OneNote.mates(II)I -/
def K99 : List je := [(0, [], .aload_n 0, [1], 0, 0, []), (1, [], .aload_n 0, [1], 0, 0, []), (2, [], .getfield 12, [3, 9, 0, 2, 8, 1], 0, 0, []), (5, [], .iload_n 1, [1], 0, 0, []), (6, [], .iload_n 2, [1], 0, 0, []), (7, [], .invokevirtual 94, [3, 19, 3, 1, 3, 8], 0, 0, []), (10, [], .invokevirtual 83, [3, 96, 2, 1, 2, 9], 0, 0, []), (13, [], .ireturn, [1, 0], 0, 0, [])]
/-- 100: OneNote.goes(II)I -/
def K100 : List je := [(0, [], .aload_n 0, [1], 0, 0, []), (1, [], .aload_n 0, [1], 0, 0, []), (2, [], .getfield 12, [3, 9, 0, 2, 8, 1], 0, 0, []), (5, [], .iload_n 1, [1], 0, 0, []), (6, [], .iload_n 2, [1], 0, 0, []), (7, [], .invokevirtual 97, [3, 21, 3, 1, 4, 8], 0, 0, []), (10, [], .invokevirtual 83, [3, 96, 2, 1, 2, 9], 0, 0, []), (13, [], .ireturn, [1, 0], 0, 0, [])]
/-- 101: OneNote.chord(IIII)I -/
def K101 : List je := [(0, [], .aload_n 0, [1], 0, 0, []), (1, [], .aload_n 0, [1], 0, 0, []), (2, [], .getfield 12, [3, 9, 0, 2, 8, 1], 0, 0, []), (5, [], .iload_n 1, [1], 0, 0, []), (6, [], .iload_n 2, [1], 0, 0, []), (7, [], .iload_n 3, [1], 0, 0, []), (8, [], .iload 4, [2], 0, 0, []), (10, [], .invokevirtual 100, [3, 22, 5, 1, 7, 8], 0, 0, []), (13, [], .invokevirtual 83, [3, 96, 2, 1, 2, 9], 0, 0, []), (16, [], .ireturn, [1, 0], 0, 0, [])]
/-- 102: OneNote.slack(I)I -/
def K102 : List je := [(0, [], .aload_n 0, [1], 0, 0, []), (1, [], .aload_n 0, [1], 0, 0, []), (2, [], .getfield 12, [3, 9, 0, 2, 8, 1], 0, 0, []), (5, [], .iload_n 1, [1], 0, 0, []), (6, [], .invokevirtual 104, [3, 24, 2, 1, 3, 8], 0, 0, []), (9, [], .invokevirtual 83, [3, 96, 2, 1, 2, 9], 0, 0, []), (12, [], .ireturn, [1, 0], 0, 0, [])]
/-- 103: OneNote.sounds(II)I -/
def K103 : List je := [(0, [], .aload_n 0, [1], 0, 0, []), (1, [], .getfield 12, [3, 9, 0, 2, 8, 1], 0, 0, []), (4, [], .iload_n 1, [1], 0, 0, []), (5, [], .iload_n 2, [1], 0, 0, []), (6, [], .invokevirtual 107, [3, 25, 3, 1, 3, 8], 0, 0, []), (9, [], .ifCond .ne 10, [3, 19], 0, 0, []), (12, [], .aload_n 0, [1], 0, 0, []), (13, [], .bipush (-2), [2], (-2), 0, []), (15, [], .invokevirtual 83, [3, 96, 2, 1, 2, 9], 0, 0, []), (18, [], .ireturn, [1, 0], 0, 0, []), (19, [], .aload_n 0, [1], 0, 0, []), (20, [], .getfield 12, [3, 9, 0, 2, 8, 1], 0, 0, []), (23, [], .iload_n 1, [1], 0, 0, []), (24, [], .iload_n 2, [1], 0, 0, []), (25, [], .invokestatic 111, [3, 46, 3, 1, 4, 200], 0, 0, []), (28, [], .ireturn, [1, 0], 0, 0, [])]
/-- 104: OneNote.type(JI)I -/
def K104 : List je := [(0, [], .aload_n 0, [1], 0, 0, []), (1, [], .aload_n 0, [1], 0, 0, []), (2, [], .getfield 26, [3, 9, 4, 2, 7, 46], 0, 0, []), (5, [], .lload_n 1, [1], 0, 0, []), (6, [], .iload_n 3, [1], 0, 0, []), (7, [], .invokevirtual 115, [3, 82, 3, 1, 5, 7], 0, 0, []), (10, [], .invokevirtual 83, [3, 96, 2, 1, 2, 9], 0, 0, []), (13, [], .ireturn, [1, 0], 0, 0, [])]
/-- 105: OneNote.clear()I -/
def K105 : List je := [(0, [], .aload_n 0, [1], 0, 0, []), (1, [], .getfield 26, [3, 9, 4, 2, 7, 46], 0, 0, []), (4, [], .invokevirtual 119, [3, 83, 1, 1, 2, 7], 0, 0, []), (7, [], .ireturn, [1, 0], 0, 0, [])]
/-- 106: OneNote.read()I -/
def K106 : List je := [(0, [], .aload_n 0, [1], 0, 0, []), (1, [], .getfield 26, [3, 9, 4, 2, 7, 46], 0, 0, []), (4, [], .aload_n 0, [1], 0, 0, []), (5, [], .getfield 16, [3, 9, 1, 2, 8, 12], 0, 0, []), (8, [], .invokevirtual 123, [3, 84, 2, 1, 4, 7], 0, 0, []), (11, [], .istore_n 1, [1], 0, 0, []), (12, [], .iload_n 1, [1], 0, 0, []), (13, [], .ifCond .lt 14, [3, 27], 0, 0, []), (16, [], .aload_n 0, [1], 0, 0, []), (17, [], .getfield 12, [3, 9, 0, 2, 8, 1], 0, 0, []), (20, [], .aload_n 0, [1], 0, 0, []), (21, [], .getfield 16, [3, 9, 1, 2, 8, 12], 0, 0, []), (24, [], .invokevirtual 127, [3, 28, 2, 0, 2, 8], 0, 0, []), (27, [], .iload_n 1, [1], 0, 0, []), (28, [], .ireturn, [1, 0], 0, 0, [])]
/-- 107: OneNote.says(II)I -/
def K107 : List je := [(0, [], .aload_n 0, [1], 0, 0, []), (1, [], .getfield 12, [3, 9, 0, 2, 8, 1], 0, 0, []), (4, [], .iload_n 1, [1], 0, 0, []), (5, [], .invokevirtual 131, [3, 26, 2, 1, 2, 8], 0, 0, []), (8, [], .ifCond .eq 14, [3, 22], 0, 0, []), (11, [], .aload_n 0, [1], 0, 0, []), (12, [], .getfield 12, [3, 9, 0, 2, 8, 1], 0, 0, []), (15, [], .iload_n 2, [1], 0, 0, []), (16, [], .invokevirtual 135, [3, 30, 2, 1, 2, 8], 0, 0, []), (19, [], .ifCond .ne 10, [3, 29], 0, 0, []), (22, [], .aload_n 0, [1], 0, 0, []), (23, [], .bipush (-2), [2], (-2), 0, []), (25, [], .invokevirtual 83, [3, 96, 2, 1, 2, 9], 0, 0, []), (28, [], .ireturn, [1, 0], 0, 0, []), (29, [], .aload_n 0, [1], 0, 0, []), (30, [], .getfield 40, [3, 9, 9, 2, 1, 50], 0, 0, []), (33, [], .aload_n 0, [1], 0, 0, []), (34, [], .getfield 12, [3, 9, 0, 2, 8, 1], 0, 0, []), (37, [], .iload_n 1, [1], 0, 0, []), (38, [], .iload_n 2, [1], 0, 0, []), (39, [], .invokevirtual 138, [3, 48, 4, 1, 4, 1], 0, 0, []), (42, [], .ifCond .eq 7, [3, 49], 0, 0, []), (45, [], .iconst 1, [1], 1, 0, []), (46, [], .goto 4, [3, 50], 0, 0, []), (49, [], .iconst 0, [1], 0, 0, []), (50, [], .ireturn, [1, 0], 0, 0, [])]
/-- 108: OneNote.said(I)I -/
def K108 : List je := [(0, [], .iload_n 1, [1], 0, 0, []), (1, [], .invokestatic 142, [3, 95, 1, 1, 1, 200], 0, 0, []), (4, [], .ifCond .ne 10, [3, 14], 0, 0, []), (7, [], .aload_n 0, [1], 0, 0, []), (8, [], .bipush (-2), [2], (-2), 0, []), (10, [], .invokevirtual 83, [3, 96, 2, 1, 2, 9], 0, 0, []), (13, [], .ireturn, [1, 0], 0, 0, []), (14, [], .aload_n 0, [1], 0, 0, []), (15, [], .getfield 40, [3, 9, 9, 2, 1, 50], 0, 0, []), (18, [], .aload_n 0, [1], 0, 0, []), (19, [], .getfield 12, [3, 9, 0, 2, 8, 1], 0, 0, []), (22, [], .aload_n 0, [1], 0, 0, []), (23, [], .getfield 12, [3, 9, 0, 2, 8, 1], 0, 0, []), (26, [], .iconst 1, [1], 1, 0, []), (27, [], .iload_n 1, [1], 0, 0, []), (28, [], .ishl, [1], 0, 0, []), (29, [], .invokevirtual 145, [3, 31, 2, 1, 4, 8], 0, 0, []), (32, [], .invokevirtual 148, [3, 51, 3, 1, 5, 1], 0, 0, []), (35, [], .ireturn, [1, 0], 0, 0, [])]
/-- 109: OneNote.byDoor(II)I -/
def K109 : List je := [(0, [], .iload_n 1, [1], 0, 0, []), (1, [], .invokestatic 142, [3, 95, 1, 1, 1, 200], 0, 0, []), (4, [], .ifCond .eq 10, [3, 14], 0, 0, []), (7, [], .iload_n 2, [1], 0, 0, []), (8, [], .invokestatic 142, [3, 95, 1, 1, 1, 200], 0, 0, []), (11, [], .ifCond .ne 10, [3, 21], 0, 0, []), (14, [], .aload_n 0, [1], 0, 0, []), (15, [], .bipush (-2), [2], (-2), 0, []), (17, [], .invokevirtual 83, [3, 96, 2, 1, 2, 9], 0, 0, []), (20, [], .ireturn, [1, 0], 0, 0, []), (21, [], .aload_n 0, [1], 0, 0, []), (22, [], .getfield 12, [3, 9, 0, 2, 8, 1], 0, 0, []), (25, [], .iload_n 1, [1], 0, 0, []), (26, [], .iload_n 2, [1], 0, 0, []), (27, [], .invokevirtual 152, [3, 32, 3, 1, 3, 8], 0, 0, []), (30, [], .ifCond .ne 10, [3, 40], 0, 0, []), (33, [], .aload_n 0, [1], 0, 0, []), (34, [], .bipush (-3), [2], (-3), 0, []), (36, [], .invokevirtual 83, [3, 96, 2, 1, 2, 9], 0, 0, []), (39, [], .ireturn, [1, 0], 0, 0, []), (40, [], .aload_n 0, [1], 0, 0, []), (41, [], .getfield 40, [3, 9, 9, 2, 1, 50], 0, 0, []), (44, [], .aload_n 0, [1], 0, 0, []), (45, [], .getfield 12, [3, 9, 0, 2, 8, 1], 0, 0, []), (48, [], .aload_n 0, [1], 0, 0, []), (49, [], .getfield 12, [3, 9, 0, 2, 8, 1], 0, 0, []), (52, [], .iconst 1, [1], 1, 0, []), (53, [], .iload_n 1, [1], 0, 0, []), (54, [], .ishl, [1], 0, 0, []), (55, [], .iconst 1, [1], 1, 0, []), (56, [], .iload_n 2, [1], 0, 0, []), (57, [], .ishl, [1], 0, 0, []), (58, [], .ior, [1], 0, 0, []), (59, [], .invokevirtual 145, [3, 31, 2, 1, 4, 8], 0, 0, []), (62, [], .invokevirtual 148, [3, 51, 3, 1, 5, 1], 0, 0, []), (65, [], .ireturn, [1, 0], 0, 0, [])]
/-- 110: OneNote.fewest(II)I -/
def K110 : List je := [(0, [], .aload_n 0, [1], 0, 0, []), (1, [], .getfield 12, [3, 9, 0, 2, 8, 1], 0, 0, []), (4, [], .iload_n 1, [1], 0, 0, []), (5, [], .invokevirtual 131, [3, 26, 2, 1, 2, 8], 0, 0, []), (8, [], .ifCond .eq 14, [3, 22], 0, 0, []), (11, [], .aload_n 0, [1], 0, 0, []), (12, [], .getfield 12, [3, 9, 0, 2, 8, 1], 0, 0, []), (15, [], .iload_n 2, [1], 0, 0, []), (16, [], .invokevirtual 135, [3, 30, 2, 1, 2, 8], 0, 0, []), (19, [], .ifCond .ne 10, [3, 29], 0, 0, []), (22, [], .aload_n 0, [1], 0, 0, []), (23, [], .bipush (-2), [2], (-2), 0, []), (25, [], .invokevirtual 83, [3, 96, 2, 1, 2, 9], 0, 0, []), (28, [], .ireturn, [1, 0], 0, 0, []), (29, [], .aload_n 0, [1], 0, 0, []), (30, [], .getfield 40, [3, 9, 9, 2, 1, 50], 0, 0, []), (33, [], .aload_n 0, [1], 0, 0, []), (34, [], .getfield 12, [3, 9, 0, 2, 8, 1], 0, 0, []), (37, [], .iload_n 1, [1], 0, 0, []), (38, [], .iload_n 2, [1], 0, 0, []), (39, [], .invokevirtual 155, [3, 52, 4, 1, 8, 1], 0, 0, []), (42, [], .ireturn, [1, 0], 0, 0, [])]
/-- 111: OneNote.speak(I)I -/
def K111 : List je := [(0, [], .aload_n 0, [1], 0, 0, []), (1, [], .aload_n 0, [1], 0, 0, []), (2, [], .getfield 12, [3, 9, 0, 2, 8, 1], 0, 0, []), (5, [], .iload_n 1, [1], 0, 0, []), (6, [], .invokevirtual 158, [3, 33, 2, 1, 2, 8], 0, 0, []), (9, [], .invokevirtual 83, [3, 96, 2, 1, 2, 9], 0, 0, []), (12, [], .ireturn, [1, 0], 0, 0, [])]
/-- 112: OneNote.hush()I -/
def K112 : List je := [(0, [], .aload_n 0, [1], 0, 0, []), (1, [], .getfield 12, [3, 9, 0, 2, 8, 1], 0, 0, []), (4, [], .invokevirtual 161, [3, 34, 1, 1, 2, 8], 0, 0, []), (7, [], .ireturn, [1, 0], 0, 0, [])]
/-- 113: OneNote.fetch(I)I -/
def K113 : List je := [(0, [], .iload_n 1, [1], 0, 0, []), (1, [], .ifCond .lt 8, [3, 9], 0, 0, []), (4, [], .iload_n 1, [1], 0, 0, []), (5, [], .iconst 2, [1], 2, 0, []), (6, [], .if_icmp .le 10, [3, 16], 0, 0, []), (9, [1], .aload_n 0, [1], 0, 0, []), (10, [], .bipush (-2), [2], (-2), 0, []), (12, [], .invokevirtual 83, [3, 96, 2, 1, 2, 9], 0, 0, []), (15, [], .ireturn, [1, 0], 0, 0, []), (16, [], .aload_n 0, [1], 0, 0, []), (17, [], .getfield 47, [3, 9, 10, 2, 2, 53], 0, 0, []), (20, [], .aload_n 0, [1], 0, 0, []), (21, [], .getfield 12, [3, 9, 0, 2, 8, 1], 0, 0, []), (24, [], .aload_n 0, [1], 0, 0, []), (25, [], .getfield 40, [3, 9, 9, 2, 1, 50], 0, 0, []), (28, [], .bipush 9, [2], 9, 0, []), (30, [], .invokevirtual 164, [3, 57, 4, 1, 9, 2], 0, 0, []), (33, [], .ifCond .ne 5, [3, 38], 0, 0, []), (36, [], .iconst (-1), [1], (-1), 0, []), (37, [], .ireturn, [1, 0], 0, 0, []), (38, [], .iload_n 1, [1], 0, 0, []), (39, [], .ifCond .ne 13, [3, 52], 0, 0, []), (42, [], .aload_n 0, [1], 0, 0, []), (43, [], .getfield 47, [3, 9, 10, 2, 2, 53], 0, 0, []), (46, [], .getfield 168, [3, 2, 1, 0, 0, 0], 0, 0, []), (49, [], .goto 25, [3, 74], 0, 0, []), (52, [], .iload_n 1, [1], 0, 0, []), (53, [], .iconst 1, [1], 1, 0, []), (54, [], .if_icmp .ne 13, [3, 67], 0, 0, []), (57, [], .aload_n 0, [1], 0, 0, []), (58, [], .getfield 47, [3, 9, 10, 2, 2, 53], 0, 0, []), (61, [], .getfield 172, [3, 2, 2, 0, 0, 0], 0, 0, []), (64, [], .goto 10, [3, 74], 0, 0, []), (67, [], .aload_n 0, [1], 0, 0, []), (68, [], .getfield 47, [3, 9, 10, 2, 2, 53], 0, 0, []), (71, [], .getfield 175, [3, 2, 3, 0, 0, 0], 0, 0, []), (74, [0, 1], .ireturn, [1, 0], 0, 0, [])]
/-- 114: OneNote.inTime(I)I -/
def K114 : List je := [(0, [], .iload_n 1, [1], 0, 0, []), (1, [], .ifCond .lt 9, [3, 10], 0, 0, []), (4, [], .iload_n 1, [1], 0, 0, []), (5, [], .bipush 9, [2], 9, 0, []), (7, [], .if_icmp .le 10, [3, 17], 0, 0, []), (10, [], .aload_n 0, [1], 0, 0, []), (11, [], .bipush (-2), [2], (-2), 0, []), (13, [], .invokevirtual 83, [3, 96, 2, 1, 2, 9], 0, 0, []), (16, [], .ireturn, [1, 0], 0, 0, []), (17, [], .aload_n 0, [1], 0, 0, []), (18, [], .getfield 47, [3, 9, 10, 2, 2, 53], 0, 0, []), (21, [], .aload_n 0, [1], 0, 0, []), (22, [], .getfield 12, [3, 9, 0, 2, 8, 1], 0, 0, []), (25, [], .aload_n 0, [1], 0, 0, []), (26, [], .getfield 40, [3, 9, 9, 2, 1, 50], 0, 0, []), (29, [], .iload_n 1, [1], 0, 0, []), (30, [], .invokevirtual 164, [3, 57, 4, 1, 9, 2], 0, 0, []), (33, [], .ifCond .eq 13, [3, 46], 0, 0, []), (36, [], .aload_n 0, [1], 0, 0, []), (37, [], .getfield 47, [3, 9, 10, 2, 2, 53], 0, 0, []), (40, [], .getfield 168, [3, 2, 1, 0, 0, 0], 0, 0, []), (43, [], .goto 4, [3, 47], 0, 0, []), (46, [], .iconst (-1), [1], (-1), 0, []), (47, [], .ireturn, [1, 0], 0, 0, [])]
/-- 115: OneNote.taken(III)I -/
def K115 : List je := [(0, [], .aload_n 0, [1], 0, 0, []), (1, [], .getfield 12, [3, 9, 0, 2, 8, 1], 0, 0, []), (4, [], .iload_n 1, [1], 0, 0, []), (5, [], .invokevirtual 135, [3, 30, 2, 1, 2, 8], 0, 0, []), (8, [], .ifCond .eq 26, [3, 34], 0, 0, []), (11, [], .aload_n 0, [1], 0, 0, []), (12, [], .getfield 12, [3, 9, 0, 2, 8, 1], 0, 0, []), (15, [], .iload_n 2, [1], 0, 0, []), (16, [], .invokevirtual 135, [3, 30, 2, 1, 2, 8], 0, 0, []), (19, [], .ifCond .eq 15, [3, 34], 0, 0, []), (22, [], .iload_n 1, [1], 0, 0, []), (23, [], .iload_n 2, [1], 0, 0, []), (24, [], .if_icmp .eq 10, [3, 34], 0, 0, []), (27, [], .iload_n 3, [1], 0, 0, []), (28, [], .invokestatic 178, [3, 116, 1, 1, 1, 200], 0, 0, []), (31, [], .ifCond .ne 10, [3, 41], 0, 0, []), (34, [1, 2, 3], .aload_n 0, [1], 0, 0, []), (35, [], .bipush (-2), [2], (-2), 0, []), (37, [], .invokevirtual 83, [3, 96, 2, 1, 2, 9], 0, 0, []), (40, [], .ireturn, [1, 0], 0, 0, []), (41, [], .aload_n 0, [1], 0, 0, []), (42, [], .getfield 12, [3, 9, 0, 2, 8, 1], 0, 0, []), (45, [], .getfield 181, [3, 8, 7, 2, 1008, 7], 0, 0, []), (48, [], .iload_n 1, [1], 0, 0, []), (49, [], .iaload, [1], 0, 0, []), (50, [], .aload_n 0, [1], 0, 0, []), (51, [], .getfield 12, [3, 9, 0, 2, 8, 1], 0, 0, []), (54, [], .getfield 181, [3, 8, 7, 2, 1008, 7], 0, 0, []), (57, [], .iload_n 2, [1], 0, 0, []), (58, [], .iaload, [1], 0, 0, []), (59, [], .iload_n 3, [1], 0, 0, []), (60, [], .invokestatic 185, [3, 63, 3, 1, 6, 200], 0, 0, []), (63, [], .ifCond .eq 7, [3, 70], 0, 0, []), (66, [], .iconst 1, [1], 1, 0, []), (67, [], .goto 4, [3, 71], 0, 0, []), (70, [], .iconst 0, [1], 0, 0, []), (71, [0, 1, 2, 3], .ireturn, [1, 0], 0, 0, [])]
/-- 116: OneNote.isFog(I)Z -/
def K116 : List je := [(0, [], .iload_n 0, [1], 0, 0, []), (1, [], .ifCond .lt 12, [3, 13], 0, 0, []), (4, [], .iload_n 0, [1], 0, 0, []), (5, [], .iconst 3, [1], 3, 0, []), (6, [], .if_icmp .gt 7, [3, 13], 0, 0, []), (9, [], .iconst 1, [1], 1, 0, []), (10, [], .goto 4, [3, 14], 0, 0, []), (13, [], .iconst 0, [1], 0, 0, []), (14, [], .ireturn, [1, 1], 0, 0, [])]
/-- 117: OneNote.drop(I)I -/
def K117 : List je := [(0, [], .iload_n 1, [1], 0, 0, []), (1, [], .invokestatic 178, [3, 116, 1, 1, 1, 200], 0, 0, []), (4, [], .ifCond .ne 10, [3, 14], 0, 0, []), (7, [], .aload_n 0, [1], 0, 0, []), (8, [], .bipush (-2), [2], (-2), 0, []), (10, [], .invokevirtual 83, [3, 96, 2, 1, 2, 9], 0, 0, []), (13, [], .ireturn, [1, 0], 0, 0, []), (14, [], .aload_n 0, [1], 0, 0, []), (15, [], .getfield 54, [3, 9, 11, 2, 3, 55], 0, 0, []), (18, [], .aload_n 0, [1], 0, 0, []), (19, [], .getfield 12, [3, 9, 0, 2, 8, 1], 0, 0, []), (22, [], .iload_n 1, [1], 0, 0, []), (23, [], .invokevirtual 189, [3, 64, 3, 1, 6, 3], 0, 0, []), (26, [], .ireturn, [1, 0], 0, 0, [])]
/-- 118: OneNote.news(III)I -/
def K118 : List je := [(0, [], .iload_n 1, [1], 0, 0, []), (1, [], .invokestatic 142, [3, 95, 1, 1, 1, 200], 0, 0, []), (4, [], .ifCond .eq 15, [3, 19], 0, 0, []), (7, [], .iload_n 2, [1], 0, 0, []), (8, [], .invokestatic 142, [3, 95, 1, 1, 1, 200], 0, 0, []), (11, [], .ifCond .eq 8, [3, 19], 0, 0, []), (14, [], .iload_n 3, [1], 0, 0, []), (15, [], .iconst (-1), [1], (-1), 0, []), (16, [], .if_icmp .ge 8, [3, 24], 0, 0, []), (19, [], .aload_n 0, [1], 0, 0, []), (20, [], .invokevirtual 192, [3, 119, 1, 1, 1, 9], 0, 0, []), (23, [], .ireturn, [1, 0], 0, 0, []), (24, [], .aload_n 0, [1], 0, 0, []), (25, [], .getfield 61, [3, 9, 12, 2, 6, 57], 0, 0, []), (28, [], .aload_n 0, [1], 0, 0, []), (29, [], .getfield 12, [3, 9, 0, 2, 8, 1], 0, 0, []), (32, [], .iload_n 2, [1], 0, 0, []), (33, [], .invokevirtual 195, [3, 67, 3, 0, 6, 6], 0, 0, []), (36, [], .iload_n 3, [1], 0, 0, []), (37, [], .iconst (-1), [1], (-1), 0, []), (38, [], .if_icmp .ne 14, [3, 52], 0, 0, []), (41, [], .aload_n 0, [1], 0, 0, []), (42, [], .getfield 61, [3, 9, 12, 2, 6, 57], 0, 0, []), (45, [], .iload_n 1, [1], 0, 0, []), (46, [], .invokevirtual 199, [3, 70, 2, 1, 2, 6], 0, 0, []), (49, [], .goto 16, [3, 65], 0, 0, []), (52, [], .aload_n 0, [1], 0, 0, []), (53, [], .getfield 61, [3, 9, 12, 2, 6, 57], 0, 0, []), (56, [], .aload_n 0, [1], 0, 0, []), (57, [], .getfield 12, [3, 9, 0, 2, 8, 1], 0, 0, []), (60, [], .iload_n 1, [1], 0, 0, []), (61, [], .iload_n 3, [1], 0, 0, []), (62, [], .invokevirtual 202, [3, 71, 4, 1, 6, 6], 0, 0, []), (65, [], .ireturn, [1, 0], 0, 0, [])]
/-- 119: OneNote.badForRows()I -/
def K119 : List je := [(0, [], .aload_n 0, [1], 0, 0, []), (1, [], .dup, [1], 0, 0, []), (2, [], .getfield 270, [3, 9, 6, 0, 0, 0], 0, 0, []), (5, [], .iconst 1, [1], 1, 0, []), (6, [], .iadd, [1], 0, 0, []), (7, [], .putfield 270, [3, 9, 6, 0], 0, 0, []), (10, [], .bipush (-10), [2], (-10), 0, []), (12, [], .ireturn, [1, 0], 0, 0, [])]
/-- 120: OneNote.hole(I)I -/
def K120 : List je := [(0, [], .aload_n 0, [1], 0, 0, []), (1, [], .aload_n 0, [1], 0, 0, []), (2, [], .getfield 12, [3, 9, 0, 2, 8, 1], 0, 0, []), (5, [], .iload_n 1, [1], 0, 0, []), (6, [], .invokevirtual 205, [3, 36, 2, 1, 2, 8], 0, 0, []), (9, [], .invokevirtual 83, [3, 96, 2, 1, 2, 9], 0, 0, []), (12, [], .ireturn, [1, 0], 0, 0, [])]
/-- 121: OneNote.whole()I -/
def K121 : List je := [(0, [], .aload_n 0, [1], 0, 0, []), (1, [], .getfield 12, [3, 9, 0, 2, 8, 1], 0, 0, []), (4, [], .invokevirtual 208, [3, 37, 1, 1, 2, 8], 0, 0, []), (7, [], .ireturn, [1, 0], 0, 0, [])]
/-- 122: OneNote.meant(I)I -/
def K122 : List je := [(0, [], .aload_n 0, [1], 0, 0, []), (1, [], .getfield 12, [3, 9, 0, 2, 8, 1], 0, 0, []), (4, [], .iload_n 1, [1], 0, 0, []), (5, [], .invokevirtual 211, [3, 38, 2, 1, 2, 8], 0, 0, []), (8, [], .ifCond .ne 10, [3, 18], 0, 0, []), (11, [], .aload_n 0, [1], 0, 0, []), (12, [], .bipush (-2), [2], (-2), 0, []), (14, [], .invokevirtual 83, [3, 96, 2, 1, 2, 9], 0, 0, []), (17, [], .ireturn, [1, 0], 0, 0, []), (18, [], .aload_n 0, [1], 0, 0, []), (19, [], .getfield 12, [3, 9, 0, 2, 8, 1], 0, 0, []), (22, [], .aload_n 0, [1], 0, 0, []), (23, [], .getfield 12, [3, 9, 0, 2, 8, 1], 0, 0, []), (26, [], .getfield 214, [3, 8, 13, 2, 1006, 10], 0, 0, []), (29, [], .iload_n 1, [1], 0, 0, []), (30, [], .iaload, [1], 0, 0, []), (31, [], .invokevirtual 217, [3, 39, 2, 1, 4, 8], 0, 0, []), (34, [], .ireturn, [1, 0], 0, 0, [])]
/-- 123: OneNote.ways()I -/
def K123 : List je := [(0, [], .aload_n 0, [1], 0, 0, []), (1, [], .getfield 68, [3, 9, 13, 2, 5, 59], 0, 0, []), (4, [], .aload_n 0, [1], 0, 0, []), (5, [], .getfield 12, [3, 9, 0, 2, 8, 1], 0, 0, []), (8, [], .invokevirtual 220, [3, 72, 2, 1, 2, 5], 0, 0, []), (11, [], .ireturn, [1, 0], 0, 0, [])]
/-- 124: OneNote.odds(II)I -/
def K124 : List je := [(0, [], .aload_n 0, [1], 0, 0, []), (1, [], .getfield 12, [3, 9, 0, 2, 8, 1], 0, 0, []), (4, [], .iload_n 1, [1], 0, 0, []), (5, [], .invokevirtual 211, [3, 38, 2, 1, 2, 8], 0, 0, []), (8, [], .ifCond .eq 14, [3, 22], 0, 0, []), (11, [], .aload_n 0, [1], 0, 0, []), (12, [], .getfield 12, [3, 9, 0, 2, 8, 1], 0, 0, []), (15, [], .iload_n 2, [1], 0, 0, []), (16, [], .invokevirtual 135, [3, 30, 2, 1, 2, 8], 0, 0, []), (19, [], .ifCond .ne 10, [3, 29], 0, 0, []), (22, [], .aload_n 0, [1], 0, 0, []), (23, [], .bipush (-2), [2], (-2), 0, []), (25, [], .invokevirtual 83, [3, 96, 2, 1, 2, 9], 0, 0, []), (28, [], .ireturn, [1, 0], 0, 0, []), (29, [], .aload_n 0, [1], 0, 0, []), (30, [], .getfield 68, [3, 9, 13, 2, 5, 59], 0, 0, []), (33, [], .aload_n 0, [1], 0, 0, []), (34, [], .getfield 12, [3, 9, 0, 2, 8, 1], 0, 0, []), (37, [], .iconst (-1), [1], (-1), 0, []), (38, [], .iconst (-1), [1], (-1), 0, []), (39, [], .invokevirtual 223, [3, 74, 4, 2, 4, 5], 0, 0, []), (42, [], .lstore_n 3, [1], 0, 0, []), (43, [], .lload_n 3, [1], 0, 0, []), (44, [], .lconst 0, [1], 0, 0, []), (45, [], .lcmp, [1], 0, 0, []), (46, [], .ifCond .gt 10, [3, 56], 0, 0, []), (49, [], .aload_n 0, [1], 0, 0, []), (50, [], .bipush (-3), [2], (-3), 0, []), (52, [], .invokevirtual 83, [3, 96, 2, 1, 2, 9], 0, 0, []), (55, [], .ireturn, [1, 0], 0, 0, []), (56, [], .aload_n 0, [1], 0, 0, []), (57, [], .getfield 33, [3, 9, 5, 2, 4, 49], 0, 0, []), (60, [], .aload_n 0, [1], 0, 0, []), (61, [], .getfield 68, [3, 9, 13, 2, 5, 59], 0, 0, []), (64, [], .aload_n 0, [1], 0, 0, []), (65, [], .getfield 12, [3, 9, 0, 2, 8, 1], 0, 0, []), (68, [], .iload_n 1, [1], 0, 0, []), (69, [], .iload_n 2, [1], 0, 0, []), (70, [], .invokevirtual 223, [3, 74, 4, 2, 4, 5], 0, 0, []), (73, [], .lload_n 3, [1], 0, 0, []), (74, [], .invokevirtual 227, [3, 44, 3, 0, 7, 4], 0, 0, []), (77, [], .iconst 1, [1], 1, 0, []), (78, [], .ireturn, [1, 0], 0, 0, [])]
/-- 125: OneNote.block(II)I -/
def K125 : List je := [(0, [], .aload_n 0, [1], 0, 0, []), (1, [], .getfield 12, [3, 9, 0, 2, 8, 1], 0, 0, []), (4, [], .iload_n 1, [1], 0, 0, []), (5, [], .invokevirtual 131, [3, 26, 2, 1, 2, 8], 0, 0, []), (8, [], .ifCond .eq 14, [3, 22], 0, 0, []), (11, [], .aload_n 0, [1], 0, 0, []), (12, [], .getfield 12, [3, 9, 0, 2, 8, 1], 0, 0, []), (15, [], .iload_n 2, [1], 0, 0, []), (16, [], .invokevirtual 135, [3, 30, 2, 1, 2, 8], 0, 0, []), (19, [], .ifCond .ne 10, [3, 29], 0, 0, []), (22, [], .aload_n 0, [1], 0, 0, []), (23, [], .bipush (-2), [2], (-2), 0, []), (25, [], .invokevirtual 83, [3, 96, 2, 1, 2, 9], 0, 0, []), (28, [], .ireturn, [1, 0], 0, 0, []), (29, [], .aload_n 0, [1], 0, 0, []), (30, [], .getfield 40, [3, 9, 9, 2, 1, 50], 0, 0, []), (33, [], .aload_n 0, [1], 0, 0, []), (34, [], .getfield 12, [3, 9, 0, 2, 8, 1], 0, 0, []), (37, [], .iload_n 1, [1], 0, 0, []), (38, [], .iload_n 2, [1], 0, 0, []), (39, [], .invokevirtual 138, [3, 48, 4, 1, 4, 1], 0, 0, []), (42, [], .ifCond .ne 10, [3, 52], 0, 0, []), (45, [], .aload_n 0, [1], 0, 0, []), (46, [], .bipush (-3), [2], (-3), 0, []), (48, [], .invokevirtual 83, [3, 96, 2, 1, 2, 9], 0, 0, []), (51, [], .ireturn, [1, 0], 0, 0, []), (52, [], .aload_n 0, [1], 0, 0, []), (53, [], .getfield 40, [3, 9, 9, 2, 1, 50], 0, 0, []), (56, [], .aload_n 0, [1], 0, 0, []), (57, [], .getfield 12, [3, 9, 0, 2, 8, 1], 0, 0, []), (60, [], .iload_n 1, [1], 0, 0, []), (61, [], .iload_n 2, [1], 0, 0, []), (62, [], .invokevirtual 231, [3, 54, 4, 1, 7, 1], 0, 0, []), (65, [], .ireturn, [1, 0], 0, 0, [])]
/-- 126: OneNote.swing(III)I -/
def K126 : List je := [(0, [], .aload_n 0, [1], 0, 0, []), (1, [], .getfield 12, [3, 9, 0, 2, 8, 1], 0, 0, []), (4, [], .iload_n 2, [1], 0, 0, []), (5, [], .iload_n 1, [1], 0, 0, []), (6, [], .invokevirtual 107, [3, 25, 3, 1, 3, 8], 0, 0, []), (9, [], .ifCond .eq 14, [3, 23], 0, 0, []), (12, [], .aload_n 0, [1], 0, 0, []), (13, [], .getfield 12, [3, 9, 0, 2, 8, 1], 0, 0, []), (16, [], .iload_n 3, [1], 0, 0, []), (17, [], .invokevirtual 135, [3, 30, 2, 1, 2, 8], 0, 0, []), (20, [], .ifCond .ne 10, [3, 30], 0, 0, []), (23, [], .aload_n 0, [1], 0, 0, []), (24, [], .bipush (-2), [2], (-2), 0, []), (26, [], .invokevirtual 83, [3, 96, 2, 1, 2, 9], 0, 0, []), (29, [], .ireturn, [1, 0], 0, 0, []), (30, [], .iload_n 1, [1], 0, 0, []), (31, [], .invokestatic 234, [3, 0, 1, 1, 1, 200], 0, 0, []), (34, [], .iconst 1, [1], 1, 0, []), (35, [], .isub, [1], 0, 0, []), (36, [], .istore 4, [2], 0, 0, []), (38, [], .aload_n 0, [1], 0, 0, []), (39, [], .getfield 33, [3, 9, 5, 2, 4, 49], 0, 0, []), (42, [], .aload_n 0, [1], 0, 0, []), (43, [], .getfield 40, [3, 9, 9, 2, 1, 50], 0, 0, []), (46, [], .aload_n 0, [1], 0, 0, []), (47, [], .getfield 12, [3, 9, 0, 2, 8, 1], 0, 0, []), (50, [], .iload_n 1, [1], 0, 0, []), (51, [], .iload_n 2, [1], 0, 0, []), (52, [], .iload_n 3, [1], 0, 0, []), (53, [], .invokevirtual 239, [3, 55, 5, 1, 10, 1], 0, 0, []), (56, [], .i2l, [1], 0, 0, []), (57, [], .lconst 1, [1], 0, 1, []), (58, [], .iload 4, [2], 0, 0, []), (60, [], .lshl, [1], 0, 0, []), (61, [], .invokevirtual 227, [3, 44, 3, 0, 7, 4], 0, 0, []), (64, [], .iconst 1, [1], 1, 0, []), (65, [], .ireturn, [1, 0], 0, 0, [])]
/-- 127: OneNote.song(III)I -/
def K127 : List je := [(0, [], .aload_n 0, [1], 0, 0, []), (1, [], .getfield 12, [3, 9, 0, 2, 8, 1], 0, 0, []), (4, [], .iload_n 1, [1], 0, 0, []), (5, [], .invokevirtual 131, [3, 26, 2, 1, 2, 8], 0, 0, []), (8, [], .ifCond .eq 18, [3, 26], 0, 0, []), (11, [], .iload_n 2, [1], 0, 0, []), (12, [], .ifCond .lt 14, [3, 26], 0, 0, []), (15, [], .iload_n 2, [1], 0, 0, []), (16, [], .bipush 6, [2], 6, 0, []), (18, [], .if_icmp .gt 8, [3, 26], 0, 0, []), (21, [], .iload_n 3, [1], 0, 0, []), (22, [], .iconst (-1), [1], (-1), 0, []), (23, [], .if_icmp .ge 8, [3, 31], 0, 0, []), (26, [1, 2, 3], .aload_n 0, [1], 0, 0, []), (27, [], .invokevirtual 192, [3, 119, 1, 1, 1, 9], 0, 0, []), (30, [], .ireturn, [1, 0], 0, 0, []), (31, [], .aload_n 0, [1], 0, 0, []), (32, [], .getfield 75, [3, 9, 14, 2, 0, 61], 0, 0, []), (35, [], .aload_n 0, [1], 0, 0, []), (36, [], .getfield 12, [3, 9, 0, 2, 8, 1], 0, 0, []), (39, [], .iload_n 1, [1], 0, 0, []), (40, [], .iload_n 2, [1], 0, 0, []), (41, [], .invokevirtual 243, [3, 75, 4, 0, 6, 0], 0, 0, []), (44, [], .iload_n 3, [1], 0, 0, []), (45, [], .iconst (-1), [1], (-1), 0, []), (46, [], .if_icmp .ne 13, [3, 59], 0, 0, []), (49, [], .aload_n 0, [1], 0, 0, []), (50, [], .getfield 75, [3, 9, 14, 2, 0, 61], 0, 0, []), (53, [], .invokevirtual 247, [3, 79, 1, 1, 1, 0], 0, 0, []), (56, [], .goto 11, [3, 67], 0, 0, []), (59, [], .aload_n 0, [1], 0, 0, []), (60, [], .getfield 75, [3, 9, 14, 2, 0, 61], 0, 0, []), (63, [], .iload_n 3, [1], 0, 0, []), (64, [], .invokevirtual 250, [3, 80, 2, 1, 6, 0], 0, 0, []), (67, [0, 1, 2, 3], .ireturn, [1, 0], 0, 0, [])]
/-- 128: OneNote.couple(I)I -/
def K128 : List je := [(0, [], .aload_n 0, [1], 0, 0, []), (1, [], .getfield 12, [3, 9, 0, 2, 8, 1], 0, 0, []), (4, [], .iload_n 1, [1], 0, 0, []), (5, [], .invokevirtual 131, [3, 26, 2, 1, 2, 8], 0, 0, []), (8, [], .ifCond .ne 10, [3, 18], 0, 0, []), (11, [], .aload_n 0, [1], 0, 0, []), (12, [], .bipush (-2), [2], (-2), 0, []), (14, [], .invokevirtual 83, [3, 96, 2, 1, 2, 9], 0, 0, []), (17, [], .ireturn, [1, 0], 0, 0, []), (18, [], .aload_n 0, [1], 0, 0, []), (19, [], .getfield 40, [3, 9, 9, 2, 1, 50], 0, 0, []), (22, [], .aload_n 0, [1], 0, 0, []), (23, [], .getfield 12, [3, 9, 0, 2, 8, 1], 0, 0, []), (26, [], .aload_n 0, [1], 0, 0, []), (27, [], .getfield 16, [3, 9, 1, 2, 8, 12], 0, 0, []), (30, [], .iload_n 1, [1], 0, 0, []), (31, [], .invokevirtual 253, [3, 56, 4, 1, 10, 1], 0, 0, []), (34, [], .ireturn, [1, 0], 0, 0, [])]
/-- 129: OneNote.part(I)J -/
def K129 : List je := [(0, [], .iload_n 1, [1], 0, 0, []), (1, [], .ifCond .lt 8, [3, 9], 0, 0, []), (4, [], .iload_n 1, [1], 0, 0, []), (5, [], .iconst 1, [1], 1, 0, []), (6, [], .if_icmp .le 11, [3, 17], 0, 0, []), (9, [], .aload_n 0, [1], 0, 0, []), (10, [], .bipush (-2), [2], (-2), 0, []), (12, [], .invokevirtual 83, [3, 96, 2, 1, 2, 9], 0, 0, []), (15, [], .i2l, [1], 0, 0, []), (16, [], .lreturn, [1], 0, 0, []), (17, [], .iload_n 1, [1], 0, 0, []), (18, [], .ifCond .ne 13, [3, 31], 0, 0, []), (21, [], .aload_n 0, [1], 0, 0, []), (22, [], .getfield 33, [3, 9, 5, 2, 4, 49], 0, 0, []), (25, [], .getfield 257, [3, 4, 0, 1, 0, 0], 0, 0, []), (28, [], .goto 10, [3, 38], 0, 0, []), (31, [], .aload_n 0, [1], 0, 0, []), (32, [], .getfield 33, [3, 9, 5, 2, 4, 49], 0, 0, []), (35, [], .getfield 261, [3, 4, 1, 1, 0, 0], 0, 0, []), (38, [], .lreturn, [1], 0, 0, [])]
/-- 130: OneNote.image(I)I -/
def K130 : List je := [(0, [], .iload_n 1, [1], 0, 0, []), (1, [], .invokestatic 264, [3, 131, 1, 1, 1, 200], 0, 0, []), (4, [], .ifCond .ne 10, [3, 14], 0, 0, []), (7, [], .aload_n 0, [1], 0, 0, []), (8, [], .bipush (-2), [2], (-2), 0, []), (10, [], .invokevirtual 83, [3, 96, 2, 1, 2, 9], 0, 0, []), (13, [], .ireturn, [1, 0], 0, 0, []), (14, [], .aload_n 0, [1], 0, 0, []), (15, [], .getfield 19, [3, 9, 2, 2, 5002, 23], 0, 0, []), (18, [], .iload_n 1, [1], 0, 0, []), (19, [], .aaload, [1], 0, 0, []), (20, [], .aload_n 0, [1], 0, 0, []), (21, [], .getfield 12, [3, 9, 0, 2, 8, 1], 0, 0, []), (24, [], .invokevirtual 127, [3, 28, 2, 0, 2, 8], 0, 0, []), (27, [], .aload_n 0, [1], 0, 0, []), (28, [], .dup, [1], 0, 0, []), (29, [], .getfield 267, [3, 9, 3, 0, 0, 0], 0, 0, []), (32, [], .iconst 1, [1], 1, 0, []), (33, [], .iload_n 1, [1], 0, 0, []), (34, [], .ishl, [1], 0, 0, []), (35, [], .ior, [1], 0, 0, []), (36, [], .putfield 267, [3, 9, 3, 0], 0, 0, []), (39, [], .iconst 1, [1], 1, 0, []), (40, [], .ireturn, [1, 0], 0, 0, [])]
/-- 131: OneNote.isImage(I)Z -/
def K131 : List je := [(0, [], .iload_n 0, [1], 0, 0, []), (1, [], .ifCond .lt 12, [3, 13], 0, 0, []), (4, [], .iload_n 0, [1], 0, 0, []), (5, [], .iconst 2, [1], 2, 0, []), (6, [], .if_icmp .ge 7, [3, 13], 0, 0, []), (9, [], .iconst 1, [1], 1, 0, []), (10, [], .goto 4, [3, 14], 0, 0, []), (13, [], .iconst 0, [1], 0, 0, []), (14, [], .ireturn, [1, 1], 0, 0, [])]
/-- 132: OneNote.from(I)I -/
def K132 : List je := [(0, [], .iload_n 1, [1], 0, 0, []), (1, [], .invokestatic 264, [3, 131, 1, 1, 1, 200], 0, 0, []), (4, [], .ifCond .ne 10, [3, 14], 0, 0, []), (7, [], .aload_n 0, [1], 0, 0, []), (8, [], .bipush (-2), [2], (-2), 0, []), (10, [], .invokevirtual 83, [3, 96, 2, 1, 2, 9], 0, 0, []), (13, [], .ireturn, [1, 0], 0, 0, []), (14, [], .aload_n 0, [1], 0, 0, []), (15, [], .getfield 267, [3, 9, 3, 0, 0, 0], 0, 0, []), (18, [], .iload_n 1, [1], 0, 0, []), (19, [], .ishr, [1], 0, 0, []), (20, [], .iconst 1, [1], 1, 0, []), (21, [], .iand, [1], 0, 0, []), (22, [], .ifCond .ne 10, [3, 32], 0, 0, []), (25, [], .aload_n 0, [1], 0, 0, []), (26, [], .bipush (-3), [2], (-3), 0, []), (28, [], .invokevirtual 83, [3, 96, 2, 1, 2, 9], 0, 0, []), (31, [], .ireturn, [1, 0], 0, 0, []), (32, [], .aload_n 0, [1], 0, 0, []), (33, [], .getfield 12, [3, 9, 0, 2, 8, 1], 0, 0, []), (36, [], .aload_n 0, [1], 0, 0, []), (37, [], .getfield 19, [3, 9, 2, 2, 5002, 23], 0, 0, []), (40, [], .iload_n 1, [1], 0, 0, []), (41, [], .aaload, [1], 0, 0, []), (42, [], .invokevirtual 127, [3, 28, 2, 0, 2, 8], 0, 0, []), (45, [], .iconst 1, [1], 1, 0, []), (46, [], .ireturn, [1, 0], 0, 0, [])]
/-- 133: OneNote.status(I)I -/
def K133 : List je := [(0, [], .iload_n 1, [1], 0, 0, []), (1, [], .tableswitch 42 0 2 #[27, 32, 37], [27, 43], 0, 0, [(0, 28), (1, 33), (2, 38)]), (28, [], .aload_n 0, [1], 0, 0, []), (29, [], .getfield 270, [3, 9, 6, 0, 0, 0], 0, 0, []), (32, [], .ireturn, [1, 0], 0, 0, []), (33, [], .aload_n 0, [1], 0, 0, []), (34, [], .getfield 273, [3, 9, 7, 0, 0, 0], 0, 0, []), (37, [], .ireturn, [1, 0], 0, 0, []), (38, [], .aload_n 0, [1], 0, 0, []), (39, [], .getfield 276, [3, 9, 8, 0, 0, 0], 0, 0, []), (42, [], .ireturn, [1, 0], 0, 0, []), (43, [], .aload_n 0, [1], 0, 0, []), (44, [], .dup, [1], 0, 0, []), (45, [], .getfield 270, [3, 9, 6, 0, 0, 0], 0, 0, []), (48, [], .iconst 1, [1], 1, 0, []), (49, [], .iadd, [1], 0, 0, []), (50, [], .putfield 270, [3, 9, 6, 0], 0, 0, []), (53, [], .iconst (-1), [1], (-1), 0, []), (54, [], .ireturn, [1, 0], 0, 0, [])]
/-- 134: OneNote.count(I)I -/
def K134 : List je := [(0, [], .iload_n 1, [1], 0, 0, []), (1, [], .ifCond .lt 8, [3, 9], 0, 0, []), (4, [], .iload_n 1, [1], 0, 0, []), (5, [], .iconst 4, [1], 4, 0, []), (6, [], .if_icmp .le 10, [3, 16], 0, 0, []), (9, [], .aload_n 0, [1], 0, 0, []), (10, [], .bipush (-2), [2], (-2), 0, []), (12, [], .invokevirtual 83, [3, 96, 2, 1, 2, 9], 0, 0, []), (15, [], .ireturn, [1, 0], 0, 0, []), (16, [], .aload_n 0, [1], 0, 0, []), (17, [], .iload_n 1, [1], 0, 0, []), (18, [], .invokevirtual 279, [3, 135, 2, 1, 2, 9], 0, 0, []), (21, [], .ireturn, [1, 0], 0, 0, [])]
/-- 135: OneNote.amount(I)I -/
def K135 : List je := [(0, [], .iload_n 1, [1], 0, 0, []), (1, [], .tableswitch 63 0 3 #[31, 39, 47, 55], [31, 64], 0, 0, [(0, 32), (1, 40), (2, 48), (3, 56)]), (32, [], .aload_n 0, [1], 0, 0, []), (33, [], .getfield 12, [3, 9, 0, 2, 8, 1], 0, 0, []), (36, [], .getfield 290, [3, 8, 6, 0, 0, 0], 0, 0, []), (39, [], .ireturn, [1, 0], 0, 0, []), (40, [], .aload_n 0, [1], 0, 0, []), (41, [], .getfield 12, [3, 9, 0, 2, 8, 1], 0, 0, []), (44, [], .getfield 293, [3, 8, 9, 0, 0, 0], 0, 0, []), (47, [], .ireturn, [1, 0], 0, 0, []), (48, [], .aload_n 0, [1], 0, 0, []), (49, [], .getfield 12, [3, 9, 0, 2, 8, 1], 0, 0, []), (52, [], .getfield 296, [3, 8, 12, 0, 0, 0], 0, 0, []), (55, [], .ireturn, [1, 0], 0, 0, []), (56, [], .aload_n 0, [1], 0, 0, []), (57, [], .getfield 12, [3, 9, 0, 2, 8, 1], 0, 0, []), (60, [], .getfield 299, [3, 8, 14, 0, 0, 0], 0, 0, []), (63, [], .ireturn, [1, 0], 0, 0, []), (64, [], .aload_n 0, [1], 0, 0, []), (65, [], .getfield 26, [3, 9, 4, 2, 7, 46], 0, 0, []), (68, [], .getfield 302, [3, 7, 1, 0, 0, 0], 0, 0, []), (71, [], .ireturn, [1, 0], 0, 0, [])]
/-- 136: OneNote.digest()J -/
def K136 : List je := [(0, [], .ldc2_w 282, [3], 0, 677, []), (3, [], .lstore_n 1, [1], 0, 0, []), (4, [], .iconst 0, [1], 0, 0, []), (5, [], .istore_n 3, [1], 0, 0, []), (6, [2], .iload_n 3, [1], 0, 0, []), (7, [], .iconst 4, [1], 4, 0, []), (8, [], .if_icmp .gt 22, [3, 30], 0, 0, []), (11, [], .ldc2_w 284, [3], 0, 31, []), (14, [], .lload_n 1, [1], 0, 0, []), (15, [], .lmul, [1], 0, 0, []), (16, [], .aload_n 0, [1], 0, 0, []), (17, [], .iload_n 3, [1], 0, 0, []), (18, [], .invokevirtual 279, [3, 135, 2, 1, 2, 9], 0, 0, []), (21, [], .i2l, [1], 0, 0, []), (22, [], .ladd, [1], 0, 0, []), (23, [], .lstore_n 1, [1], 0, 0, []), (24, [], .iinc 3 1, [3], 1, 0, []), (27, [], .goto (-21), [3, 6], 0, 0, []), (30, [], .aload_n 0, [1], 0, 0, []), (31, [], .getfield 12, [3, 9, 0, 2, 8, 1], 0, 0, []), (34, [], .lload_n 1, [1], 0, 0, []), (35, [], .invokevirtual 286, [3, 42, 2, 2, 6, 8], 0, 0, []), (38, [], .lstore_n 1, [1], 0, 0, []), (39, [], .ldc2_w 284, [3], 0, 31, []), (42, [], .lload_n 1, [1], 0, 0, []), (43, [], .lmul, [1], 0, 0, []), (44, [], .aload_n 0, [1], 0, 0, []), (45, [], .getfield 33, [3, 9, 5, 2, 4, 49], 0, 0, []), (48, [], .getfield 257, [3, 4, 0, 1, 0, 0], 0, 0, []), (51, [], .ladd, [1], 0, 0, []), (52, [], .lstore_n 1, [1], 0, 0, []), (53, [], .ldc2_w 284, [3], 0, 31, []), (56, [], .lload_n 1, [1], 0, 0, []), (57, [], .lmul, [1], 0, 0, []), (58, [], .aload_n 0, [1], 0, 0, []), (59, [], .getfield 33, [3, 9, 5, 2, 4, 49], 0, 0, []), (62, [], .getfield 261, [3, 4, 1, 1, 0, 0], 0, 0, []), (65, [], .ladd, [1], 0, 0, []), (66, [], .lreturn, [1], 0, 0, [])]
/-- 137: OneNoteModel.door(II)I -/
def K137 : List je := [(0, [], .aload_n 0, [1], 0, 0, []), (1, [], .aload_n 0, [1], 0, 0, []), (2, [], .iconst 0, [1], 0, 0, []), (3, [], .iconst 0, [1], 0, 0, []), (4, [], .iload_n 1, [1], 0, 0, []), (5, [], .iload_n 2, [1], 0, 0, []), (6, [], .invokevirtual 75, [3, 138, 5, 1, 5, 10], 0, 0, []), (9, [], .invokevirtual 79, [3, 141, 2, 1, 2, 10], 0, 0, []), (12, [], .ireturn, [1, 0], 0, 0, [])]
/-- 138: OneNoteModel.tie(IIII)I -/
def K138 : List je := [(0, [], .iload_n 3, [1], 0, 0, []), (1, [], .invokestatic 61, [3, 139, 1, 1, 1, 200], 0, 0, []), (4, [], .ifCond .eq 17, [3, 21], 0, 0, []), (7, [], .iload 4, [2], 0, 0, []), (9, [], .invokestatic 61, [3, 139, 1, 1, 1, 200], 0, 0, []), (12, [], .ifCond .eq 9, [3, 21], 0, 0, []), (15, [], .iload_n 3, [1], 0, 0, []), (16, [], .iload 4, [2], 0, 0, []), (18, [], .if_icmp .ne 6, [3, 24], 0, 0, []), (21, [], .bipush (-2), [2], (-2), 0, []), (23, [], .ireturn, [1, 0], 0, 0, []), (24, [], .aload_n 0, [1], 0, 0, []), (25, [], .getfield 7, [3, 10, 0, 2, 1560, 1], 0, 0, []), (28, [], .iload_n 1, [1], 0, 0, []), (29, [], .iload_n 2, [1], 0, 0, []), (30, [], .iadd, [1], 0, 0, []), (31, [], .bipush 6, [2], 6, 0, []), (33, [], .iload_n 3, [1], 0, 0, []), (34, [], .imul, [1], 0, 0, []), (35, [], .iadd, [1], 0, 0, []), (36, [], .iload 4, [2], 0, 0, []), (38, [], .iadd, [1], 0, 0, []), (39, [], .iaload, [1], 0, 0, []), (40, [], .iconst 1, [1], 1, 0, []), (41, [], .if_icmp .ne 6, [3, 47], 0, 0, []), (44, [], .bipush (-3), [2], (-3), 0, []), (46, [], .ireturn, [1, 0], 0, 0, []), (47, [], .aload_n 0, [1], 0, 0, []), (48, [], .getfield 7, [3, 10, 0, 2, 1560, 1], 0, 0, []), (51, [], .iload_n 1, [1], 0, 0, []), (52, [], .iload_n 2, [1], 0, 0, []), (53, [], .iadd, [1], 0, 0, []), (54, [], .bipush 6, [2], 6, 0, []), (56, [], .iload_n 3, [1], 0, 0, []), (57, [], .imul, [1], 0, 0, []), (58, [], .iadd, [1], 0, 0, []), (59, [], .iload 4, [2], 0, 0, []), (61, [], .iadd, [1], 0, 0, []), (62, [], .iconst 1, [1], 1, 0, []), (63, [], .iastore, [1], 0, 0, []), (64, [], .aload_n 0, [1], 0, 0, []), (65, [], .getfield 7, [3, 10, 0, 2, 1560, 1], 0, 0, []), (68, [], .iload_n 1, [1], 0, 0, []), (69, [], .iload_n 2, [1], 0, 0, []), (70, [], .iadd, [1], 0, 0, []), (71, [], .bipush 6, [2], 6, 0, []), (73, [], .iload 4, [2], 0, 0, []), (75, [], .imul, [1], 0, 0, []), (76, [], .iadd, [1], 0, 0, []), (77, [], .iload_n 3, [1], 0, 0, []), (78, [], .iadd, [1], 0, 0, []), (79, [], .iconst 1, [1], 1, 0, []), (80, [], .iastore, [1], 0, 0, []), (81, [], .iconst 1, [1], 1, 0, []), (82, [], .ireturn, [1, 0], 0, 0, [])]
/-- 139: OneNoteModel.isRoom(I)Z -/
def K139 : List je := [(0, [], .iload_n 0, [1], 0, 0, []), (1, [], .i2l, [1], 0, 0, []), (2, [], .lconst 0, [1], 0, 0, []), (3, [], .ldc2_w 55, [3], 0, 5, []), (6, [], .invokestatic 57, [3, 140, 3, 1, 6, 200], 0, 0, []), (9, [], .ireturn, [1, 1], 0, 0, [])]
/-- 140: OneNoteModel.in(JJJ)Z -/
def K140 : List je := [(0, [], .lload_n 0, [1], 0, 0, []), (1, [], .lload_n 2, [1], 0, 0, []), (2, [], .lcmp, [1], 0, 0, []), (3, [], .ifCond .lt 14, [3, 17], 0, 0, []), (6, [], .lload_n 0, [1], 0, 0, []), (7, [], .lload 4, [2], 0, 0, []), (9, [], .lcmp, [1], 0, 0, []), (10, [], .ifCond .gt 7, [3, 17], 0, 0, []), (13, [], .iconst 1, [1], 1, 0, []), (14, [], .goto 4, [3, 18], 0, 0, []), (17, [], .iconst 0, [1], 0, 0, []), (18, [], .ireturn, [1, 1], 0, 0, [])]
/-- 141: OneNoteModel.told(I)I -/
def K141 : List je := [(0, [], .iload_n 1, [1], 0, 0, []), (1, [], .bipush (-2), [2], (-2), 0, []), (3, [], .if_icmp .eq 15, [3, 18], 0, 0, []), (6, [], .iload_n 1, [1], 0, 0, []), (7, [], .bipush (-3), [2], (-3), 0, []), (9, [], .if_icmp .eq 9, [3, 18], 0, 0, []), (12, [], .iload_n 1, [1], 0, 0, []), (13, [], .bipush (-4), [2], (-4), 0, []), (15, [], .if_icmp .ne 16, [3, 31], 0, 0, []), (18, [], .aload_n 0, [1], 0, 0, []), (19, [], .getfield 24, [3, 10, 6, 2, 1003, 4], 0, 0, []), (22, [], .bipush (-2), [2], (-2), 0, []), (24, [], .iload_n 1, [1], 0, 0, []), (25, [], .isub, [1], 0, 0, []), (26, [], .dup2, [1], 0, 0, []), (27, [], .iaload, [1], 0, 0, []), (28, [], .iconst 1, [1], 1, 0, []), (29, [], .iadd, [1], 0, 0, []), (30, [], .iastore, [1], 0, 0, []), (31, [], .iload_n 1, [1], 0, 0, []), (32, [], .ireturn, [1, 0], 0, 0, [])]
/-- 142: OneNoteModel.hears(II)I -/
def K142 : List je := [(0, [], .aload_n 0, [1], 0, 0, []), (1, [], .aload_n 0, [1], 0, 0, []), (2, [], .iconst 0, [1], 0, 0, []), (3, [], .bipush 36, [2], 36, 0, []), (5, [], .iload_n 1, [1], 0, 0, []), (6, [], .iload_n 2, [1], 0, 0, []), (7, [], .invokevirtual 75, [3, 138, 5, 1, 5, 10], 0, 0, []), (10, [], .invokevirtual 79, [3, 141, 2, 1, 2, 10], 0, 0, []), (13, [], .ireturn, [1, 0], 0, 0, [])]
/-- 143: OneNoteModel.one(III)I -/
def K143 : List je := [(0, [], .aload_n 0, [1], 0, 0, []), (1, [], .aload_n 0, [1], 0, 0, []), (2, [], .iconst 0, [1], 0, 0, []), (3, [], .iload_n 1, [1], 0, 0, []), (4, [], .iload_n 2, [1], 0, 0, []), (5, [], .iload_n 3, [1], 0, 0, []), (6, [], .invokevirtual 83, [3, 144, 5, 1, 6, 10], 0, 0, []), (9, [], .invokevirtual 79, [3, 141, 2, 1, 2, 10], 0, 0, []), (12, [], .ireturn, [1, 0], 0, 0, [])]
/-- 144: OneNoteModel.addOne(IIII)I -/
def K144 : List je := [(0, [], .iload_n 2, [1], 0, 0, []), (1, [], .i2l, [1], 0, 0, []), (2, [], .lconst 0, [1], 0, 0, []), (3, [], .ldc2_w 55, [3], 0, 5, []), (6, [], .invokestatic 57, [3, 140, 3, 1, 6, 200], 0, 0, []), (9, [], .ifCond .eq 23, [3, 32], 0, 0, []), (12, [], .iload_n 3, [1], 0, 0, []), (13, [], .i2l, [1], 0, 0, []), (14, [], .lconst 0, [1], 0, 0, []), (15, [], .ldc2_w 65, [3], 0, 11, []), (18, [], .invokestatic 57, [3, 140, 3, 1, 6, 200], 0, 0, []), (21, [], .ifCond .eq 11, [3, 32], 0, 0, []), (24, [], .iload 4, [2], 0, 0, []), (26, [], .invokestatic 61, [3, 139, 1, 1, 1, 200], 0, 0, []), (29, [], .ifCond .ne 6, [3, 35], 0, 0, []), (32, [], .bipush (-2), [2], (-2), 0, []), (34, [], .ireturn, [1, 0], 0, 0, []), (35, [], .aload_n 0, [1], 0, 0, []), (36, [], .getfield 7, [3, 10, 0, 2, 1560, 1], 0, 0, []), (39, [], .iload_n 1, [1], 0, 0, []), (40, [], .bipush 72, [2], 72, 0, []), (42, [], .iadd, [1], 0, 0, []), (43, [], .iaload, [1], 0, 0, []), (44, [], .istore 5, [2], 0, 0, []), (46, [], .iload 5, [2], 0, 0, []), (48, [], .bipush 7, [2], 7, 0, []), (50, [], .if_icmp .ne 6, [3, 56], 0, 0, []), (53, [], .bipush (-4), [2], (-4), 0, []), (55, [], .ireturn, [1, 0], 0, 0, []), (56, [], .aload_n 0, [1], 0, 0, []), (57, [], .getfield 7, [3, 10, 0, 2, 1560, 1], 0, 0, []), (60, [], .iload_n 1, [1], 0, 0, []), (61, [], .bipush 73, [2], 73, 0, []), (63, [], .iadd, [1], 0, 0, []), (64, [], .iload 5, [2], 0, 0, []), (66, [], .iadd, [1], 0, 0, []), (67, [], .iload_n 2, [1], 0, 0, []), (68, [], .iastore, [1], 0, 0, []), (69, [], .aload_n 0, [1], 0, 0, []), (70, [], .getfield 7, [3, 10, 0, 2, 1560, 1], 0, 0, []), (73, [], .iload_n 1, [1], 0, 0, []), (74, [], .bipush 80, [2], 80, 0, []), (76, [], .iadd, [1], 0, 0, []), (77, [], .iload 5, [2], 0, 0, []), (79, [], .iadd, [1], 0, 0, []), (80, [], .iload_n 3, [1], 0, 0, []), (81, [], .iastore, [1], 0, 0, []), (82, [], .aload_n 0, [1], 0, 0, []), (83, [], .getfield 7, [3, 10, 0, 2, 1560, 1], 0, 0, []), (86, [], .iload_n 1, [1], 0, 0, []), (87, [], .bipush 87, [2], 87, 0, []), (89, [], .iadd, [1], 0, 0, []), (90, [], .iload 5, [2], 0, 0, []), (92, [], .iadd, [1], 0, 0, []), (93, [], .iload 4, [2], 0, 0, []), (95, [], .iastore, [1], 0, 0, []), (96, [], .aload_n 0, [1], 0, 0, []), (97, [], .getfield 7, [3, 10, 0, 2, 1560, 1], 0, 0, []), (100, [], .iload_n 1, [1], 0, 0, []), (101, [], .bipush 94, [2], 94, 0, []), (103, [], .iadd, [1], 0, 0, []), (104, [], .iload 5, [2], 0, 0, []), (106, [], .iadd, [1], 0, 0, []), (107, [], .iconst (-1), [1], (-1), 0, []), (108, [], .iastore, [1], 0, 0, []), (109, [], .aload_n 0, [1], 0, 0, []), (110, [], .getfield 7, [3, 10, 0, 2, 1560, 1], 0, 0, []), (113, [], .iload_n 1, [1], 0, 0, []), (114, [], .bipush 72, [2], 72, 0, []), (116, [], .iadd, [1], 0, 0, []), (117, [], .dup2, [1], 0, 0, []), (118, [], .iaload, [1], 0, 0, []), (119, [], .iconst 1, [1], 1, 0, []), (120, [], .iadd, [1], 0, 0, []), (121, [], .iastore, [1], 0, 0, []), (122, [], .iload 5, [2], 0, 0, []), (124, [], .ireturn, [1, 0], 0, 0, [])]
/-- 145: OneNoteModel.mates(II)I -/
def K145 : List je := [(0, [], .aload_n 0, [1], 0, 0, []), (1, [], .aload_n 0, [1], 0, 0, []), (2, [], .iconst 0, [1], 0, 0, []), (3, [], .iload_n 1, [1], 0, 0, []), (4, [], .iload_n 2, [1], 0, 0, []), (5, [], .invokevirtual 86, [3, 146, 4, 1, 4, 10], 0, 0, []), (8, [], .invokevirtual 79, [3, 141, 2, 1, 2, 10], 0, 0, []), (11, [], .ireturn, [1, 0], 0, 0, [])]
/-- 146: OneNoteModel.addMates(III)I -/
def K146 : List je := [(0, [], .aload_n 0, [1], 0, 0, []), (1, [], .iload_n 1, [1], 0, 0, []), (2, [], .iload_n 2, [1], 0, 0, []), (3, [], .invokevirtual 67, [3, 147, 3, 1, 3, 10], 0, 0, []), (6, [], .ifCond .eq 17, [3, 23], 0, 0, []), (9, [], .aload_n 0, [1], 0, 0, []), (10, [], .iload_n 1, [1], 0, 0, []), (11, [], .iload_n 3, [1], 0, 0, []), (12, [], .invokevirtual 67, [3, 147, 3, 1, 3, 10], 0, 0, []), (15, [], .ifCond .eq 8, [3, 23], 0, 0, []), (18, [], .iload_n 2, [1], 0, 0, []), (19, [], .iload_n 3, [1], 0, 0, []), (20, [], .if_icmp .ne 6, [3, 26], 0, 0, []), (23, [0, 1, 2, 3], .bipush (-2), [2], (-2), 0, []), (25, [], .ireturn, [1, 0], 0, 0, []), (26, [], .aload_n 0, [1], 0, 0, []), (27, [], .getfield 7, [3, 10, 0, 2, 1560, 1], 0, 0, []), (30, [], .iload_n 1, [1], 0, 0, []), (31, [], .bipush 94, [2], 94, 0, []), (33, [], .iadd, [1], 0, 0, []), (34, [], .iload_n 2, [1], 0, 0, []), (35, [], .iadd, [1], 0, 0, []), (36, [], .iaload, [1], 0, 0, []), (37, [], .iconst (-1), [1], (-1), 0, []), (38, [], .if_icmp .ne 18, [3, 56], 0, 0, []), (41, [], .aload_n 0, [1], 0, 0, []), (42, [], .getfield 7, [3, 10, 0, 2, 1560, 1], 0, 0, []), (45, [], .iload_n 1, [1], 0, 0, []), (46, [], .bipush 94, [2], 94, 0, []), (48, [], .iadd, [1], 0, 0, []), (49, [], .iload_n 3, [1], 0, 0, []), (50, [], .iadd, [1], 0, 0, []), (51, [], .iaload, [1], 0, 0, []), (52, [], .iconst (-1), [1], (-1), 0, []), (53, [], .if_icmp .eq 6, [3, 59], 0, 0, []), (56, [0, 1, 2, 3], .bipush (-3), [2], (-3), 0, []), (58, [], .ireturn, [1, 0], 0, 0, []), (59, [], .aload_n 0, [1], 0, 0, []), (60, [], .getfield 7, [3, 10, 0, 2, 1560, 1], 0, 0, []), (63, [], .iload_n 1, [1], 0, 0, []), (64, [], .bipush 94, [2], 94, 0, []), (66, [], .iadd, [1], 0, 0, []), (67, [], .iload_n 2, [1], 0, 0, []), (68, [], .iadd, [1], 0, 0, []), (69, [], .iload_n 3, [1], 0, 0, []), (70, [], .iastore, [1], 0, 0, []), (71, [], .aload_n 0, [1], 0, 0, []), (72, [], .getfield 7, [3, 10, 0, 2, 1560, 1], 0, 0, []), (75, [], .iload_n 1, [1], 0, 0, []), (76, [], .bipush 94, [2], 94, 0, []), (78, [], .iadd, [1], 0, 0, []), (79, [], .iload_n 3, [1], 0, 0, []), (80, [], .iadd, [1], 0, 0, []), (81, [], .iload_n 2, [1], 0, 0, []), (82, [], .iastore, [1], 0, 0, []), (83, [], .iconst 1, [1], 1, 0, []), (84, [], .ireturn, [1, 0], 0, 0, [])]
/-- 147: OneNoteModel.isOne(II)Z -/
def K147 : List je := [(0, [], .iload_n 2, [1], 0, 0, []), (1, [], .i2l, [1], 0, 0, []), (2, [], .lconst 0, [1], 0, 0, []), (3, [], .aload_n 0, [1], 0, 0, []), (4, [], .getfield 7, [3, 10, 0, 2, 1560, 1], 0, 0, []), (7, [], .iload_n 1, [1], 0, 0, []), (8, [], .bipush 72, [2], 72, 0, []), (10, [], .iadd, [1], 0, 0, []), (11, [], .iaload, [1], 0, 0, []), (12, [], .iconst 1, [1], 1, 0, []), (13, [], .isub, [1], 0, 0, []), (14, [], .i2l, [1], 0, 0, []), (15, [], .invokestatic 57, [3, 140, 3, 1, 6, 200], 0, 0, []), (18, [], .ireturn, [1, 1], 0, 0, [])]
/-- 148: OneNoteModel.goes(II)I -/
def K148 : List je := [(0, [], .aload_n 0, [1], 0, 0, []), (1, [], .iconst 0, [1], 0, 0, []), (2, [], .iload_n 1, [1], 0, 0, []), (3, [], .invokevirtual 67, [3, 147, 3, 1, 3, 10], 0, 0, []), (6, [], .ifCond .eq 10, [3, 16], 0, 0, []), (9, [], .iload_n 2, [1], 0, 0, []), (10, [], .invokestatic 61, [3, 139, 1, 1, 1, 200], 0, 0, []), (13, [], .ifCond .ne 10, [3, 23], 0, 0, []), (16, [], .aload_n 0, [1], 0, 0, []), (17, [], .bipush (-2), [2], (-2), 0, []), (19, [], .invokevirtual 79, [3, 141, 2, 1, 2, 10], 0, 0, []), (22, [], .ireturn, [1, 0], 0, 0, []), (23, [], .aload_n 0, [1], 0, 0, []), (24, [], .getfield 7, [3, 10, 0, 2, 1560, 1], 0, 0, []), (27, [], .bipush 87, [2], 87, 0, []), (29, [], .iload_n 1, [1], 0, 0, []), (30, [], .iadd, [1], 0, 0, []), (31, [], .iaload, [1], 0, 0, []), (32, [], .istore_n 3, [1], 0, 0, []), (33, [], .aload_n 0, [1], 0, 0, []), (34, [], .getfield 7, [3, 10, 0, 2, 1560, 1], 0, 0, []), (37, [], .bipush 87, [2], 87, 0, []), (39, [], .iload_n 1, [1], 0, 0, []), (40, [], .iadd, [1], 0, 0, []), (41, [], .iload_n 2, [1], 0, 0, []), (42, [], .iastore, [1], 0, 0, []), (43, [], .iload_n 3, [1], 0, 0, []), (44, [], .ireturn, [1, 0], 0, 0, [])]
/-- 149: OneNoteModel.chord(IIII)I -/
def K149 : List je := [(0, [], .aload_n 0, [1], 0, 0, []), (1, [], .aload_n 0, [1], 0, 0, []), (2, [], .iconst 0, [1], 0, 0, []), (3, [], .iload_n 1, [1], 0, 0, []), (4, [], .iload_n 2, [1], 0, 0, []), (5, [], .iload_n 3, [1], 0, 0, []), (6, [], .iload 4, [2], 0, 0, []), (8, [], .invokevirtual 90, [3, 150, 6, 1, 9, 10], 0, 0, []), (11, [], .invokevirtual 79, [3, 141, 2, 1, 2, 10], 0, 0, []), (14, [], .ireturn, [1, 0], 0, 0, [])]
/-- 150: OneNoteModel.addChord(IIIII)I -/
def K150 : List je := [(0, [], .iload_n 2, [1], 0, 0, []), (1, [], .ifCond .lt 34, [3, 35], 0, 0, []), (4, [], .iload_n 3, [1], 0, 0, []), (5, [], .iload_n 2, [1], 0, 0, []), (6, [], .if_icmp .le 29, [3, 35], 0, 0, []), (9, [], .iload 4, [2], 0, 0, []), (11, [], .iload_n 3, [1], 0, 0, []), (12, [], .if_icmp .le 23, [3, 35], 0, 0, []), (15, [], .iload 4, [2], 0, 0, []), (17, [], .bipush 12, [2], 12, 0, []), (19, [], .if_icmp .ge 16, [3, 35], 0, 0, []), (22, [], .iload 5, [2], 0, 0, []), (24, [], .i2l, [1], 0, 0, []), (25, [], .lconst 1, [1], 0, 1, []), (26, [], .ldc2_w 71, [3], 0, 9, []), (29, [], .invokestatic 57, [3, 140, 3, 1, 6, 200], 0, 0, []), (32, [], .ifCond .ne 6, [3, 38], 0, 0, []), (35, [0, 1, 2, 3, 4, 5, 6, 7, 8], .bipush (-2), [2], (-2), 0, []), (37, [], .ireturn, [1, 0], 0, 0, []), (38, [], .iconst 1, [1], 1, 0, []), (39, [], .iload_n 2, [1], 0, 0, []), (40, [], .ishl, [1], 0, 0, []), (41, [], .iconst 1, [1], 1, 0, []), (42, [], .iload_n 3, [1], 0, 0, []), (43, [], .ishl, [1], 0, 0, []), (44, [], .ior, [1], 0, 0, []), (45, [], .iconst 1, [1], 1, 0, []), (46, [], .iload 4, [2], 0, 0, []), (48, [], .ishl, [1], 0, 0, []), (49, [], .ior, [1], 0, 0, []), (50, [], .istore 6, [2], 0, 0, []), (52, [], .aload_n 0, [1], 0, 0, []), (53, [], .getfield 7, [3, 10, 0, 2, 1560, 1], 0, 0, []), (56, [], .iload_n 1, [1], 0, 0, []), (57, [], .bipush 101, [2], 101, 0, []), (59, [], .iadd, [1], 0, 0, []), (60, [], .iaload, [1], 0, 0, []), (61, [], .istore 7, [2], 0, 0, []), (63, [], .iconst 0, [1], 0, 0, []), (64, [], .istore 8, [2], 0, 0, []), (66, [2, 3, 4], .iload 8, [2], 0, 0, []), (68, [], .iload 7, [2], 0, 0, []), (70, [], .if_icmp .ge 29, [3, 99], 0, 0, []), (73, [], .aload_n 0, [1], 0, 0, []), (74, [], .getfield 7, [3, 10, 0, 2, 1560, 1], 0, 0, []), (77, [], .iload_n 1, [1], 0, 0, []), (78, [], .bipush 102, [2], 102, 0, []), (80, [], .iadd, [1], 0, 0, []), (81, [], .iload 8, [2], 0, 0, []), (83, [], .iadd, [1], 0, 0, []), (84, [], .iaload, [1], 0, 0, []), (85, [], .iload 6, [2], 0, 0, []), (87, [], .if_icmp .ne 6, [3, 93], 0, 0, []), (90, [], .bipush (-2), [2], (-2), 0, []), (92, [], .ireturn, [1, 0], 0, 0, []), (93, [], .iinc 8 1, [3], 1, 0, []), (96, [], .goto (-30), [3, 66], 0, 0, []), (99, [], .iload 7, [2], 0, 0, []), (101, [], .bipush 8, [2], 8, 0, []), (103, [], .if_icmp .ne 6, [3, 109], 0, 0, []), (106, [], .bipush (-4), [2], (-4), 0, []), (108, [], .ireturn, [1, 0], 0, 0, []), (109, [], .aload_n 0, [1], 0, 0, []), (110, [], .getfield 7, [3, 10, 0, 2, 1560, 1], 0, 0, []), (113, [], .iload_n 1, [1], 0, 0, []), (114, [], .bipush 102, [2], 102, 0, []), (116, [], .iadd, [1], 0, 0, []), (117, [], .iload 7, [2], 0, 0, []), (119, [], .iadd, [1], 0, 0, []), (120, [], .iload 6, [2], 0, 0, []), (122, [], .iastore, [1], 0, 0, []), (123, [], .aload_n 0, [1], 0, 0, []), (124, [], .getfield 7, [3, 10, 0, 2, 1560, 1], 0, 0, []), (127, [], .iload_n 1, [1], 0, 0, []), (128, [], .bipush 110, [2], 110, 0, []), (130, [], .iadd, [1], 0, 0, []), (131, [], .iload 7, [2], 0, 0, []), (133, [], .iadd, [1], 0, 0, []), (134, [], .iload 5, [2], 0, 0, []), (136, [], .iastore, [1], 0, 0, []), (137, [], .aload_n 0, [1], 0, 0, []), (138, [], .getfield 7, [3, 10, 0, 2, 1560, 1], 0, 0, []), (141, [], .iload_n 1, [1], 0, 0, []), (142, [], .bipush 101, [2], 101, 0, []), (144, [], .iadd, [1], 0, 0, []), (145, [], .dup2, [1], 0, 0, []), (146, [], .iaload, [1], 0, 0, []), (147, [], .iconst 1, [1], 1, 0, []), (148, [], .iadd, [1], 0, 0, []), (149, [], .iastore, [1], 0, 0, []), (150, [], .iload 7, [2], 0, 0, []), (152, [], .ireturn, [1, 0], 0, 0, [])]
/-- 151: OneNoteModel.slack(I)I -/
def K151 : List je := [(0, [], .aload_n 0, [1], 0, 0, []), (1, [], .aload_n 0, [1], 0, 0, []), (2, [], .iconst 0, [1], 0, 0, []), (3, [], .iload_n 1, [1], 0, 0, []), (4, [], .invokevirtual 94, [3, 152, 3, 1, 4, 10], 0, 0, []), (7, [], .invokevirtual 79, [3, 141, 2, 1, 2, 10], 0, 0, []), (10, [], .ireturn, [1, 0], 0, 0, [])]
/-- 152: OneNoteModel.setSlack(II)I -/
def K152 : List je := [(0, [], .iload_n 2, [1], 0, 0, []), (1, [], .i2l, [1], 0, 0, []), (2, [], .lconst 0, [1], 0, 0, []), (3, [], .ldc2_w 73, [3], 0, 2, []), (6, [], .invokestatic 57, [3, 140, 3, 1, 6, 200], 0, 0, []), (9, [], .ifCond .ne 6, [3, 15], 0, 0, []), (12, [], .bipush (-2), [2], (-2), 0, []), (14, [], .ireturn, [1, 0], 0, 0, []), (15, [], .aload_n 0, [1], 0, 0, []), (16, [], .getfield 7, [3, 10, 0, 2, 1560, 1], 0, 0, []), (19, [], .iload_n 1, [1], 0, 0, []), (20, [], .bipush 118, [2], 118, 0, []), (22, [], .iadd, [1], 0, 0, []), (23, [], .iaload, [1], 0, 0, []), (24, [], .istore_n 3, [1], 0, 0, []), (25, [], .aload_n 0, [1], 0, 0, []), (26, [], .getfield 7, [3, 10, 0, 2, 1560, 1], 0, 0, []), (29, [], .iload_n 1, [1], 0, 0, []), (30, [], .bipush 118, [2], 118, 0, []), (32, [], .iadd, [1], 0, 0, []), (33, [], .iload_n 2, [1], 0, 0, []), (34, [], .iastore, [1], 0, 0, []), (35, [], .iload_n 3, [1], 0, 0, []), (36, [], .ireturn, [1, 0], 0, 0, [])]
/-- 153: OneNoteModel.sounds(II)I -/
def K153 : List je := [(0, [], .aload_n 0, [1], 0, 0, []), (1, [], .iload_n 2, [1], 0, 0, []), (2, [], .invokevirtual 104, [3, 154, 2, 1, 2, 10], 0, 0, []), (5, [], .ifCond .eq 20, [3, 25], 0, 0, []), (8, [], .aload_n 0, [1], 0, 0, []), (9, [], .iconst 0, [1], 0, 0, []), (10, [], .iload_n 1, [1], 0, 0, []), (11, [], .invokevirtual 67, [3, 147, 3, 1, 3, 10], 0, 0, []), (14, [], .ifCond .eq 11, [3, 25], 0, 0, []), (17, [], .iload_n 2, [1], 0, 0, []), (18, [], .iload_n 1, [1], 0, 0, []), (19, [], .invokestatic 101, [3, 155, 2, 1, 2, 200], 0, 0, []), (22, [], .ifCond .ne 10, [3, 32], 0, 0, []), (25, [], .aload_n 0, [1], 0, 0, []), (26, [], .bipush (-2), [2], (-2), 0, []), (28, [], .invokevirtual 79, [3, 141, 2, 1, 2, 10], 0, 0, []), (31, [], .ireturn, [1, 0], 0, 0, []), (32, [], .aload_n 0, [1], 0, 0, []), (33, [], .iconst 0, [1], 0, 0, []), (34, [], .iload_n 1, [1], 0, 0, []), (35, [], .iload_n 2, [1], 0, 0, []), (36, [], .invokevirtual 107, [3, 156, 4, 1, 7, 10], 0, 0, []), (39, [], .ireturn, [1, 0], 0, 0, [])]
/-- 154: OneNoteModel.isSet(I)Z -/
def K154 : List je := [(0, [], .iload_n 1, [1], 0, 0, []), (1, [], .i2l, [1], 0, 0, []), (2, [], .lconst 0, [1], 0, 0, []), (3, [], .iconst 1, [1], 1, 0, []), (4, [], .aload_n 0, [1], 0, 0, []), (5, [], .getfield 7, [3, 10, 0, 2, 1560, 1], 0, 0, []), (8, [], .bipush 72, [2], 72, 0, []), (10, [], .iaload, [1], 0, 0, []), (11, [], .ishl, [1], 0, 0, []), (12, [], .iconst 1, [1], 1, 0, []), (13, [], .isub, [1], 0, 0, []), (14, [], .i2l, [1], 0, 0, []), (15, [], .invokestatic 57, [3, 140, 3, 1, 6, 200], 0, 0, []), (18, [], .ireturn, [1, 1], 0, 0, [])]
/-- 155: OneNoteModel.has(II)Z -/
def K155 : List je := [(0, [], .iload_n 0, [1], 0, 0, []), (1, [], .iload_n 1, [1], 0, 0, []), (2, [], .ishr, [1], 0, 0, []), (3, [], .iconst 1, [1], 1, 0, []), (4, [], .iand, [1], 0, 0, []), (5, [], .iconst 1, [1], 1, 0, []), (6, [], .if_icmp .ne 7, [3, 13], 0, 0, []), (9, [], .iconst 1, [1], 1, 0, []), (10, [], .goto 4, [3, 14], 0, 0, []), (13, [], .iconst 0, [1], 0, 0, []), (14, [], .ireturn, [1, 1], 0, 0, [])]
/-- 156: OneNoteModel.soundsOf(III)I -/
def K156 : List je := [(0, [], .iconst 1, [1], 1, 0, []), (1, [], .aload_n 0, [1], 0, 0, []), (2, [], .getfield 7, [3, 10, 0, 2, 1560, 1], 0, 0, []), (5, [], .iload_n 1, [1], 0, 0, []), (6, [], .bipush 80, [2], 80, 0, []), (8, [], .iadd, [1], 0, 0, []), (9, [], .iload_n 2, [1], 0, 0, []), (10, [], .iadd, [1], 0, 0, []), (11, [], .iaload, [1], 0, 0, []), (12, [], .ishl, [1], 0, 0, []), (13, [], .istore 4, [2], 0, 0, []), (15, [], .aload_n 0, [1], 0, 0, []), (16, [], .getfield 7, [3, 10, 0, 2, 1560, 1], 0, 0, []), (19, [], .iload_n 1, [1], 0, 0, []), (20, [], .bipush 73, [2], 73, 0, []), (22, [], .iadd, [1], 0, 0, []), (23, [], .iload_n 2, [1], 0, 0, []), (24, [], .iadd, [1], 0, 0, []), (25, [], .iaload, [1], 0, 0, []), (26, [], .istore 5, [2], 0, 0, []), (28, [], .iload 5, [2], 0, 0, []), (30, [], .iconst 1, [1], 1, 0, []), (31, [], .if_icmp .ne 22, [3, 53], 0, 0, []), (34, [], .iload_n 3, [1], 0, 0, []), (35, [], .iconst 1, [1], 1, 0, []), (36, [], .iload_n 2, [1], 0, 0, []), (37, [], .ishl, [1], 0, 0, []), (38, [], .if_icmp .ne 8, [3, 46], 0, 0, []), (41, [], .iload 4, [2], 0, 0, []), (43, [], .goto 9, [3, 52], 0, 0, []), (46, [], .iload 4, [2], 0, 0, []), (48, [], .iconst 1, [1], 1, 0, []), (49, [], .invokestatic 98, [3, 157, 2, 1, 3, 200], 0, 0, []), (52, [0, 1, 2, 3, 4, 5, 6], .ireturn, [1, 0], 0, 0, []), (53, [], .iload 5, [2], 0, 0, []), (55, [], .iconst 2, [1], 2, 0, []), (56, [], .if_icmp .ne 47, [3, 103], 0, 0, []), (59, [], .aload_n 0, [1], 0, 0, []), (60, [], .getfield 7, [3, 10, 0, 2, 1560, 1], 0, 0, []), (63, [], .iload_n 1, [1], 0, 0, []), (64, [], .bipush 94, [2], 94, 0, []), (66, [], .iadd, [1], 0, 0, []), (67, [], .iload_n 2, [1], 0, 0, []), (68, [], .iadd, [1], 0, 0, []), (69, [], .iaload, [1], 0, 0, []), (70, [], .istore 6, [2], 0, 0, []), (72, [], .iload 6, [2], 0, 0, []), (74, [], .iconst (-1), [1], (-1), 0, []), (75, [], .if_icmp .eq 25, [3, 100], 0, 0, []), (78, [], .iload_n 3, [1], 0, 0, []), (79, [], .iload 6, [2], 0, 0, []), (81, [], .invokestatic 101, [3, 155, 2, 1, 2, 200], 0, 0, []), (84, [], .ifCond .eq 16, [3, 100], 0, 0, []), (87, [], .iload 4, [2], 0, 0, []), (89, [], .iload 4, [2], 0, 0, []), (91, [], .bipush 7, [2], 7, 0, []), (93, [], .invokestatic 98, [3, 157, 2, 1, 3, 200], 0, 0, []), (96, [], .ior, [1], 0, 0, []), (97, [], .goto 5, [3, 102], 0, 0, []), (100, [0, 1, 2, 3, 5, 6], .iload 4, [2], 0, 0, []), (102, [0, 1, 2, 3, 4, 5, 6], .ireturn, [1, 0], 0, 0, []), (103, [], .iload 5, [2], 0, 0, []), (105, [], .iconst 2, [1], 2, 0, []), (106, [], .if_icmp .ge 6, [3, 112], 0, 0, []), (109, [], .iload 4, [2], 0, 0, []), (111, [], .ireturn, [1, 0], 0, 0, []), (112, [], .iload 4, [2], 0, 0, []), (114, [], .iload 4, [2], 0, 0, []), (116, [], .iconst 1, [1], 1, 0, []), (117, [], .invokestatic 98, [3, 157, 2, 1, 3, 200], 0, 0, []), (120, [], .ior, [1], 0, 0, []), (121, [], .iload 5, [2], 0, 0, []), (123, [], .iconst 5, [1], 5, 0, []), (124, [], .if_icmp .ne 13, [3, 137], 0, 0, []), (127, [], .iload 4, [2], 0, 0, []), (129, [], .bipush 6, [2], 6, 0, []), (131, [], .invokestatic 98, [3, 157, 2, 1, 3, 200], 0, 0, []), (134, [], .goto 4, [3, 138], 0, 0, []), (137, [], .iconst 0, [1], 0, 0, []), (138, [0, 1, 2, 3, 4, 5, 6], .ior, [1], 0, 0, []), (139, [], .ireturn, [1, 0], 0, 0, [])]
/-- 157: OneNoteModel.turned(II)I -/
def K157 : List je := [(0, [], .iload_n 0, [1], 0, 0, []), (1, [], .iload_n 1, [1], 0, 0, []), (2, [], .ishl, [1], 0, 0, []), (3, [], .istore_n 2, [1], 0, 0, []), (4, [], .iload_n 2, [1], 0, 0, []), (5, [], .iload_n 2, [1], 0, 0, []), (6, [], .bipush 12, [2], 12, 0, []), (8, [], .ishr, [1], 0, 0, []), (9, [], .ior, [1], 0, 0, []), (10, [], .sipush 4095, [3], 4095, 0, []), (13, [], .iand, [1], 0, 0, []), (14, [], .ireturn, [1, 0], 0, 0, [])]
/-- 158: OneNoteModel.type(JI)I -/
def K158 : List je := [(0, [], .iload_n 3, [1], 0, 0, []), (1, [], .i2l, [1], 0, 0, []), (2, [], .lconst 1, [1], 0, 1, []), (3, [], .ldc2_w 110, [3], 0, 8, []), (6, [], .invokestatic 57, [3, 140, 3, 1, 6, 200], 0, 0, []), (9, [], .ifCond .ne 10, [3, 19], 0, 0, []), (12, [], .aload_n 0, [1], 0, 0, []), (13, [], .bipush (-2), [2], (-2), 0, []), (15, [], .invokevirtual 79, [3, 141, 2, 1, 2, 10], 0, 0, []), (18, [], .ireturn, [1, 0], 0, 0, []), (19, [], .aload_n 0, [1], 0, 0, []), (20, [], .getfield 112, [3, 10, 3, 0, 0, 0], 0, 0, []), (23, [], .iload_n 3, [1], 0, 0, []), (24, [], .iadd, [1], 0, 0, []), (25, [], .sipush 200, [3], 200, 0, []), (28, [], .if_icmp .le 10, [3, 38], 0, 0, []), (31, [], .aload_n 0, [1], 0, 0, []), (32, [], .bipush (-4), [2], (-4), 0, []), (34, [], .invokevirtual 79, [3, 141, 2, 1, 2, 10], 0, 0, []), (37, [], .ireturn, [1, 0], 0, 0, []), (38, [], .iload_n 3, [1], 0, 0, []), (39, [], .iconst 1, [1], 1, 0, []), (40, [], .isub, [1], 0, 0, []), (41, [], .istore 4, [2], 0, 0, []), (43, [2, 3], .iload 4, [2], 0, 0, []), (45, [], .ifCond .lt 40, [3, 85], 0, 0, []), (48, [], .aload_n 0, [1], 0, 0, []), (49, [], .getfield 17, [3, 10, 2, 2, 1200, 3], 0, 0, []), (52, [], .aload_n 0, [1], 0, 0, []), (53, [], .getfield 112, [3, 10, 3, 0, 0, 0], 0, 0, []), (56, [], .lload_n 1, [1], 0, 0, []), (57, [], .bipush 8, [2], 8, 0, []), (59, [], .iload 4, [2], 0, 0, []), (61, [], .imul, [1], 0, 0, []), (62, [], .lshr, [1], 0, 0, []), (63, [], .ldc2_w 116, [3], 0, 255, []), (66, [], .land, [1], 0, 0, []), (67, [], .l2i, [1], 0, 0, []), (68, [], .iastore, [1], 0, 0, []), (69, [], .aload_n 0, [1], 0, 0, []), (70, [], .dup, [1], 0, 0, []), (71, [], .getfield 112, [3, 10, 3, 0, 0, 0], 0, 0, []), (74, [], .iconst 1, [1], 1, 0, []), (75, [], .iadd, [1], 0, 0, []), (76, [], .putfield 112, [3, 10, 3, 0], 0, 0, []), (79, [], .iinc 4 (-1), [3], (-1), 0, []), (82, [], .goto (-39), [3, 43], 0, 0, []), (85, [], .aload_n 0, [1], 0, 0, []), (86, [], .getfield 112, [3, 10, 3, 0, 0, 0], 0, 0, []), (89, [], .ireturn, [1, 0], 0, 0, [])]
/-- 159: OneNoteModel.clear()I -/
def K159 : List je := [(0, [], .aload_n 0, [1], 0, 0, []), (1, [], .getfield 112, [3, 10, 3, 0, 0, 0], 0, 0, []), (4, [], .istore_n 1, [1], 0, 0, []), (5, [], .aload_n 0, [1], 0, 0, []), (6, [], .iconst 0, [1], 0, 0, []), (7, [], .putfield 112, [3, 10, 3, 0], 0, 0, []), (10, [], .iload_n 1, [1], 0, 0, []), (11, [], .ireturn, [1, 0], 0, 0, [])]
/-- 160: OneNoteModel.read()I -/
def K160 : List je := [(0, [], .aload_n 0, [1], 0, 0, []), (1, [], .iconst 0, [1], 0, 0, []), (2, [], .putfield 118, [3, 10, 10, 0], 0, 0, []), (5, [], .aload_n 0, [1], 0, 0, []), (6, [], .iconst 0, [1], 0, 0, []), (7, [], .putfield 160, [3, 10, 9, 0], 0, 0, []), (10, [], .aload_n 0, [1], 0, 0, []), (11, [], .iconst (-1), [1], (-1), 0, []), (12, [], .putfield 145, [3, 10, 11, 0], 0, 0, []), (15, [1], .aload_n 0, [1], 0, 0, []), (16, [], .getfield 145, [3, 10, 11, 0, 0, 0], 0, 0, []), (19, [], .iconst (-1), [1], (-1), 0, []), (20, [], .if_icmp .ne 17, [3, 37], 0, 0, []), (23, [], .aload_n 0, [1], 0, 0, []), (24, [], .invokevirtual 148, [3, 161, 1, 1, 1, 10], 0, 0, []), (27, [], .ifCond .ne 10, [3, 37], 0, 0, []), (30, [], .aload_n 0, [1], 0, 0, []), (31, [], .invokevirtual 169, [3, 162, 1, 0, 3, 10], 0, 0, []), (34, [], .goto (-19), [3, 15], 0, 0, []), (37, [], .aload_n 0, [1], 0, 0, []), (38, [], .getfield 145, [3, 10, 11, 0, 0, 0], 0, 0, []), (41, [], .iconst (-1), [1], (-1), 0, []), (42, [], .if_icmp .eq 11, [3, 53], 0, 0, []), (45, [], .bipush (-10), [2], (-10), 0, []), (47, [], .aload_n 0, [1], 0, 0, []), (48, [], .getfield 145, [3, 10, 11, 0, 0, 0], 0, 0, []), (51, [], .isub, [1], 0, 0, []), (52, [], .ireturn, [1, 0], 0, 0, []), (53, [], .iconst 0, [1], 0, 0, []), (54, [], .istore_n 1, [1], 0, 0, []), (55, [], .iload_n 1, [1], 0, 0, []), (56, [], .sipush 140, [3], 140, 0, []), (59, [], .if_icmp .ge 20, [3, 79], 0, 0, []), (62, [], .aload_n 0, [1], 0, 0, []), (63, [], .getfield 7, [3, 10, 0, 2, 1560, 1], 0, 0, []), (66, [], .sipush 420, [3], 420, 0, []), (69, [], .iload_n 1, [1], 0, 0, []), (70, [], .iadd, [1], 0, 0, []), (71, [], .iconst 0, [1], 0, 0, []), (72, [], .iastore, [1], 0, 0, []), (73, [], .iinc 1 1, [3], 1, 0, []), (76, [], .goto (-21), [3, 55], 0, 0, []), (79, [], .iconst 0, [1], 0, 0, []), (80, [], .istore_n 1, [1], 0, 0, []), (81, [], .iload_n 1, [1], 0, 0, []), (82, [], .aload_n 0, [1], 0, 0, []), (83, [], .getfield 160, [3, 10, 9, 0, 0, 0], 0, 0, []), (86, [], .if_icmp .ge 23, [3, 109], 0, 0, []), (89, [], .aload_n 0, [1], 0, 0, []), (90, [], .iload_n 1, [1], 0, 0, []), (91, [], .invokevirtual 172, [3, 167, 2, 1, 5, 10], 0, 0, []), (94, [], .ifCond .ge 9, [3, 103], 0, 0, []), (97, [], .sipush (-1000), [3], (-1000), 0, []), (100, [], .iload_n 1, [1], 0, 0, []), (101, [], .isub, [1], 0, 0, []), (102, [], .ireturn, [1, 0], 0, 0, []), (103, [], .iinc 1 1, [3], 1, 0, []), (106, [], .goto (-25), [3, 81], 0, 0, []), (109, [], .aload_n 0, [1], 0, 0, []), (110, [], .sipush 420, [3], 420, 0, []), (113, [], .iconst 0, [1], 0, 0, []), (114, [], .invokevirtual 175, [3, 168, 3, 0, 4, 10], 0, 0, []), (117, [], .aload_n 0, [1], 0, 0, []), (118, [], .getfield 160, [3, 10, 9, 0, 0, 0], 0, 0, []), (121, [], .ireturn, [1, 0], 0, 0, [])]
/-- 161: OneNoteModel.isEnd()Z -/
def K161 : List je := [(0, [], .aload_n 0, [1], 0, 0, []), (1, [], .getfield 118, [3, 10, 10, 0, 0, 0], 0, 0, []), (4, [], .aload_n 0, [1], 0, 0, []), (5, [], .getfield 112, [3, 10, 3, 0, 0, 0], 0, 0, []), (8, [], .if_icmp .ge 30, [3, 38], 0, 0, []), (11, [], .aload_n 0, [1], 0, 0, []), (12, [], .getfield 17, [3, 10, 2, 2, 1200, 3], 0, 0, []), (15, [], .aload_n 0, [1], 0, 0, []), (16, [], .getfield 118, [3, 10, 10, 0, 0, 0], 0, 0, []), (19, [], .iaload, [1], 0, 0, []), (20, [], .bipush 32, [2], 32, 0, []), (22, [], .if_icmp .ne 16, [3, 38], 0, 0, []), (25, [], .aload_n 0, [1], 0, 0, []), (26, [], .dup, [1], 0, 0, []), (27, [], .getfield 118, [3, 10, 10, 0, 0, 0], 0, 0, []), (30, [], .iconst 1, [1], 1, 0, []), (31, [], .iadd, [1], 0, 0, []), (32, [], .putfield 118, [3, 10, 10, 0], 0, 0, []), (35, [], .goto (-35), [3, 0], 0, 0, []), (38, [], .aload_n 0, [1], 0, 0, []), (39, [], .getfield 118, [3, 10, 10, 0, 0, 0], 0, 0, []), (42, [], .aload_n 0, [1], 0, 0, []), (43, [], .getfield 112, [3, 10, 3, 0, 0, 0], 0, 0, []), (46, [], .if_icmp .ne 7, [3, 53], 0, 0, []), (49, [], .iconst 1, [1], 1, 0, []), (50, [], .goto 4, [3, 54], 0, 0, []), (53, [], .iconst 0, [1], 0, 0, []), (54, [], .ireturn, [1, 1], 0, 0, [])]
/-- 162: OneNoteModel.takeItem()V -/
def K162 : List je := [(0, [], .aload_n 0, [1], 0, 0, []), (1, [], .invokevirtual 156, [3, 163, 1, 1, 5, 10], 0, 0, []), (4, [], .istore_n 1, [1], 0, 0, []), (5, [], .aload_n 0, [1], 0, 0, []), (6, [], .getfield 27, [3, 10, 7, 2, 1040, 5], 0, 0, []), (9, [], .aload_n 0, [1], 0, 0, []), (10, [], .getfield 160, [3, 10, 9, 0, 0, 0], 0, 0, []), (13, [], .iload_n 1, [1], 0, 0, []), (14, [], .iastore, [1], 0, 0, []), (15, [], .iconst 0, [1], 0, 0, []), (16, [], .istore_n 2, [1], 0, 0, []), (17, [], .iload_n 2, [1], 0, 0, []), (18, [], .iload_n 1, [1], 0, 0, []), (19, [], .invokestatic 163, [3, 165, 1, 1, 1, 200], 0, 0, []), (22, [], .if_icmp .ge 34, [3, 56], 0, 0, []), (25, [], .aload_n 0, [1], 0, 0, []), (26, [], .getfield 145, [3, 10, 11, 0, 0, 0], 0, 0, []), (29, [], .iconst (-1), [1], (-1), 0, []), (30, [], .if_icmp .ne 26, [3, 56], 0, 0, []), (33, [], .aload_n 0, [1], 0, 0, []), (34, [], .getfield 30, [3, 10, 8, 2, 1160, 6], 0, 0, []), (37, [], .iconst 4, [1], 4, 0, []), (38, [], .aload_n 0, [1], 0, 0, []), (39, [], .getfield 160, [3, 10, 9, 0, 0, 0], 0, 0, []), (42, [], .imul, [1], 0, 0, []), (43, [], .iload_n 2, [1], 0, 0, []), (44, [], .iadd, [1], 0, 0, []), (45, [], .aload_n 0, [1], 0, 0, []), (46, [], .invokevirtual 166, [3, 166, 1, 1, 3, 10], 0, 0, []), (49, [], .iastore, [1], 0, 0, []), (50, [], .iinc 2 1, [3], 1, 0, []), (53, [], .goto (-36), [3, 17], 0, 0, []), (56, [1, 2], .aload_n 0, [1], 0, 0, []), (57, [], .getfield 145, [3, 10, 11, 0, 0, 0], 0, 0, []), (60, [], .iconst (-1), [1], (-1), 0, []), (61, [], .if_icmp .ne 32, [3, 93], 0, 0, []), (64, [], .aload_n 0, [1], 0, 0, []), (65, [], .invokevirtual 148, [3, 161, 1, 1, 1, 10], 0, 0, []), (68, [], .ifCond .ne 17, [3, 85], 0, 0, []), (71, [], .aload_n 0, [1], 0, 0, []), (72, [], .getfield 17, [3, 10, 2, 2, 1200, 3], 0, 0, []), (75, [], .aload_n 0, [1], 0, 0, []), (76, [], .getfield 118, [3, 10, 10, 0, 0, 0], 0, 0, []), (79, [], .iaload, [1], 0, 0, []), (80, [], .bipush 59, [2], 59, 0, []), (82, [], .if_icmp .eq 11, [3, 93], 0, 0, []), (85, [], .aload_n 0, [1], 0, 0, []), (86, [], .aload_n 0, [1], 0, 0, []), (87, [], .getfield 118, [3, 10, 10, 0, 0, 0], 0, 0, []), (90, [], .putfield 145, [3, 10, 11, 0], 0, 0, []), (93, [], .aload_n 0, [1], 0, 0, []), (94, [], .dup, [1], 0, 0, []), (95, [], .getfield 118, [3, 10, 10, 0, 0, 0], 0, 0, []), (98, [], .iconst 1, [1], 1, 0, []), (99, [], .iadd, [1], 0, 0, []), (100, [], .putfield 118, [3, 10, 10, 0], 0, 0, []), (103, [], .aload_n 0, [1], 0, 0, []), (104, [], .dup, [1], 0, 0, []), (105, [], .getfield 160, [3, 10, 9, 0, 0, 0], 0, 0, []), (108, [], .iconst 1, [1], 1, 0, []), (109, [], .iadd, [1], 0, 0, []), (110, [], .putfield 160, [3, 10, 9, 0], 0, 0, []), (113, [], .return_, [1], 0, 0, [])]
/-- 163: OneNoteModel.takeWord()I -/
def K163 : List je := [(0, [], .aload_n 0, [1], 0, 0, []), (1, [], .getfield 118, [3, 10, 10, 0, 0, 0], 0, 0, []), (4, [], .istore_n 1, [1], 0, 0, []), (5, [], .lconst 0, [1], 0, 0, []), (6, [], .lstore_n 2, [1], 0, 0, []), (7, [3, 4], .aload_n 0, [1], 0, 0, []), (8, [], .getfield 118, [3, 10, 10, 0, 0, 0], 0, 0, []), (11, [], .aload_n 0, [1], 0, 0, []), (12, [], .getfield 112, [3, 10, 3, 0, 0, 0], 0, 0, []), (15, [], .if_icmp .ge 74, [3, 89], 0, 0, []), (18, [], .aload_n 0, [1], 0, 0, []), (19, [], .getfield 17, [3, 10, 2, 2, 1200, 3], 0, 0, []), (22, [], .aload_n 0, [1], 0, 0, []), (23, [], .getfield 118, [3, 10, 10, 0, 0, 0], 0, 0, []), (26, [], .iaload, [1], 0, 0, []), (27, [], .i2l, [1], 0, 0, []), (28, [], .ldc2_w 133, [3], 0, 97, []), (31, [], .ldc2_w 135, [3], 0, 122, []), (34, [], .invokestatic 57, [3, 140, 3, 1, 6, 200], 0, 0, []), (37, [], .ifCond .eq 52, [3, 89], 0, 0, []), (40, [], .aload_n 0, [1], 0, 0, []), (41, [], .getfield 118, [3, 10, 10, 0, 0, 0], 0, 0, []), (44, [], .iload_n 1, [1], 0, 0, []), (45, [], .isub, [1], 0, 0, []), (46, [], .bipush 6, [2], 6, 0, []), (48, [], .if_icmp .ge 26, [3, 74], 0, 0, []), (51, [], .ldc2_w 137, [3], 0, 32, []), (54, [], .lload_n 2, [1], 0, 0, []), (55, [], .lmul, [1], 0, 0, []), (56, [], .aload_n 0, [1], 0, 0, []), (57, [], .getfield 17, [3, 10, 2, 2, 1200, 3], 0, 0, []), (60, [], .aload_n 0, [1], 0, 0, []), (61, [], .getfield 118, [3, 10, 10, 0, 0, 0], 0, 0, []), (64, [], .iaload, [1], 0, 0, []), (65, [], .i2l, [1], 0, 0, []), (66, [], .ladd, [1], 0, 0, []), (67, [], .ldc2_w 139, [3], 0, 96, []), (70, [], .lsub, [1], 0, 0, []), (71, [], .goto 4, [3, 75], 0, 0, []), (74, [], .lload_n 2, [1], 0, 0, []), (75, [2, 3, 4], .lstore_n 2, [1], 0, 0, []), (76, [], .aload_n 0, [1], 0, 0, []), (77, [], .dup, [1], 0, 0, []), (78, [], .getfield 118, [3, 10, 10, 0, 0, 0], 0, 0, []), (81, [], .iconst 1, [1], 1, 0, []), (82, [], .iadd, [1], 0, 0, []), (83, [], .putfield 118, [3, 10, 10, 0], 0, 0, []), (86, [], .goto (-79), [3, 7], 0, 0, []), (89, [3, 4], .lload_n 2, [1], 0, 0, []), (90, [], .invokestatic 141, [3, 164, 1, 1, 2, 200], 0, 0, []), (93, [], .istore 4, [2], 0, 0, []), (95, [], .aload_n 0, [1], 0, 0, []), (96, [], .iload 4, [2], 0, 0, []), (98, [], .iconst (-1), [1], (-1), 0, []), (99, [], .if_icmp .ne 7, [3, 106], 0, 0, []), (102, [], .iload_n 1, [1], 0, 0, []), (103, [], .goto 7, [3, 110], 0, 0, []), (106, [], .aload_n 0, [1], 0, 0, []), (107, [], .getfield 145, [3, 10, 11, 0, 0, 0], 0, 0, []), (110, [], .putfield 145, [3, 10, 11, 0], 0, 0, []), (113, [], .iload 4, [2], 0, 0, []), (115, [], .ireturn, [1, 0], 0, 0, [])]
/-- 164: OneNoteModel.wordOf(J)I -/
def K164 : List je := [(0, [], .lload_n 0, [1], 0, 0, []), (1, [], .ldc2_w 121, [3], 0, 146930, []), (4, [], .lcmp, [1], 0, 0, []), (5, [], .ifCond .ne 7, [3, 12], 0, 0, []), (8, [], .iconst 0, [1], 0, 0, []), (9, [], .goto 64, [3, 73], 0, 0, []), (12, [], .lload_n 0, [1], 0, 0, []), (13, [], .ldc2_w 123, [3], 0, 8554067, []), (16, [], .lcmp, [1], 0, 0, []), (17, [], .ifCond .ne 7, [3, 24], 0, 0, []), (20, [], .iconst 1, [1], 1, 0, []), (21, [], .goto 52, [3, 73], 0, 0, []), (24, [], .lload_n 0, [1], 0, 0, []), (25, [], .ldc2_w 125, [3], 0, 15813, []), (28, [], .lcmp, [1], 0, 0, []), (29, [], .ifCond .ne 7, [3, 36], 0, 0, []), (32, [], .iconst 2, [1], 2, 0, []), (33, [], .goto 40, [3, 73], 0, 0, []), (36, [], .lload_n 0, [1], 0, 0, []), (37, [], .ldc2_w 127, [3], 0, 13684915, []), (40, [], .lcmp, [1], 0, 0, []), (41, [], .ifCond .ne 7, [3, 48], 0, 0, []), (44, [], .iconst 3, [1], 3, 0, []), (45, [], .goto 28, [3, 73], 0, 0, []), (48, [], .lload_n 0, [1], 0, 0, []), (49, [], .ldc2_w 129, [3], 0, 3423812, []), (52, [], .lcmp, [1], 0, 0, []), (53, [], .ifCond .ne 7, [3, 60], 0, 0, []), (56, [], .iconst 4, [1], 4, 0, []), (57, [], .goto 16, [3, 73], 0, 0, []), (60, [], .lload_n 0, [1], 0, 0, []), (61, [], .ldc2_w 131, [3], 0, 20317291, []), (64, [], .lcmp, [1], 0, 0, []), (65, [], .ifCond .ne 7, [3, 72], 0, 0, []), (68, [], .iconst 5, [1], 5, 0, []), (69, [], .goto 4, [3, 73], 0, 0, []), (72, [], .iconst (-1), [1], (-1), 0, []), (73, [0, 1], .ireturn, [1, 0], 0, 0, [])]
/-- 165: OneNoteModel.numbersOf(I)I -/
def K165 : List je := [(0, [], .iload_n 0, [1], 0, 0, []), (1, [], .iconst 4, [1], 4, 0, []), (2, [], .if_icmp .ne 7, [3, 9], 0, 0, []), (5, [], .iconst 4, [1], 4, 0, []), (6, [], .goto 22, [3, 28], 0, 0, []), (9, [], .iload_n 0, [1], 0, 0, []), (10, [], .iconst 2, [1], 2, 0, []), (11, [], .if_icmp .ne 7, [3, 18], 0, 0, []), (14, [], .iconst 3, [1], 3, 0, []), (15, [], .goto 13, [3, 28], 0, 0, []), (18, [], .iload_n 0, [1], 0, 0, []), (19, [], .iconst 5, [1], 5, 0, []), (20, [], .if_icmp .ne 7, [3, 27], 0, 0, []), (23, [], .iconst 1, [1], 1, 0, []), (24, [], .goto 4, [3, 28], 0, 0, []), (27, [], .iconst 2, [1], 2, 0, []), (28, [], .ireturn, [1, 0], 0, 0, [])]
/-- 166: OneNoteModel.takeNumber()I -/
def K166 : List je := [(0, [], .aload_n 0, [1], 0, 0, []), (1, [], .invokevirtual 148, [3, 161, 1, 1, 1, 10], 0, 0, []), (4, [], .ifCond .eq 13, [3, 17], 0, 0, []), (7, [], .aload_n 0, [1], 0, 0, []), (8, [], .aload_n 0, [1], 0, 0, []), (9, [], .getfield 112, [3, 10, 3, 0, 0, 0], 0, 0, []), (12, [], .putfield 145, [3, 10, 11, 0], 0, 0, []), (15, [], .iconst (-1), [1], (-1), 0, []), (16, [], .ireturn, [1, 0], 0, 0, []), (17, [], .aload_n 0, [1], 0, 0, []), (18, [], .getfield 118, [3, 10, 10, 0, 0, 0], 0, 0, []), (21, [], .istore_n 1, [1], 0, 0, []), (22, [], .iconst 0, [1], 0, 0, []), (23, [], .istore_n 2, [1], 0, 0, []), (24, [], .aload_n 0, [1], 0, 0, []), (25, [], .getfield 118, [3, 10, 10, 0, 0, 0], 0, 0, []), (28, [], .aload_n 0, [1], 0, 0, []), (29, [], .getfield 112, [3, 10, 3, 0, 0, 0], 0, 0, []), (32, [], .if_icmp .ge 70, [3, 102], 0, 0, []), (35, [], .aload_n 0, [1], 0, 0, []), (36, [], .getfield 17, [3, 10, 2, 2, 1200, 3], 0, 0, []), (39, [], .aload_n 0, [1], 0, 0, []), (40, [], .getfield 118, [3, 10, 10, 0, 0, 0], 0, 0, []), (43, [], .iaload, [1], 0, 0, []), (44, [], .i2l, [1], 0, 0, []), (45, [], .ldc2_w 152, [3], 0, 48, []), (48, [], .ldc2_w 154, [3], 0, 57, []), (51, [], .invokestatic 57, [3, 140, 3, 1, 6, 200], 0, 0, []), (54, [], .ifCond .eq 48, [3, 102], 0, 0, []), (57, [], .aload_n 0, [1], 0, 0, []), (58, [], .getfield 118, [3, 10, 10, 0, 0, 0], 0, 0, []), (61, [], .iload_n 1, [1], 0, 0, []), (62, [], .isub, [1], 0, 0, []), (63, [], .iconst 2, [1], 2, 0, []), (64, [], .if_icmp .ge 23, [3, 87], 0, 0, []), (67, [], .bipush 10, [2], 10, 0, []), (69, [], .iload_n 2, [1], 0, 0, []), (70, [], .imul, [1], 0, 0, []), (71, [], .aload_n 0, [1], 0, 0, []), (72, [], .getfield 17, [3, 10, 2, 2, 1200, 3], 0, 0, []), (75, [], .aload_n 0, [1], 0, 0, []), (76, [], .getfield 118, [3, 10, 10, 0, 0, 0], 0, 0, []), (79, [], .iaload, [1], 0, 0, []), (80, [], .iadd, [1], 0, 0, []), (81, [], .bipush 48, [2], 48, 0, []), (83, [], .isub, [1], 0, 0, []), (84, [], .goto 4, [3, 88], 0, 0, []), (87, [], .iload_n 2, [1], 0, 0, []), (88, [2], .istore_n 2, [1], 0, 0, []), (89, [], .aload_n 0, [1], 0, 0, []), (90, [], .dup, [1], 0, 0, []), (91, [], .getfield 118, [3, 10, 10, 0, 0, 0], 0, 0, []), (94, [], .iconst 1, [1], 1, 0, []), (95, [], .iadd, [1], 0, 0, []), (96, [], .putfield 118, [3, 10, 10, 0], 0, 0, []), (99, [], .goto (-75), [3, 24], 0, 0, []), (102, [], .aload_n 0, [1], 0, 0, []), (103, [], .aload_n 0, [1], 0, 0, []), (104, [], .getfield 118, [3, 10, 10, 0, 0, 0], 0, 0, []), (107, [], .iload_n 1, [1], 0, 0, []), (108, [], .if_icmp .eq 13, [3, 121], 0, 0, []), (111, [], .aload_n 0, [1], 0, 0, []), (112, [], .getfield 118, [3, 10, 10, 0, 0, 0], 0, 0, []), (115, [], .iload_n 1, [1], 0, 0, []), (116, [], .isub, [1], 0, 0, []), (117, [], .iconst 2, [1], 2, 0, []), (118, [], .if_icmp .le 7, [3, 125], 0, 0, []), (121, [], .iload_n 1, [1], 0, 0, []), (122, [], .goto 7, [3, 129], 0, 0, []), (125, [], .aload_n 0, [1], 0, 0, []), (126, [], .getfield 145, [3, 10, 11, 0, 0, 0], 0, 0, []), (129, [], .putfield 145, [3, 10, 11, 0], 0, 0, []), (132, [], .iload_n 2, [1], 0, 0, []), (133, [], .ireturn, [1, 0], 0, 0, [])]
/-- 167: OneNoteModel.tellItem(I)I -/
def K167 : List je := [(0, [], .aload_n 0, [1], 0, 0, []), (1, [], .getfield 30, [3, 10, 8, 2, 1160, 6], 0, 0, []), (4, [], .iconst 4, [1], 4, 0, []), (5, [], .iload_n 1, [1], 0, 0, []), (6, [], .imul, [1], 0, 0, []), (7, [], .iaload, [1], 0, 0, []), (8, [], .istore_n 2, [1], 0, 0, []), (9, [], .aload_n 0, [1], 0, 0, []), (10, [], .getfield 30, [3, 10, 8, 2, 1160, 6], 0, 0, []), (13, [], .iconst 4, [1], 4, 0, []), (14, [], .iload_n 1, [1], 0, 0, []), (15, [], .imul, [1], 0, 0, []), (16, [], .iconst 1, [1], 1, 0, []), (17, [], .iadd, [1], 0, 0, []), (18, [], .iaload, [1], 0, 0, []), (19, [], .istore_n 3, [1], 0, 0, []), (20, [], .aload_n 0, [1], 0, 0, []), (21, [], .getfield 30, [3, 10, 8, 2, 1160, 6], 0, 0, []), (24, [], .iconst 4, [1], 4, 0, []), (25, [], .iload_n 1, [1], 0, 0, []), (26, [], .imul, [1], 0, 0, []), (27, [], .iconst 2, [1], 2, 0, []), (28, [], .iadd, [1], 0, 0, []), (29, [], .iaload, [1], 0, 0, []), (30, [], .istore 4, [2], 0, 0, []), (32, [], .aload_n 0, [1], 0, 0, []), (33, [], .getfield 27, [3, 10, 7, 2, 1040, 5], 0, 0, []), (36, [], .iload_n 1, [1], 0, 0, []), (37, [], .iaload, [1], 0, 0, []), (38, [], .tableswitch 101 0 4 #[34, 45, 57, 69, 79], [34, 139], 0, 0, [(0, 72), (1, 83), (2, 95), (3, 107), (4, 117)]), (72, [], .aload_n 0, [1], 0, 0, []), (73, [], .sipush 420, [3], 420, 0, []), (76, [], .iconst 0, [1], 0, 0, []), (77, [], .iload_n 2, [1], 0, 0, []), (78, [], .iload_n 3, [1], 0, 0, []), (79, [], .invokevirtual 75, [3, 138, 5, 1, 5, 10], 0, 0, []), (82, [], .ireturn, [1, 0], 0, 0, []), (83, [], .aload_n 0, [1], 0, 0, []), (84, [], .sipush 420, [3], 420, 0, []), (87, [], .bipush 36, [2], 36, 0, []), (89, [], .iload_n 2, [1], 0, 0, []), (90, [], .iload_n 3, [1], 0, 0, []), (91, [], .invokevirtual 75, [3, 138, 5, 1, 5, 10], 0, 0, []), (94, [], .ireturn, [1, 0], 0, 0, []), (95, [], .aload_n 0, [1], 0, 0, []), (96, [], .sipush 420, [3], 420, 0, []), (99, [], .iload_n 2, [1], 0, 0, []), (100, [], .iload_n 3, [1], 0, 0, []), (101, [], .iload 4, [2], 0, 0, []), (103, [], .invokevirtual 83, [3, 144, 5, 1, 6, 10], 0, 0, []), (106, [], .ireturn, [1, 0], 0, 0, []), (107, [], .aload_n 0, [1], 0, 0, []), (108, [], .sipush 420, [3], 420, 0, []), (111, [], .iload_n 2, [1], 0, 0, []), (112, [], .iload_n 3, [1], 0, 0, []), (113, [], .invokevirtual 86, [3, 146, 4, 1, 4, 10], 0, 0, []), (116, [], .ireturn, [1, 0], 0, 0, []), (117, [], .aload_n 0, [1], 0, 0, []), (118, [], .sipush 420, [3], 420, 0, []), (121, [], .iload_n 2, [1], 0, 0, []), (122, [], .iload_n 3, [1], 0, 0, []), (123, [], .iload 4, [2], 0, 0, []), (125, [], .aload_n 0, [1], 0, 0, []), (126, [], .getfield 30, [3, 10, 8, 2, 1160, 6], 0, 0, []), (129, [], .iconst 4, [1], 4, 0, []), (130, [], .iload_n 1, [1], 0, 0, []), (131, [], .imul, [1], 0, 0, []), (132, [], .iconst 3, [1], 3, 0, []), (133, [], .iadd, [1], 0, 0, []), (134, [], .iaload, [1], 0, 0, []), (135, [], .invokevirtual 90, [3, 150, 6, 1, 9, 10], 0, 0, []), (138, [], .ireturn, [1, 0], 0, 0, []), (139, [], .aload_n 0, [1], 0, 0, []), (140, [], .sipush 420, [3], 420, 0, []), (143, [], .iload_n 2, [1], 0, 0, []), (144, [], .invokevirtual 94, [3, 152, 3, 1, 4, 10], 0, 0, []), (147, [], .ireturn, [1, 0], 0, 0, [])]
/-- 168: OneNoteModel.copy(II)V -/
def K168 : List je := [(0, [], .iconst 0, [1], 0, 0, []), (1, [], .istore_n 3, [1], 0, 0, []), (2, [], .iload_n 3, [1], 0, 0, []), (3, [], .sipush 140, [3], 140, 0, []), (6, [], .if_icmp .ge 25, [3, 31], 0, 0, []), (9, [], .aload_n 0, [1], 0, 0, []), (10, [], .getfield 7, [3, 10, 0, 2, 1560, 1], 0, 0, []), (13, [], .iload_n 2, [1], 0, 0, []), (14, [], .iload_n 3, [1], 0, 0, []), (15, [], .iadd, [1], 0, 0, []), (16, [], .aload_n 0, [1], 0, 0, []), (17, [], .getfield 7, [3, 10, 0, 2, 1560, 1], 0, 0, []), (20, [], .iload_n 1, [1], 0, 0, []), (21, [], .iload_n 3, [1], 0, 0, []), (22, [], .iadd, [1], 0, 0, []), (23, [], .iaload, [1], 0, 0, []), (24, [], .iastore, [1], 0, 0, []), (25, [], .iinc 3 1, [3], 1, 0, []), (28, [], .goto (-26), [3, 2], 0, 0, []), (31, [], .return_, [1], 0, 0, [])]
/-- 169: OneNoteModel.says(II)I -/
def K169 : List je := [(0, [], .aload_n 0, [1], 0, 0, []), (1, [], .iload_n 1, [1], 0, 0, []), (2, [], .invokevirtual 104, [3, 154, 2, 1, 2, 10], 0, 0, []), (5, [], .ifCond .eq 11, [3, 16], 0, 0, []), (8, [], .aload_n 0, [1], 0, 0, []), (9, [], .iload_n 2, [1], 0, 0, []), (10, [], .invokevirtual 189, [3, 170, 2, 1, 2, 10], 0, 0, []), (13, [], .ifCond .ne 10, [3, 23], 0, 0, []), (16, [], .aload_n 0, [1], 0, 0, []), (17, [], .bipush (-2), [2], (-2), 0, []), (19, [], .invokevirtual 79, [3, 141, 2, 1, 2, 10], 0, 0, []), (22, [], .ireturn, [1, 0], 0, 0, []), (23, [], .aload_n 0, [1], 0, 0, []), (24, [], .iconst 0, [1], 0, 0, []), (25, [], .iload_n 1, [1], 0, 0, []), (26, [], .iload_n 2, [1], 0, 0, []), (27, [], .invokevirtual 185, [3, 171, 4, 1, 7, 10], 0, 0, []), (30, [], .ifCond .eq 7, [3, 37], 0, 0, []), (33, [], .iconst 1, [1], 1, 0, []), (34, [], .goto 4, [3, 38], 0, 0, []), (37, [], .iconst 0, [1], 0, 0, []), (38, [], .ireturn, [1, 0], 0, 0, [])]
/-- 170: OneNoteModel.isChord(I)Z -/
def K170 : List je := [(0, [], .iload_n 1, [1], 0, 0, []), (1, [], .i2l, [1], 0, 0, []), (2, [], .lconst 0, [1], 0, 0, []), (3, [], .aload_n 0, [1], 0, 0, []), (4, [], .getfield 7, [3, 10, 0, 2, 1560, 1], 0, 0, []), (7, [], .bipush 101, [2], 101, 0, []), (9, [], .iaload, [1], 0, 0, []), (10, [], .iconst 1, [1], 1, 0, []), (11, [], .isub, [1], 0, 0, []), (12, [], .i2l, [1], 0, 0, []), (13, [], .invokestatic 57, [3, 140, 3, 1, 6, 200], 0, 0, []), (16, [], .ireturn, [1, 1], 0, 0, [])]
/-- 171: OneNoteModel.doesSay(III)Z -/
def K171 : List je := [(0, [], .iconst 0, [1], 0, 0, []), (1, [], .istore 4, [2], 0, 0, []), (3, [5, 6], .iload 4, [2], 0, 0, []), (5, [], .aload_n 0, [1], 0, 0, []), (6, [], .getfield 7, [3, 10, 0, 2, 1560, 1], 0, 0, []), (9, [], .iload_n 1, [1], 0, 0, []), (10, [], .bipush 72, [2], 72, 0, []), (12, [], .iadd, [1], 0, 0, []), (13, [], .iaload, [1], 0, 0, []), (14, [], .if_icmp .ge 48, [3, 62], 0, 0, []), (17, [], .aload_n 0, [1], 0, 0, []), (18, [], .getfield 33, [3, 10, 12, 2, 1007, 7], 0, 0, []), (21, [], .iload 4, [2], 0, 0, []), (23, [], .iload_n 2, [1], 0, 0, []), (24, [], .iload 4, [2], 0, 0, []), (26, [], .invokestatic 101, [3, 155, 2, 1, 2, 200], 0, 0, []), (29, [], .ifCond .eq 25, [3, 54], 0, 0, []), (32, [], .aload_n 0, [1], 0, 0, []), (33, [], .iload_n 1, [1], 0, 0, []), (34, [], .iload 4, [2], 0, 0, []), (36, [], .iload_n 2, [1], 0, 0, []), (37, [], .aload_n 0, [1], 0, 0, []), (38, [], .getfield 7, [3, 10, 0, 2, 1560, 1], 0, 0, []), (41, [], .iload_n 1, [1], 0, 0, []), (42, [], .bipush 102, [2], 102, 0, []), (44, [], .iadd, [1], 0, 0, []), (45, [], .iload_n 3, [1], 0, 0, []), (46, [], .iadd, [1], 0, 0, []), (47, [], .iaload, [1], 0, 0, []), (48, [], .invokevirtual 179, [3, 172, 5, 1, 10, 10], 0, 0, []), (51, [], .goto 4, [3, 55], 0, 0, []), (54, [], .iconst 0, [1], 0, 0, []), (55, [], .iastore, [1], 0, 0, []), (56, [], .iinc 4 1, [3], 1, 0, []), (59, [], .goto (-56), [3, 3], 0, 0, []), (62, [], .iconst 1, [1], 1, 0, []), (63, [], .istore 4, [2], 0, 0, []), (65, [2, 3, 5, 6], .iload 4, [2], 0, 0, []), (67, [], .bipush 8, [2], 8, 0, []), (69, [], .if_icmp .ge 90, [3, 159], 0, 0, []), (72, [], .iconst 0, [1], 0, 0, []), (73, [], .istore 5, [2], 0, 0, []), (75, [], .iconst 0, [1], 0, 0, []), (76, [], .istore 6, [2], 0, 0, []), (78, [2, 3], .iload 6, [2], 0, 0, []), (80, [], .aload_n 0, [1], 0, 0, []), (81, [], .getfield 7, [3, 10, 0, 2, 1560, 1], 0, 0, []), (84, [], .iload_n 1, [1], 0, 0, []), (85, [], .bipush 72, [2], 72, 0, []), (87, [], .iadd, [1], 0, 0, []), (88, [], .iaload, [1], 0, 0, []), (89, [], .if_icmp .ge 52, [3, 141], 0, 0, []), (92, [], .iload 5, [2], 0, 0, []), (94, [], .aload_n 0, [1], 0, 0, []), (95, [], .getfield 33, [3, 10, 12, 2, 1007, 7], 0, 0, []), (98, [], .iload 6, [2], 0, 0, []), (100, [], .iaload, [1], 0, 0, []), (101, [], .iload 4, [2], 0, 0, []), (103, [], .iand, [1], 0, 0, []), (104, [], .ifCond .ne 7, [3, 111], 0, 0, []), (107, [], .iconst 0, [1], 0, 0, []), (108, [], .goto 24, [3, 132], 0, 0, []), (111, [], .aload_n 0, [1], 0, 0, []), (112, [], .getfield 7, [3, 10, 0, 2, 1560, 1], 0, 0, []), (115, [], .iload_n 1, [1], 0, 0, []), (116, [], .bipush 73, [2], 73, 0, []), (118, [], .iadd, [1], 0, 0, []), (119, [], .iload 6, [2], 0, 0, []), (121, [], .iadd, [1], 0, 0, []), (122, [], .iaload, [1], 0, 0, []), (123, [], .iconst 4, [1], 4, 0, []), (124, [], .if_icmp .lt 7, [3, 131], 0, 0, []), (127, [], .iconst 2, [1], 2, 0, []), (128, [], .goto 4, [3, 132], 0, 0, []), (131, [], .iconst 1, [1], 1, 0, []), (132, [], .iadd, [1], 0, 0, []), (133, [], .istore 5, [2], 0, 0, []), (135, [], .iinc 6 1, [3], 1, 0, []), (138, [], .goto (-60), [3, 78], 0, 0, []), (141, [], .iload 5, [2], 0, 0, []), (143, [], .iload 4, [2], 0, 0, []), (145, [], .invokestatic 182, [3, 173, 1, 1, 3, 200], 0, 0, []), (148, [], .if_icmp .ge 5, [3, 153], 0, 0, []), (151, [], .iconst 0, [1], 0, 0, []), (152, [], .ireturn, [1, 1], 0, 0, []), (153, [], .iinc 4 1, [3], 1, 0, []), (156, [], .goto (-91), [3, 65], 0, 0, []), (159, [], .iconst 1, [1], 1, 0, []), (160, [], .ireturn, [1, 1], 0, 0, [])]
/-- 172: OneNoteModel.reachOf(IIII)I -/
def K172 : List je := [(0, [], .aload_n 0, [1], 0, 0, []), (1, [], .iload_n 1, [1], 0, 0, []), (2, [], .iload_n 2, [1], 0, 0, []), (3, [], .iload_n 3, [1], 0, 0, []), (4, [], .invokevirtual 107, [3, 156, 4, 1, 7, 10], 0, 0, []), (7, [], .istore 5, [2], 0, 0, []), (9, [], .iload 5, [2], 0, 0, []), (11, [], .istore 6, [2], 0, 0, []), (13, [], .iconst 1, [1], 1, 0, []), (14, [], .istore 7, [2], 0, 0, []), (16, [2, 3, 8, 9], .iload 7, [2], 0, 0, []), (18, [], .aload_n 0, [1], 0, 0, []), (19, [], .getfield 7, [3, 10, 0, 2, 1560, 1], 0, 0, []), (22, [], .iload_n 1, [1], 0, 0, []), (23, [], .bipush 118, [2], 118, 0, []), (25, [], .iadd, [1], 0, 0, []), (26, [], .iaload, [1], 0, 0, []), (27, [], .if_icmp .gt 32, [3, 59], 0, 0, []), (30, [], .iload 6, [2], 0, 0, []), (32, [], .iload 5, [2], 0, 0, []), (34, [], .iload 7, [2], 0, 0, []), (36, [], .invokestatic 98, [3, 157, 2, 1, 3, 200], 0, 0, []), (39, [], .iload 5, [2], 0, 0, []), (41, [], .bipush 12, [2], 12, 0, []), (43, [], .iload 7, [2], 0, 0, []), (45, [], .isub, [1], 0, 0, []), (46, [], .invokestatic 98, [3, 157, 2, 1, 3, 200], 0, 0, []), (49, [], .ior, [1], 0, 0, []), (50, [], .ior, [1], 0, 0, []), (51, [], .istore 6, [2], 0, 0, []), (53, [], .iinc 7 1, [3], 1, 0, []), (56, [], .goto (-40), [3, 16], 0, 0, []), (59, [], .iconst 0, [1], 0, 0, []), (60, [], .istore 7, [2], 0, 0, []), (62, [], .iconst 0, [1], 0, 0, []), (63, [], .istore 8, [2], 0, 0, []), (65, [], .iconst 0, [1], 0, 0, []), (66, [], .istore 9, [2], 0, 0, []), (68, [0, 1, 2, 3, 5], .iload 9, [2], 0, 0, []), (70, [], .bipush 12, [2], 12, 0, []), (72, [], .if_icmp .ge 45, [3, 117], 0, 0, []), (75, [], .iload 4, [2], 0, 0, []), (77, [], .iload 9, [2], 0, 0, []), (79, [], .invokestatic 101, [3, 155, 2, 1, 2, 200], 0, 0, []), (82, [], .ifCond .eq 29, [3, 111], 0, 0, []), (85, [], .iload 7, [2], 0, 0, []), (87, [], .iload 6, [2], 0, 0, []), (89, [], .iload 9, [2], 0, 0, []), (91, [], .invokestatic 101, [3, 155, 2, 1, 2, 200], 0, 0, []), (94, [], .ifCond .eq 10, [3, 104], 0, 0, []), (97, [], .iconst 1, [1], 1, 0, []), (98, [], .iload 8, [2], 0, 0, []), (100, [], .ishl, [1], 0, 0, []), (101, [], .goto 4, [3, 105], 0, 0, []), (104, [], .iconst 0, [1], 0, 0, []), (105, [], .ior, [1], 0, 0, []), (106, [], .istore 7, [2], 0, 0, []), (108, [], .iinc 8 1, [3], 1, 0, []), (111, [], .iinc 9 1, [3], 1, 0, []), (114, [], .goto (-46), [3, 68], 0, 0, []), (117, [], .iload 7, [2], 0, 0, []), (119, [], .ireturn, [1, 0], 0, 0, [])]
/-- 173: OneNoteModel.ones(I)I -/
def K173 : List je := [(0, [], .iconst 0, [1], 0, 0, []), (1, [], .istore_n 1, [1], 0, 0, []), (2, [], .iconst 0, [1], 0, 0, []), (3, [], .istore_n 2, [1], 0, 0, []), (4, [], .iload_n 2, [1], 0, 0, []), (5, [], .bipush 31, [2], 31, 0, []), (7, [], .if_icmp .ge 17, [3, 24], 0, 0, []), (10, [], .iload_n 1, [1], 0, 0, []), (11, [], .iload_n 0, [1], 0, 0, []), (12, [], .iload_n 2, [1], 0, 0, []), (13, [], .ishr, [1], 0, 0, []), (14, [], .iconst 1, [1], 1, 0, []), (15, [], .iand, [1], 0, 0, []), (16, [], .iadd, [1], 0, 0, []), (17, [], .istore_n 1, [1], 0, 0, []), (18, [], .iinc 2 1, [3], 1, 0, []), (21, [], .goto (-17), [3, 4], 0, 0, []), (24, [], .iload_n 1, [1], 0, 0, []), (25, [], .ireturn, [1, 0], 0, 0, [])]
/-- 174: OneNoteModel.said(I)I -/
def K174 : List je := [(0, [], .iload_n 1, [1], 0, 0, []), (1, [], .invokestatic 61, [3, 139, 1, 1, 1, 200], 0, 0, []), (4, [], .ifCond .eq 16, [3, 20], 0, 0, []), (7, [], .aload_n 0, [1], 0, 0, []), (8, [], .iconst 0, [1], 0, 0, []), (9, [], .aload_n 0, [1], 0, 0, []), (10, [], .iload_n 1, [1], 0, 0, []), (11, [], .invokevirtual 192, [3, 175, 2, 1, 4, 10], 0, 0, []), (14, [], .invokevirtual 195, [3, 176, 3, 1, 5, 10], 0, 0, []), (17, [], .goto 9, [3, 26], 0, 0, []), (20, [], .aload_n 0, [1], 0, 0, []), (21, [], .bipush (-2), [2], (-2), 0, []), (23, [], .invokevirtual 79, [3, 141, 2, 1, 2, 10], 0, 0, []), (26, [], .ireturn, [1, 0], 0, 0, [])]
/-- 175: OneNoteModel.setIn(I)I -/
def K175 : List je := [(0, [], .iconst 0, [1], 0, 0, []), (1, [], .istore_n 2, [1], 0, 0, []), (2, [], .iconst 0, [1], 0, 0, []), (3, [], .istore_n 3, [1], 0, 0, []), (4, [], .iload_n 3, [1], 0, 0, []), (5, [], .aload_n 0, [1], 0, 0, []), (6, [], .getfield 7, [3, 10, 0, 2, 1560, 1], 0, 0, []), (9, [], .bipush 72, [2], 72, 0, []), (11, [], .iaload, [1], 0, 0, []), (12, [], .if_icmp .ge 32, [3, 44], 0, 0, []), (15, [], .iload_n 2, [1], 0, 0, []), (16, [], .aload_n 0, [1], 0, 0, []), (17, [], .getfield 7, [3, 10, 0, 2, 1560, 1], 0, 0, []), (20, [], .bipush 87, [2], 87, 0, []), (22, [], .iload_n 3, [1], 0, 0, []), (23, [], .iadd, [1], 0, 0, []), (24, [], .iaload, [1], 0, 0, []), (25, [], .iload_n 1, [1], 0, 0, []), (26, [], .if_icmp .ne 9, [3, 35], 0, 0, []), (29, [], .iconst 1, [1], 1, 0, []), (30, [], .iload_n 3, [1], 0, 0, []), (31, [], .ishl, [1], 0, 0, []), (32, [], .goto 4, [3, 36], 0, 0, []), (35, [], .iconst 0, [1], 0, 0, []), (36, [], .ior, [1], 0, 0, []), (37, [], .istore_n 2, [1], 0, 0, []), (38, [], .iinc 3 1, [3], 1, 0, []), (41, [], .goto (-37), [3, 4], 0, 0, []), (44, [], .iload_n 2, [1], 0, 0, []), (45, [], .ireturn, [1, 0], 0, 0, [])]
/-- 176: OneNoteModel.saidBy(II)I -/
def K176 : List je := [(0, [], .iconst 0, [1], 0, 0, []), (1, [], .istore_n 3, [1], 0, 0, []), (2, [], .iconst 0, [1], 0, 0, []), (3, [], .istore 4, [2], 0, 0, []), (5, [], .iload 4, [2], 0, 0, []), (7, [], .aload_n 0, [1], 0, 0, []), (8, [], .getfield 7, [3, 10, 0, 2, 1560, 1], 0, 0, []), (11, [], .iload_n 1, [1], 0, 0, []), (12, [], .bipush 101, [2], 101, 0, []), (14, [], .iadd, [1], 0, 0, []), (15, [], .iaload, [1], 0, 0, []), (16, [], .if_icmp .ge 31, [3, 47], 0, 0, []), (19, [], .iload_n 3, [1], 0, 0, []), (20, [], .aload_n 0, [1], 0, 0, []), (21, [], .iload_n 1, [1], 0, 0, []), (22, [], .iload_n 2, [1], 0, 0, []), (23, [], .iload 4, [2], 0, 0, []), (25, [], .invokevirtual 185, [3, 171, 4, 1, 7, 10], 0, 0, []), (28, [], .ifCond .eq 10, [3, 38], 0, 0, []), (31, [], .iconst 1, [1], 1, 0, []), (32, [], .iload 4, [2], 0, 0, []), (34, [], .ishl, [1], 0, 0, []), (35, [], .goto 4, [3, 39], 0, 0, []), (38, [], .iconst 0, [1], 0, 0, []), (39, [], .ior, [1], 0, 0, []), (40, [], .istore_n 3, [1], 0, 0, []), (41, [], .iinc 4 1, [3], 1, 0, []), (44, [], .goto (-39), [3, 5], 0, 0, []), (47, [], .iload_n 3, [1], 0, 0, []), (48, [], .ireturn, [1, 0], 0, 0, [])]
/-- 177: OneNoteModel.byDoor(II)I -/
def K177 : List je := [(0, [], .iload_n 1, [1], 0, 0, []), (1, [], .invokestatic 61, [3, 139, 1, 1, 1, 200], 0, 0, []), (4, [], .ifCond .eq 10, [3, 14], 0, 0, []), (7, [], .iload_n 2, [1], 0, 0, []), (8, [], .invokestatic 61, [3, 139, 1, 1, 1, 200], 0, 0, []), (11, [], .ifCond .ne 10, [3, 21], 0, 0, []), (14, [], .aload_n 0, [1], 0, 0, []), (15, [], .bipush (-2), [2], (-2), 0, []), (17, [], .invokevirtual 79, [3, 141, 2, 1, 2, 10], 0, 0, []), (20, [], .ireturn, [1, 0], 0, 0, []), (21, [], .aload_n 0, [1], 0, 0, []), (22, [], .getfield 7, [3, 10, 0, 2, 1560, 1], 0, 0, []), (25, [], .bipush 6, [2], 6, 0, []), (27, [], .iload_n 1, [1], 0, 0, []), (28, [], .imul, [1], 0, 0, []), (29, [], .iload_n 2, [1], 0, 0, []), (30, [], .iadd, [1], 0, 0, []), (31, [], .iaload, [1], 0, 0, []), (32, [], .iconst 1, [1], 1, 0, []), (33, [], .if_icmp .ne 22, [3, 55], 0, 0, []), (36, [], .aload_n 0, [1], 0, 0, []), (37, [], .iconst 0, [1], 0, 0, []), (38, [], .aload_n 0, [1], 0, 0, []), (39, [], .iload_n 1, [1], 0, 0, []), (40, [], .invokevirtual 192, [3, 175, 2, 1, 4, 10], 0, 0, []), (43, [], .aload_n 0, [1], 0, 0, []), (44, [], .iload_n 2, [1], 0, 0, []), (45, [], .invokevirtual 192, [3, 175, 2, 1, 4, 10], 0, 0, []), (48, [], .ior, [1], 0, 0, []), (49, [], .invokevirtual 195, [3, 176, 3, 1, 5, 10], 0, 0, []), (52, [], .goto 9, [3, 61], 0, 0, []), (55, [], .aload_n 0, [1], 0, 0, []), (56, [], .bipush (-3), [2], (-3), 0, []), (58, [], .invokevirtual 79, [3, 141, 2, 1, 2, 10], 0, 0, []), (61, [], .ireturn, [1, 0], 0, 0, [])]
/-- 178: OneNoteModel.fewest(II)I -/
def K178 : List je := [(0, [], .aload_n 0, [1], 0, 0, []), (1, [], .iload_n 1, [1], 0, 0, []), (2, [], .invokevirtual 104, [3, 154, 2, 1, 2, 10], 0, 0, []), (5, [], .ifCond .eq 11, [3, 16], 0, 0, []), (8, [], .aload_n 0, [1], 0, 0, []), (9, [], .iload_n 2, [1], 0, 0, []), (10, [], .invokevirtual 189, [3, 170, 2, 1, 2, 10], 0, 0, []), (13, [], .ifCond .ne 10, [3, 23], 0, 0, []), (16, [], .aload_n 0, [1], 0, 0, []), (17, [], .bipush (-2), [2], (-2), 0, []), (19, [], .invokevirtual 79, [3, 141, 2, 1, 2, 10], 0, 0, []), (22, [], .ireturn, [1, 0], 0, 0, []), (23, [], .iconst (-1), [1], (-1), 0, []), (24, [], .istore_n 3, [1], 0, 0, []), (25, [], .iconst 0, [1], 0, 0, []), (26, [], .istore 4, [2], 0, 0, []), (28, [], .iload 4, [2], 0, 0, []), (30, [], .iload_n 1, [1], 0, 0, []), (31, [], .if_icmp .gt 49, [3, 80], 0, 0, []), (34, [], .iload 4, [2], 0, 0, []), (36, [], .iload_n 1, [1], 0, 0, []), (37, [], .iconst (-1), [1], (-1), 0, []), (38, [], .ixor, [1], 0, 0, []), (39, [], .iand, [1], 0, 0, []), (40, [], .ifCond .ne 34, [3, 74], 0, 0, []), (43, [], .iload_n 3, [1], 0, 0, []), (44, [], .iconst (-1), [1], (-1), 0, []), (45, [], .if_icmp .eq 15, [3, 60], 0, 0, []), (48, [], .iload 4, [2], 0, 0, []), (50, [], .invokestatic 182, [3, 173, 1, 1, 3, 200], 0, 0, []), (53, [], .iload_n 3, [1], 0, 0, []), (54, [], .invokestatic 182, [3, 173, 1, 1, 3, 200], 0, 0, []), (57, [], .if_icmp .ge 17, [3, 74], 0, 0, []), (60, [], .aload_n 0, [1], 0, 0, []), (61, [], .iconst 0, [1], 0, 0, []), (62, [], .iload 4, [2], 0, 0, []), (64, [], .iload_n 2, [1], 0, 0, []), (65, [], .invokevirtual 185, [3, 171, 4, 1, 7, 10], 0, 0, []), (68, [], .ifCond .eq 6, [3, 74], 0, 0, []), (71, [], .iload 4, [2], 0, 0, []), (73, [], .istore_n 3, [1], 0, 0, []), (74, [], .iinc 4 1, [3], 1, 0, []), (77, [], .goto (-49), [3, 28], 0, 0, []), (80, [], .iload_n 3, [1], 0, 0, []), (81, [], .ireturn, [1, 0], 0, 0, [])]
/-- 179: OneNoteModel.speak(I)I -/
def K179 : List je := [(0, [], .aload_n 0, [1], 0, 0, []), (1, [], .iload_n 1, [1], 0, 0, []), (2, [], .invokevirtual 189, [3, 170, 2, 1, 2, 10], 0, 0, []), (5, [], .ifCond .ne 10, [3, 15], 0, 0, []), (8, [], .aload_n 0, [1], 0, 0, []), (9, [], .bipush (-2), [2], (-2), 0, []), (11, [], .invokevirtual 79, [3, 141, 2, 1, 2, 10], 0, 0, []), (14, [], .ireturn, [1, 0], 0, 0, []), (15, [], .aload_n 0, [1], 0, 0, []), (16, [], .getfield 7, [3, 10, 0, 2, 1560, 1], 0, 0, []), (19, [], .bipush 119, [2], 119, 0, []), (21, [], .iaload, [1], 0, 0, []), (22, [], .istore_n 2, [1], 0, 0, []), (23, [], .iload_n 2, [1], 0, 0, []), (24, [], .bipush 6, [2], 6, 0, []), (26, [], .if_icmp .ne 10, [3, 36], 0, 0, []), (29, [], .aload_n 0, [1], 0, 0, []), (30, [], .bipush (-4), [2], (-4), 0, []), (32, [], .invokevirtual 79, [3, 141, 2, 1, 2, 10], 0, 0, []), (35, [], .ireturn, [1, 0], 0, 0, []), (36, [], .aload_n 0, [1], 0, 0, []), (37, [], .getfield 7, [3, 10, 0, 2, 1560, 1], 0, 0, []), (40, [], .bipush 120, [2], 120, 0, []), (42, [], .iload_n 2, [1], 0, 0, []), (43, [], .iadd, [1], 0, 0, []), (44, [], .iload_n 1, [1], 0, 0, []), (45, [], .iastore, [1], 0, 0, []), (46, [], .aload_n 0, [1], 0, 0, []), (47, [], .getfield 7, [3, 10, 0, 2, 1560, 1], 0, 0, []), (50, [], .bipush 119, [2], 119, 0, []), (52, [], .dup2, [1], 0, 0, []), (53, [], .iaload, [1], 0, 0, []), (54, [], .iconst 1, [1], 1, 0, []), (55, [], .iadd, [1], 0, 0, []), (56, [], .iastore, [1], 0, 0, []), (57, [], .iload_n 2, [1], 0, 0, []), (58, [], .iconst 1, [1], 1, 0, []), (59, [], .iadd, [1], 0, 0, []), (60, [], .ireturn, [1, 0], 0, 0, [])]
/-- 180: OneNoteModel.hush()I -/
def K180 : List je := [(0, [], .aload_n 0, [1], 0, 0, []), (1, [], .getfield 7, [3, 10, 0, 2, 1560, 1], 0, 0, []), (4, [], .bipush 119, [2], 119, 0, []), (6, [], .iaload, [1], 0, 0, []), (7, [], .istore_n 1, [1], 0, 0, []), (8, [], .aload_n 0, [1], 0, 0, []), (9, [], .getfield 7, [3, 10, 0, 2, 1560, 1], 0, 0, []), (12, [], .bipush 119, [2], 119, 0, []), (14, [], .iconst 0, [1], 0, 0, []), (15, [], .iastore, [1], 0, 0, []), (16, [], .iload_n 1, [1], 0, 0, []), (17, [], .ireturn, [1, 0], 0, 0, [])]
/-- 181: OneNoteModel.fetch(I)I -/
def K181 : List je := [(0, [], .iload_n 1, [1], 0, 0, []), (1, [], .i2l, [1], 0, 0, []), (2, [], .lconst 0, [1], 0, 0, []), (3, [], .ldc2_w 73, [3], 0, 2, []), (6, [], .invokestatic 57, [3, 140, 3, 1, 6, 200], 0, 0, []), (9, [], .ifCond .ne 10, [3, 19], 0, 0, []), (12, [], .aload_n 0, [1], 0, 0, []), (13, [], .bipush (-2), [2], (-2), 0, []), (15, [], .invokevirtual 79, [3, 141, 2, 1, 2, 10], 0, 0, []), (18, [], .ireturn, [1, 0], 0, 0, []), (19, [], .aload_n 0, [1], 0, 0, []), (20, [], .bipush 9, [2], 9, 0, []), (22, [], .invokevirtual 213, [3, 182, 2, 0, 7, 10], 0, 0, []), (25, [], .aload_n 0, [1], 0, 0, []), (26, [], .getfield 207, [3, 10, 16, 0, 0, 0], 0, 0, []), (29, [], .iconst (-1), [1], (-1), 0, []), (30, [], .if_icmp .ne 7, [3, 37], 0, 0, []), (33, [], .iconst (-1), [1], (-1), 0, []), (34, [], .goto 30, [3, 64], 0, 0, []), (37, [], .iload_n 1, [1], 0, 0, []), (38, [], .ifCond .ne 10, [3, 48], 0, 0, []), (41, [], .aload_n 0, [1], 0, 0, []), (42, [], .getfield 201, [3, 10, 14, 0, 0, 0], 0, 0, []), (45, [], .goto 19, [3, 64], 0, 0, []), (48, [], .iload_n 1, [1], 0, 0, []), (49, [], .iconst 1, [1], 1, 0, []), (50, [], .if_icmp .ne 10, [3, 60], 0, 0, []), (53, [], .aload_n 0, [1], 0, 0, []), (54, [], .getfield 204, [3, 10, 15, 0, 0, 0], 0, 0, []), (57, [], .goto 7, [3, 64], 0, 0, []), (60, [], .aload_n 0, [1], 0, 0, []), (61, [], .getfield 207, [3, 10, 16, 0, 0, 0], 0, 0, []), (64, [], .ireturn, [1, 0], 0, 0, [])]
/-- 182: OneNoteModel.fetchBy(I)V -/
def K182 : List je := [(0, [], .iconst 0, [1], 0, 0, []), (1, [], .istore_n 2, [1], 0, 0, []), (2, [], .iconst 0, [1], 0, 0, []), (3, [], .istore_n 3, [1], 0, 0, []), (4, [4, 5, 6], .iload_n 3, [1], 0, 0, []), (5, [], .aload_n 0, [1], 0, 0, []), (6, [], .getfield 7, [3, 10, 0, 2, 1560, 1], 0, 0, []), (9, [], .bipush 119, [2], 119, 0, []), (11, [], .iaload, [1], 0, 0, []), (12, [], .if_icmp .ge 23, [3, 35], 0, 0, []), (15, [], .iload_n 2, [1], 0, 0, []), (16, [], .iconst 1, [1], 1, 0, []), (17, [], .aload_n 0, [1], 0, 0, []), (18, [], .getfield 7, [3, 10, 0, 2, 1560, 1], 0, 0, []), (21, [], .bipush 120, [2], 120, 0, []), (23, [], .iload_n 3, [1], 0, 0, []), (24, [], .iadd, [1], 0, 0, []), (25, [], .iaload, [1], 0, 0, []), (26, [], .ishl, [1], 0, 0, []), (27, [], .ior, [1], 0, 0, []), (28, [], .istore_n 2, [1], 0, 0, []), (29, [], .iinc 3 1, [3], 1, 0, []), (32, [], .goto (-28), [3, 4], 0, 0, []), (35, [], .aload_n 0, [1], 0, 0, []), (36, [], .invokevirtual 198, [3, 183, 1, 0, 4, 10], 0, 0, []), (39, [], .aload_n 0, [1], 0, 0, []), (40, [], .sipush 1000, [3], 1000, 0, []), (43, [], .putfield 201, [3, 10, 14, 0], 0, 0, []), (46, [], .aload_n 0, [1], 0, 0, []), (47, [], .iconst (-1), [1], (-1), 0, []), (48, [], .putfield 204, [3, 10, 15, 0], 0, 0, []), (51, [], .aload_n 0, [1], 0, 0, []), (52, [], .iconst (-1), [1], (-1), 0, []), (53, [], .putfield 207, [3, 10, 16, 0], 0, 0, []), (56, [], .iconst 0, [1], 0, 0, []), (57, [], .istore_n 3, [1], 0, 0, []), (58, [4, 5, 6], .iload_n 3, [1], 0, 0, []), (59, [], .iconst 1, [1], 1, 0, []), (60, [], .aload_n 0, [1], 0, 0, []), (61, [], .getfield 7, [3, 10, 0, 2, 1560, 1], 0, 0, []), (64, [], .bipush 72, [2], 72, 0, []), (66, [], .iaload, [1], 0, 0, []), (67, [], .ishl, [1], 0, 0, []), (68, [], .if_icmp .ge 137, [3, 205], 0, 0, []), (71, [], .aload_n 0, [1], 0, 0, []), (72, [], .iconst 0, [1], 0, 0, []), (73, [], .iload_n 3, [1], 0, 0, []), (74, [], .invokevirtual 195, [3, 176, 3, 1, 5, 10], 0, 0, []), (77, [], .iload_n 2, [1], 0, 0, []), (78, [], .iand, [1], 0, 0, []), (79, [], .iload_n 2, [1], 0, 0, []), (80, [], .if_icmp .eq 6, [3, 86], 0, 0, []), (83, [], .goto 116, [3, 199], 0, 0, []), (86, [], .iconst 0, [1], 0, 0, []), (87, [], .istore 4, [2], 0, 0, []), (89, [5, 6], .iload 4, [2], 0, 0, []), (91, [], .bipush 6, [2], 6, 0, []), (93, [], .if_icmp .ge 106, [3, 199], 0, 0, []), (96, [], .aload_n 0, [1], 0, 0, []), (97, [], .iload_n 3, [1], 0, 0, []), (98, [], .iload 4, [2], 0, 0, []), (100, [], .iload_n 1, [1], 0, 0, []), (101, [], .invokevirtual 210, [3, 184, 4, 1, 7, 10], 0, 0, []), (104, [], .istore 5, [2], 0, 0, []), (106, [], .iload 5, [2], 0, 0, []), (108, [], .aload_n 0, [1], 0, 0, []), (109, [], .getfield 201, [3, 10, 14, 0, 0, 0], 0, 0, []), (112, [], .if_icmp .lt 52, [3, 164], 0, 0, []), (115, [], .iload 5, [2], 0, 0, []), (117, [], .aload_n 0, [1], 0, 0, []), (118, [], .getfield 201, [3, 10, 14, 0, 0, 0], 0, 0, []), (121, [], .if_icmp .ne 47, [3, 168], 0, 0, []), (124, [], .iload 5, [2], 0, 0, []), (126, [], .sipush 1000, [3], 1000, 0, []), (129, [], .if_icmp .ge 39, [3, 168], 0, 0, []), (132, [], .iload 4, [2], 0, 0, []), (134, [], .aload_n 0, [1], 0, 0, []), (135, [], .getfield 204, [3, 10, 15, 0, 0, 0], 0, 0, []), (138, [], .if_icmp .lt 26, [3, 164], 0, 0, []), (141, [], .iload 4, [2], 0, 0, []), (143, [], .aload_n 0, [1], 0, 0, []), (144, [], .getfield 204, [3, 10, 15, 0, 0, 0], 0, 0, []), (147, [], .if_icmp .ne 21, [3, 168], 0, 0, []), (150, [], .iload_n 3, [1], 0, 0, []), (151, [], .invokestatic 182, [3, 173, 1, 1, 3, 200], 0, 0, []), (154, [], .aload_n 0, [1], 0, 0, []), (155, [], .getfield 207, [3, 10, 16, 0, 0, 0], 0, 0, []), (158, [], .invokestatic 182, [3, 173, 1, 1, 3, 200], 0, 0, []), (161, [], .if_icmp .ge 7, [3, 168], 0, 0, []), (164, [6], .iconst 1, [1], 1, 0, []), (165, [], .goto 4, [3, 169], 0, 0, []), (168, [6], .iconst 0, [1], 0, 0, []), (169, [], .istore 6, [2], 0, 0, []), (171, [], .iload 6, [2], 0, 0, []), (173, [], .ifCond .eq 20, [3, 193], 0, 0, []), (176, [], .aload_n 0, [1], 0, 0, []), (177, [], .iload 5, [2], 0, 0, []), (179, [], .putfield 201, [3, 10, 14, 0], 0, 0, []), (182, [], .aload_n 0, [1], 0, 0, []), (183, [], .iload 4, [2], 0, 0, []), (185, [], .putfield 204, [3, 10, 15, 0], 0, 0, []), (188, [], .aload_n 0, [1], 0, 0, []), (189, [], .iload_n 3, [1], 0, 0, []), (190, [], .putfield 207, [3, 10, 16, 0], 0, 0, []), (193, [], .iinc 4 1, [3], 1, 0, []), (196, [], .goto (-107), [3, 89], 0, 0, []), (199, [4, 5, 6], .iinc 3 1, [3], 1, 0, []), (202, [], .goto (-144), [3, 58], 0, 0, []), (205, [], .return_, [1], 0, 0, [])]
/-- 183: OneNoteModel.measure()V -/
def K183 : List je := [(0, [], .iconst 0, [1], 0, 0, []), (1, [], .istore_n 1, [1], 0, 0, []), (2, [2, 3], .iload_n 1, [1], 0, 0, []), (3, [], .bipush 36, [2], 36, 0, []), (5, [], .if_icmp .ge 42, [3, 47], 0, 0, []), (8, [], .aload_n 0, [1], 0, 0, []), (9, [], .getfield 36, [3, 10, 13, 2, 1036, 8], 0, 0, []), (12, [], .iload_n 1, [1], 0, 0, []), (13, [], .iload_n 1, [1], 0, 0, []), (14, [], .bipush 7, [2], 7, 0, []), (16, [], .irem, [1], 0, 0, []), (17, [], .ifCond .ne 7, [3, 24], 0, 0, []), (20, [], .iconst 0, [1], 0, 0, []), (21, [], .goto 19, [3, 40], 0, 0, []), (24, [], .aload_n 0, [1], 0, 0, []), (25, [], .getfield 7, [3, 10, 0, 2, 1560, 1], 0, 0, []), (28, [], .iload_n 1, [1], 0, 0, []), (29, [], .iaload, [1], 0, 0, []), (30, [], .iconst 1, [1], 1, 0, []), (31, [], .if_icmp .ne 7, [3, 38], 0, 0, []), (34, [], .iconst 1, [1], 1, 0, []), (35, [], .goto 5, [3, 40], 0, 0, []), (38, [], .bipush 100, [2], 100, 0, []), (40, [], .iastore, [1], 0, 0, []), (41, [], .iinc 1 1, [3], 1, 0, []), (44, [], .goto (-42), [3, 2], 0, 0, []), (47, [], .iconst 0, [1], 0, 0, []), (48, [], .istore_n 1, [1], 0, 0, []), (49, [2, 3], .iload_n 1, [1], 0, 0, []), (50, [], .bipush 6, [2], 6, 0, []), (52, [], .if_icmp .ge 79, [3, 131], 0, 0, []), (55, [], .iconst 0, [1], 0, 0, []), (56, [], .istore_n 2, [1], 0, 0, []), (57, [3], .iload_n 2, [1], 0, 0, []), (58, [], .bipush 36, [2], 36, 0, []), (60, [], .if_icmp .ge 65, [3, 125], 0, 0, []), (63, [], .aload_n 0, [1], 0, 0, []), (64, [], .getfield 36, [3, 10, 13, 2, 1036, 8], 0, 0, []), (67, [], .iload_n 2, [1], 0, 0, []), (68, [], .bipush 6, [2], 6, 0, []), (70, [], .idiv, [1], 0, 0, []), (71, [], .bipush 6, [2], 6, 0, []), (73, [], .imul, [1], 0, 0, []), (74, [], .iload_n 1, [1], 0, 0, []), (75, [], .iadd, [1], 0, 0, []), (76, [], .iaload, [1], 0, 0, []), (77, [], .aload_n 0, [1], 0, 0, []), (78, [], .getfield 36, [3, 10, 13, 2, 1036, 8], 0, 0, []), (81, [], .bipush 6, [2], 6, 0, []), (83, [], .iload_n 1, [1], 0, 0, []), (84, [], .imul, [1], 0, 0, []), (85, [], .iload_n 2, [1], 0, 0, []), (86, [], .bipush 6, [2], 6, 0, []), (88, [], .irem, [1], 0, 0, []), (89, [], .iadd, [1], 0, 0, []), (90, [], .iaload, [1], 0, 0, []), (91, [], .iadd, [1], 0, 0, []), (92, [], .istore_n 3, [1], 0, 0, []), (93, [], .aload_n 0, [1], 0, 0, []), (94, [], .getfield 36, [3, 10, 13, 2, 1036, 8], 0, 0, []), (97, [], .iload_n 2, [1], 0, 0, []), (98, [], .iload_n 3, [1], 0, 0, []), (99, [], .aload_n 0, [1], 0, 0, []), (100, [], .getfield 36, [3, 10, 13, 2, 1036, 8], 0, 0, []), (103, [], .iload_n 2, [1], 0, 0, []), (104, [], .iaload, [1], 0, 0, []), (105, [], .if_icmp .ge 7, [3, 112], 0, 0, []), (108, [], .iload_n 3, [1], 0, 0, []), (109, [], .goto 9, [3, 118], 0, 0, []), (112, [], .aload_n 0, [1], 0, 0, []), (113, [], .getfield 36, [3, 10, 13, 2, 1036, 8], 0, 0, []), (116, [], .iload_n 2, [1], 0, 0, []), (117, [], .iaload, [1], 0, 0, []), (118, [], .iastore, [1], 0, 0, []), (119, [], .iinc 2 1, [3], 1, 0, []), (122, [], .goto (-65), [3, 57], 0, 0, []), (125, [], .iinc 1 1, [3], 1, 0, []), (128, [], .goto (-79), [3, 49], 0, 0, []), (131, [], .return_, [1], 0, 0, [])]
/-- 184: OneNoteModel.stepsOf(III)I -/
def K184 : List je := [(0, [], .iconst 0, [1], 0, 0, []), (1, [], .istore 4, [2], 0, 0, []), (3, [], .iconst 0, [1], 0, 0, []), (4, [], .istore 5, [2], 0, 0, []), (6, [6], .iload 5, [2], 0, 0, []), (8, [], .aload_n 0, [1], 0, 0, []), (9, [], .getfield 7, [3, 10, 0, 2, 1560, 1], 0, 0, []), (12, [], .bipush 72, [2], 72, 0, []), (14, [], .iaload, [1], 0, 0, []), (15, [], .if_icmp .ge 63, [3, 78], 0, 0, []), (18, [], .iload_n 1, [1], 0, 0, []), (19, [], .iload 5, [2], 0, 0, []), (21, [], .invokestatic 101, [3, 155, 2, 1, 2, 200], 0, 0, []), (24, [], .ifCond .eq 26, [3, 50], 0, 0, []), (27, [], .aload_n 0, [1], 0, 0, []), (28, [], .getfield 36, [3, 10, 13, 2, 1036, 8], 0, 0, []), (31, [], .bipush 6, [2], 6, 0, []), (33, [], .aload_n 0, [1], 0, 0, []), (34, [], .getfield 7, [3, 10, 0, 2, 1560, 1], 0, 0, []), (37, [], .bipush 87, [2], 87, 0, []), (39, [], .iload 5, [2], 0, 0, []), (41, [], .iadd, [1], 0, 0, []), (42, [], .iaload, [1], 0, 0, []), (43, [], .imul, [1], 0, 0, []), (44, [], .iload_n 2, [1], 0, 0, []), (45, [], .iadd, [1], 0, 0, []), (46, [], .iaload, [1], 0, 0, []), (47, [], .goto 4, [3, 51], 0, 0, []), (50, [], .iconst 0, [1], 0, 0, []), (51, [], .istore 6, [2], 0, 0, []), (53, [], .iload 4, [2], 0, 0, []), (55, [], .iload 6, [2], 0, 0, []), (57, [], .iload_n 3, [1], 0, 0, []), (58, [], .if_icmp .le 9, [3, 67], 0, 0, []), (61, [], .sipush 1000, [3], 1000, 0, []), (64, [], .goto 5, [3, 69], 0, 0, []), (67, [], .iload 6, [2], 0, 0, []), (69, [], .iadd, [1], 0, 0, []), (70, [], .istore 4, [2], 0, 0, []), (72, [], .iinc 5 1, [3], 1, 0, []), (75, [], .goto (-69), [3, 6], 0, 0, []), (78, [], .iload 4, [2], 0, 0, []), (80, [], .ireturn, [1, 0], 0, 0, [])]
/-- 185: OneNoteModel.inTime(I)I -/
def K185 : List je := [(0, [], .iload_n 1, [1], 0, 0, []), (1, [], .i2l, [1], 0, 0, []), (2, [], .lconst 0, [1], 0, 0, []), (3, [], .ldc2_w 71, [3], 0, 9, []), (6, [], .invokestatic 57, [3, 140, 3, 1, 6, 200], 0, 0, []), (9, [], .ifCond .ne 10, [3, 19], 0, 0, []), (12, [], .aload_n 0, [1], 0, 0, []), (13, [], .bipush (-2), [2], (-2), 0, []), (15, [], .invokevirtual 79, [3, 141, 2, 1, 2, 10], 0, 0, []), (18, [], .ireturn, [1, 0], 0, 0, []), (19, [], .aload_n 0, [1], 0, 0, []), (20, [], .iload_n 1, [1], 0, 0, []), (21, [], .invokevirtual 213, [3, 182, 2, 0, 7, 10], 0, 0, []), (24, [], .aload_n 0, [1], 0, 0, []), (25, [], .getfield 207, [3, 10, 16, 0, 0, 0], 0, 0, []), (28, [], .iconst (-1), [1], (-1), 0, []), (29, [], .if_icmp .ne 7, [3, 36], 0, 0, []), (32, [], .iconst (-1), [1], (-1), 0, []), (33, [], .goto 7, [3, 40], 0, 0, []), (36, [], .aload_n 0, [1], 0, 0, []), (37, [], .getfield 201, [3, 10, 14, 0, 0, 0], 0, 0, []), (40, [], .ireturn, [1, 0], 0, 0, [])]
/-- 186: OneNoteModel.taken(III)I -/
def K186 : List je := [(0, [], .aload_n 0, [1], 0, 0, []), (1, [], .iload_n 1, [1], 0, 0, []), (2, [], .invokevirtual 189, [3, 170, 2, 1, 2, 10], 0, 0, []), (5, [], .ifCond .eq 28, [3, 33], 0, 0, []), (8, [], .aload_n 0, [1], 0, 0, []), (9, [], .iload_n 2, [1], 0, 0, []), (10, [], .invokevirtual 189, [3, 170, 2, 1, 2, 10], 0, 0, []), (13, [], .ifCond .eq 20, [3, 33], 0, 0, []), (16, [], .iload_n 1, [1], 0, 0, []), (17, [], .iload_n 2, [1], 0, 0, []), (18, [], .if_icmp .eq 15, [3, 33], 0, 0, []), (21, [], .iload_n 3, [1], 0, 0, []), (22, [], .i2l, [1], 0, 0, []), (23, [], .lconst 0, [1], 0, 0, []), (24, [], .ldc2_w 223, [3], 0, 3, []), (27, [], .invokestatic 57, [3, 140, 3, 1, 6, 200], 0, 0, []), (30, [], .ifCond .ne 10, [3, 40], 0, 0, []), (33, [1, 2, 3], .aload_n 0, [1], 0, 0, []), (34, [], .bipush (-2), [2], (-2), 0, []), (36, [], .invokevirtual 79, [3, 141, 2, 1, 2, 10], 0, 0, []), (39, [], .ireturn, [1, 0], 0, 0, []), (40, [], .aload_n 0, [1], 0, 0, []), (41, [], .iload_n 1, [1], 0, 0, []), (42, [], .iload_n 2, [1], 0, 0, []), (43, [], .iload_n 3, [1], 0, 0, []), (44, [], .invokevirtual 225, [3, 187, 4, 1, 8, 10], 0, 0, []), (47, [], .ifCond .eq 7, [3, 54], 0, 0, []), (50, [], .iconst 1, [1], 1, 0, []), (51, [], .goto 4, [3, 55], 0, 0, []), (54, [], .iconst 0, [1], 0, 0, []), (55, [0, 1, 2, 3], .ireturn, [1, 0], 0, 0, [])]
/-- 187: OneNoteModel.areTaken(III)Z -/
def K187 : List je := [(0, [], .iconst 0, [1], 0, 0, []), (1, [], .istore 4, [2], 0, 0, []), (3, [5, 6, 7], .iload 4, [2], 0, 0, []), (5, [], .iconst 3, [1], 3, 0, []), (6, [], .if_icmp .ge 90, [3, 96], 0, 0, []), (9, [], .iconst 1, [1], 1, 0, []), (10, [], .istore 5, [2], 0, 0, []), (12, [6, 7], .iload 5, [2], 0, 0, []), (14, [], .iconst 3, [1], 3, 0, []), (15, [], .if_icmp .ge 75, [3, 90], 0, 0, []), (18, [], .iconst 1, [1], 1, 0, []), (19, [], .istore 6, [2], 0, 0, []), (21, [], .iconst 0, [1], 0, 0, []), (22, [], .istore 7, [2], 0, 0, []), (24, [], .iload 7, [2], 0, 0, []), (26, [], .iconst 3, [1], 3, 0, []), (27, [], .if_icmp .ge 50, [3, 77], 0, 0, []), (30, [], .iload 6, [2], 0, 0, []), (32, [], .ifCond .eq 36, [3, 68], 0, 0, []), (35, [], .aload_n 0, [1], 0, 0, []), (36, [], .iload_n 1, [1], 0, 0, []), (37, [], .iload 7, [2], 0, 0, []), (39, [], .invokevirtual 217, [3, 188, 3, 1, 5, 10], 0, 0, []), (42, [], .aload_n 0, [1], 0, 0, []), (43, [], .iload_n 2, [1], 0, 0, []), (44, [], .iload 4, [2], 0, 0, []), (46, [], .iload 5, [2], 0, 0, []), (48, [], .iload 7, [2], 0, 0, []), (50, [], .imul, [1], 0, 0, []), (51, [], .iadd, [1], 0, 0, []), (52, [], .iconst 3, [1], 3, 0, []), (53, [], .irem, [1], 0, 0, []), (54, [], .invokevirtual 217, [3, 188, 3, 1, 5, 10], 0, 0, []), (57, [], .iload_n 3, [1], 0, 0, []), (58, [], .invokestatic 220, [3, 189, 3, 1, 4, 200], 0, 0, []), (61, [], .ifCond .eq 7, [3, 68], 0, 0, []), (64, [], .iconst 1, [1], 1, 0, []), (65, [], .goto 4, [3, 69], 0, 0, []), (68, [], .iconst 0, [1], 0, 0, []), (69, [], .istore 6, [2], 0, 0, []), (71, [], .iinc 7 1, [3], 1, 0, []), (74, [], .goto (-50), [3, 24], 0, 0, []), (77, [], .iload 6, [2], 0, 0, []), (79, [], .ifCond .eq 5, [3, 84], 0, 0, []), (82, [], .iconst 1, [1], 1, 0, []), (83, [], .ireturn, [1, 1], 0, 0, []), (84, [], .iinc 5 1, [3], 1, 0, []), (87, [], .goto (-75), [3, 12], 0, 0, []), (90, [], .iinc 4 1, [3], 1, 0, []), (93, [], .goto (-90), [3, 3], 0, 0, []), (96, [], .iconst 0, [1], 0, 0, []), (97, [], .ireturn, [1, 1], 0, 0, [])]
/-- 188: OneNoteModel.noteOf(II)I -/
def K188 : List je := [(0, [], .iload_n 2, [1], 0, 0, []), (1, [], .istore_n 3, [1], 0, 0, []), (2, [], .iconst 0, [1], 0, 0, []), (3, [], .istore 4, [2], 0, 0, []), (5, [2], .iload 4, [2], 0, 0, []), (7, [], .bipush 12, [2], 12, 0, []), (9, [], .if_icmp .ge 36, [3, 45], 0, 0, []), (12, [], .aload_n 0, [1], 0, 0, []), (13, [], .getfield 7, [3, 10, 0, 2, 1560, 1], 0, 0, []), (16, [], .bipush 102, [2], 102, 0, []), (18, [], .iload_n 1, [1], 0, 0, []), (19, [], .iadd, [1], 0, 0, []), (20, [], .iaload, [1], 0, 0, []), (21, [], .iload 4, [2], 0, 0, []), (23, [], .invokestatic 101, [3, 155, 2, 1, 2, 200], 0, 0, []), (26, [], .ifCond .eq 13, [3, 39], 0, 0, []), (29, [], .iload_n 3, [1], 0, 0, []), (30, [], .ifCond .ne 6, [3, 36], 0, 0, []), (33, [], .iload 4, [2], 0, 0, []), (35, [], .ireturn, [1, 0], 0, 0, []), (36, [], .iinc 3 (-1), [3], (-1), 0, []), (39, [], .iinc 4 1, [3], 1, 0, []), (42, [], .goto (-37), [3, 5], 0, 0, []), (45, [], .iconst (-1), [1], (-1), 0, []), (46, [], .ireturn, [1, 0], 0, 0, [])]
/-- 189: OneNoteModel.areNear(III)Z -/
def K189 : List je := [(0, [], .iload_n 0, [1], 0, 0, []), (1, [], .iload_n 1, [1], 0, 0, []), (2, [], .if_icmp .ge 9, [3, 11], 0, 0, []), (5, [], .iload_n 1, [1], 0, 0, []), (6, [], .iload_n 0, [1], 0, 0, []), (7, [], .isub, [1], 0, 0, []), (8, [], .goto 6, [3, 14], 0, 0, []), (11, [], .iload_n 0, [1], 0, 0, []), (12, [], .iload_n 1, [1], 0, 0, []), (13, [], .isub, [1], 0, 0, []), (14, [0, 1, 3], .istore_n 3, [1], 0, 0, []), (15, [], .iload_n 3, [1], 0, 0, []), (16, [], .iload_n 2, [1], 0, 0, []), (17, [], .if_icmp .le 11, [3, 28], 0, 0, []), (20, [], .bipush 12, [2], 12, 0, []), (22, [], .iload_n 3, [1], 0, 0, []), (23, [], .isub, [1], 0, 0, []), (24, [], .iload_n 2, [1], 0, 0, []), (25, [], .if_icmp .gt 7, [3, 32], 0, 0, []), (28, [], .iconst 1, [1], 1, 0, []), (29, [], .goto 4, [3, 33], 0, 0, []), (32, [], .iconst 0, [1], 0, 0, []), (33, [], .ireturn, [1, 1], 0, 0, [])]
/-- 190: OneNoteModel.drop(I)I -/
def K190 : List je := [(0, [], .iload_n 1, [1], 0, 0, []), (1, [], .i2l, [1], 0, 0, []), (2, [], .lconst 0, [1], 0, 0, []), (3, [], .ldc2_w 223, [3], 0, 3, []), (6, [], .invokestatic 57, [3, 140, 3, 1, 6, 200], 0, 0, []), (9, [], .ifCond .ne 10, [3, 19], 0, 0, []), (12, [], .aload_n 0, [1], 0, 0, []), (13, [], .bipush (-2), [2], (-2), 0, []), (15, [], .invokevirtual 79, [3, 141, 2, 1, 2, 10], 0, 0, []), (18, [], .ireturn, [1, 0], 0, 0, []), (19, [], .aload_n 0, [1], 0, 0, []), (20, [], .getfield 7, [3, 10, 0, 2, 1560, 1], 0, 0, []), (23, [], .bipush 101, [2], 101, 0, []), (25, [], .iaload, [1], 0, 0, []), (26, [], .istore_n 2, [1], 0, 0, []), (27, [], .iconst 0, [1], 0, 0, []), (28, [], .istore_n 3, [1], 0, 0, []), (29, [4, 5, 6], .iload_n 3, [1], 0, 0, []), (30, [], .iload_n 2, [1], 0, 0, []), (31, [], .if_icmp .ge 65, [3, 96], 0, 0, []), (34, [], .aload_n 0, [1], 0, 0, []), (35, [], .getfield 39, [3, 10, 17, 2, 1008, 9], 0, 0, []), (38, [], .iload_n 3, [1], 0, 0, []), (39, [], .iconst 0, [1], 0, 0, []), (40, [], .iastore, [1], 0, 0, []), (41, [], .iconst 0, [1], 0, 0, []), (42, [], .istore 4, [2], 0, 0, []), (44, [5, 6], .iload 4, [2], 0, 0, []), (46, [], .iload_n 2, [1], 0, 0, []), (47, [], .if_icmp .ge 43, [3, 90], 0, 0, []), (50, [], .aload_n 0, [1], 0, 0, []), (51, [], .getfield 39, [3, 10, 17, 2, 1008, 9], 0, 0, []), (54, [], .iload_n 3, [1], 0, 0, []), (55, [], .dup2, [1], 0, 0, []), (56, [], .iaload, [1], 0, 0, []), (57, [], .iload_n 3, [1], 0, 0, []), (58, [], .iload 4, [2], 0, 0, []), (60, [], .if_icmp .eq 21, [3, 81], 0, 0, []), (63, [], .aload_n 0, [1], 0, 0, []), (64, [], .iload_n 3, [1], 0, 0, []), (65, [], .iload 4, [2], 0, 0, []), (67, [], .iload_n 1, [1], 0, 0, []), (68, [], .invokevirtual 225, [3, 187, 4, 1, 8, 10], 0, 0, []), (71, [], .ifCond .eq 10, [3, 81], 0, 0, []), (74, [], .iconst 1, [1], 1, 0, []), (75, [], .iload 4, [2], 0, 0, []), (77, [], .ishl, [1], 0, 0, []), (78, [], .goto 4, [3, 82], 0, 0, []), (81, [], .iconst 0, [1], 0, 0, []), (82, [], .ior, [1], 0, 0, []), (83, [], .iastore, [1], 0, 0, []), (84, [], .iinc 4 1, [3], 1, 0, []), (87, [], .goto (-43), [3, 44], 0, 0, []), (90, [], .iinc 3 1, [3], 1, 0, []), (93, [], .goto (-64), [3, 29], 0, 0, []), (96, [], .iconst (-1), [1], (-1), 0, []), (97, [], .istore_n 3, [1], 0, 0, []), (98, [], .iconst 0, [1], 0, 0, []), (99, [], .istore 4, [2], 0, 0, []), (101, [1, 5, 6], .iload 4, [2], 0, 0, []), (103, [], .iconst 1, [1], 1, 0, []), (104, [], .iload_n 2, [1], 0, 0, []), (105, [], .ishl, [1], 0, 0, []), (106, [], .if_icmp .ge 97, [3, 203], 0, 0, []), (109, [], .iload_n 3, [1], 0, 0, []), (110, [], .iconst (-1), [1], (-1), 0, []), (111, [], .if_icmp .eq 15, [3, 126], 0, 0, []), (114, [], .iload 4, [2], 0, 0, []), (116, [], .invokestatic 182, [3, 173, 1, 1, 3, 200], 0, 0, []), (119, [], .iload_n 3, [1], 0, 0, []), (120, [], .invokestatic 182, [3, 173, 1, 1, 3, 200], 0, 0, []), (123, [], .if_icmp .ge 7, [3, 130], 0, 0, []), (126, [], .iconst 1, [1], 1, 0, []), (127, [], .goto 4, [3, 131], 0, 0, []), (130, [], .iconst 0, [1], 0, 0, []), (131, [], .istore 5, [2], 0, 0, []), (133, [], .iconst 0, [1], 0, 0, []), (134, [], .istore 6, [2], 0, 0, []), (136, [1], .iload 6, [2], 0, 0, []), (138, [], .iload_n 2, [1], 0, 0, []), (139, [], .if_icmp .ge 46, [3, 185], 0, 0, []), (142, [], .iload 5, [2], 0, 0, []), (144, [], .ifCond .eq 41, [3, 185], 0, 0, []), (147, [], .iload 4, [2], 0, 0, []), (149, [], .iload 6, [2], 0, 0, []), (151, [], .invokestatic 101, [3, 155, 2, 1, 2, 200], 0, 0, []), (154, [], .ifCond .ne 18, [3, 172], 0, 0, []), (157, [], .aload_n 0, [1], 0, 0, []), (158, [], .getfield 39, [3, 10, 17, 2, 1008, 9], 0, 0, []), (161, [], .iload 6, [2], 0, 0, []), (163, [], .iaload, [1], 0, 0, []), (164, [], .iload 4, [2], 0, 0, []), (166, [], .iconst (-1), [1], (-1), 0, []), (167, [], .ixor, [1], 0, 0, []), (168, [], .iand, [1], 0, 0, []), (169, [], .ifCond .ne 7, [3, 176], 0, 0, []), (172, [1, 5], .iconst 1, [1], 1, 0, []), (173, [], .goto 4, [3, 177], 0, 0, []), (176, [], .iconst 0, [1], 0, 0, []), (177, [1, 5], .istore 5, [2], 0, 0, []), (179, [], .iinc 6 1, [3], 1, 0, []), (182, [], .goto (-46), [3, 136], 0, 0, []), (185, [1, 6], .iload 5, [2], 0, 0, []), (187, [], .ifCond .eq 8, [3, 195], 0, 0, []), (190, [], .iload 4, [2], 0, 0, []), (192, [], .goto 4, [3, 196], 0, 0, []), (195, [], .iload_n 3, [1], 0, 0, []), (196, [], .istore_n 3, [1], 0, 0, []), (197, [], .iinc 4 1, [3], 1, 0, []), (200, [], .goto (-99), [3, 101], 0, 0, []), (203, [], .iload_n 3, [1], 0, 0, []), (204, [], .ireturn, [1, 0], 0, 0, [])]
/-- 191: OneNoteModel.news(III)I -/
def K191 : List je := [(0, [], .iload_n 1, [1], 0, 0, []), (1, [], .invokestatic 61, [3, 139, 1, 1, 1, 200], 0, 0, []), (4, [], .ifCond .eq 15, [3, 19], 0, 0, []), (7, [], .iload_n 2, [1], 0, 0, []), (8, [], .invokestatic 61, [3, 139, 1, 1, 1, 200], 0, 0, []), (11, [], .ifCond .eq 8, [3, 19], 0, 0, []), (14, [], .iload_n 3, [1], 0, 0, []), (15, [], .iconst (-1), [1], (-1), 0, []), (16, [], .if_icmp .ge 16, [3, 32], 0, 0, []), (19, [1, 2, 3, 4, 5, 6], .aload_n 0, [1], 0, 0, []), (20, [], .getfield 24, [3, 10, 6, 2, 1003, 4], 0, 0, []), (23, [], .iconst 0, [1], 0, 0, []), (24, [], .dup2, [1], 0, 0, []), (25, [], .iaload, [1], 0, 0, []), (26, [], .iconst 1, [1], 1, 0, []), (27, [], .iadd, [1], 0, 0, []), (28, [], .iastore, [1], 0, 0, []), (29, [], .bipush (-10), [2], (-10), 0, []), (31, [], .ireturn, [1, 0], 0, 0, []), (32, [], .aload_n 0, [1], 0, 0, []), (33, [], .iload_n 2, [1], 0, 0, []), (34, [], .invokevirtual 231, [3, 192, 2, 0, 6, 10], 0, 0, []), (37, [], .aload_n 0, [1], 0, 0, []), (38, [], .getfield 42, [3, 10, 18, 2, 1006, 10], 0, 0, []), (41, [], .iload_n 1, [1], 0, 0, []), (42, [], .iaload, [1], 0, 0, []), (43, [], .ifCond .ge 5, [3, 48], 0, 0, []), (46, [], .iconst (-1), [1], (-1), 0, []), (47, [], .ireturn, [1, 0], 0, 0, []), (48, [], .iload_n 3, [1], 0, 0, []), (49, [], .iconst (-1), [1], (-1), 0, []), (50, [], .if_icmp .ne 13, [3, 63], 0, 0, []), (53, [], .aload_n 0, [1], 0, 0, []), (54, [], .getfield 42, [3, 10, 18, 2, 1006, 10], 0, 0, []), (57, [], .iload_n 1, [1], 0, 0, []), (58, [], .iaload, [1], 0, 0, []), (59, [], .bipush 100, [2], 100, 0, []), (61, [], .idiv, [1], 0, 0, []), (62, [], .ireturn, [1, 0], 0, 0, []), (63, [], .iload_n 1, [1], 0, 0, []), (64, [], .istore 4, [2], 0, 0, []), (66, [], .iconst 0, [1], 0, 0, []), (67, [], .istore 5, [2], 0, 0, []), (69, [1, 6], .iload 5, [2], 0, 0, []), (71, [], .iload_n 3, [1], 0, 0, []), (72, [], .if_icmp .ge 50, [3, 122], 0, 0, []), (75, [], .iload 4, [2], 0, 0, []), (77, [], .iload_n 2, [1], 0, 0, []), (78, [], .if_icmp .ne 6, [3, 84], 0, 0, []), (81, [], .bipush (-5), [2], (-5), 0, []), (83, [], .ireturn, [1, 0], 0, 0, []), (84, [], .iconst 0, [1], 0, 0, []), (85, [], .istore 6, [2], 0, 0, []), (87, [1], .aload_n 0, [1], 0, 0, []), (88, [], .iload 4, [2], 0, 0, []), (90, [], .iload 6, [2], 0, 0, []), (92, [], .iload_n 2, [1], 0, 0, []), (93, [], .invokevirtual 228, [3, 193, 4, 1, 4, 10], 0, 0, []), (96, [], .aload_n 0, [1], 0, 0, []), (97, [], .getfield 42, [3, 10, 18, 2, 1006, 10], 0, 0, []), (100, [], .iload 4, [2], 0, 0, []), (102, [], .iaload, [1], 0, 0, []), (103, [], .if_icmp .eq 9, [3, 112], 0, 0, []), (106, [], .iinc 6 1, [3], 1, 0, []), (109, [], .goto (-22), [3, 87], 0, 0, []), (112, [], .iload 6, [2], 0, 0, []), (114, [], .istore 4, [2], 0, 0, []), (116, [], .iinc 5 1, [3], 1, 0, []), (119, [], .goto (-50), [3, 69], 0, 0, []), (122, [], .iload 4, [2], 0, 0, []), (124, [], .ireturn, [1, 0], 0, 0, [])]
/-- 192: OneNoteModel.findCosts(I)V -/
def K192 : List je := [(0, [], .iconst 0, [1], 0, 0, []), (1, [], .istore_n 2, [1], 0, 0, []), (2, [3, 4, 5], .iload_n 2, [1], 0, 0, []), (3, [], .bipush 6, [2], 6, 0, []), (5, [], .if_icmp .ge 25, [3, 30], 0, 0, []), (8, [], .aload_n 0, [1], 0, 0, []), (9, [], .getfield 42, [3, 10, 18, 2, 1006, 10], 0, 0, []), (12, [], .iload_n 2, [1], 0, 0, []), (13, [], .iload_n 2, [1], 0, 0, []), (14, [], .iload_n 1, [1], 0, 0, []), (15, [], .if_icmp .ne 7, [3, 22], 0, 0, []), (18, [], .iconst 0, [1], 0, 0, []), (19, [], .goto 4, [3, 23], 0, 0, []), (22, [], .iconst (-1), [1], (-1), 0, []), (23, [], .iastore, [1], 0, 0, []), (24, [], .iinc 2 1, [3], 1, 0, []), (27, [], .goto (-25), [3, 2], 0, 0, []), (30, [], .iconst 0, [1], 0, 0, []), (31, [], .istore_n 2, [1], 0, 0, []), (32, [3, 4, 5], .iload_n 2, [1], 0, 0, []), (33, [], .bipush 6, [2], 6, 0, []), (35, [], .if_icmp .ge 100, [3, 135], 0, 0, []), (38, [], .iconst 0, [1], 0, 0, []), (39, [], .istore_n 3, [1], 0, 0, []), (40, [4, 5], .iload_n 3, [1], 0, 0, []), (41, [], .bipush 6, [2], 6, 0, []), (43, [], .if_icmp .ge 86, [3, 129], 0, 0, []), (46, [], .iconst 0, [1], 0, 0, []), (47, [], .istore 4, [2], 0, 0, []), (49, [5], .iload 4, [2], 0, 0, []), (51, [], .bipush 6, [2], 6, 0, []), (53, [], .if_icmp .ge 70, [3, 123], 0, 0, []), (56, [], .iload_n 3, [1], 0, 0, []), (57, [], .iload_n 1, [1], 0, 0, []), (58, [], .if_icmp .ne 7, [3, 65], 0, 0, []), (61, [], .iconst (-1), [1], (-1), 0, []), (62, [], .goto 11, [3, 73], 0, 0, []), (65, [], .aload_n 0, [1], 0, 0, []), (66, [], .iload_n 3, [1], 0, 0, []), (67, [], .iload 4, [2], 0, 0, []), (69, [], .iload_n 1, [1], 0, 0, []), (70, [], .invokevirtual 228, [3, 193, 4, 1, 4, 10], 0, 0, []), (73, [5], .istore 5, [2], 0, 0, []), (75, [], .aload_n 0, [1], 0, 0, []), (76, [], .getfield 42, [3, 10, 18, 2, 1006, 10], 0, 0, []), (79, [], .iload_n 3, [1], 0, 0, []), (80, [], .iload 5, [2], 0, 0, []), (82, [], .ifCond .lt 28, [3, 110], 0, 0, []), (85, [], .aload_n 0, [1], 0, 0, []), (86, [], .getfield 42, [3, 10, 18, 2, 1006, 10], 0, 0, []), (89, [], .iload_n 3, [1], 0, 0, []), (90, [], .iaload, [1], 0, 0, []), (91, [], .ifCond .lt 14, [3, 105], 0, 0, []), (94, [], .iload 5, [2], 0, 0, []), (96, [], .aload_n 0, [1], 0, 0, []), (97, [], .getfield 42, [3, 10, 18, 2, 1006, 10], 0, 0, []), (100, [], .iload_n 3, [1], 0, 0, []), (101, [], .iaload, [1], 0, 0, []), (102, [], .if_icmp .ge 8, [3, 110], 0, 0, []), (105, [], .iload 5, [2], 0, 0, []), (107, [], .goto 9, [3, 116], 0, 0, []), (110, [], .aload_n 0, [1], 0, 0, []), (111, [], .getfield 42, [3, 10, 18, 2, 1006, 10], 0, 0, []), (114, [], .iload_n 3, [1], 0, 0, []), (115, [], .iaload, [1], 0, 0, []), (116, [], .iastore, [1], 0, 0, []), (117, [], .iinc 4 1, [3], 1, 0, []), (120, [], .goto (-71), [3, 49], 0, 0, []), (123, [], .iinc 3 1, [3], 1, 0, []), (126, [], .goto (-86), [3, 40], 0, 0, []), (129, [], .iinc 2 1, [3], 1, 0, []), (132, [], .goto (-100), [3, 32], 0, 0, []), (135, [], .return_, [1], 0, 0, [])]
/-- 193: OneNoteModel.costOn(III)I -/
def K193 : List je := [(0, [], .aload_n 0, [1], 0, 0, []), (1, [], .getfield 7, [3, 10, 0, 2, 1560, 1], 0, 0, []), (4, [], .bipush 36, [2], 36, 0, []), (6, [], .bipush 6, [2], 6, 0, []), (8, [], .iload_n 1, [1], 0, 0, []), (9, [], .imul, [1], 0, 0, []), (10, [], .iadd, [1], 0, 0, []), (11, [], .iload_n 2, [1], 0, 0, []), (12, [], .iadd, [1], 0, 0, []), (13, [], .iaload, [1], 0, 0, []), (14, [], .ifCond .eq 12, [3, 26], 0, 0, []), (17, [], .aload_n 0, [1], 0, 0, []), (18, [], .getfield 42, [3, 10, 18, 2, 1006, 10], 0, 0, []), (21, [], .iload_n 2, [1], 0, 0, []), (22, [], .iaload, [1], 0, 0, []), (23, [], .ifCond .ge 5, [3, 28], 0, 0, []), (26, [], .iconst (-1), [1], (-1), 0, []), (27, [], .ireturn, [1, 0], 0, 0, []), (28, [], .aload_n 0, [1], 0, 0, []), (29, [], .getfield 42, [3, 10, 18, 2, 1006, 10], 0, 0, []), (32, [], .iload_n 2, [1], 0, 0, []), (33, [], .iaload, [1], 0, 0, []), (34, [], .iconst 1, [1], 1, 0, []), (35, [], .iadd, [1], 0, 0, []), (36, [], .iload_n 2, [1], 0, 0, []), (37, [], .iload_n 3, [1], 0, 0, []), (38, [], .if_icmp .eq 16, [3, 54], 0, 0, []), (41, [], .aload_n 0, [1], 0, 0, []), (42, [], .iload_n 2, [1], 0, 0, []), (43, [], .invokevirtual 192, [3, 175, 2, 1, 4, 10], 0, 0, []), (46, [], .ifCond .ne 8, [3, 54], 0, 0, []), (49, [], .bipush 100, [2], 100, 0, []), (51, [], .goto 4, [3, 55], 0, 0, []), (54, [], .iconst 0, [1], 0, 0, []), (55, [], .iadd, [1], 0, 0, []), (56, [], .ireturn, [1, 0], 0, 0, [])]
/-- 194: OneNoteModel.hole(I)I -/
def K194 : List je := [(0, [], .iload_n 1, [1], 0, 0, []), (1, [], .i2l, [1], 0, 0, []), (2, [], .lconst 0, [1], 0, 0, []), (3, [], .ldc2_w 234, [3], 0, 4095, []), (6, [], .invokestatic 57, [3, 140, 3, 1, 6, 200], 0, 0, []), (9, [], .ifCond .eq 11, [3, 20], 0, 0, []), (12, [], .iload_n 1, [1], 0, 0, []), (13, [], .invokestatic 182, [3, 173, 1, 1, 3, 200], 0, 0, []), (16, [], .iconst 3, [1], 3, 0, []), (17, [], .if_icmp .le 10, [3, 27], 0, 0, []), (20, [], .aload_n 0, [1], 0, 0, []), (21, [], .bipush (-2), [2], (-2), 0, []), (23, [], .invokevirtual 79, [3, 141, 2, 1, 2, 10], 0, 0, []), (26, [], .ireturn, [1, 0], 0, 0, []), (27, [], .aload_n 0, [1], 0, 0, []), (28, [], .getfield 7, [3, 10, 0, 2, 1560, 1], 0, 0, []), (31, [], .bipush 126, [2], 126, 0, []), (33, [], .iaload, [1], 0, 0, []), (34, [], .istore_n 2, [1], 0, 0, []), (35, [], .iload_n 2, [1], 0, 0, []), (36, [], .bipush 6, [2], 6, 0, []), (38, [], .if_icmp .ne 10, [3, 48], 0, 0, []), (41, [], .aload_n 0, [1], 0, 0, []), (42, [], .bipush (-4), [2], (-4), 0, []), (44, [], .invokevirtual 79, [3, 141, 2, 1, 2, 10], 0, 0, []), (47, [], .ireturn, [1, 0], 0, 0, []), (48, [], .aload_n 0, [1], 0, 0, []), (49, [], .getfield 7, [3, 10, 0, 2, 1560, 1], 0, 0, []), (52, [], .bipush 127, [2], 127, 0, []), (54, [], .iload_n 2, [1], 0, 0, []), (55, [], .iadd, [1], 0, 0, []), (56, [], .iload_n 1, [1], 0, 0, []), (57, [], .iastore, [1], 0, 0, []), (58, [], .aload_n 0, [1], 0, 0, []), (59, [], .getfield 7, [3, 10, 0, 2, 1560, 1], 0, 0, []), (62, [], .bipush 126, [2], 126, 0, []), (64, [], .dup2, [1], 0, 0, []), (65, [], .iaload, [1], 0, 0, []), (66, [], .iconst 1, [1], 1, 0, []), (67, [], .iadd, [1], 0, 0, []), (68, [], .iastore, [1], 0, 0, []), (69, [], .iload_n 2, [1], 0, 0, []), (70, [], .ireturn, [1, 0], 0, 0, [])]
/-- 195: OneNoteModel.whole()I -/
def K195 : List je := [(0, [], .aload_n 0, [1], 0, 0, []), (1, [], .getfield 7, [3, 10, 0, 2, 1560, 1], 0, 0, []), (4, [], .bipush 126, [2], 126, 0, []), (6, [], .iaload, [1], 0, 0, []), (7, [], .istore_n 1, [1], 0, 0, []), (8, [], .aload_n 0, [1], 0, 0, []), (9, [], .getfield 7, [3, 10, 0, 2, 1560, 1], 0, 0, []), (12, [], .bipush 126, [2], 126, 0, []), (14, [], .iconst 0, [1], 0, 0, []), (15, [], .iastore, [1], 0, 0, []), (16, [], .iload_n 1, [1], 0, 0, []), (17, [], .ireturn, [1, 0], 0, 0, [])]
/-- 196: OneNoteModel.meant(I)I -/
def K196 : List je := [(0, [], .aload_n 0, [1], 0, 0, []), (1, [], .iload_n 1, [1], 0, 0, []), (2, [], .invokevirtual 236, [3, 197, 2, 1, 2, 10], 0, 0, []), (5, [], .ifCond .eq 11, [3, 16], 0, 0, []), (8, [], .aload_n 0, [1], 0, 0, []), (9, [], .iload_n 1, [1], 0, 0, []), (10, [], .invokevirtual 239, [3, 198, 2, 1, 4, 10], 0, 0, []), (13, [], .goto 9, [3, 22], 0, 0, []), (16, [], .aload_n 0, [1], 0, 0, []), (17, [], .bipush (-2), [2], (-2), 0, []), (19, [], .invokevirtual 79, [3, 141, 2, 1, 2, 10], 0, 0, []), (22, [], .ireturn, [1, 0], 0, 0, [])]
/-- 197: OneNoteModel.isHole(I)Z -/
def K197 : List je := [(0, [], .iload_n 1, [1], 0, 0, []), (1, [], .i2l, [1], 0, 0, []), (2, [], .lconst 0, [1], 0, 0, []), (3, [], .aload_n 0, [1], 0, 0, []), (4, [], .getfield 7, [3, 10, 0, 2, 1560, 1], 0, 0, []), (7, [], .bipush 126, [2], 126, 0, []), (9, [], .iaload, [1], 0, 0, []), (10, [], .iconst 1, [1], 1, 0, []), (11, [], .isub, [1], 0, 0, []), (12, [], .i2l, [1], 0, 0, []), (13, [], .invokestatic 57, [3, 140, 3, 1, 6, 200], 0, 0, []), (16, [], .ireturn, [1, 1], 0, 0, [])]
/-- 198: OneNoteModel.meantBy(I)I -/
def K198 : List je := [(0, [], .iconst 0, [1], 0, 0, []), (1, [], .istore_n 2, [1], 0, 0, []), (2, [], .iconst 0, [1], 0, 0, []), (3, [], .istore_n 3, [1], 0, 0, []), (4, [], .iload_n 3, [1], 0, 0, []), (5, [], .aload_n 0, [1], 0, 0, []), (6, [], .getfield 7, [3, 10, 0, 2, 1560, 1], 0, 0, []), (9, [], .bipush 101, [2], 101, 0, []), (11, [], .iaload, [1], 0, 0, []), (12, [], .if_icmp .ge 43, [3, 55], 0, 0, []), (15, [], .iload_n 2, [1], 0, 0, []), (16, [], .aload_n 0, [1], 0, 0, []), (17, [], .getfield 7, [3, 10, 0, 2, 1560, 1], 0, 0, []), (20, [], .bipush 127, [2], 127, 0, []), (22, [], .iload_n 1, [1], 0, 0, []), (23, [], .iadd, [1], 0, 0, []), (24, [], .iaload, [1], 0, 0, []), (25, [], .aload_n 0, [1], 0, 0, []), (26, [], .getfield 7, [3, 10, 0, 2, 1560, 1], 0, 0, []), (29, [], .bipush 102, [2], 102, 0, []), (31, [], .iload_n 3, [1], 0, 0, []), (32, [], .iadd, [1], 0, 0, []), (33, [], .iaload, [1], 0, 0, []), (34, [], .iconst (-1), [1], (-1), 0, []), (35, [], .ixor, [1], 0, 0, []), (36, [], .iand, [1], 0, 0, []), (37, [], .ifCond .ne 9, [3, 46], 0, 0, []), (40, [], .iconst 1, [1], 1, 0, []), (41, [], .iload_n 3, [1], 0, 0, []), (42, [], .ishl, [1], 0, 0, []), (43, [], .goto 4, [3, 47], 0, 0, []), (46, [], .iconst 0, [1], 0, 0, []), (47, [], .ior, [1], 0, 0, []), (48, [], .istore_n 2, [1], 0, 0, []), (49, [], .iinc 3 1, [3], 1, 0, []), (52, [], .goto (-48), [3, 4], 0, 0, []), (55, [], .iload_n 2, [1], 0, 0, []), (56, [], .ireturn, [1, 0], 0, 0, [])]
/-- 199: OneNoteModel.ways()I -/
def K199 : List je := [(0, [], .aload_n 0, [1], 0, 0, []), (1, [], .iconst 0, [1], 0, 0, []), (2, [], .iconst (-1), [1], (-1), 0, []), (3, [], .iconst 0, [1], 0, 0, []), (4, [], .invokevirtual 242, [3, 200, 4, 2, 12, 10], 0, 0, []), (7, [], .l2i, [1], 0, 0, []), (8, [], .ireturn, [1, 0], 0, 0, [])]
/-- 200: OneNoteModel.rows(ZII)J -/
def K200 : List je := [(0, [], .aload_n 0, [1], 0, 0, []), (1, [], .getfield 7, [3, 10, 0, 2, 1560, 1], 0, 0, []), (4, [], .bipush 101, [2], 101, 0, []), (6, [], .iaload, [1], 0, 0, []), (7, [], .istore 4, [2], 0, 0, []), (9, [], .lconst 1, [1], 0, 1, []), (10, [], .lstore 5, [2], 0, 0, []), (12, [], .iconst 0, [1], 0, 0, []), (13, [], .istore 7, [2], 0, 0, []), (15, [6, 8, 9, 10, 11], .iload 7, [2], 0, 0, []), (17, [], .iload 4, [2], 0, 0, []), (19, [], .if_icmp .ge 17, [3, 36], 0, 0, []), (22, [], .aload_n 0, [1], 0, 0, []), (23, [], .getfield 45, [3, 10, 19, 2, 2008, 11], 0, 0, []), (26, [], .iload 7, [2], 0, 0, []), (28, [], .lconst 0, [1], 0, 0, []), (29, [], .lastore, [1], 0, 0, []), (30, [], .iinc 7 1, [3], 1, 0, []), (33, [], .goto (-18), [3, 15], 0, 0, []), (36, [], .iconst 0, [1], 0, 0, []), (37, [], .istore 7, [2], 0, 0, []), (39, [6, 8, 9, 10, 11], .iload 7, [2], 0, 0, []), (41, [], .aload_n 0, [1], 0, 0, []), (42, [], .getfield 7, [3, 10, 0, 2, 1560, 1], 0, 0, []), (45, [], .bipush 126, [2], 126, 0, []), (47, [], .iaload, [1], 0, 0, []), (48, [], .if_icmp .ge 152, [3, 200], 0, 0, []), (51, [], .iload 7, [2], 0, 0, []), (53, [], .iload_n 2, [1], 0, 0, []), (54, [], .if_icmp .ne 16, [3, 70], 0, 0, []), (57, [], .aload_n 0, [1], 0, 0, []), (58, [], .iload 7, [2], 0, 0, []), (60, [], .invokevirtual 239, [3, 198, 2, 1, 4, 10], 0, 0, []), (63, [], .iconst 1, [1], 1, 0, []), (64, [], .iload_n 3, [1], 0, 0, []), (65, [], .ishl, [1], 0, 0, []), (66, [], .iand, [1], 0, 0, []), (67, [], .goto 9, [3, 76], 0, 0, []), (70, [], .aload_n 0, [1], 0, 0, []), (71, [], .iload 7, [2], 0, 0, []), (73, [], .invokevirtual 239, [3, 198, 2, 1, 4, 10], 0, 0, []), (76, [], .istore 8, [2], 0, 0, []), (78, [], .lconst 0, [1], 0, 0, []), (79, [], .lstore 9, [2], 0, 0, []), (81, [], .iconst 0, [1], 0, 0, []), (82, [], .istore 11, [2], 0, 0, []), (84, [6, 10], .iload 11, [2], 0, 0, []), (86, [], .iload 4, [2], 0, 0, []), (88, [], .if_icmp .ge 72, [3, 160], 0, 0, []), (91, [], .aload_n 0, [1], 0, 0, []), (92, [], .getfield 49, [3, 10, 20, 2, 2008, 12], 0, 0, []), (95, [], .iload 11, [2], 0, 0, []), (97, [], .iload 8, [2], 0, 0, []), (99, [], .iload 11, [2], 0, 0, []), (101, [], .invokestatic 101, [3, 155, 2, 1, 2, 200], 0, 0, []), (104, [], .ifCond .eq 36, [3, 140], 0, 0, []), (107, [], .lload 5, [2], 0, 0, []), (109, [], .aload_n 0, [1], 0, 0, []), (110, [], .getfield 45, [3, 10, 19, 2, 2008, 11], 0, 0, []), (113, [], .iload 11, [2], 0, 0, []), (115, [], .laload, [1], 0, 0, []), (116, [], .lsub, [1], 0, 0, []), (117, [], .iload_n 1, [1], 0, 0, []), (118, [], .ifCond .eq 16, [3, 134], 0, 0, []), (121, [], .aload_n 0, [1], 0, 0, []), (122, [], .getfield 7, [3, 10, 0, 2, 1560, 1], 0, 0, []), (125, [], .bipush 110, [2], 110, 0, []), (127, [], .iload 11, [2], 0, 0, []), (129, [], .iadd, [1], 0, 0, []), (130, [], .iaload, [1], 0, 0, []), (131, [], .goto 4, [3, 135], 0, 0, []), (134, [], .iconst 1, [1], 1, 0, []), (135, [], .i2l, [1], 0, 0, []), (136, [], .lmul, [1], 0, 0, []), (137, [], .goto 4, [3, 141], 0, 0, []), (140, [], .lconst 0, [1], 0, 0, []), (141, [], .lastore, [1], 0, 0, []), (142, [], .lload 9, [2], 0, 0, []), (144, [], .aload_n 0, [1], 0, 0, []), (145, [], .getfield 49, [3, 10, 20, 2, 2008, 12], 0, 0, []), (148, [], .iload 11, [2], 0, 0, []), (150, [], .laload, [1], 0, 0, []), (151, [], .ladd, [1], 0, 0, []), (152, [], .lstore 9, [2], 0, 0, []), (154, [], .iinc 11 1, [3], 1, 0, []), (157, [], .goto (-73), [3, 84], 0, 0, []), (160, [], .iconst 0, [1], 0, 0, []), (161, [], .istore 11, [2], 0, 0, []), (163, [5, 6, 8, 10], .iload 11, [2], 0, 0, []), (165, [], .iload 4, [2], 0, 0, []), (167, [], .if_icmp .ge 23, [3, 190], 0, 0, []), (170, [], .aload_n 0, [1], 0, 0, []), (171, [], .getfield 45, [3, 10, 19, 2, 2008, 11], 0, 0, []), (174, [], .iload 11, [2], 0, 0, []), (176, [], .aload_n 0, [1], 0, 0, []), (177, [], .getfield 49, [3, 10, 20, 2, 2008, 12], 0, 0, []), (180, [], .iload 11, [2], 0, 0, []), (182, [], .laload, [1], 0, 0, []), (183, [], .lastore, [1], 0, 0, []), (184, [], .iinc 11 1, [3], 1, 0, []), (187, [], .goto (-24), [3, 163], 0, 0, []), (190, [], .lload 9, [2], 0, 0, []), (192, [], .lstore 5, [2], 0, 0, []), (194, [], .iinc 7 1, [3], 1, 0, []), (197, [], .goto (-158), [3, 39], 0, 0, []), (200, [], .lload 5, [2], 0, 0, []), (202, [], .lreturn, [1], 0, 0, [])]
/-- 201: OneNoteModel.odds(II)I -/
def K201 : List je := [(0, [], .aload_n 0, [1], 0, 0, []), (1, [], .iload_n 1, [1], 0, 0, []), (2, [], .invokevirtual 236, [3, 197, 2, 1, 2, 10], 0, 0, []), (5, [], .ifCond .eq 11, [3, 16], 0, 0, []), (8, [], .aload_n 0, [1], 0, 0, []), (9, [], .iload_n 2, [1], 0, 0, []), (10, [], .invokevirtual 189, [3, 170, 2, 1, 2, 10], 0, 0, []), (13, [], .ifCond .ne 10, [3, 23], 0, 0, []), (16, [], .aload_n 0, [1], 0, 0, []), (17, [], .bipush (-2), [2], (-2), 0, []), (19, [], .invokevirtual 79, [3, 141, 2, 1, 2, 10], 0, 0, []), (22, [], .ireturn, [1, 0], 0, 0, []), (23, [], .aload_n 0, [1], 0, 0, []), (24, [], .iconst 1, [1], 1, 0, []), (25, [], .iconst (-1), [1], (-1), 0, []), (26, [], .iconst 0, [1], 0, 0, []), (27, [], .invokevirtual 242, [3, 200, 4, 2, 12, 10], 0, 0, []), (30, [], .lstore_n 3, [1], 0, 0, []), (31, [], .lload_n 3, [1], 0, 0, []), (32, [], .lconst 0, [1], 0, 0, []), (33, [], .lcmp, [1], 0, 0, []), (34, [], .ifCond .ne 12, [3, 46], 0, 0, []), (37, [], .aload_n 0, [1], 0, 0, []), (38, [], .bipush (-3), [2], (-3), 0, []), (40, [], .invokevirtual 79, [3, 141, 2, 1, 2, 10], 0, 0, []), (43, [], .goto 15, [3, 58], 0, 0, []), (46, [], .aload_n 0, [1], 0, 0, []), (47, [], .aload_n 0, [1], 0, 0, []), (48, [], .iconst 1, [1], 1, 0, []), (49, [], .iload_n 1, [1], 0, 0, []), (50, [], .iload_n 2, [1], 0, 0, []), (51, [], .invokevirtual 242, [3, 200, 4, 2, 12, 10], 0, 0, []), (54, [], .lload_n 3, [1], 0, 0, []), (55, [], .invokevirtual 249, [3, 202, 3, 1, 11, 10], 0, 0, []), (58, [], .ireturn, [1, 0], 0, 0, [])]
/-- 202: OneNoteModel.share(JJ)I -/
def K202 : List je := [(0, [], .lload_n 1, [1], 0, 0, []), (1, [], .lstore 5, [2], 0, 0, []), (3, [], .lload_n 3, [1], 0, 0, []), (4, [], .lstore 7, [2], 0, 0, []), (6, [2, 4, 6, 8, 9, 10], .lload 7, [2], 0, 0, []), (8, [], .lconst 0, [1], 0, 0, []), (9, [], .lcmp, [1], 0, 0, []), (10, [], .ifCond .eq 21, [3, 31], 0, 0, []), (13, [], .lload 5, [2], 0, 0, []), (15, [], .lload 7, [2], 0, 0, []), (17, [], .lrem, [1], 0, 0, []), (18, [], .lstore 9, [2], 0, 0, []), (20, [], .lload 7, [2], 0, 0, []), (22, [], .lstore 5, [2], 0, 0, []), (24, [], .lload 9, [2], 0, 0, []), (26, [], .lstore 7, [2], 0, 0, []), (28, [], .goto (-22), [3, 6], 0, 0, []), (31, [], .aload_n 0, [1], 0, 0, []), (32, [], .lload_n 1, [1], 0, 0, []), (33, [], .lload 5, [2], 0, 0, []), (35, [], .ldiv, [1], 0, 0, []), (36, [], .putfield 246, [3, 10, 4, 1], 0, 0, []), (39, [], .aload_n 0, [1], 0, 0, []), (40, [], .lload_n 3, [1], 0, 0, []), (41, [], .lload 5, [2], 0, 0, []), (43, [], .ldiv, [1], 0, 0, []), (44, [], .putfield 20, [3, 10, 5, 1], 0, 0, []), (47, [], .iconst 1, [1], 1, 0, []), (48, [], .ireturn, [1, 0], 0, 0, [])]
/-- 203: OneNoteModel.block(II)I -/
def K203 : List je := [(0, [], .aload_n 0, [1], 0, 0, []), (1, [], .iload_n 1, [1], 0, 0, []), (2, [], .invokevirtual 104, [3, 154, 2, 1, 2, 10], 0, 0, []), (5, [], .ifCond .eq 11, [3, 16], 0, 0, []), (8, [], .aload_n 0, [1], 0, 0, []), (9, [], .iload_n 2, [1], 0, 0, []), (10, [], .invokevirtual 189, [3, 170, 2, 1, 2, 10], 0, 0, []), (13, [], .ifCond .ne 10, [3, 23], 0, 0, []), (16, [], .aload_n 0, [1], 0, 0, []), (17, [], .bipush (-2), [2], (-2), 0, []), (19, [], .invokevirtual 79, [3, 141, 2, 1, 2, 10], 0, 0, []), (22, [], .ireturn, [1, 0], 0, 0, []), (23, [], .aload_n 0, [1], 0, 0, []), (24, [], .iconst 0, [1], 0, 0, []), (25, [], .iload_n 1, [1], 0, 0, []), (26, [], .iload_n 2, [1], 0, 0, []), (27, [], .invokevirtual 185, [3, 171, 4, 1, 7, 10], 0, 0, []), (30, [], .ifCond .ne 10, [3, 40], 0, 0, []), (33, [], .aload_n 0, [1], 0, 0, []), (34, [], .bipush (-3), [2], (-3), 0, []), (36, [], .invokevirtual 79, [3, 141, 2, 1, 2, 10], 0, 0, []), (39, [], .ireturn, [1, 0], 0, 0, []), (40, [], .iconst 0, [1], 0, 0, []), (41, [], .istore_n 3, [1], 0, 0, []), (42, [], .iconst 0, [1], 0, 0, []), (43, [], .istore 4, [2], 0, 0, []), (45, [], .iload 4, [2], 0, 0, []), (47, [], .aload_n 0, [1], 0, 0, []), (48, [], .getfield 7, [3, 10, 0, 2, 1560, 1], 0, 0, []), (51, [], .bipush 72, [2], 72, 0, []), (53, [], .iaload, [1], 0, 0, []), (54, [], .if_icmp .ge 46, [3, 100], 0, 0, []), (57, [], .iload_n 3, [1], 0, 0, []), (58, [], .iload_n 1, [1], 0, 0, []), (59, [], .iload 4, [2], 0, 0, []), (61, [], .invokestatic 101, [3, 155, 2, 1, 2, 200], 0, 0, []), (64, [], .ifCond .eq 27, [3, 91], 0, 0, []), (67, [], .aload_n 0, [1], 0, 0, []), (68, [], .iconst 0, [1], 0, 0, []), (69, [], .iload_n 1, [1], 0, 0, []), (70, [], .iconst 1, [1], 1, 0, []), (71, [], .iload 4, [2], 0, 0, []), (73, [], .ishl, [1], 0, 0, []), (74, [], .iconst (-1), [1], (-1), 0, []), (75, [], .ixor, [1], 0, 0, []), (76, [], .iand, [1], 0, 0, []), (77, [], .iload_n 2, [1], 0, 0, []), (78, [], .invokevirtual 185, [3, 171, 4, 1, 7, 10], 0, 0, []), (81, [], .ifCond .ne 10, [3, 91], 0, 0, []), (84, [], .iconst 1, [1], 1, 0, []), (85, [], .iload 4, [2], 0, 0, []), (87, [], .ishl, [1], 0, 0, []), (88, [], .goto 4, [3, 92], 0, 0, []), (91, [], .iconst 0, [1], 0, 0, []), (92, [], .ior, [1], 0, 0, []), (93, [], .istore_n 3, [1], 0, 0, []), (94, [], .iinc 4 1, [3], 1, 0, []), (97, [], .goto (-52), [3, 45], 0, 0, []), (100, [], .iload_n 3, [1], 0, 0, []), (101, [], .ireturn, [1, 0], 0, 0, [])]
/-- 204: OneNoteModel.swing(III)I -/
def K204 : List je := [(0, [], .aload_n 0, [1], 0, 0, []), (1, [], .iload_n 1, [1], 0, 0, []), (2, [], .invokevirtual 104, [3, 154, 2, 1, 2, 10], 0, 0, []), (5, [], .ifCond .eq 28, [3, 33], 0, 0, []), (8, [], .aload_n 0, [1], 0, 0, []), (9, [], .iconst 0, [1], 0, 0, []), (10, [], .iload_n 2, [1], 0, 0, []), (11, [], .invokevirtual 67, [3, 147, 3, 1, 3, 10], 0, 0, []), (14, [], .ifCond .eq 19, [3, 33], 0, 0, []), (17, [], .iload_n 1, [1], 0, 0, []), (18, [], .iload_n 2, [1], 0, 0, []), (19, [], .invokestatic 101, [3, 155, 2, 1, 2, 200], 0, 0, []), (22, [], .ifCond .eq 11, [3, 33], 0, 0, []), (25, [], .aload_n 0, [1], 0, 0, []), (26, [], .iload_n 3, [1], 0, 0, []), (27, [], .invokevirtual 189, [3, 170, 2, 1, 2, 10], 0, 0, []), (30, [], .ifCond .ne 10, [3, 40], 0, 0, []), (33, [], .aload_n 0, [1], 0, 0, []), (34, [], .bipush (-2), [2], (-2), 0, []), (36, [], .invokevirtual 79, [3, 141, 2, 1, 2, 10], 0, 0, []), (39, [], .ireturn, [1, 0], 0, 0, []), (40, [], .lconst 0, [1], 0, 0, []), (41, [], .lstore 4, [2], 0, 0, []), (43, [], .iconst 0, [1], 0, 0, []), (44, [], .istore 6, [2], 0, 0, []), (46, [5], .iload 6, [2], 0, 0, []), (48, [], .iload_n 1, [1], 0, 0, []), (49, [], .if_icmp .gt 65, [3, 114], 0, 0, []), (52, [], .iload 6, [2], 0, 0, []), (54, [], .iload_n 1, [1], 0, 0, []), (55, [], .iconst (-1), [1], (-1), 0, []), (56, [], .ixor, [1], 0, 0, []), (57, [], .iand, [1], 0, 0, []), (58, [], .ifCond .ne 50, [3, 108], 0, 0, []), (61, [], .iload 6, [2], 0, 0, []), (63, [], .iload_n 2, [1], 0, 0, []), (64, [], .invokestatic 101, [3, 155, 2, 1, 2, 200], 0, 0, []), (67, [], .ifCond .eq 41, [3, 108], 0, 0, []), (70, [], .aload_n 0, [1], 0, 0, []), (71, [], .iconst 0, [1], 0, 0, []), (72, [], .iload 6, [2], 0, 0, []), (74, [], .iload_n 3, [1], 0, 0, []), (75, [], .invokevirtual 185, [3, 171, 4, 1, 7, 10], 0, 0, []), (78, [], .ifCond .eq 30, [3, 108], 0, 0, []), (81, [], .lload 4, [2], 0, 0, []), (83, [], .aload_n 0, [1], 0, 0, []), (84, [], .iconst 0, [1], 0, 0, []), (85, [], .iload 6, [2], 0, 0, []), (87, [], .iconst 1, [1], 1, 0, []), (88, [], .iload_n 2, [1], 0, 0, []), (89, [], .ishl, [1], 0, 0, []), (90, [], .iconst (-1), [1], (-1), 0, []), (91, [], .ixor, [1], 0, 0, []), (92, [], .iand, [1], 0, 0, []), (93, [], .iload_n 3, [1], 0, 0, []), (94, [], .invokevirtual 185, [3, 171, 4, 1, 7, 10], 0, 0, []), (97, [], .ifCond .eq 7, [3, 104], 0, 0, []), (100, [], .lconst 0, [1], 0, 0, []), (101, [], .goto 4, [3, 105], 0, 0, []), (104, [], .lconst 1, [1], 0, 1, []), (105, [4, 5], .ladd, [1], 0, 0, []), (106, [], .lstore 4, [2], 0, 0, []), (108, [5], .iinc 6 1, [3], 1, 0, []), (111, [], .goto (-65), [3, 46], 0, 0, []), (114, [], .aload_n 0, [1], 0, 0, []), (115, [], .lload 4, [2], 0, 0, []), (117, [], .lconst 1, [1], 0, 1, []), (118, [], .iload_n 1, [1], 0, 0, []), (119, [], .invokestatic 182, [3, 173, 1, 1, 3, 200], 0, 0, []), (122, [], .iconst 1, [1], 1, 0, []), (123, [], .isub, [1], 0, 0, []), (124, [], .lshl, [1], 0, 0, []), (125, [], .invokevirtual 249, [3, 202, 3, 1, 11, 10], 0, 0, []), (128, [], .ireturn, [1, 0], 0, 0, [])]
/-- 205: OneNoteModel.song(III)I -/
def K205 : List je := [(0, [], .aload_n 0, [1], 0, 0, []), (1, [], .iload_n 1, [1], 0, 0, []), (2, [], .invokevirtual 104, [3, 154, 2, 1, 2, 10], 0, 0, []), (5, [], .ifCond .eq 20, [3, 25], 0, 0, []), (8, [], .iload_n 2, [1], 0, 0, []), (9, [], .i2l, [1], 0, 0, []), (10, [], .lconst 0, [1], 0, 0, []), (11, [], .ldc2_w 253, [3], 0, 6, []), (14, [], .invokestatic 57, [3, 140, 3, 1, 6, 200], 0, 0, []), (17, [], .ifCond .eq 8, [3, 25], 0, 0, []), (20, [], .iload_n 3, [1], 0, 0, []), (21, [], .iconst (-1), [1], (-1), 0, []), (22, [], .if_icmp .ge 16, [3, 38], 0, 0, []), (25, [], .aload_n 0, [1], 0, 0, []), (26, [], .getfield 24, [3, 10, 6, 2, 1003, 4], 0, 0, []), (29, [], .iconst 0, [1], 0, 0, []), (30, [], .dup2, [1], 0, 0, []), (31, [], .iaload, [1], 0, 0, []), (32, [], .iconst 1, [1], 1, 0, []), (33, [], .iadd, [1], 0, 0, []), (34, [], .iastore, [1], 0, 0, []), (35, [], .bipush (-10), [2], (-10), 0, []), (37, [], .ireturn, [1, 0], 0, 0, []), (38, [], .aload_n 0, [1], 0, 0, []), (39, [], .iload_n 1, [1], 0, 0, []), (40, [], .iload_n 2, [1], 0, 0, []), (41, [], .invokevirtual 255, [3, 206, 3, 0, 8, 10], 0, 0, []), (44, [], .iload_n 1, [1], 0, 0, []), (45, [], .ifCond .ne 7, [3, 52], 0, 0, []), (48, [], .iconst 1, [1], 1, 0, []), (49, [], .goto 4, [3, 53], 0, 0, []), (52, [], .iconst 0, [1], 0, 0, []), (53, [], .istore 4, [2], 0, 0, []), (55, [], .iconst 0, [1], 0, 0, []), (56, [], .istore 5, [2], 0, 0, []), (58, [6, 7, 8], .iload 5, [2], 0, 0, []), (60, [], .aload_n 0, [1], 0, 0, []), (61, [], .getfield 7, [3, 10, 0, 2, 1560, 1], 0, 0, []), (64, [], .bipush 72, [2], 72, 0, []), (66, [], .iaload, [1], 0, 0, []), (67, [], .if_icmp .ge 26, [3, 93], 0, 0, []), (70, [], .iload 4, [2], 0, 0, []), (72, [], .aload_n 0, [1], 0, 0, []), (73, [], .getfield 52, [3, 10, 21, 2, 1896, 13], 0, 0, []), (76, [], .bipush 7, [2], 7, 0, []), (78, [], .iload_n 1, [1], 0, 0, []), (79, [], .imul, [1], 0, 0, []), (80, [], .iload 5, [2], 0, 0, []), (82, [], .iadd, [1], 0, 0, []), (83, [], .iaload, [1], 0, 0, []), (84, [], .iadd, [1], 0, 0, []), (85, [], .istore 4, [2], 0, 0, []), (87, [], .iinc 5 1, [3], 1, 0, []), (90, [], .goto (-32), [3, 58], 0, 0, []), (93, [], .iload_n 3, [1], 0, 0, []), (94, [], .iconst (-1), [1], (-1), 0, []), (95, [], .if_icmp .ne 6, [3, 101], 0, 0, []), (98, [], .iload 4, [2], 0, 0, []), (100, [], .ireturn, [1, 0], 0, 0, []), (101, [], .iload 4, [2], 0, 0, []), (103, [], .ifCond .eq 11, [3, 114], 0, 0, []), (106, [], .iload_n 3, [1], 0, 0, []), (107, [], .iload_n 1, [1], 0, 0, []), (108, [], .invokestatic 182, [3, 173, 1, 1, 3, 200], 0, 0, []), (111, [], .if_icmp .lt 6, [3, 117], 0, 0, []), (114, [], .bipush (-5), [2], (-5), 0, []), (116, [], .ireturn, [1, 0], 0, 0, []), (117, [], .iload_n 1, [1], 0, 0, []), (118, [], .istore 5, [2], 0, 0, []), (120, [], .iconst (-1), [1], (-1), 0, []), (121, [], .istore 6, [2], 0, 0, []), (123, [], .iconst 0, [1], 0, 0, []), (124, [], .istore 7, [2], 0, 0, []), (126, [1, 4, 8], .iload 7, [2], 0, 0, []), (128, [], .iload_n 3, [1], 0, 0, []), (129, [], .if_icmp .gt 82, [3, 211], 0, 0, []), (132, [], .iconst 0, [1], 0, 0, []), (133, [], .istore 8, [2], 0, 0, []), (135, [1, 4], .aload_n 0, [1], 0, 0, []), (136, [], .getfield 52, [3, 10, 21, 2, 1896, 13], 0, 0, []), (139, [], .bipush 7, [2], 7, 0, []), (141, [], .iload 5, [2], 0, 0, []), (143, [], .imul, [1], 0, 0, []), (144, [], .iload 8, [2], 0, 0, []), (146, [], .iadd, [1], 0, 0, []), (147, [], .iaload, [1], 0, 0, []), (148, [], .ifCond .eq 36, [3, 184], 0, 0, []), (151, [], .iload 6, [2], 0, 0, []), (153, [], .iconst (-1), [1], (-1), 0, []), (154, [], .if_icmp .eq 36, [3, 190], 0, 0, []), (157, [], .aload_n 0, [1], 0, 0, []), (158, [], .getfield 7, [3, 10, 0, 2, 1560, 1], 0, 0, []), (161, [], .bipush 80, [2], 80, 0, []), (163, [], .iload 6, [2], 0, 0, []), (165, [], .iadd, [1], 0, 0, []), (166, [], .iaload, [1], 0, 0, []), (167, [], .aload_n 0, [1], 0, 0, []), (168, [], .getfield 7, [3, 10, 0, 2, 1560, 1], 0, 0, []), (171, [], .bipush 80, [2], 80, 0, []), (173, [], .iload 8, [2], 0, 0, []), (175, [], .iadd, [1], 0, 0, []), (176, [], .iaload, [1], 0, 0, []), (177, [], .iload_n 2, [1], 0, 0, []), (178, [], .invokestatic 220, [3, 189, 3, 1, 4, 200], 0, 0, []), (181, [], .ifCond .ne 9, [3, 190], 0, 0, []), (184, [], .iinc 8 1, [3], 1, 0, []), (187, [], .goto (-52), [3, 135], 0, 0, []), (190, [], .iload 8, [2], 0, 0, []), (192, [], .istore 6, [2], 0, 0, []), (194, [], .iload 5, [2], 0, 0, []), (196, [], .iconst 1, [1], 1, 0, []), (197, [], .iload 8, [2], 0, 0, []), (199, [], .ishl, [1], 0, 0, []), (200, [], .iconst (-1), [1], (-1), 0, []), (201, [], .ixor, [1], 0, 0, []), (202, [], .iand, [1], 0, 0, []), (203, [], .istore 5, [2], 0, 0, []), (205, [], .iinc 7 1, [3], 1, 0, []), (208, [], .goto (-82), [3, 126], 0, 0, []), (211, [], .iload 6, [2], 0, 0, []), (213, [], .ireturn, [1, 0], 0, 0, [])]
/-- 206: OneNoteModel.findOrders(II)V -/
def K206 : List je := [(0, [], .iconst 0, [1], 0, 0, []), (1, [], .istore_n 3, [1], 0, 0, []), (2, [4, 5, 6, 7], .iload_n 3, [1], 0, 0, []), (3, [], .iload_n 1, [1], 0, 0, []), (4, [], .if_icmp .gt 159, [3, 163], 0, 0, []), (7, [], .iconst 0, [1], 0, 0, []), (8, [], .istore 4, [2], 0, 0, []), (10, [5, 6, 7], .iload 4, [2], 0, 0, []), (12, [], .aload_n 0, [1], 0, 0, []), (13, [], .getfield 7, [3, 10, 0, 2, 1560, 1], 0, 0, []), (16, [], .bipush 72, [2], 72, 0, []), (18, [], .iaload, [1], 0, 0, []), (19, [], .if_icmp .ge 138, [3, 157], 0, 0, []), (22, [], .iload_n 3, [1], 0, 0, []), (23, [], .iconst 1, [1], 1, 0, []), (24, [], .iload 4, [2], 0, 0, []), (26, [], .ishl, [1], 0, 0, []), (27, [], .iconst (-1), [1], (-1), 0, []), (28, [], .ixor, [1], 0, 0, []), (29, [], .iand, [1], 0, 0, []), (30, [], .istore 5, [2], 0, 0, []), (32, [], .iload 5, [2], 0, 0, []), (34, [], .ifCond .ne 7, [3, 41], 0, 0, []), (37, [], .iconst 1, [1], 1, 0, []), (38, [], .goto 4, [3, 42], 0, 0, []), (41, [], .iconst 0, [1], 0, 0, []), (42, [], .istore 6, [2], 0, 0, []), (44, [], .iconst 0, [1], 0, 0, []), (45, [], .istore 7, [2], 0, 0, []), (47, [], .iload 7, [2], 0, 0, []), (49, [], .aload_n 0, [1], 0, 0, []), (50, [], .getfield 7, [3, 10, 0, 2, 1560, 1], 0, 0, []), (53, [], .bipush 72, [2], 72, 0, []), (55, [], .iaload, [1], 0, 0, []), (56, [], .if_icmp .ge 68, [3, 124], 0, 0, []), (59, [], .iload 6, [2], 0, 0, []), (61, [], .iload 5, [2], 0, 0, []), (63, [], .iload 7, [2], 0, 0, []), (65, [], .invokestatic 101, [3, 155, 2, 1, 2, 200], 0, 0, []), (68, [], .ifCond .eq 46, [3, 114], 0, 0, []), (71, [], .aload_n 0, [1], 0, 0, []), (72, [], .getfield 7, [3, 10, 0, 2, 1560, 1], 0, 0, []), (75, [], .bipush 80, [2], 80, 0, []), (77, [], .iload 4, [2], 0, 0, []), (79, [], .iadd, [1], 0, 0, []), (80, [], .iaload, [1], 0, 0, []), (81, [], .aload_n 0, [1], 0, 0, []), (82, [], .getfield 7, [3, 10, 0, 2, 1560, 1], 0, 0, []), (85, [], .bipush 80, [2], 80, 0, []), (87, [], .iload 7, [2], 0, 0, []), (89, [], .iadd, [1], 0, 0, []), (90, [], .iaload, [1], 0, 0, []), (91, [], .iload_n 2, [1], 0, 0, []), (92, [], .invokestatic 220, [3, 189, 3, 1, 4, 200], 0, 0, []), (95, [], .ifCond .eq 19, [3, 114], 0, 0, []), (98, [], .aload_n 0, [1], 0, 0, []), (99, [], .getfield 52, [3, 10, 21, 2, 1896, 13], 0, 0, []), (102, [], .bipush 7, [2], 7, 0, []), (104, [], .iload 5, [2], 0, 0, []), (106, [], .imul, [1], 0, 0, []), (107, [], .iload 7, [2], 0, 0, []), (109, [], .iadd, [1], 0, 0, []), (110, [], .iaload, [1], 0, 0, []), (111, [], .goto 4, [3, 115], 0, 0, []), (114, [], .iconst 0, [1], 0, 0, []), (115, [], .iadd, [1], 0, 0, []), (116, [], .istore 6, [2], 0, 0, []), (118, [], .iinc 7 1, [3], 1, 0, []), (121, [], .goto (-74), [3, 47], 0, 0, []), (124, [], .aload_n 0, [1], 0, 0, []), (125, [], .getfield 52, [3, 10, 21, 2, 1896, 13], 0, 0, []), (128, [], .bipush 7, [2], 7, 0, []), (130, [], .iload_n 3, [1], 0, 0, []), (131, [], .imul, [1], 0, 0, []), (132, [], .iload 4, [2], 0, 0, []), (134, [], .iadd, [1], 0, 0, []), (135, [], .iload_n 3, [1], 0, 0, []), (136, [], .iload 4, [2], 0, 0, []), (138, [], .invokestatic 101, [3, 155, 2, 1, 2, 200], 0, 0, []), (141, [], .ifCond .eq 8, [3, 149], 0, 0, []), (144, [], .iload 6, [2], 0, 0, []), (146, [], .goto 4, [3, 150], 0, 0, []), (149, [], .iconst 0, [1], 0, 0, []), (150, [], .iastore, [1], 0, 0, []), (151, [], .iinc 4 1, [3], 1, 0, []), (154, [], .goto (-144), [3, 10], 0, 0, []), (157, [], .iinc 3 1, [3], 1, 0, []), (160, [], .goto (-158), [3, 2], 0, 0, []), (163, [], .return_, [1], 0, 0, [])]
/-- 207: OneNoteModel.couple(I)I -/
def K207 : List je := [(0, [], .aload_n 0, [1], 0, 0, []), (1, [], .iload_n 1, [1], 0, 0, []), (2, [], .invokevirtual 104, [3, 154, 2, 1, 2, 10], 0, 0, []), (5, [], .ifCond .ne 10, [3, 15], 0, 0, []), (8, [], .aload_n 0, [1], 0, 0, []), (9, [], .bipush (-2), [2], (-2), 0, []), (11, [], .invokevirtual 79, [3, 141, 2, 1, 2, 10], 0, 0, []), (14, [], .ireturn, [1, 0], 0, 0, []), (15, [], .iconst (-1), [1], (-1), 0, []), (16, [], .istore_n 2, [1], 0, 0, []), (17, [], .iconst (-1), [1], (-1), 0, []), (18, [], .istore_n 3, [1], 0, 0, []), (19, [], .iconst 0, [1], 0, 0, []), (20, [], .istore 4, [2], 0, 0, []), (22, [5, 6], .iload 4, [2], 0, 0, []), (24, [], .aload_n 0, [1], 0, 0, []), (25, [], .getfield 7, [3, 10, 0, 2, 1560, 1], 0, 0, []), (28, [], .bipush 72, [2], 72, 0, []), (30, [], .iaload, [1], 0, 0, []), (31, [], .if_icmp .ge 190, [3, 221], 0, 0, []), (34, [], .iload 4, [2], 0, 0, []), (36, [], .iconst 1, [1], 1, 0, []), (37, [], .iadd, [1], 0, 0, []), (38, [], .istore 5, [2], 0, 0, []), (40, [6], .iload 5, [2], 0, 0, []), (42, [], .aload_n 0, [1], 0, 0, []), (43, [], .getfield 7, [3, 10, 0, 2, 1560, 1], 0, 0, []), (46, [], .bipush 72, [2], 72, 0, []), (48, [], .iaload, [1], 0, 0, []), (49, [], .if_icmp .ge 166, [3, 215], 0, 0, []), (52, [], .iload_n 1, [1], 0, 0, []), (53, [], .iload 4, [2], 0, 0, []), (55, [], .invokestatic 101, [3, 155, 2, 1, 2, 200], 0, 0, []), (58, [], .ifCond .eq 151, [3, 209], 0, 0, []), (61, [], .iload_n 1, [1], 0, 0, []), (62, [], .iload 5, [2], 0, 0, []), (64, [], .invokestatic 101, [3, 155, 2, 1, 2, 200], 0, 0, []), (67, [], .ifCond .eq 142, [3, 209], 0, 0, []), (70, [], .aload_n 0, [1], 0, 0, []), (71, [], .getfield 7, [3, 10, 0, 2, 1560, 1], 0, 0, []), (74, [], .bipush 94, [2], 94, 0, []), (76, [], .iload 4, [2], 0, 0, []), (78, [], .iadd, [1], 0, 0, []), (79, [], .iaload, [1], 0, 0, []), (80, [], .iload 5, [2], 0, 0, []), (82, [], .if_icmp .ne 6, [3, 88], 0, 0, []), (85, [], .goto 124, [3, 209], 0, 0, []), (88, [], .aload_n 0, [1], 0, 0, []), (89, [], .iconst 0, [1], 0, 0, []), (90, [], .sipush 420, [3], 420, 0, []), (93, [], .invokevirtual 175, [3, 168, 3, 0, 4, 10], 0, 0, []), (96, [], .aload_n 0, [1], 0, 0, []), (97, [], .sipush 420, [3], 420, 0, []), (100, [], .iload 4, [2], 0, 0, []), (102, [], .invokevirtual 258, [3, 208, 3, 0, 4, 10], 0, 0, []), (105, [], .aload_n 0, [1], 0, 0, []), (106, [], .sipush 420, [3], 420, 0, []), (109, [], .iload 5, [2], 0, 0, []), (111, [], .invokevirtual 258, [3, 208, 3, 0, 4, 10], 0, 0, []), (114, [], .aload_n 0, [1], 0, 0, []), (115, [], .getfield 7, [3, 10, 0, 2, 1560, 1], 0, 0, []), (118, [], .sipush 493, [3], 493, 0, []), (121, [], .iload 4, [2], 0, 0, []), (123, [], .iadd, [1], 0, 0, []), (124, [], .iconst 2, [1], 2, 0, []), (125, [], .iastore, [1], 0, 0, []), (126, [], .aload_n 0, [1], 0, 0, []), (127, [], .getfield 7, [3, 10, 0, 2, 1560, 1], 0, 0, []), (130, [], .sipush 493, [3], 493, 0, []), (133, [], .iload 5, [2], 0, 0, []), (135, [], .iadd, [1], 0, 0, []), (136, [], .iconst 2, [1], 2, 0, []), (137, [], .iastore, [1], 0, 0, []), (138, [], .aload_n 0, [1], 0, 0, []), (139, [], .getfield 7, [3, 10, 0, 2, 1560, 1], 0, 0, []), (142, [], .sipush 514, [3], 514, 0, []), (145, [], .iload 4, [2], 0, 0, []), (147, [], .iadd, [1], 0, 0, []), (148, [], .iload 5, [2], 0, 0, []), (150, [], .iastore, [1], 0, 0, []), (151, [], .aload_n 0, [1], 0, 0, []), (152, [], .getfield 7, [3, 10, 0, 2, 1560, 1], 0, 0, []), (155, [], .sipush 514, [3], 514, 0, []), (158, [], .iload 5, [2], 0, 0, []), (160, [], .iadd, [1], 0, 0, []), (161, [], .iload 4, [2], 0, 0, []), (163, [], .iastore, [1], 0, 0, []), (164, [], .aload_n 0, [1], 0, 0, []), (165, [], .sipush 420, [3], 420, 0, []), (168, [], .iload_n 1, [1], 0, 0, []), (169, [], .invokevirtual 195, [3, 176, 3, 1, 5, 10], 0, 0, []), (172, [], .invokestatic 182, [3, 173, 1, 1, 3, 200], 0, 0, []), (175, [], .istore 6, [2], 0, 0, []), (177, [], .iload 6, [2], 0, 0, []), (179, [], .iload_n 3, [1], 0, 0, []), (180, [], .if_icmp .le 14, [3, 194], 0, 0, []), (183, [], .bipush 10, [2], 10, 0, []), (185, [], .iload 4, [2], 0, 0, []), (187, [], .imul, [1], 0, 0, []), (188, [], .iload 5, [2], 0, 0, []), (190, [], .iadd, [1], 0, 0, []), (191, [], .goto 4, [3, 195], 0, 0, []), (194, [], .iload_n 2, [1], 0, 0, []), (195, [2], .istore_n 2, [1], 0, 0, []), (196, [], .iload 6, [2], 0, 0, []), (198, [], .iload_n 3, [1], 0, 0, []), (199, [], .if_icmp .le 8, [3, 207], 0, 0, []), (202, [], .iload 6, [2], 0, 0, []), (204, [], .goto 4, [3, 208], 0, 0, []), (207, [], .iload_n 3, [1], 0, 0, []), (208, [], .istore_n 3, [1], 0, 0, []), (209, [6], .iinc 5 1, [3], 1, 0, []), (212, [], .goto (-172), [3, 40], 0, 0, []), (215, [], .iinc 4 1, [3], 1, 0, []), (218, [], .goto (-196), [3, 22], 0, 0, []), (221, [], .iload_n 2, [1], 0, 0, []), (222, [], .ireturn, [1, 0], 0, 0, [])]
/-- 208: OneNoteModel.divorce(II)V -/
def K208 : List je := [(0, [], .aload_n 0, [1], 0, 0, []), (1, [], .getfield 7, [3, 10, 0, 2, 1560, 1], 0, 0, []), (4, [], .iload_n 1, [1], 0, 0, []), (5, [], .bipush 94, [2], 94, 0, []), (7, [], .iadd, [1], 0, 0, []), (8, [], .iload_n 2, [1], 0, 0, []), (9, [], .iadd, [1], 0, 0, []), (10, [], .iaload, [1], 0, 0, []), (11, [], .istore_n 3, [1], 0, 0, []), (12, [], .iload_n 3, [1], 0, 0, []), (13, [], .iconst (-1), [1], (-1), 0, []), (14, [], .if_icmp .eq 27, [3, 41], 0, 0, []), (17, [], .aload_n 0, [1], 0, 0, []), (18, [], .getfield 7, [3, 10, 0, 2, 1560, 1], 0, 0, []), (21, [], .iload_n 1, [1], 0, 0, []), (22, [], .bipush 94, [2], 94, 0, []), (24, [], .iadd, [1], 0, 0, []), (25, [], .iload_n 3, [1], 0, 0, []), (26, [], .iadd, [1], 0, 0, []), (27, [], .iconst (-1), [1], (-1), 0, []), (28, [], .iastore, [1], 0, 0, []), (29, [], .aload_n 0, [1], 0, 0, []), (30, [], .getfield 7, [3, 10, 0, 2, 1560, 1], 0, 0, []), (33, [], .iload_n 1, [1], 0, 0, []), (34, [], .bipush 94, [2], 94, 0, []), (36, [], .iadd, [1], 0, 0, []), (37, [], .iload_n 2, [1], 0, 0, []), (38, [], .iadd, [1], 0, 0, []), (39, [], .iconst (-1), [1], (-1), 0, []), (40, [], .iastore, [1], 0, 0, []), (41, [], .return_, [1], 0, 0, [])]
/-- 209: OneNoteModel.part(I)J -/
def K209 : List je := [(0, [], .iload_n 1, [1], 0, 0, []), (1, [], .ifCond .ne 10, [3, 11], 0, 0, []), (4, [], .aload_n 0, [1], 0, 0, []), (5, [], .getfield 246, [3, 10, 4, 1, 0, 0], 0, 0, []), (8, [], .goto 22, [3, 30], 0, 0, []), (11, [], .iload_n 1, [1], 0, 0, []), (12, [], .iconst 1, [1], 1, 0, []), (13, [], .if_icmp .ne 10, [3, 23], 0, 0, []), (16, [], .aload_n 0, [1], 0, 0, []), (17, [], .getfield 20, [3, 10, 5, 1, 0, 0], 0, 0, []), (20, [], .goto 10, [3, 30], 0, 0, []), (23, [], .aload_n 0, [1], 0, 0, []), (24, [], .bipush (-2), [2], (-2), 0, []), (26, [], .invokevirtual 79, [3, 141, 2, 1, 2, 10], 0, 0, []), (29, [], .i2l, [1], 0, 0, []), (30, [], .lreturn, [1], 0, 0, [])]
/-- 210: OneNoteModel.image(I)I -/
def K210 : List je := [(0, [], .iload_n 1, [1], 0, 0, []), (1, [], .i2l, [1], 0, 0, []), (2, [], .lconst 0, [1], 0, 0, []), (3, [], .lconst 1, [1], 0, 1, []), (4, [], .invokestatic 57, [3, 140, 3, 1, 6, 200], 0, 0, []), (7, [], .ifCond .ne 10, [3, 17], 0, 0, []), (10, [], .aload_n 0, [1], 0, 0, []), (11, [], .bipush (-2), [2], (-2), 0, []), (13, [], .invokevirtual 79, [3, 141, 2, 1, 2, 10], 0, 0, []), (16, [], .ireturn, [1, 0], 0, 0, []), (17, [], .aload_n 0, [1], 0, 0, []), (18, [], .iconst 0, [1], 0, 0, []), (19, [], .sipush 140, [3], 140, 0, []), (22, [], .iconst 1, [1], 1, 0, []), (23, [], .iload_n 1, [1], 0, 0, []), (24, [], .iadd, [1], 0, 0, []), (25, [], .imul, [1], 0, 0, []), (26, [], .invokevirtual 175, [3, 168, 3, 0, 4, 10], 0, 0, []), (29, [], .aload_n 0, [1], 0, 0, []), (30, [], .getfield 13, [3, 10, 1, 2, 4002, 2], 0, 0, []), (33, [], .iload_n 1, [1], 0, 0, []), (34, [], .iconst 1, [1], 1, 0, []), (35, [], .bastore, [1], 0, 0, []), (36, [], .iconst 1, [1], 1, 0, []), (37, [], .ireturn, [1, 0], 0, 0, [])]
/-- 211: OneNoteModel.from(I)I -/
def K211 : List je := [(0, [], .iload_n 1, [1], 0, 0, []), (1, [], .i2l, [1], 0, 0, []), (2, [], .lconst 0, [1], 0, 0, []), (3, [], .lconst 1, [1], 0, 1, []), (4, [], .invokestatic 57, [3, 140, 3, 1, 6, 200], 0, 0, []), (7, [], .ifCond .ne 10, [3, 17], 0, 0, []), (10, [], .aload_n 0, [1], 0, 0, []), (11, [], .bipush (-2), [2], (-2), 0, []), (13, [], .invokevirtual 79, [3, 141, 2, 1, 2, 10], 0, 0, []), (16, [], .ireturn, [1, 0], 0, 0, []), (17, [], .aload_n 0, [1], 0, 0, []), (18, [], .getfield 13, [3, 10, 1, 2, 4002, 2], 0, 0, []), (21, [], .iload_n 1, [1], 0, 0, []), (22, [], .baload, [1], 0, 0, []), (23, [], .ifCond .ne 10, [3, 33], 0, 0, []), (26, [], .aload_n 0, [1], 0, 0, []), (27, [], .bipush (-3), [2], (-3), 0, []), (29, [], .invokevirtual 79, [3, 141, 2, 1, 2, 10], 0, 0, []), (32, [], .ireturn, [1, 0], 0, 0, []), (33, [], .aload_n 0, [1], 0, 0, []), (34, [], .sipush 140, [3], 140, 0, []), (37, [], .iconst 1, [1], 1, 0, []), (38, [], .iload_n 1, [1], 0, 0, []), (39, [], .iadd, [1], 0, 0, []), (40, [], .imul, [1], 0, 0, []), (41, [], .iconst 0, [1], 0, 0, []), (42, [], .invokevirtual 175, [3, 168, 3, 0, 4, 10], 0, 0, []), (45, [], .iconst 1, [1], 1, 0, []), (46, [], .ireturn, [1, 0], 0, 0, [])]
/-- 212: OneNoteModel.status(I)I -/
def K212 : List je := [(0, [], .iload_n 1, [1], 0, 0, []), (1, [], .i2l, [1], 0, 0, []), (2, [], .lconst 0, [1], 0, 0, []), (3, [], .ldc2_w 73, [3], 0, 2, []), (6, [], .invokestatic 57, [3, 140, 3, 1, 6, 200], 0, 0, []), (9, [], .ifCond .ne 15, [3, 24], 0, 0, []), (12, [], .aload_n 0, [1], 0, 0, []), (13, [], .getfield 24, [3, 10, 6, 2, 1003, 4], 0, 0, []), (16, [], .iconst 0, [1], 0, 0, []), (17, [], .dup2, [1], 0, 0, []), (18, [], .iaload, [1], 0, 0, []), (19, [], .iconst 1, [1], 1, 0, []), (20, [], .iadd, [1], 0, 0, []), (21, [], .iastore, [1], 0, 0, []), (22, [], .iconst (-1), [1], (-1), 0, []), (23, [], .ireturn, [1, 0], 0, 0, []), (24, [], .aload_n 0, [1], 0, 0, []), (25, [], .getfield 24, [3, 10, 6, 2, 1003, 4], 0, 0, []), (28, [], .iload_n 1, [1], 0, 0, []), (29, [], .iaload, [1], 0, 0, []), (30, [], .ireturn, [1, 0], 0, 0, [])]
/-- 213: OneNoteModel.count(I)I -/
def K213 : List je := [(0, [], .iload_n 1, [1], 0, 0, []), (1, [], .i2l, [1], 0, 0, []), (2, [], .lconst 0, [1], 0, 0, []), (3, [], .ldc2_w 261, [3], 0, 4, []), (6, [], .invokestatic 57, [3, 140, 3, 1, 6, 200], 0, 0, []), (9, [], .ifCond .eq 11, [3, 20], 0, 0, []), (12, [], .aload_n 0, [1], 0, 0, []), (13, [], .iload_n 1, [1], 0, 0, []), (14, [], .invokevirtual 263, [3, 214, 2, 1, 2, 10], 0, 0, []), (17, [], .goto 9, [3, 26], 0, 0, []), (20, [], .aload_n 0, [1], 0, 0, []), (21, [], .bipush (-2), [2], (-2), 0, []), (23, [], .invokevirtual 79, [3, 141, 2, 1, 2, 10], 0, 0, []), (26, [], .ireturn, [1, 0], 0, 0, [])]
/-- 214: OneNoteModel.countOf(I)I -/
def K214 : List je := [(0, [], .iload_n 1, [1], 0, 0, []), (1, [], .ifCond .ne 13, [3, 14], 0, 0, []), (4, [], .aload_n 0, [1], 0, 0, []), (5, [], .getfield 7, [3, 10, 0, 2, 1560, 1], 0, 0, []), (8, [], .bipush 72, [2], 72, 0, []), (10, [], .iaload, [1], 0, 0, []), (11, [], .goto 52, [3, 63], 0, 0, []), (14, [], .iload_n 1, [1], 0, 0, []), (15, [], .iconst 1, [1], 1, 0, []), (16, [], .if_icmp .ne 13, [3, 29], 0, 0, []), (19, [], .aload_n 0, [1], 0, 0, []), (20, [], .getfield 7, [3, 10, 0, 2, 1560, 1], 0, 0, []), (23, [], .bipush 101, [2], 101, 0, []), (25, [], .iaload, [1], 0, 0, []), (26, [], .goto 37, [3, 63], 0, 0, []), (29, [], .iload_n 1, [1], 0, 0, []), (30, [], .iconst 2, [1], 2, 0, []), (31, [], .if_icmp .ne 13, [3, 44], 0, 0, []), (34, [], .aload_n 0, [1], 0, 0, []), (35, [], .getfield 7, [3, 10, 0, 2, 1560, 1], 0, 0, []), (38, [], .bipush 119, [2], 119, 0, []), (40, [], .iaload, [1], 0, 0, []), (41, [], .goto 22, [3, 63], 0, 0, []), (44, [], .iload_n 1, [1], 0, 0, []), (45, [], .iconst 3, [1], 3, 0, []), (46, [], .if_icmp .ne 13, [3, 59], 0, 0, []), (49, [], .aload_n 0, [1], 0, 0, []), (50, [], .getfield 7, [3, 10, 0, 2, 1560, 1], 0, 0, []), (53, [], .bipush 126, [2], 126, 0, []), (55, [], .iaload, [1], 0, 0, []), (56, [], .goto 7, [3, 63], 0, 0, []), (59, [], .aload_n 0, [1], 0, 0, []), (60, [], .getfield 112, [3, 10, 3, 0, 0, 0], 0, 0, []), (63, [], .ireturn, [1, 0], 0, 0, [])]
/-- 215: OneNoteModel.digest()J -/
def K215 : List je := [(0, [], .aload_n 0, [1], 0, 0, []), (1, [], .ldc2_w 275, [3], 0, 677, []), (4, [], .putfield 268, [3, 10, 22, 1], 0, 0, []), (7, [], .iconst 0, [1], 0, 0, []), (8, [], .istore_n 1, [1], 0, 0, []), (9, [2], .iload_n 1, [1], 0, 0, []), (10, [], .iconst 5, [1], 5, 0, []), (11, [], .if_icmp .ge 19, [3, 30], 0, 0, []), (14, [], .aload_n 0, [1], 0, 0, []), (15, [], .aload_n 0, [1], 0, 0, []), (16, [], .iload_n 1, [1], 0, 0, []), (17, [], .invokevirtual 263, [3, 214, 2, 1, 2, 10], 0, 0, []), (20, [], .i2l, [1], 0, 0, []), (21, [], .invokevirtual 271, [3, 216, 2, 0, 3, 10], 0, 0, []), (24, [], .iinc 1 1, [3], 1, 0, []), (27, [], .goto (-18), [3, 9], 0, 0, []), (30, [], .iconst 0, [1], 0, 0, []), (31, [], .istore_n 1, [1], 0, 0, []), (32, [2], .iload_n 1, [1], 0, 0, []), (33, [], .bipush 6, [2], 6, 0, []), (35, [], .if_icmp .ge 57, [3, 92], 0, 0, []), (38, [], .iconst 0, [1], 0, 0, []), (39, [], .istore_n 2, [1], 0, 0, []), (40, [], .iload_n 2, [1], 0, 0, []), (41, [], .iload_n 1, [1], 0, 0, []), (42, [], .if_icmp .ge 44, [3, 86], 0, 0, []), (45, [], .aload_n 0, [1], 0, 0, []), (46, [], .aload_n 0, [1], 0, 0, []), (47, [], .getfield 7, [3, 10, 0, 2, 1560, 1], 0, 0, []), (50, [], .bipush 6, [2], 6, 0, []), (52, [], .iload_n 1, [1], 0, 0, []), (53, [], .imul, [1], 0, 0, []), (54, [], .iload_n 2, [1], 0, 0, []), (55, [], .iadd, [1], 0, 0, []), (56, [], .iaload, [1], 0, 0, []), (57, [], .i2l, [1], 0, 0, []), (58, [], .invokevirtual 271, [3, 216, 2, 0, 3, 10], 0, 0, []), (61, [], .aload_n 0, [1], 0, 0, []), (62, [], .aload_n 0, [1], 0, 0, []), (63, [], .getfield 7, [3, 10, 0, 2, 1560, 1], 0, 0, []), (66, [], .bipush 36, [2], 36, 0, []), (68, [], .bipush 6, [2], 6, 0, []), (70, [], .iload_n 1, [1], 0, 0, []), (71, [], .imul, [1], 0, 0, []), (72, [], .iadd, [1], 0, 0, []), (73, [], .iload_n 2, [1], 0, 0, []), (74, [], .iadd, [1], 0, 0, []), (75, [], .iaload, [1], 0, 0, []), (76, [], .i2l, [1], 0, 0, []), (77, [], .invokevirtual 271, [3, 216, 2, 0, 3, 10], 0, 0, []), (80, [], .iinc 2 1, [3], 1, 0, []), (83, [], .goto (-43), [3, 40], 0, 0, []), (86, [], .iinc 1 1, [3], 1, 0, []), (89, [], .goto (-57), [3, 32], 0, 0, []), (92, [], .iconst 0, [1], 0, 0, []), (93, [], .istore_n 1, [1], 0, 0, []), (94, [2], .iload_n 1, [1], 0, 0, []), (95, [], .aload_n 0, [1], 0, 0, []), (96, [], .getfield 7, [3, 10, 0, 2, 1560, 1], 0, 0, []), (99, [], .bipush 72, [2], 72, 0, []), (101, [], .iaload, [1], 0, 0, []), (102, [], .if_icmp .ge 65, [3, 167], 0, 0, []), (105, [], .aload_n 0, [1], 0, 0, []), (106, [], .aload_n 0, [1], 0, 0, []), (107, [], .getfield 7, [3, 10, 0, 2, 1560, 1], 0, 0, []), (110, [], .bipush 73, [2], 73, 0, []), (112, [], .iload_n 1, [1], 0, 0, []), (113, [], .iadd, [1], 0, 0, []), (114, [], .iaload, [1], 0, 0, []), (115, [], .i2l, [1], 0, 0, []), (116, [], .invokevirtual 271, [3, 216, 2, 0, 3, 10], 0, 0, []), (119, [], .aload_n 0, [1], 0, 0, []), (120, [], .aload_n 0, [1], 0, 0, []), (121, [], .getfield 7, [3, 10, 0, 2, 1560, 1], 0, 0, []), (124, [], .bipush 80, [2], 80, 0, []), (126, [], .iload_n 1, [1], 0, 0, []), (127, [], .iadd, [1], 0, 0, []), (128, [], .iaload, [1], 0, 0, []), (129, [], .i2l, [1], 0, 0, []), (130, [], .invokevirtual 271, [3, 216, 2, 0, 3, 10], 0, 0, []), (133, [], .aload_n 0, [1], 0, 0, []), (134, [], .aload_n 0, [1], 0, 0, []), (135, [], .getfield 7, [3, 10, 0, 2, 1560, 1], 0, 0, []), (138, [], .bipush 87, [2], 87, 0, []), (140, [], .iload_n 1, [1], 0, 0, []), (141, [], .iadd, [1], 0, 0, []), (142, [], .iaload, [1], 0, 0, []), (143, [], .i2l, [1], 0, 0, []), (144, [], .invokevirtual 271, [3, 216, 2, 0, 3, 10], 0, 0, []), (147, [], .aload_n 0, [1], 0, 0, []), (148, [], .aload_n 0, [1], 0, 0, []), (149, [], .getfield 7, [3, 10, 0, 2, 1560, 1], 0, 0, []), (152, [], .bipush 94, [2], 94, 0, []), (154, [], .iload_n 1, [1], 0, 0, []), (155, [], .iadd, [1], 0, 0, []), (156, [], .iaload, [1], 0, 0, []), (157, [], .i2l, [1], 0, 0, []), (158, [], .invokevirtual 271, [3, 216, 2, 0, 3, 10], 0, 0, []), (161, [], .iinc 1 1, [3], 1, 0, []), (164, [], .goto (-70), [3, 94], 0, 0, []), (167, [], .iconst 0, [1], 0, 0, []), (168, [], .istore_n 1, [1], 0, 0, []), (169, [2], .iload_n 1, [1], 0, 0, []), (170, [], .aload_n 0, [1], 0, 0, []), (171, [], .getfield 7, [3, 10, 0, 2, 1560, 1], 0, 0, []), (174, [], .bipush 101, [2], 101, 0, []), (176, [], .iaload, [1], 0, 0, []), (177, [], .if_icmp .ge 37, [3, 214], 0, 0, []), (180, [], .aload_n 0, [1], 0, 0, []), (181, [], .aload_n 0, [1], 0, 0, []), (182, [], .getfield 7, [3, 10, 0, 2, 1560, 1], 0, 0, []), (185, [], .bipush 102, [2], 102, 0, []), (187, [], .iload_n 1, [1], 0, 0, []), (188, [], .iadd, [1], 0, 0, []), (189, [], .iaload, [1], 0, 0, []), (190, [], .i2l, [1], 0, 0, []), (191, [], .invokevirtual 271, [3, 216, 2, 0, 3, 10], 0, 0, []), (194, [], .aload_n 0, [1], 0, 0, []), (195, [], .aload_n 0, [1], 0, 0, []), (196, [], .getfield 7, [3, 10, 0, 2, 1560, 1], 0, 0, []), (199, [], .bipush 110, [2], 110, 0, []), (201, [], .iload_n 1, [1], 0, 0, []), (202, [], .iadd, [1], 0, 0, []), (203, [], .iaload, [1], 0, 0, []), (204, [], .i2l, [1], 0, 0, []), (205, [], .invokevirtual 271, [3, 216, 2, 0, 3, 10], 0, 0, []), (208, [], .iinc 1 1, [3], 1, 0, []), (211, [], .goto (-42), [3, 169], 0, 0, []), (214, [], .aload_n 0, [1], 0, 0, []), (215, [], .aload_n 0, [1], 0, 0, []), (216, [], .getfield 7, [3, 10, 0, 2, 1560, 1], 0, 0, []), (219, [], .bipush 118, [2], 118, 0, []), (221, [], .iaload, [1], 0, 0, []), (222, [], .i2l, [1], 0, 0, []), (223, [], .invokevirtual 271, [3, 216, 2, 0, 3, 10], 0, 0, []), (226, [], .aload_n 0, [1], 0, 0, []), (227, [], .bipush 120, [2], 120, 0, []), (229, [], .aload_n 0, [1], 0, 0, []), (230, [], .getfield 7, [3, 10, 0, 2, 1560, 1], 0, 0, []), (233, [], .bipush 119, [2], 119, 0, []), (235, [], .iaload, [1], 0, 0, []), (236, [], .invokevirtual 277, [3, 217, 3, 0, 4, 10], 0, 0, []), (239, [], .aload_n 0, [1], 0, 0, []), (240, [], .bipush 127, [2], 127, 0, []), (242, [], .aload_n 0, [1], 0, 0, []), (243, [], .getfield 7, [3, 10, 0, 2, 1560, 1], 0, 0, []), (246, [], .bipush 126, [2], 126, 0, []), (248, [], .iaload, [1], 0, 0, []), (249, [], .invokevirtual 277, [3, 217, 3, 0, 4, 10], 0, 0, []), (252, [], .aload_n 0, [1], 0, 0, []), (253, [], .aload_n 0, [1], 0, 0, []), (254, [], .getfield 246, [3, 10, 4, 1, 0, 0], 0, 0, []), (257, [], .invokevirtual 271, [3, 216, 2, 0, 3, 10], 0, 0, []), (260, [], .aload_n 0, [1], 0, 0, []), (261, [], .aload_n 0, [1], 0, 0, []), (262, [], .getfield 20, [3, 10, 5, 1, 0, 0], 0, 0, []), (265, [], .invokevirtual 271, [3, 216, 2, 0, 3, 10], 0, 0, []), (268, [], .aload_n 0, [1], 0, 0, []), (269, [], .getfield 268, [3, 10, 22, 1, 0, 0], 0, 0, []), (272, [], .lreturn, [1], 0, 0, [])]
/-- 216: OneNoteModel.mix(J)V -/
def K216 : List je := [(0, [], .aload_n 0, [1], 0, 0, []), (1, [], .ldc2_w 266, [3], 0, 31, []), (4, [], .aload_n 0, [1], 0, 0, []), (5, [], .getfield 268, [3, 10, 22, 1, 0, 0], 0, 0, []), (8, [], .lmul, [1], 0, 0, []), (9, [], .lload_n 1, [1], 0, 0, []), (10, [], .ladd, [1], 0, 0, []), (11, [], .putfield 268, [3, 10, 22, 1], 0, 0, []), (14, [], .return_, [1], 0, 0, [])]
/-- 217: OneNoteModel.mixAll(II)V -/
def K217 : List je := [(0, [], .iconst 0, [1], 0, 0, []), (1, [], .istore_n 3, [1], 0, 0, []), (2, [], .iload_n 3, [1], 0, 0, []), (3, [], .iload_n 2, [1], 0, 0, []), (4, [], .if_icmp .ge 22, [3, 26], 0, 0, []), (7, [], .aload_n 0, [1], 0, 0, []), (8, [], .aload_n 0, [1], 0, 0, []), (9, [], .getfield 7, [3, 10, 0, 2, 1560, 1], 0, 0, []), (12, [], .iload_n 1, [1], 0, 0, []), (13, [], .iload_n 3, [1], 0, 0, []), (14, [], .iadd, [1], 0, 0, []), (15, [], .iaload, [1], 0, 0, []), (16, [], .i2l, [1], 0, 0, []), (17, [], .invokevirtual 271, [3, 216, 2, 0, 3, 10], 0, 0, []), (20, [], .iinc 3 1, [3], 1, 0, []), (23, [], .goto (-21), [3, 2], 0, 0, []), (26, [], .return_, [1], 0, 0, [])]
/-- 218: OneNoteLaw.law([I)Z -/
def K218_0 : List je := [(16, [], .iconst 0, [1], 0, 0, []), (17, [], .istore_n 3, [1], 0, 0, []), (18, [], .iload_n 3, [1], 0, 0, []), (19, [], .aload_n 0, [1], 0, 0, []), (20, [], .arraylength, [1], 0, 0, []), (21, [], .iconst 5, [1], 5, 0, []), (22, [], .isub, [1], 0, 0, []), (23, [], .if_icmp .gt 1242, [3, 1265], 0, 0, []), (26, [], .aload_n 0, [1], 0, 0, []), (27, [], .iload_n 3, [1], 0, 0, []), (28, [], .iaload, [1], 0, 0, []), (29, [], .bipush 63, [2], 63, 0, []), (31, [], .iand, [1], 0, 0, []), (32, [], .tableswitch 1227 0 36 #[164, 197, 230, 273, 306, 339, 392, 415, 448, 511, 524, 537, 570, 593, 626, 659, 682, 695, 718, 741, 784, 807, 850, 873, 886, 909, 922, 955, 988, 1031, 1074, 1097, 1121, 1144, 1167, 1190, 1213], [164, 1259], 0, 0, [(0, 196), (1, 229), (2, 262), (3, 305), (4, 338), (5, 371), (6, 424), (7, 447), (8, 480), (9, 543), (10, 556), (11, 569), (12, 602), (13, 625), (14, 658), (15, 691), (16, 714), (17, 727), (18, 750), (19, 773), (20, 816), (21, 839), (22, 882), (23, 905), (24, 918), (25, 941), (26, 954), (27, 987), (28, 1020), (29, 1063), (30, 1106), (31, 1129), (32, 1153), (33, 1176), (34, 1199), (35, 1222), (36, 1245)]), (196, [], .aload_n 1, [1], 0, 0, []), (197, [], .aload_n 0, [1], 0, 0, []), (198, [], .iload_n 3, [1], 0, 0, []), (199, [], .iconst 1, [1], 1, 0, []), (200, [], .iadd, [1], 0, 0, []), (201, [], .iaload, [1], 0, 0, []), (202, [], .aload_n 0, [1], 0, 0, []), (203, [], .iload_n 3, [1], 0, 0, []), (204, [], .iconst 2, [1], 2, 0, []), (205, [], .iadd, [1], 0, 0, []), (206, [], .iaload, [1], 0, 0, []), (207, [], .invokevirtual 13, [3, 94, 3, 1, 3, 9], 0, 0, []), (210, [], .aload_n 2, [1], 0, 0, []), (211, [], .aload_n 0, [1], 0, 0, []), (212, [], .iload_n 3, [1], 0, 0, []), (213, [], .iconst 1, [1], 1, 0, []), (214, [], .iadd, [1], 0, 0, []), (215, [], .iaload, [1], 0, 0, []), (216, [], .aload_n 0, [1], 0, 0, []), (217, [], .iload_n 3, [1], 0, 0, []), (218, [], .iconst 2, [1], 2, 0, []), (219, [], .iadd, [1], 0, 0, []), (220, [], .iaload, [1], 0, 0, []), (221, [], .invokevirtual 17, [3, 137, 3, 1, 3, 10], 0, 0, []), (224, [], .if_icmp .eq 1035, [3, 1259], 0, 0, []), (227, [], .iconst 0, [1], 0, 0, []), (228, [], .ireturn, [1, 1], 0, 0, []), (229, [], .aload_n 1, [1], 0, 0, []), (230, [], .aload_n 0, [1], 0, 0, []), (231, [], .iload_n 3, [1], 0, 0, []), (232, [], .iconst 1, [1], 1, 0, []), (233, [], .iadd, [1], 0, 0, []), (234, [], .iaload, [1], 0, 0, []), (235, [], .aload_n 0, [1], 0, 0, []), (236, [], .iload_n 3, [1], 0, 0, []), (237, [], .iconst 2, [1], 2, 0, []), (238, [], .iadd, [1], 0, 0, []), (239, [], .iaload, [1], 0, 0, []), (240, [], .invokevirtual 18, [3, 97, 3, 1, 3, 9], 0, 0, []), (243, [], .aload_n 2, [1], 0, 0, []), (244, [], .aload_n 0, [1], 0, 0, []), (245, [], .iload_n 3, [1], 0, 0, []), (246, [], .iconst 1, [1], 1, 0, []), (247, [], .iadd, [1], 0, 0, []), (248, [], .iaload, [1], 0, 0, []), (249, [], .aload_n 0, [1], 0, 0, [])]
def K218_1 : List je := [(250, [], .iload_n 3, [1], 0, 0, []), (251, [], .iconst 2, [1], 2, 0, []), (252, [], .iadd, [1], 0, 0, []), (253, [], .iaload, [1], 0, 0, []), (254, [], .invokevirtual 21, [3, 142, 3, 1, 3, 10], 0, 0, []), (257, [], .if_icmp .eq 1002, [3, 1259], 0, 0, []), (260, [], .iconst 0, [1], 0, 0, []), (261, [], .ireturn, [1, 1], 0, 0, []), (262, [], .aload_n 1, [1], 0, 0, []), (263, [], .aload_n 0, [1], 0, 0, []), (264, [], .iload_n 3, [1], 0, 0, []), (265, [], .iconst 1, [1], 1, 0, []), (266, [], .iadd, [1], 0, 0, []), (267, [], .iaload, [1], 0, 0, []), (268, [], .aload_n 0, [1], 0, 0, []), (269, [], .iload_n 3, [1], 0, 0, []), (270, [], .iconst 2, [1], 2, 0, []), (271, [], .iadd, [1], 0, 0, []), (272, [], .iaload, [1], 0, 0, []), (273, [], .aload_n 0, [1], 0, 0, []), (274, [], .iload_n 3, [1], 0, 0, []), (275, [], .iconst 3, [1], 3, 0, []), (276, [], .iadd, [1], 0, 0, []), (277, [], .iaload, [1], 0, 0, []), (278, [], .invokevirtual 22, [3, 98, 4, 1, 4, 9], 0, 0, []), (281, [], .aload_n 2, [1], 0, 0, []), (282, [], .aload_n 0, [1], 0, 0, []), (283, [], .iload_n 3, [1], 0, 0, []), (284, [], .iconst 1, [1], 1, 0, []), (285, [], .iadd, [1], 0, 0, []), (286, [], .iaload, [1], 0, 0, []), (287, [], .aload_n 0, [1], 0, 0, []), (288, [], .iload_n 3, [1], 0, 0, []), (289, [], .iconst 2, [1], 2, 0, []), (290, [], .iadd, [1], 0, 0, []), (291, [], .iaload, [1], 0, 0, []), (292, [], .aload_n 0, [1], 0, 0, []), (293, [], .iload_n 3, [1], 0, 0, []), (294, [], .iconst 3, [1], 3, 0, []), (295, [], .iadd, [1], 0, 0, []), (296, [], .iaload, [1], 0, 0, []), (297, [], .invokevirtual 26, [3, 143, 4, 1, 4, 10], 0, 0, []), (300, [], .if_icmp .eq 959, [3, 1259], 0, 0, []), (303, [], .iconst 0, [1], 0, 0, []), (304, [], .ireturn, [1, 1], 0, 0, []), (305, [], .aload_n 1, [1], 0, 0, []), (306, [], .aload_n 0, [1], 0, 0, []), (307, [], .iload_n 3, [1], 0, 0, []), (308, [], .iconst 1, [1], 1, 0, []), (309, [], .iadd, [1], 0, 0, []), (310, [], .iaload, [1], 0, 0, []), (311, [], .aload_n 0, [1], 0, 0, []), (312, [], .iload_n 3, [1], 0, 0, []), (313, [], .iconst 2, [1], 2, 0, []), (314, [], .iadd, [1], 0, 0, []), (315, [], .iaload, [1], 0, 0, []), (316, [], .invokevirtual 27, [3, 99, 3, 1, 3, 9], 0, 0, []), (319, [], .aload_n 2, [1], 0, 0, []), (320, [], .aload_n 0, [1], 0, 0, []), (321, [], .iload_n 3, [1], 0, 0, [])]
def K218_2 : List je := [(322, [], .iconst 1, [1], 1, 0, []), (323, [], .iadd, [1], 0, 0, []), (324, [], .iaload, [1], 0, 0, []), (325, [], .aload_n 0, [1], 0, 0, []), (326, [], .iload_n 3, [1], 0, 0, []), (327, [], .iconst 2, [1], 2, 0, []), (328, [], .iadd, [1], 0, 0, []), (329, [], .iaload, [1], 0, 0, []), (330, [], .invokevirtual 30, [3, 145, 3, 1, 3, 10], 0, 0, []), (333, [], .if_icmp .eq 926, [3, 1259], 0, 0, []), (336, [], .iconst 0, [1], 0, 0, []), (337, [], .ireturn, [1, 1], 0, 0, []), (338, [], .aload_n 1, [1], 0, 0, []), (339, [], .aload_n 0, [1], 0, 0, []), (340, [], .iload_n 3, [1], 0, 0, []), (341, [], .iconst 1, [1], 1, 0, []), (342, [], .iadd, [1], 0, 0, []), (343, [], .iaload, [1], 0, 0, []), (344, [], .aload_n 0, [1], 0, 0, []), (345, [], .iload_n 3, [1], 0, 0, []), (346, [], .iconst 2, [1], 2, 0, []), (347, [], .iadd, [1], 0, 0, []), (348, [], .iaload, [1], 0, 0, []), (349, [], .invokevirtual 31, [3, 100, 3, 1, 3, 9], 0, 0, []), (352, [], .aload_n 2, [1], 0, 0, []), (353, [], .aload_n 0, [1], 0, 0, []), (354, [], .iload_n 3, [1], 0, 0, []), (355, [], .iconst 1, [1], 1, 0, []), (356, [], .iadd, [1], 0, 0, []), (357, [], .iaload, [1], 0, 0, []), (358, [], .aload_n 0, [1], 0, 0, []), (359, [], .iload_n 3, [1], 0, 0, []), (360, [], .iconst 2, [1], 2, 0, []), (361, [], .iadd, [1], 0, 0, []), (362, [], .iaload, [1], 0, 0, []), (363, [], .invokevirtual 34, [3, 148, 3, 1, 4, 10], 0, 0, []), (366, [], .if_icmp .eq 893, [3, 1259], 0, 0, []), (369, [], .iconst 0, [1], 0, 0, []), (370, [], .ireturn, [1, 1], 0, 0, []), (371, [], .aload_n 1, [1], 0, 0, []), (372, [], .aload_n 0, [1], 0, 0, []), (373, [], .iload_n 3, [1], 0, 0, []), (374, [], .iconst 1, [1], 1, 0, []), (375, [], .iadd, [1], 0, 0, []), (376, [], .iaload, [1], 0, 0, []), (377, [], .aload_n 0, [1], 0, 0, []), (378, [], .iload_n 3, [1], 0, 0, []), (379, [], .iconst 2, [1], 2, 0, []), (380, [], .iadd, [1], 0, 0, []), (381, [], .iaload, [1], 0, 0, []), (382, [], .aload_n 0, [1], 0, 0, []), (383, [], .iload_n 3, [1], 0, 0, []), (384, [], .iconst 3, [1], 3, 0, []), (385, [], .iadd, [1], 0, 0, []), (386, [], .iaload, [1], 0, 0, []), (387, [], .aload_n 0, [1], 0, 0, []), (388, [], .iload_n 3, [1], 0, 0, []), (389, [], .iconst 4, [1], 4, 0, []), (390, [], .iadd, [1], 0, 0, []), (391, [], .iaload, [1], 0, 0, [])]
def K218_3 : List je := [(392, [], .invokevirtual 35, [3, 101, 5, 1, 5, 9], 0, 0, []), (395, [], .aload_n 2, [1], 0, 0, []), (396, [], .aload_n 0, [1], 0, 0, []), (397, [], .iload_n 3, [1], 0, 0, []), (398, [], .iconst 1, [1], 1, 0, []), (399, [], .iadd, [1], 0, 0, []), (400, [], .iaload, [1], 0, 0, []), (401, [], .aload_n 0, [1], 0, 0, []), (402, [], .iload_n 3, [1], 0, 0, []), (403, [], .iconst 2, [1], 2, 0, []), (404, [], .iadd, [1], 0, 0, []), (405, [], .iaload, [1], 0, 0, []), (406, [], .aload_n 0, [1], 0, 0, []), (407, [], .iload_n 3, [1], 0, 0, []), (408, [], .iconst 3, [1], 3, 0, []), (409, [], .iadd, [1], 0, 0, []), (410, [], .iaload, [1], 0, 0, []), (411, [], .aload_n 0, [1], 0, 0, []), (412, [], .iload_n 3, [1], 0, 0, []), (413, [], .iconst 4, [1], 4, 0, []), (414, [], .iadd, [1], 0, 0, []), (415, [], .iaload, [1], 0, 0, []), (416, [], .invokevirtual 39, [3, 149, 5, 1, 5, 10], 0, 0, []), (419, [], .if_icmp .eq 840, [3, 1259], 0, 0, []), (422, [], .iconst 0, [1], 0, 0, []), (423, [], .ireturn, [1, 1], 0, 0, []), (424, [], .aload_n 1, [1], 0, 0, []), (425, [], .aload_n 0, [1], 0, 0, []), (426, [], .iload_n 3, [1], 0, 0, []), (427, [], .iconst 1, [1], 1, 0, []), (428, [], .iadd, [1], 0, 0, []), (429, [], .iaload, [1], 0, 0, []), (430, [], .invokevirtual 40, [3, 102, 2, 1, 2, 9], 0, 0, []), (433, [], .aload_n 2, [1], 0, 0, []), (434, [], .aload_n 0, [1], 0, 0, []), (435, [], .iload_n 3, [1], 0, 0, []), (436, [], .iconst 1, [1], 1, 0, []), (437, [], .iadd, [1], 0, 0, []), (438, [], .iaload, [1], 0, 0, []), (439, [], .invokevirtual 44, [3, 151, 2, 1, 2, 10], 0, 0, []), (442, [], .if_icmp .eq 817, [3, 1259], 0, 0, []), (445, [], .iconst 0, [1], 0, 0, []), (446, [], .ireturn, [1, 1], 0, 0, []), (447, [], .aload_n 1, [1], 0, 0, []), (448, [], .aload_n 0, [1], 0, 0, []), (449, [], .iload_n 3, [1], 0, 0, []), (450, [], .iconst 1, [1], 1, 0, []), (451, [], .iadd, [1], 0, 0, []), (452, [], .iaload, [1], 0, 0, []), (453, [], .aload_n 0, [1], 0, 0, []), (454, [], .iload_n 3, [1], 0, 0, []), (455, [], .iconst 2, [1], 2, 0, []), (456, [], .iadd, [1], 0, 0, []), (457, [], .iaload, [1], 0, 0, []), (458, [], .invokevirtual 45, [3, 103, 3, 1, 3, 9], 0, 0, []), (461, [], .aload_n 2, [1], 0, 0, []), (462, [], .aload_n 0, [1], 0, 0, []), (463, [], .iload_n 3, [1], 0, 0, []), (464, [], .iconst 1, [1], 1, 0, []), (465, [], .iadd, [1], 0, 0, [])]
def K218_4 : List je := [(466, [], .iaload, [1], 0, 0, []), (467, [], .aload_n 0, [1], 0, 0, []), (468, [], .iload_n 3, [1], 0, 0, []), (469, [], .iconst 2, [1], 2, 0, []), (470, [], .iadd, [1], 0, 0, []), (471, [], .iaload, [1], 0, 0, []), (472, [], .invokevirtual 48, [3, 153, 3, 1, 3, 10], 0, 0, []), (475, [], .if_icmp .eq 784, [3, 1259], 0, 0, []), (478, [], .iconst 0, [1], 0, 0, []), (479, [], .ireturn, [1, 1], 0, 0, []), (480, [], .aload_n 1, [1], 0, 0, []), (481, [], .aload_n 0, [1], 0, 0, []), (482, [], .iload_n 3, [1], 0, 0, []), (483, [], .iconst 1, [1], 1, 0, []), (484, [], .iadd, [1], 0, 0, []), (485, [], .iaload, [1], 0, 0, []), (486, [], .i2l, [1], 0, 0, []), (487, [], .bipush 32, [2], 32, 0, []), (489, [], .lshl, [1], 0, 0, []), (490, [], .aload_n 0, [1], 0, 0, []), (491, [], .iload_n 3, [1], 0, 0, []), (492, [], .iconst 2, [1], 2, 0, []), (493, [], .iadd, [1], 0, 0, []), (494, [], .iaload, [1], 0, 0, []), (495, [], .i2l, [1], 0, 0, []), (496, [], .ldc2_w 49, [3], 0, 4294967295, []), (499, [], .land, [1], 0, 0, []), (500, [], .lor, [1], 0, 0, []), (501, [], .aload_n 0, [1], 0, 0, []), (502, [], .iload_n 3, [1], 0, 0, []), (503, [], .iconst 3, [1], 3, 0, []), (504, [], .iadd, [1], 0, 0, []), (505, [], .iaload, [1], 0, 0, []), (506, [], .invokevirtual 51, [3, 104, 3, 1, 4, 9], 0, 0, []), (509, [], .aload_n 2, [1], 0, 0, []), (510, [], .aload_n 0, [1], 0, 0, []), (511, [], .iload_n 3, [1], 0, 0, []), (512, [], .iconst 1, [1], 1, 0, []), (513, [], .iadd, [1], 0, 0, []), (514, [], .iaload, [1], 0, 0, []), (515, [], .i2l, [1], 0, 0, []), (516, [], .bipush 32, [2], 32, 0, []), (518, [], .lshl, [1], 0, 0, []), (519, [], .aload_n 0, [1], 0, 0, []), (520, [], .iload_n 3, [1], 0, 0, []), (521, [], .iconst 2, [1], 2, 0, []), (522, [], .iadd, [1], 0, 0, []), (523, [], .iaload, [1], 0, 0, []), (524, [], .i2l, [1], 0, 0, []), (525, [], .ldc2_w 49, [3], 0, 4294967295, []), (528, [], .land, [1], 0, 0, []), (529, [], .lor, [1], 0, 0, []), (530, [], .aload_n 0, [1], 0, 0, []), (531, [], .iload_n 3, [1], 0, 0, []), (532, [], .iconst 3, [1], 3, 0, []), (533, [], .iadd, [1], 0, 0, []), (534, [], .iaload, [1], 0, 0, []), (535, [], .invokevirtual 55, [3, 158, 3, 1, 5, 10], 0, 0, []), (538, [], .if_icmp .eq 721, [3, 1259], 0, 0, []), (541, [], .iconst 0, [1], 0, 0, [])]
def K218_5 : List je := [(542, [], .ireturn, [1, 1], 0, 0, []), (543, [], .aload_n 1, [1], 0, 0, []), (544, [], .invokevirtual 56, [3, 105, 1, 1, 1, 9], 0, 0, []), (547, [], .aload_n 2, [1], 0, 0, []), (548, [], .invokevirtual 60, [3, 159, 1, 1, 2, 10], 0, 0, []), (551, [], .if_icmp .eq 708, [3, 1259], 0, 0, []), (554, [], .iconst 0, [1], 0, 0, []), (555, [], .ireturn, [1, 1], 0, 0, []), (556, [], .aload_n 1, [1], 0, 0, []), (557, [], .invokevirtual 61, [3, 106, 1, 1, 2, 9], 0, 0, []), (560, [], .aload_n 2, [1], 0, 0, []), (561, [], .invokevirtual 64, [3, 160, 1, 1, 2, 10], 0, 0, []), (564, [], .if_icmp .eq 695, [3, 1259], 0, 0, []), (567, [], .iconst 0, [1], 0, 0, []), (568, [], .ireturn, [1, 1], 0, 0, []), (569, [], .aload_n 1, [1], 0, 0, []), (570, [], .aload_n 0, [1], 0, 0, []), (571, [], .iload_n 3, [1], 0, 0, []), (572, [], .iconst 1, [1], 1, 0, []), (573, [], .iadd, [1], 0, 0, []), (574, [], .iaload, [1], 0, 0, []), (575, [], .aload_n 0, [1], 0, 0, []), (576, [], .iload_n 3, [1], 0, 0, []), (577, [], .iconst 2, [1], 2, 0, []), (578, [], .iadd, [1], 0, 0, []), (579, [], .iaload, [1], 0, 0, []), (580, [], .invokevirtual 65, [3, 107, 3, 1, 3, 9], 0, 0, []), (583, [], .aload_n 2, [1], 0, 0, []), (584, [], .aload_n 0, [1], 0, 0, []), (585, [], .iload_n 3, [1], 0, 0, []), (586, [], .iconst 1, [1], 1, 0, []), (587, [], .iadd, [1], 0, 0, []), (588, [], .iaload, [1], 0, 0, []), (589, [], .aload_n 0, [1], 0, 0, []), (590, [], .iload_n 3, [1], 0, 0, []), (591, [], .iconst 2, [1], 2, 0, []), (592, [], .iadd, [1], 0, 0, []), (593, [], .iaload, [1], 0, 0, []), (594, [], .invokevirtual 68, [3, 169, 3, 1, 3, 10], 0, 0, []), (597, [], .if_icmp .eq 662, [3, 1259], 0, 0, []), (600, [], .iconst 0, [1], 0, 0, []), (601, [], .ireturn, [1, 1], 0, 0, []), (602, [], .aload_n 1, [1], 0, 0, []), (603, [], .aload_n 0, [1], 0, 0, []), (604, [], .iload_n 3, [1], 0, 0, []), (605, [], .iconst 1, [1], 1, 0, []), (606, [], .iadd, [1], 0, 0, []), (607, [], .iaload, [1], 0, 0, []), (608, [], .invokevirtual 69, [3, 108, 2, 1, 2, 9], 0, 0, []), (611, [], .aload_n 2, [1], 0, 0, []), (612, [], .aload_n 0, [1], 0, 0, []), (613, [], .iload_n 3, [1], 0, 0, []), (614, [], .iconst 1, [1], 1, 0, []), (615, [], .iadd, [1], 0, 0, []), (616, [], .iaload, [1], 0, 0, []), (617, [], .invokevirtual 72, [3, 174, 2, 1, 2, 10], 0, 0, []), (620, [], .if_icmp .eq 639, [3, 1259], 0, 0, []), (623, [], .iconst 0, [1], 0, 0, []), (624, [], .ireturn, [1, 1], 0, 0, []), (625, [], .aload_n 1, [1], 0, 0, [])]
def K218_6 : List je := [(626, [], .aload_n 0, [1], 0, 0, []), (627, [], .iload_n 3, [1], 0, 0, []), (628, [], .iconst 1, [1], 1, 0, []), (629, [], .iadd, [1], 0, 0, []), (630, [], .iaload, [1], 0, 0, []), (631, [], .aload_n 0, [1], 0, 0, []), (632, [], .iload_n 3, [1], 0, 0, []), (633, [], .iconst 2, [1], 2, 0, []), (634, [], .iadd, [1], 0, 0, []), (635, [], .iaload, [1], 0, 0, []), (636, [], .invokevirtual 73, [3, 109, 3, 1, 3, 9], 0, 0, []), (639, [], .aload_n 2, [1], 0, 0, []), (640, [], .aload_n 0, [1], 0, 0, []), (641, [], .iload_n 3, [1], 0, 0, []), (642, [], .iconst 1, [1], 1, 0, []), (643, [], .iadd, [1], 0, 0, []), (644, [], .iaload, [1], 0, 0, []), (645, [], .aload_n 0, [1], 0, 0, []), (646, [], .iload_n 3, [1], 0, 0, []), (647, [], .iconst 2, [1], 2, 0, []), (648, [], .iadd, [1], 0, 0, []), (649, [], .iaload, [1], 0, 0, []), (650, [], .invokevirtual 76, [3, 177, 3, 1, 3, 10], 0, 0, []), (653, [], .if_icmp .eq 606, [3, 1259], 0, 0, []), (656, [], .iconst 0, [1], 0, 0, []), (657, [], .ireturn, [1, 1], 0, 0, []), (658, [], .aload_n 1, [1], 0, 0, []), (659, [], .aload_n 0, [1], 0, 0, []), (660, [], .iload_n 3, [1], 0, 0, []), (661, [], .iconst 1, [1], 1, 0, []), (662, [], .iadd, [1], 0, 0, []), (663, [], .iaload, [1], 0, 0, []), (664, [], .aload_n 0, [1], 0, 0, []), (665, [], .iload_n 3, [1], 0, 0, []), (666, [], .iconst 2, [1], 2, 0, []), (667, [], .iadd, [1], 0, 0, []), (668, [], .iaload, [1], 0, 0, []), (669, [], .invokevirtual 77, [3, 110, 3, 1, 3, 9], 0, 0, []), (672, [], .aload_n 2, [1], 0, 0, []), (673, [], .aload_n 0, [1], 0, 0, []), (674, [], .iload_n 3, [1], 0, 0, []), (675, [], .iconst 1, [1], 1, 0, []), (676, [], .iadd, [1], 0, 0, []), (677, [], .iaload, [1], 0, 0, []), (678, [], .aload_n 0, [1], 0, 0, []), (679, [], .iload_n 3, [1], 0, 0, []), (680, [], .iconst 2, [1], 2, 0, []), (681, [], .iadd, [1], 0, 0, []), (682, [], .iaload, [1], 0, 0, []), (683, [], .invokevirtual 80, [3, 178, 3, 1, 5, 10], 0, 0, []), (686, [], .if_icmp .eq 573, [3, 1259], 0, 0, []), (689, [], .iconst 0, [1], 0, 0, []), (690, [], .ireturn, [1, 1], 0, 0, []), (691, [], .aload_n 1, [1], 0, 0, []), (692, [], .aload_n 0, [1], 0, 0, []), (693, [], .iload_n 3, [1], 0, 0, []), (694, [], .iconst 1, [1], 1, 0, []), (695, [], .iadd, [1], 0, 0, []), (696, [], .iaload, [1], 0, 0, []), (697, [], .invokevirtual 81, [3, 111, 2, 1, 2, 9], 0, 0, [])]
def K218_7 : List je := [(700, [], .aload_n 2, [1], 0, 0, []), (701, [], .aload_n 0, [1], 0, 0, []), (702, [], .iload_n 3, [1], 0, 0, []), (703, [], .iconst 1, [1], 1, 0, []), (704, [], .iadd, [1], 0, 0, []), (705, [], .iaload, [1], 0, 0, []), (706, [], .invokevirtual 84, [3, 179, 2, 1, 3, 10], 0, 0, []), (709, [], .if_icmp .eq 550, [3, 1259], 0, 0, []), (712, [], .iconst 0, [1], 0, 0, []), (713, [], .ireturn, [1, 1], 0, 0, []), (714, [], .aload_n 1, [1], 0, 0, []), (715, [], .invokevirtual 85, [3, 112, 1, 1, 1, 9], 0, 0, []), (718, [], .aload_n 2, [1], 0, 0, []), (719, [], .invokevirtual 88, [3, 180, 1, 1, 2, 10], 0, 0, []), (722, [], .if_icmp .eq 537, [3, 1259], 0, 0, []), (725, [], .iconst 0, [1], 0, 0, []), (726, [], .ireturn, [1, 1], 0, 0, []), (727, [], .aload_n 1, [1], 0, 0, []), (728, [], .aload_n 0, [1], 0, 0, []), (729, [], .iload_n 3, [1], 0, 0, []), (730, [], .iconst 1, [1], 1, 0, []), (731, [], .iadd, [1], 0, 0, []), (732, [], .iaload, [1], 0, 0, []), (733, [], .invokevirtual 89, [3, 113, 2, 1, 2, 9], 0, 0, []), (736, [], .aload_n 2, [1], 0, 0, []), (737, [], .aload_n 0, [1], 0, 0, []), (738, [], .iload_n 3, [1], 0, 0, []), (739, [], .iconst 1, [1], 1, 0, []), (740, [], .iadd, [1], 0, 0, []), (741, [], .iaload, [1], 0, 0, []), (742, [], .invokevirtual 92, [3, 181, 2, 1, 2, 10], 0, 0, []), (745, [], .if_icmp .eq 514, [3, 1259], 0, 0, []), (748, [], .iconst 0, [1], 0, 0, []), (749, [], .ireturn, [1, 1], 0, 0, []), (750, [], .aload_n 1, [1], 0, 0, []), (751, [], .aload_n 0, [1], 0, 0, []), (752, [], .iload_n 3, [1], 0, 0, []), (753, [], .iconst 1, [1], 1, 0, []), (754, [], .iadd, [1], 0, 0, []), (755, [], .iaload, [1], 0, 0, []), (756, [], .invokevirtual 93, [3, 114, 2, 1, 2, 9], 0, 0, []), (759, [], .aload_n 2, [1], 0, 0, []), (760, [], .aload_n 0, [1], 0, 0, []), (761, [], .iload_n 3, [1], 0, 0, []), (762, [], .iconst 1, [1], 1, 0, []), (763, [], .iadd, [1], 0, 0, []), (764, [], .iaload, [1], 0, 0, []), (765, [], .invokevirtual 96, [3, 185, 2, 1, 2, 10], 0, 0, []), (768, [], .if_icmp .eq 491, [3, 1259], 0, 0, []), (771, [], .iconst 0, [1], 0, 0, []), (772, [], .ireturn, [1, 1], 0, 0, []), (773, [], .aload_n 1, [1], 0, 0, []), (774, [], .aload_n 0, [1], 0, 0, []), (775, [], .iload_n 3, [1], 0, 0, []), (776, [], .iconst 1, [1], 1, 0, []), (777, [], .iadd, [1], 0, 0, []), (778, [], .iaload, [1], 0, 0, []), (779, [], .aload_n 0, [1], 0, 0, []), (780, [], .iload_n 3, [1], 0, 0, []), (781, [], .iconst 2, [1], 2, 0, [])]
def K218_8 : List je := [(782, [], .iadd, [1], 0, 0, []), (783, [], .iaload, [1], 0, 0, []), (784, [], .aload_n 0, [1], 0, 0, []), (785, [], .iload_n 3, [1], 0, 0, []), (786, [], .iconst 3, [1], 3, 0, []), (787, [], .iadd, [1], 0, 0, []), (788, [], .iaload, [1], 0, 0, []), (789, [], .invokevirtual 97, [3, 115, 4, 1, 4, 9], 0, 0, []), (792, [], .aload_n 2, [1], 0, 0, []), (793, [], .aload_n 0, [1], 0, 0, []), (794, [], .iload_n 3, [1], 0, 0, []), (795, [], .iconst 1, [1], 1, 0, []), (796, [], .iadd, [1], 0, 0, []), (797, [], .iaload, [1], 0, 0, []), (798, [], .aload_n 0, [1], 0, 0, []), (799, [], .iload_n 3, [1], 0, 0, []), (800, [], .iconst 2, [1], 2, 0, []), (801, [], .iadd, [1], 0, 0, []), (802, [], .iaload, [1], 0, 0, []), (803, [], .aload_n 0, [1], 0, 0, []), (804, [], .iload_n 3, [1], 0, 0, []), (805, [], .iconst 3, [1], 3, 0, []), (806, [], .iadd, [1], 0, 0, []), (807, [], .iaload, [1], 0, 0, []), (808, [], .invokevirtual 100, [3, 186, 4, 1, 4, 10], 0, 0, []), (811, [], .if_icmp .eq 448, [3, 1259], 0, 0, []), (814, [], .iconst 0, [1], 0, 0, []), (815, [], .ireturn, [1, 1], 0, 0, []), (816, [], .aload_n 1, [1], 0, 0, []), (817, [], .aload_n 0, [1], 0, 0, []), (818, [], .iload_n 3, [1], 0, 0, []), (819, [], .iconst 1, [1], 1, 0, []), (820, [], .iadd, [1], 0, 0, []), (821, [], .iaload, [1], 0, 0, []), (822, [], .invokevirtual 101, [3, 117, 2, 1, 2, 9], 0, 0, []), (825, [], .aload_n 2, [1], 0, 0, []), (826, [], .aload_n 0, [1], 0, 0, []), (827, [], .iload_n 3, [1], 0, 0, []), (828, [], .iconst 1, [1], 1, 0, []), (829, [], .iadd, [1], 0, 0, []), (830, [], .iaload, [1], 0, 0, []), (831, [], .invokevirtual 104, [3, 190, 2, 1, 7, 10], 0, 0, []), (834, [], .if_icmp .eq 425, [3, 1259], 0, 0, []), (837, [], .iconst 0, [1], 0, 0, []), (838, [], .ireturn, [1, 1], 0, 0, []), (839, [], .aload_n 1, [1], 0, 0, []), (840, [], .aload_n 0, [1], 0, 0, []), (841, [], .iload_n 3, [1], 0, 0, []), (842, [], .iconst 1, [1], 1, 0, []), (843, [], .iadd, [1], 0, 0, []), (844, [], .iaload, [1], 0, 0, []), (845, [], .aload_n 0, [1], 0, 0, []), (846, [], .iload_n 3, [1], 0, 0, []), (847, [], .iconst 2, [1], 2, 0, []), (848, [], .iadd, [1], 0, 0, []), (849, [], .iaload, [1], 0, 0, []), (850, [], .aload_n 0, [1], 0, 0, []), (851, [], .iload_n 3, [1], 0, 0, []), (852, [], .iconst 3, [1], 3, 0, []), (853, [], .iadd, [1], 0, 0, [])]
def K218_9 : List je := [(854, [], .iaload, [1], 0, 0, []), (855, [], .invokevirtual 105, [3, 118, 4, 1, 4, 9], 0, 0, []), (858, [], .aload_n 2, [1], 0, 0, []), (859, [], .aload_n 0, [1], 0, 0, []), (860, [], .iload_n 3, [1], 0, 0, []), (861, [], .iconst 1, [1], 1, 0, []), (862, [], .iadd, [1], 0, 0, []), (863, [], .iaload, [1], 0, 0, []), (864, [], .aload_n 0, [1], 0, 0, []), (865, [], .iload_n 3, [1], 0, 0, []), (866, [], .iconst 2, [1], 2, 0, []), (867, [], .iadd, [1], 0, 0, []), (868, [], .iaload, [1], 0, 0, []), (869, [], .aload_n 0, [1], 0, 0, []), (870, [], .iload_n 3, [1], 0, 0, []), (871, [], .iconst 3, [1], 3, 0, []), (872, [], .iadd, [1], 0, 0, []), (873, [], .iaload, [1], 0, 0, []), (874, [], .invokevirtual 108, [3, 191, 4, 1, 7, 10], 0, 0, []), (877, [], .if_icmp .eq 382, [3, 1259], 0, 0, []), (880, [], .iconst 0, [1], 0, 0, []), (881, [], .ireturn, [1, 1], 0, 0, []), (882, [], .aload_n 1, [1], 0, 0, []), (883, [], .aload_n 0, [1], 0, 0, []), (884, [], .iload_n 3, [1], 0, 0, []), (885, [], .iconst 1, [1], 1, 0, []), (886, [], .iadd, [1], 0, 0, []), (887, [], .iaload, [1], 0, 0, []), (888, [], .invokevirtual 109, [3, 120, 2, 1, 2, 9], 0, 0, []), (891, [], .aload_n 2, [1], 0, 0, []), (892, [], .aload_n 0, [1], 0, 0, []), (893, [], .iload_n 3, [1], 0, 0, []), (894, [], .iconst 1, [1], 1, 0, []), (895, [], .iadd, [1], 0, 0, []), (896, [], .iaload, [1], 0, 0, []), (897, [], .invokevirtual 112, [3, 194, 2, 1, 3, 10], 0, 0, []), (900, [], .if_icmp .eq 359, [3, 1259], 0, 0, []), (903, [], .iconst 0, [1], 0, 0, []), (904, [], .ireturn, [1, 1], 0, 0, []), (905, [], .aload_n 1, [1], 0, 0, []), (906, [], .invokevirtual 113, [3, 121, 1, 1, 1, 9], 0, 0, []), (909, [], .aload_n 2, [1], 0, 0, []), (910, [], .invokevirtual 116, [3, 195, 1, 1, 2, 10], 0, 0, []), (913, [], .if_icmp .eq 346, [3, 1259], 0, 0, []), (916, [], .iconst 0, [1], 0, 0, []), (917, [], .ireturn, [1, 1], 0, 0, []), (918, [], .aload_n 1, [1], 0, 0, []), (919, [], .aload_n 0, [1], 0, 0, []), (920, [], .iload_n 3, [1], 0, 0, []), (921, [], .iconst 1, [1], 1, 0, []), (922, [], .iadd, [1], 0, 0, []), (923, [], .iaload, [1], 0, 0, []), (924, [], .invokevirtual 117, [3, 122, 2, 1, 2, 9], 0, 0, []), (927, [], .aload_n 2, [1], 0, 0, []), (928, [], .aload_n 0, [1], 0, 0, []), (929, [], .iload_n 3, [1], 0, 0, []), (930, [], .iconst 1, [1], 1, 0, []), (931, [], .iadd, [1], 0, 0, []), (932, [], .iaload, [1], 0, 0, []), (933, [], .invokevirtual 120, [3, 196, 2, 1, 2, 10], 0, 0, [])]
def K218_10 : List je := [(936, [], .if_icmp .eq 323, [3, 1259], 0, 0, []), (939, [], .iconst 0, [1], 0, 0, []), (940, [], .ireturn, [1, 1], 0, 0, []), (941, [], .aload_n 1, [1], 0, 0, []), (942, [], .invokevirtual 121, [3, 123, 1, 1, 1, 9], 0, 0, []), (945, [], .aload_n 2, [1], 0, 0, []), (946, [], .invokevirtual 124, [3, 199, 1, 1, 1, 10], 0, 0, []), (949, [], .if_icmp .eq 310, [3, 1259], 0, 0, []), (952, [], .iconst 0, [1], 0, 0, []), (953, [], .ireturn, [1, 1], 0, 0, []), (954, [], .aload_n 1, [1], 0, 0, []), (955, [], .aload_n 0, [1], 0, 0, []), (956, [], .iload_n 3, [1], 0, 0, []), (957, [], .iconst 1, [1], 1, 0, []), (958, [], .iadd, [1], 0, 0, []), (959, [], .iaload, [1], 0, 0, []), (960, [], .aload_n 0, [1], 0, 0, []), (961, [], .iload_n 3, [1], 0, 0, []), (962, [], .iconst 2, [1], 2, 0, []), (963, [], .iadd, [1], 0, 0, []), (964, [], .iaload, [1], 0, 0, []), (965, [], .invokevirtual 125, [3, 124, 3, 1, 5, 9], 0, 0, []), (968, [], .aload_n 2, [1], 0, 0, []), (969, [], .aload_n 0, [1], 0, 0, []), (970, [], .iload_n 3, [1], 0, 0, []), (971, [], .iconst 1, [1], 1, 0, []), (972, [], .iadd, [1], 0, 0, []), (973, [], .iaload, [1], 0, 0, []), (974, [], .aload_n 0, [1], 0, 0, []), (975, [], .iload_n 3, [1], 0, 0, []), (976, [], .iconst 2, [1], 2, 0, []), (977, [], .iadd, [1], 0, 0, []), (978, [], .iaload, [1], 0, 0, []), (979, [], .invokevirtual 128, [3, 201, 3, 1, 5, 10], 0, 0, []), (982, [], .if_icmp .eq 277, [3, 1259], 0, 0, []), (985, [], .iconst 0, [1], 0, 0, []), (986, [], .ireturn, [1, 1], 0, 0, []), (987, [], .aload_n 1, [1], 0, 0, []), (988, [], .aload_n 0, [1], 0, 0, []), (989, [], .iload_n 3, [1], 0, 0, []), (990, [], .iconst 1, [1], 1, 0, []), (991, [], .iadd, [1], 0, 0, []), (992, [], .iaload, [1], 0, 0, []), (993, [], .aload_n 0, [1], 0, 0, []), (994, [], .iload_n 3, [1], 0, 0, []), (995, [], .iconst 2, [1], 2, 0, []), (996, [], .iadd, [1], 0, 0, []), (997, [], .iaload, [1], 0, 0, []), (998, [], .invokevirtual 129, [3, 125, 3, 1, 3, 9], 0, 0, []), (1001, [], .aload_n 2, [1], 0, 0, []), (1002, [], .aload_n 0, [1], 0, 0, []), (1003, [], .iload_n 3, [1], 0, 0, []), (1004, [], .iconst 1, [1], 1, 0, []), (1005, [], .iadd, [1], 0, 0, []), (1006, [], .iaload, [1], 0, 0, []), (1007, [], .aload_n 0, [1], 0, 0, []), (1008, [], .iload_n 3, [1], 0, 0, []), (1009, [], .iconst 2, [1], 2, 0, []), (1010, [], .iadd, [1], 0, 0, []), (1011, [], .iaload, [1], 0, 0, [])]
def K218_11 : List je := [(1012, [], .invokevirtual 132, [3, 203, 3, 1, 5, 10], 0, 0, []), (1015, [], .if_icmp .eq 244, [3, 1259], 0, 0, []), (1018, [], .iconst 0, [1], 0, 0, []), (1019, [], .ireturn, [1, 1], 0, 0, []), (1020, [], .aload_n 1, [1], 0, 0, []), (1021, [], .aload_n 0, [1], 0, 0, []), (1022, [], .iload_n 3, [1], 0, 0, []), (1023, [], .iconst 1, [1], 1, 0, []), (1024, [], .iadd, [1], 0, 0, []), (1025, [], .iaload, [1], 0, 0, []), (1026, [], .aload_n 0, [1], 0, 0, []), (1027, [], .iload_n 3, [1], 0, 0, []), (1028, [], .iconst 2, [1], 2, 0, []), (1029, [], .iadd, [1], 0, 0, []), (1030, [], .iaload, [1], 0, 0, []), (1031, [], .aload_n 0, [1], 0, 0, []), (1032, [], .iload_n 3, [1], 0, 0, []), (1033, [], .iconst 3, [1], 3, 0, []), (1034, [], .iadd, [1], 0, 0, []), (1035, [], .iaload, [1], 0, 0, []), (1036, [], .invokevirtual 133, [3, 126, 4, 1, 5, 9], 0, 0, []), (1039, [], .aload_n 2, [1], 0, 0, []), (1040, [], .aload_n 0, [1], 0, 0, []), (1041, [], .iload_n 3, [1], 0, 0, []), (1042, [], .iconst 1, [1], 1, 0, []), (1043, [], .iadd, [1], 0, 0, []), (1044, [], .iaload, [1], 0, 0, []), (1045, [], .aload_n 0, [1], 0, 0, []), (1046, [], .iload_n 3, [1], 0, 0, []), (1047, [], .iconst 2, [1], 2, 0, []), (1048, [], .iadd, [1], 0, 0, []), (1049, [], .iaload, [1], 0, 0, []), (1050, [], .aload_n 0, [1], 0, 0, []), (1051, [], .iload_n 3, [1], 0, 0, []), (1052, [], .iconst 3, [1], 3, 0, []), (1053, [], .iadd, [1], 0, 0, []), (1054, [], .iaload, [1], 0, 0, []), (1055, [], .invokevirtual 136, [3, 204, 4, 1, 7, 10], 0, 0, []), (1058, [], .if_icmp .eq 201, [3, 1259], 0, 0, []), (1061, [], .iconst 0, [1], 0, 0, []), (1062, [], .ireturn, [1, 1], 0, 0, []), (1063, [], .aload_n 1, [1], 0, 0, []), (1064, [], .aload_n 0, [1], 0, 0, []), (1065, [], .iload_n 3, [1], 0, 0, []), (1066, [], .iconst 1, [1], 1, 0, []), (1067, [], .iadd, [1], 0, 0, []), (1068, [], .iaload, [1], 0, 0, []), (1069, [], .aload_n 0, [1], 0, 0, []), (1070, [], .iload_n 3, [1], 0, 0, []), (1071, [], .iconst 2, [1], 2, 0, []), (1072, [], .iadd, [1], 0, 0, []), (1073, [], .iaload, [1], 0, 0, []), (1074, [], .aload_n 0, [1], 0, 0, []), (1075, [], .iload_n 3, [1], 0, 0, []), (1076, [], .iconst 3, [1], 3, 0, []), (1077, [], .iadd, [1], 0, 0, []), (1078, [], .iaload, [1], 0, 0, []), (1079, [], .invokevirtual 137, [3, 127, 4, 1, 4, 9], 0, 0, []), (1082, [], .aload_n 2, [1], 0, 0, []), (1083, [], .aload_n 0, [1], 0, 0, [])]
def K218_12 : List je := [(1084, [], .iload_n 3, [1], 0, 0, []), (1085, [], .iconst 1, [1], 1, 0, []), (1086, [], .iadd, [1], 0, 0, []), (1087, [], .iaload, [1], 0, 0, []), (1088, [], .aload_n 0, [1], 0, 0, []), (1089, [], .iload_n 3, [1], 0, 0, []), (1090, [], .iconst 2, [1], 2, 0, []), (1091, [], .iadd, [1], 0, 0, []), (1092, [], .iaload, [1], 0, 0, []), (1093, [], .aload_n 0, [1], 0, 0, []), (1094, [], .iload_n 3, [1], 0, 0, []), (1095, [], .iconst 3, [1], 3, 0, []), (1096, [], .iadd, [1], 0, 0, []), (1097, [], .iaload, [1], 0, 0, []), (1098, [], .invokevirtual 140, [3, 205, 4, 1, 9, 10], 0, 0, []), (1101, [], .if_icmp .eq 158, [3, 1259], 0, 0, []), (1104, [], .iconst 0, [1], 0, 0, []), (1105, [], .ireturn, [1, 1], 0, 0, []), (1106, [], .aload_n 1, [1], 0, 0, []), (1107, [], .aload_n 0, [1], 0, 0, []), (1108, [], .iload_n 3, [1], 0, 0, []), (1109, [], .iconst 1, [1], 1, 0, []), (1110, [], .iadd, [1], 0, 0, []), (1111, [], .iaload, [1], 0, 0, []), (1112, [], .invokevirtual 141, [3, 128, 2, 1, 2, 9], 0, 0, []), (1115, [], .aload_n 2, [1], 0, 0, []), (1116, [], .aload_n 0, [1], 0, 0, []), (1117, [], .iload_n 3, [1], 0, 0, []), (1118, [], .iconst 1, [1], 1, 0, []), (1119, [], .iadd, [1], 0, 0, []), (1120, [], .iaload, [1], 0, 0, []), (1121, [], .invokevirtual 144, [3, 207, 2, 1, 7, 10], 0, 0, []), (1124, [], .if_icmp .eq 135, [3, 1259], 0, 0, []), (1127, [], .iconst 0, [1], 0, 0, []), (1128, [], .ireturn, [1, 1], 0, 0, []), (1129, [], .aload_n 1, [1], 0, 0, []), (1130, [], .aload_n 0, [1], 0, 0, []), (1131, [], .iload_n 3, [1], 0, 0, []), (1132, [], .iconst 1, [1], 1, 0, []), (1133, [], .iadd, [1], 0, 0, []), (1134, [], .iaload, [1], 0, 0, []), (1135, [], .invokevirtual 145, [3, 129, 2, 2, 2, 9], 0, 0, []), (1138, [], .aload_n 2, [1], 0, 0, []), (1139, [], .aload_n 0, [1], 0, 0, []), (1140, [], .iload_n 3, [1], 0, 0, []), (1141, [], .iconst 1, [1], 1, 0, []), (1142, [], .iadd, [1], 0, 0, []), (1143, [], .iaload, [1], 0, 0, []), (1144, [], .invokevirtual 149, [3, 209, 2, 2, 2, 10], 0, 0, []), (1147, [], .lcmp, [1], 0, 0, []), (1148, [], .ifCond .eq 111, [3, 1259], 0, 0, []), (1151, [], .iconst 0, [1], 0, 0, []), (1152, [], .ireturn, [1, 1], 0, 0, []), (1153, [], .aload_n 1, [1], 0, 0, []), (1154, [], .aload_n 0, [1], 0, 0, []), (1155, [], .iload_n 3, [1], 0, 0, []), (1156, [], .iconst 1, [1], 1, 0, []), (1157, [], .iadd, [1], 0, 0, []), (1158, [], .iaload, [1], 0, 0, []), (1159, [], .invokevirtual 150, [3, 130, 2, 1, 2, 9], 0, 0, [])]
def K218_13 : List je := [(1162, [], .aload_n 2, [1], 0, 0, []), (1163, [], .aload_n 0, [1], 0, 0, []), (1164, [], .iload_n 3, [1], 0, 0, []), (1165, [], .iconst 1, [1], 1, 0, []), (1166, [], .iadd, [1], 0, 0, []), (1167, [], .iaload, [1], 0, 0, []), (1168, [], .invokevirtual 153, [3, 210, 2, 1, 2, 10], 0, 0, []), (1171, [], .if_icmp .eq 88, [3, 1259], 0, 0, []), (1174, [], .iconst 0, [1], 0, 0, []), (1175, [], .ireturn, [1, 1], 0, 0, []), (1176, [], .aload_n 1, [1], 0, 0, []), (1177, [], .aload_n 0, [1], 0, 0, []), (1178, [], .iload_n 3, [1], 0, 0, []), (1179, [], .iconst 1, [1], 1, 0, []), (1180, [], .iadd, [1], 0, 0, []), (1181, [], .iaload, [1], 0, 0, []), (1182, [], .invokevirtual 154, [3, 132, 2, 1, 2, 9], 0, 0, []), (1185, [], .aload_n 2, [1], 0, 0, []), (1186, [], .aload_n 0, [1], 0, 0, []), (1187, [], .iload_n 3, [1], 0, 0, []), (1188, [], .iconst 1, [1], 1, 0, []), (1189, [], .iadd, [1], 0, 0, []), (1190, [], .iaload, [1], 0, 0, []), (1191, [], .invokevirtual 157, [3, 211, 2, 1, 2, 10], 0, 0, []), (1194, [], .if_icmp .eq 65, [3, 1259], 0, 0, []), (1197, [], .iconst 0, [1], 0, 0, []), (1198, [], .ireturn, [1, 1], 0, 0, []), (1199, [], .aload_n 1, [1], 0, 0, []), (1200, [], .aload_n 0, [1], 0, 0, []), (1201, [], .iload_n 3, [1], 0, 0, []), (1202, [], .iconst 1, [1], 1, 0, []), (1203, [], .iadd, [1], 0, 0, []), (1204, [], .iaload, [1], 0, 0, []), (1205, [], .invokevirtual 158, [3, 133, 2, 1, 2, 9], 0, 0, []), (1208, [], .aload_n 2, [1], 0, 0, []), (1209, [], .aload_n 0, [1], 0, 0, []), (1210, [], .iload_n 3, [1], 0, 0, []), (1211, [], .iconst 1, [1], 1, 0, []), (1212, [], .iadd, [1], 0, 0, []), (1213, [], .iaload, [1], 0, 0, []), (1214, [], .invokevirtual 161, [3, 212, 2, 1, 2, 10], 0, 0, []), (1217, [], .if_icmp .eq 42, [3, 1259], 0, 0, []), (1220, [], .iconst 0, [1], 0, 0, []), (1221, [], .ireturn, [1, 1], 0, 0, []), (1222, [], .aload_n 1, [1], 0, 0, []), (1223, [], .aload_n 0, [1], 0, 0, []), (1224, [], .iload_n 3, [1], 0, 0, []), (1225, [], .iconst 1, [1], 1, 0, []), (1226, [], .iadd, [1], 0, 0, []), (1227, [], .iaload, [1], 0, 0, []), (1228, [], .invokevirtual 162, [3, 134, 2, 1, 2, 9], 0, 0, []), (1231, [], .aload_n 2, [1], 0, 0, []), (1232, [], .aload_n 0, [1], 0, 0, []), (1233, [], .iload_n 3, [1], 0, 0, []), (1234, [], .iconst 1, [1], 1, 0, []), (1235, [], .iadd, [1], 0, 0, []), (1236, [], .iaload, [1], 0, 0, []), (1237, [], .invokevirtual 165, [3, 213, 2, 1, 2, 10], 0, 0, []), (1240, [], .if_icmp .eq 19, [3, 1259], 0, 0, []), (1243, [], .iconst 0, [1], 0, 0, [])]
def K218_14 : List je := [(1244, [], .ireturn, [1, 1], 0, 0, []), (1245, [], .aload_n 1, [1], 0, 0, []), (1246, [], .invokevirtual 166, [3, 136, 1, 2, 4, 9], 0, 0, []), (1249, [], .aload_n 2, [1], 0, 0, []), (1250, [], .invokevirtual 170, [3, 215, 1, 2, 3, 10], 0, 0, []), (1253, [], .lcmp, [1], 0, 0, []), (1254, [], .ifCond .eq 5, [3, 1259], 0, 0, []), (1257, [], .iconst 0, [1], 0, 0, []), (1258, [], .ireturn, [1, 1], 0, 0, []), (1259, [], .iinc 3 5, [3], 5, 0, []), (1262, [], .goto (-1244), [3, 18], 0, 0, []), (1265, [], .iconst 1, [1], 1, 0, []), (1266, [], .ireturn, [1, 1], 0, 0, [])]
def K218 : List je := K218_0 ++ K218_1 ++ K218_2 ++ K218_3 ++ K218_4 ++ K218_5 ++ K218_6 ++ K218_7 ++ K218_8 ++ K218_9 ++ K218_10 ++ K218_11 ++ K218_12 ++ K218_13 ++ K218_14
def PT : List (List je) := [K0, K1, K2, K3, K4, K5, K6, K7, K8, K9, K10, K11, K12, K13, K14, K15, K16, K17, K18, K19, K20, K21, K22, K23, K24, K25, K26, K27, K28, K29, K30, K31, K32, K33, K34, K35, K36, K37, K38, K39, K40, K41, K42, K43, K44, K45, K46, K47, K48, K49, K50, K51, K52, K53, K54, K55, K56, K57, K58, K59, K60, K61, K62, K63, K64, K65, K66, K67, K68, K69, K70, K71, K72, K73, K74, K75, K76, K77, K78, K79, K80, K81, K82, K83, K84, K85, K86, K87, K88, K89, K90, K91, K92, K93, K94, K95, K96, K97, K98, K99, K100, K101, K102, K103, K104, K105, K106, K107, K108, K109, K110, K111, K112, K113, K114, K115, K116, K117, K118, K119, K120, K121, K122, K123, K124, K125, K126, K127, K128, K129, K130, K131, K132, K133, K134, K135, K136, K137, K138, K139, K140, K141, K142, K143, K144, K145, K146, K147, K148, K149, K150, K151, K152, K153, K154, K155, K156, K157, K158, K159, K160, K161, K162, K163, K164, K165, K166, K167, K168, K169, K170, K171, K172, K173, K174, K175, K176, K177, K178, K179, K180, K181, K182, K183, K184, K185, K186, K187, K188, K189, K190, K191, K192, K193, K194, K195, K196, K197, K198, K199, K200, K201, K202, K203, K204, K205, K206, K207, K208, K209, K210, K211, K212, K213, K214, K215, K216, K217, K218]
def MX : List Nat := [1, 4, 5, 3, 1, 1, 2, 1, 2, 2, 1, 2, 4, 8, 1, 3, 3, 3, 4, 3, 2, 4, 7, 3, 3, 3, 2, 1, 2, 2, 2, 4, 3, 2, 2, 3, 2, 2, 2, 4, 3, 3, 6, 7, 7, 11, 4, 2, 4, 4, 5, 5, 8, 5, 7, 10, 10, 9, 5, 8, 8, 8, 4, 6, 6, 5, 3, 6, 6, 3, 2, 6, 2, 14, 4, 6, 6, 4, 5, 1, 6, 4, 5, 2, 4, 1, 1, 2, 1, 3, 1, 1, 2, 2, 3, 1, 2, 3, 4, 3, 3, 5, 2, 3, 4, 1, 2, 3, 2, 3, 3, 2, 1, 2, 2, 4, 1, 2, 4, 1, 2, 1, 2, 1, 5, 3, 5, 4, 2, 2, 2, 1, 2, 2, 2, 2, 4, 3, 5, 1, 6, 2, 3, 4, 6, 3, 4, 3, 4, 5, 9, 2, 4, 3, 2, 2, 7, 3, 5, 2, 2, 1, 3, 5, 2, 1, 3, 5, 4, 3, 2, 7, 10, 3, 2, 4, 5, 3, 5, 3, 2, 2, 7, 4, 7, 2, 4, 8, 5, 4, 7, 7, 6, 4, 3, 2, 2, 2, 4, 1, 12, 5, 11, 5, 7, 9, 8, 7, 4, 2, 2, 2, 2, 2, 2, 3, 3, 4, 4]
def pfT (j : Nat) : List je := PT.getD j []
def mxT (j : Nat) : Nat := MX.getD j 0
end
section
/-! RUNS of the plain machine over the tables pf, mx (04) -/
def jexe : Nat → Nat → jE
  | 0, _ => fun _ _ _ _ => none
  | n + 1, j => jstep (pfT j) (fun j2 as μ => jexe n j2 0 (jen (mxT j2) as) [] μ) (jexe n j)
theorem jexe_succ (n j pc : Nat) (ls st : List jv) (μ : jm) : jexe (n + 1) j pc ls st μ = jstep (pfT j) (fun j2 as μ => jexe n j2 0 (jen (mxT j2) as) [] μ) (jexe n j) pc ls st μ := rfl
theorem jstep_mono {F : List je} {C C' : jC} {E E' : jE} {pc : Nat} {ls st : List jv} {μ : jm} {r : jr} (hC : ∀ a b c r, C a b c = some r → C' a b c = some r) (hE : ∀ a b c d r, E a b c d = some r → E' a b c d = some r) (h : jstep F C E pc ls st μ = some r) : jstep F C' E' pc ls st μ = some r := by
  unfold jstep at h ⊢
  cases hq : jfd pc F with
  | none => rw [hq] at h; exact absurd h (by simp)
  | some q => rw [hq] at h; exact jgo_mono hC hE h
theorem jexe_up : ∀ (n j pc : Nat) (ls st : List jv) (μ : jm) (r : jr), jexe n j pc ls st μ = some r → jexe (n + 1) j pc ls st μ = some r
  | 0, j, pc, ls, st, μ, r, h => by simp [jexe] at h
  | n + 1, j, pc, ls, st, μ, r, h => by
    rw [jexe_succ] at h ⊢
    exact jstep_mono (fun a b c r h => jexe_up n a 0 _ _ c r h) (fun a b c d r h => jexe_up n j a b c d r h) h
theorem jexe_le {n m : Nat} (h : n ≤ m) (j pc : Nat) (ls st : List jv) (μ : jm) (r : jr) (e : jexe n j pc ls st μ = some r) : jexe m j pc ls st μ = some r := by
  induction h with
  | refl => exact e
  | step _ ih => exact jexe_up _ _ _ _ _ _ _ ih
/-- the answer of a run, whatever fuel it takes -/
noncomputable def evj (j pc : Nat) (ls st : List jv) (μ : jm) : Option jr := @dite _ (∃ r n, jexe n j pc ls st μ = some r) (Classical.propDecidable _) (fun h => some (Classical.choose h)) (fun _ => none)
noncomputable def cj (j : Nat) (as : List jv) (μ : jm) : Option jr := evj j 0 (jen (mxT j) as) [] μ
theorem evj_iff {j pc : Nat} {ls st : List jv} {μ : jm} {r : jr} : evj j pc ls st μ = some r ↔ ∃ n, jexe n j pc ls st μ = some r := by
  constructor
  · intro h
    by_cases hx : ∃ r n, jexe n j pc ls st μ = some r
    · rw [evj, dif_pos hx] at h
      have hs := Classical.choose_spec hx
      rw [Option.some.inj h] at hs
      exact hs
    · rw [evj, dif_neg hx] at h
      exact absurd h (by simp)
  · intro ⟨n, h⟩
    have hx : ∃ r n, jexe n j pc ls st μ = some r := ⟨r, n, h⟩
    rw [evj, dif_pos hx]
    obtain ⟨m, hm⟩ := Classical.choose_spec hx
    have h1 := jexe_le (Nat.le_max_left n m) j pc ls st μ r h
    have h2 := jexe_le (Nat.le_max_right n m) j pc ls st μ _ hm
    rw [h1] at h2
    exact congrArg some (Option.some.inj h2).symm
theorem evj_fix (j pc : Nat) (ls st : List jv) (μ : jm) : evj j pc ls st μ = jstep (pfT j) cj (evj j) pc ls st μ := by
  have A : ∀ r, evj j pc ls st μ = some r → jstep (pfT j) cj (evj j) pc ls st μ = some r := by
    intro r h
    obtain ⟨n, hn⟩ := evj_iff.mp h
    cases n with
    | zero => simp [jexe] at hn
    | succ n =>
      rw [jexe_succ] at hn
      exact jstep_mono (fun a b c r h => evj_iff.mpr ⟨n, h⟩) (fun a b c d r h => evj_iff.mpr ⟨n, h⟩) hn
  have B : ∀ r, jstep (pfT j) cj (evj j) pc ls st μ = some r → evj j pc ls st μ = some r := by
    intro r h
    unfold jstep at h
    cases hq : jfd pc (pfT j) with
    | none => rw [hq] at h; exact absurd h (by simp)
    | some q =>
      rw [hq] at h
      obtain ⟨n, hn⟩ := jgo_cont (Cn := fun n j2 as μ => jexe n j2 0 (jen (mxT j2) as) [] μ) (En := fun n => jexe n j) (fun n m a b c r hl => jexe_le hl _ _ _ _ _ _) (fun n m a b c d r hl => jexe_le hl _ _ _ _ _ _) (fun a b c r h => evj_iff.mp h) (fun a b c d r h => evj_iff.mp h) h
      refine evj_iff.mpr ⟨n + 1, ?_⟩
      rw [jexe_succ, jstep, hq]
      exact hn
  cases h1 : jstep (pfT j) cj (evj j) pc ls st μ with
  | some r => exact B r h1
  | none =>
    cases h2 : evj j pc ls st μ with
    | none => rfl
    | some r => rw [A r h2] at h1; exact absurd h1 (by simp)
/-- clearing twice is clearing once -/
theorem jcl_set (m : List Nat) : ∀ (ls : List jv) (i : Nat), jcl m (ls.set i jU) = (jcl m ls).set i jU := by
  induction m with
  | nil => intro ls i; rfl
  | cons a r ih =>
    intro ls i
    show jcl r ((ls.set i jU).set a jU) = (jcl r (ls.set a jU)).set i jU
    rw [← ih]
    congr 1
    by_cases h : i = a
    · subst h; rfl
    · exact List.set_comm _ _ h
theorem jcl_idem (m : List Nat) : ∀ (ls : List jv), jcl m (jcl m ls) = jcl m ls := by
  induction m with
  | nil => intro ls; rfl
  | cons a r ih =>
    intro ls
    show jcl r ((jcl r (ls.set a jU)).set a jU) = jcl r (ls.set a jU)
    rw [jcl_set, ih, ← jcl_set, List.set_set]
def jmk (F : List je) (pc : Nat) : List Nat := match jfd pc F with
  | some q => q.2.1
  | none => []
theorem evj_clear (j pc : Nat) (ls st : List jv) (μ : jm) : evj j pc ls st μ = evj j pc (jcl (jmk (pfT j) pc) ls) st μ := by
  rw [evj_fix, evj_fix j pc (jcl (jmk (pfT j) pc) ls)]
  unfold jstep jmk
  cases hq : jfd pc (pfT j) with
  | none => rfl
  | some q => simp only [jcl_idem]
/-- a run, unrolled n steps or to the next of the cuts -/
noncomputable def jto (F : List je) (j : Nat) (cuts : List Nat) (I : jE) : jE := fun pc ls st μ => match cuts.elem pc with
  | true => evj j pc (jcl (jmk F pc) ls) st μ
  | false => I pc ls st μ
noncomputable def itj (F : List je) (j : Nat) (cuts : List Nat) : Nat → jE
  | 0 => fun pc ls st μ => evj j pc ls st μ
  | n + 1 => fun pc ls st μ => jstep F cj (jto F j cuts (itj F j cuts n)) pc ls st μ
theorem evj_it {F : List je} {j : Nat} (hF : pfT j = F) (cuts : List Nat) : ∀ (n pc : Nat) (ls st : List jv) (μ : jm), evj j pc ls st μ = itj F j cuts n pc ls st μ
  | 0, pc, ls, st, μ => rfl
  | n + 1, pc, ls, st, μ => by
    have e : jto F j cuts (itj F j cuts n) = evj j := by
      funext pc ls st μ
      unfold jto
      cases cuts.elem pc with
      | true => rw [← hF]; exact (evj_clear j pc ls st μ).symm
      | false => exact (evj_it hF cuts n pc ls st μ).symm
    show evj j pc ls st μ = jstep F cj (jto F j cuts (itj F j cuts n)) pc ls st μ
    rw [e, ← hF]
    exact evj_fix j pc ls st μ
/-- the first step of an unrolled run, where the dead locals are clear already -/
def jste (F : List je) (C : jC) (E : jE) (pc : Nat) (ls st : List jv) (μ : jm) : Option jr := match jfd pc F with
  | none => none
  | some q => jgo C E (pc + q.2.2.2.1.headD 0) (jact q ls st μ)
theorem evj_s {F : List je} {j : Nat} (hF : pfT j = F) (cuts : List Nat) (n : Nat) {pc : Nat} {ls st : List jv} {μ : jm} (hc : jcl (jmk F pc) ls = ls) : evj j pc ls st μ = jste F cj (jto F j cuts (itj F j cuts n)) pc ls st μ := by
  rw [evj_it hF cuts (n + 1)]
  show jstep F cj (jto F j cuts (itj F j cuts n)) pc ls st μ = _
  unfold jstep jste
  unfold jmk at hc
  cases hq : jfd pc F with
  | none => rfl
  | some q =>
    rw [hq] at hc
    have hc : jcl q.2.1 ls = ls := hc
    simp only [hc]
theorem cj_it {F : List je} {j : Nat} (hF : pfT j = F) (cuts : List Nat) (n : Nat) (as : List jv) (μ : jm) : cj j as μ = itj F j cuts n 0 (jen (mxT j) as) [] μ := evj_it hF cuts n 0 _ _ _
theorem bI_some {r : Int32} {μ : jm} {k : Int32 → jm → Option jr} : bI (some (some (.inl r), μ)) k = k r μ := rfl
theorem bL_some {r : Int64} {μ : jm} {k : Int64 → jm → Option jr} : bL (some (some (.inr (.inl r)), μ)) k = k r μ := rfl
theorem bV_some {μ : jm} {k : jm → Option jr} : bV (some (none, μ)) k = k μ := rfl
theorem bR_some {r : Nat × Nat} {μ : jm} {k : Nat × Nat → jm → Option jr} : bR (some (some (.inr (.inr (.inl r))), μ)) k = k r μ := rfl
end
section
/-! EQUATIONS of the runs, by program: from a method's entry, or a cut, to the next cuts -/
set_option maxRecDepth 100000 in
theorem e_Integer_bitCount (x0 : Int32) (μ : jm) : cj 0 [jI x0] μ = (some (some (jI ((((((((x0 - ((((x0 : Int32).toUInt32 >>> (((1 : Int32) : Int32).toUInt32 &&& Int32.toUInt32 31)).toInt32) &&& (1431655765 : Int32))) &&& (858993459 : Int32)) + ((((x0 - ((((x0 : Int32).toUInt32 >>> (((1 : Int32) : Int32).toUInt32 &&& Int32.toUInt32 31)).toInt32) &&& (1431655765 : Int32)) : Int32).toUInt32 >>> (((2 : Int32) : Int32).toUInt32 &&& Int32.toUInt32 31)).toInt32) &&& (858993459 : Int32))) + (((((x0 - ((((x0 : Int32).toUInt32 >>> (((1 : Int32) : Int32).toUInt32 &&& Int32.toUInt32 31)).toInt32) &&& (1431655765 : Int32))) &&& (858993459 : Int32)) + ((((x0 - ((((x0 : Int32).toUInt32 >>> (((1 : Int32) : Int32).toUInt32 &&& Int32.toUInt32 31)).toInt32) &&& (1431655765 : Int32)) : Int32).toUInt32 >>> (((2 : Int32) : Int32).toUInt32 &&& Int32.toUInt32 31)).toInt32) &&& (858993459 : Int32)) : Int32).toUInt32 >>> (((4 : Int32) : Int32).toUInt32 &&& Int32.toUInt32 31)).toInt32)) &&& (252645135 : Int32)) + (((((((x0 - ((((x0 : Int32).toUInt32 >>> (((1 : Int32) : Int32).toUInt32 &&& Int32.toUInt32 31)).toInt32) &&& (1431655765 : Int32))) &&& (858993459 : Int32)) + ((((x0 - ((((x0 : Int32).toUInt32 >>> (((1 : Int32) : Int32).toUInt32 &&& Int32.toUInt32 31)).toInt32) &&& (1431655765 : Int32)) : Int32).toUInt32 >>> (((2 : Int32) : Int32).toUInt32 &&& Int32.toUInt32 31)).toInt32) &&& (858993459 : Int32))) + (((((x0 - ((((x0 : Int32).toUInt32 >>> (((1 : Int32) : Int32).toUInt32 &&& Int32.toUInt32 31)).toInt32) &&& (1431655765 : Int32))) &&& (858993459 : Int32)) + ((((x0 - ((((x0 : Int32).toUInt32 >>> (((1 : Int32) : Int32).toUInt32 &&& Int32.toUInt32 31)).toInt32) &&& (1431655765 : Int32)) : Int32).toUInt32 >>> (((2 : Int32) : Int32).toUInt32 &&& Int32.toUInt32 31)).toInt32) &&& (858993459 : Int32)) : Int32).toUInt32 >>> (((4 : Int32) : Int32).toUInt32 &&& Int32.toUInt32 31)).toInt32)) &&& (252645135 : Int32) : Int32).toUInt32 >>> (((8 : Int32) : Int32).toUInt32 &&& Int32.toUInt32 31)).toInt32)) + ((((((((x0 - ((((x0 : Int32).toUInt32 >>> (((1 : Int32) : Int32).toUInt32 &&& Int32.toUInt32 31)).toInt32) &&& (1431655765 : Int32))) &&& (858993459 : Int32)) + ((((x0 - ((((x0 : Int32).toUInt32 >>> (((1 : Int32) : Int32).toUInt32 &&& Int32.toUInt32 31)).toInt32) &&& (1431655765 : Int32)) : Int32).toUInt32 >>> (((2 : Int32) : Int32).toUInt32 &&& Int32.toUInt32 31)).toInt32) &&& (858993459 : Int32))) + (((((x0 - ((((x0 : Int32).toUInt32 >>> (((1 : Int32) : Int32).toUInt32 &&& Int32.toUInt32 31)).toInt32) &&& (1431655765 : Int32))) &&& (858993459 : Int32)) + ((((x0 - ((((x0 : Int32).toUInt32 >>> (((1 : Int32) : Int32).toUInt32 &&& Int32.toUInt32 31)).toInt32) &&& (1431655765 : Int32)) : Int32).toUInt32 >>> (((2 : Int32) : Int32).toUInt32 &&& Int32.toUInt32 31)).toInt32) &&& (858993459 : Int32)) : Int32).toUInt32 >>> (((4 : Int32) : Int32).toUInt32 &&& Int32.toUInt32 31)).toInt32)) &&& (252645135 : Int32)) + (((((((x0 - ((((x0 : Int32).toUInt32 >>> (((1 : Int32) : Int32).toUInt32 &&& Int32.toUInt32 31)).toInt32) &&& (1431655765 : Int32))) &&& (858993459 : Int32)) + ((((x0 - ((((x0 : Int32).toUInt32 >>> (((1 : Int32) : Int32).toUInt32 &&& Int32.toUInt32 31)).toInt32) &&& (1431655765 : Int32)) : Int32).toUInt32 >>> (((2 : Int32) : Int32).toUInt32 &&& Int32.toUInt32 31)).toInt32) &&& (858993459 : Int32))) + (((((x0 - ((((x0 : Int32).toUInt32 >>> (((1 : Int32) : Int32).toUInt32 &&& Int32.toUInt32 31)).toInt32) &&& (1431655765 : Int32))) &&& (858993459 : Int32)) + ((((x0 - ((((x0 : Int32).toUInt32 >>> (((1 : Int32) : Int32).toUInt32 &&& Int32.toUInt32 31)).toInt32) &&& (1431655765 : Int32)) : Int32).toUInt32 >>> (((2 : Int32) : Int32).toUInt32 &&& Int32.toUInt32 31)).toInt32) &&& (858993459 : Int32)) : Int32).toUInt32 >>> (((4 : Int32) : Int32).toUInt32 &&& Int32.toUInt32 31)).toInt32)) &&& (252645135 : Int32) : Int32).toUInt32 >>> (((8 : Int32) : Int32).toUInt32 &&& Int32.toUInt32 31)).toInt32) : Int32).toUInt32 >>> (((16 : Int32) : Int32).toUInt32 &&& Int32.toUInt32 31)).toInt32)) &&& (63 : Int32))), μ)) :=
  (cj_it (F := K0) rfl [] 43 _ _).trans rfl
set_option maxRecDepth 100000 in
theorem e_Arrays_fill_IIV (k1 : Nat) (x1 : Int32) (μ : jm) : cj 1 [jR 1006 k1, jI x1] μ = (evj 1 5 [jR 1006 k1, jI x1, jI (0 : Int32), jI (nI 6)] [] μ) :=
  (cj_it (F := K1) rfl [5] 6 _ _).trans rfl
set_option maxRecDepth 100000 in
theorem e_Arrays_fill_IIV_5 (k1 : Nat) (x1 : Int32) (x2 : Int32) (x3 : Int32) (μ : jm) : evj 1 5 [jR 1006 k1, jI x1, jI x2, jI x3] [] μ = (jbr (decide (x3 ≤ x2)) (some (none, μ)) (jgd (inB x2 6) (evj 1 5 [jR 1006 k1, jI x1, jI (x2 + 1), jI x3] [] (sI μ k1 (ix x2) x1)))) :=
  (evj_s (F := K1) rfl [5] 10 rfl).trans rfl
set_option maxRecDepth 100000 in
theorem e_Arrays_fill_JJV (k1 : Nat) (x1 : Int64) (μ : jm) : cj 2 [jR 2008 k1, jL x1] μ = (evj 2 6 [jR 2008 k1, jL x1, jU, jI (0 : Int32), jI (nI 8)] [] μ) :=
  (cj_it (F := K2) rfl [6] 6 _ _).trans rfl
set_option maxRecDepth 100000 in
theorem e_Arrays_fill_JJV_6 (k1 : Nat) (y1 : Int64) (x2 : Int32) (x3 : Int32) (μ : jm) : evj 2 6 [jR 2008 k1, jL y1, jU, jI x2, jI x3] [] μ = (jbr (decide (x3 ≤ x2)) (some (none, μ)) (jgd (inB x2 8) (evj 2 6 [jR 2008 k1, jL y1, jU, jI (x2 + 1), jI x3] [] (sL μ k1 (ix x2) y1)))) :=
  (evj_s (F := K2) rfl [6] 10 rfl).trans rfl
set_option maxRecDepth 100000 in
theorem e_Preconditions_checkIndex (x0 : Int32) (x1 : Int32) (μ : jm) : cj 3 [jI x0, jI x1, jR 94 0] μ = (jbr (decide (x0 < 0)) (none) (jbr (decide (x0 < x1)) (some (some (jI x0), μ)) (none))) :=
  (cj_it (F := K3) rfl [] 8 _ _).trans rfl
set_option maxRecDepth 100000 in
theorem e_String_length (k1 : Nat) (μ : jm) : cj 4 [jR 98 k1] μ = (bI (cj 5 [jR 98 k1] μ) (fun r1 m1 => some (some (jI ((nI (jwl k1)) >>> (r1 &&& 31))), m1))) :=
  (cj_it (F := K4) rfl [] 8 _ _).trans rfl
set_option maxRecDepth 100000 in
theorem e_String_coder (k1 : Nat) (μ : jm) : cj 5 [jR 98 k1] μ = (jbr (decide ((1 : Int32) = 0)) (some (some (jI (((1 : Int32) : Int32).toInt8.toInt32)), μ)) (some (some (jI (((0 : Int32) : Int32).toInt8.toInt32)), μ))) :=
  (cj_it (F := K5) rfl [] 7 _ _).trans rfl
set_option maxRecDepth 100000 in
theorem e_String_charAt (k1 : Nat) (x1 : Int32) (μ : jm) : cj 6 [jR 98 k1, jI x1] μ = (bI (cj 7 [jR 98 k1] μ) (fun r1 m1 => jbr (decide (r1 = 0)) (none) (bI (cj 9 [jR 95 k1, jI x1] m1) (fun r2 m2 => some (some (jI (((r2 : Int32).toUInt32 % 65536).toInt32)), m2))))) :=
  (cj_it (F := K6) rfl [] 9 _ _).trans rfl
set_option maxRecDepth 100000 in
theorem e_String_isLatin1 (k1 : Nat) (μ : jm) : cj 7 [jR 98 k1] μ = (jbr (decide ((1 : Int32) = 0)) (some (some (jI ((0 : Int32) &&& 1)), μ)) (jbr (decide (¬ (0 : Int32) = 0)) (some (some (jI ((0 : Int32) &&& 1)), μ)) (some (some (jI ((1 : Int32) &&& 1)), μ)))) :=
  (cj_it (F := K7) rfl [] 9 _ _).trans rfl
set_option maxRecDepth 100000 in
theorem e_String_checkIndex (x0 : Int32) (x1 : Int32) (μ : jm) : cj 8 [jI x0, jI x1] μ = (bI (cj 3 [jI x0, jI x1, jR 94 0] μ) (fun r1 m1 => some (none, m1))) :=
  (cj_it (F := K8) rfl [] 7 _ _).trans rfl
set_option maxRecDepth 100000 in
theorem e_StringLatin1_charAt (k1 : Nat) (x1 : Int32) (μ : jm) : cj 9 [jR 95 k1, jI x1] μ = (bV (cj 8 [jI x1, jI (nI (jwl k1))] μ) (fun m1 => jgd (inB x1 (jwl k1)) (some (some (jI ((((((jwb k1 (ix x1)) &&& (255 : Int32) : Int32).toUInt32 % 65536).toInt32 : Int32).toUInt32 % 65536).toInt32)), m1)))) :=
  (cj_it (F := K9) rfl [] 12 _ _).trans rfl
set_option maxRecDepth 100000 in
theorem e_Ring_isNote (x0 : Int32) (μ : jm) : cj 10 [jI x0] μ = (jbr (decide (x0 < 0)) (some (some (jI ((0 : Int32) &&& 1)), μ)) (jbr (decide ((12 : Int32) ≤ x0)) (some (some (jI ((0 : Int32) &&& 1)), μ)) (some (some (jI ((1 : Int32) &&& 1)), μ)))) :=
  (cj_it (F := K10) rfl [] 9 _ _).trans rfl
set_option maxRecDepth 100000 in
theorem e_Ring_raised (x0 : Int32) (x1 : Int32) (μ : jm) : cj 11 [jI x0, jI x1] μ = (some (some (jI (((x0 <<< (x1 &&& 31)) ||| (x0 >>> (((12 : Int32) - x1) &&& 31))) &&& (4095 : Int32))), μ)) :=
  (cj_it (F := K11) rfl [] 13 _ _).trans rfl
set_option maxRecDepth 100000 in
theorem e_Ring_near (x0 : Int32) (x1 : Int32) (μ : jm) : cj 12 [jI x0, jI x1] μ = (evj 12 4 [jI x0, jI x1, jI x0, jI (1 : Int32)] [] μ) :=
  (cj_it (F := K12) rfl [4] 5 _ _).trans rfl
set_option maxRecDepth 100000 in
theorem e_Ring_near_4 (x0 : Int32) (x1 : Int32) (x2 : Int32) (x3 : Int32) (μ : jm) : evj 12 4 [jI x0, jI x1, jI x2, jI x3] [] μ = (jbr (decide (x1 < x3)) (some (some (jI x2), μ)) (bI (cj 11 [jI x0, jI x3] μ) (fun r1 m1 => bI (cj 11 [jI x0, jI ((12 : Int32) - x3)] m1) (fun r2 m2 => evj 12 4 [jI x0, jI x1, jI (x2 ||| (r1 ||| r2)), jI (x3 + 1)] [] m2)))) :=
  (evj_s (F := K12) rfl [4] 18 rfl).trans rfl
set_option maxRecDepth 100000 in
theorem e_Ring_filledByOneMore (x0 : Int32) (x1 : Int32) (x2 : Int32) (μ : jm) : cj 13 [jI x0, jI x1, jI x2] μ = (jbr (decide ((x1 &&& (x2 &&& (-x2))) = 0)) (evj 13 49 [jI x0, jI x1, jU, jU, jU, jI ((x2 &&& ((x2 &&& (-x2)) ^^^ (-1 : Int32))) &&& (-(x2 &&& ((x2 &&& (-x2)) ^^^ (-1 : Int32))))), jI ((x2 &&& ((x2 &&& (-x2)) ^^^ (-1 : Int32))) &&& (((x2 &&& ((x2 &&& (-x2)) ^^^ (-1 : Int32))) &&& (-(x2 &&& ((x2 &&& (-x2)) ^^^ (-1 : Int32))))) ^^^ (-1 : Int32))), jI (0 : Int32)] [] μ) (evj 13 49 [jI x0, jI x1, jU, jU, jU, jI ((x2 &&& ((x2 &&& (-x2)) ^^^ (-1 : Int32))) &&& (-(x2 &&& ((x2 &&& (-x2)) ^^^ (-1 : Int32))))), jI ((x2 &&& ((x2 &&& (-x2)) ^^^ (-1 : Int32))) &&& (((x2 &&& ((x2 &&& (-x2)) ^^^ (-1 : Int32))) &&& (-(x2 &&& ((x2 &&& (-x2)) ^^^ (-1 : Int32))))) ^^^ (-1 : Int32))), jI ((0 : Int32) ||| ((x0 &&& (85 : Int32)) <<< ((1 : Int32) &&& 31)))] [] μ)) :=
  (cj_it (F := K13) rfl [49] 37 _ _).trans rfl
set_option maxRecDepth 100000 in
theorem e_Ring_filledByOneMore_49 (x0 : Int32) (x1 : Int32) (x2 : Int32) (x3 : Int32) (x4 : Int32) (μ : jm) : evj 13 49 [jI x0, jI x1, jU, jU, jU, jI x2, jI x3, jI x4] [] μ = (jbr (decide ((x1 &&& x2) = 0)) (jbr (decide ((x1 &&& x3) = 0)) (some (some (jI x4), μ)) (some (some (jI (x4 ||| ((x0 &&& (15 : Int32)) <<< ((4 : Int32) &&& 31)))), μ))) (jbr (decide ((x1 &&& x3) = 0)) (some (some (jI (x4 ||| ((x0 &&& (51 : Int32)) <<< ((2 : Int32) &&& 31)))), μ)) (some (some (jI ((x4 ||| ((x0 &&& (51 : Int32)) <<< ((2 : Int32) &&& 31))) ||| ((x0 &&& (15 : Int32)) <<< ((4 : Int32) &&& 31)))), μ)))) :=
  (evj_s (F := K13) rfl [49] 27 rfl).trans rfl
set_option maxRecDepth 100000 in
theorem e_Ring_isWholeChord (x0 : Int32) (μ : jm) : cj 14 [jI x0] μ = (jbr (decide (((x0 >>> ((7 : Int32) &&& 31)) &&& (1 : Int32)) = 0)) (some (some (jI ((0 : Int32) &&& 1)), μ)) (some (some (jI ((1 : Int32) &&& 1)), μ))) :=
  (cj_it (F := K14) rfl [] 10 _ _).trans rfl
set_option maxRecDepth 100000 in
theorem e_Valley_addDoor (k1 : Nat) (x1 : Int32) (x2 : Int32) (μ : jm) : cj 15 [jR 8 k1, jI x1, jI x2] μ = (bI (cj 16 [jR 1006 (k1 + 1), jI x1, jI x2] μ) (fun r1 m1 => some (some (jI r1), m1))) :=
  (cj_it (F := K15) rfl [] 7 _ _).trans rfl
set_option maxRecDepth 100000 in
theorem e_Valley_join (k1 : Nat) (x1 : Int32) (x2 : Int32) (μ : jm) : cj 16 [jR 1006 k1, jI x1, jI x2] μ = (bI (cj 95 [jI x1] μ) (fun r1 m1 => jbr (decide (r1 = 0)) (some (some (jI (-2 : Int32)), m1)) (bI (cj 95 [jI x2] m1) (fun r2 m2 => jbr (decide (r2 = 0)) (some (some (jI (-2 : Int32)), m2)) (jbr (decide (¬ x1 = x2)) (jgd (inB x1 6) (jbr (decide ((((gI m2 k1 (ix x1)) >>> (x2 &&& 31)) &&& (1 : Int32)) = 0)) (jgd (inB x1 6) (jgd (inB x1 6) (jgd (inB x2 6) (jgd (inB x2 6) (some (some (jI (1 : Int32)), sI (sI m2 k1 (ix x1) ((gI m2 k1 (ix x1)) ||| ((1 : Int32) <<< (x2 &&& 31)))) k1 (ix x2) ((gI (sI m2 k1 (ix x1) ((gI m2 k1 (ix x1)) ||| ((1 : Int32) <<< (x2 &&& 31)))) k1 (ix x2)) ||| ((1 : Int32) <<< (x1 &&& 31))))))))) (some (some (jI (-3 : Int32)), m2)))) (some (some (jI (-2 : Int32)), m2))))))) :=
  (cj_it (F := K16) rfl [] 38 _ _).trans rfl
set_option maxRecDepth 100000 in
theorem e_Valley_addHearing (k1 : Nat) (x1 : Int32) (x2 : Int32) (μ : jm) : cj 17 [jR 8 k1, jI x1, jI x2] μ = (bI (cj 16 [jR 1006 (k1 + 2), jI x1, jI x2] μ) (fun r1 m1 => some (some (jI r1), m1))) :=
  (cj_it (F := K17) rfl [] 7 _ _).trans rfl
set_option maxRecDepth 100000 in
theorem e_Valley_addPerson (k1 : Nat) (x1 : Int32) (x2 : Int32) (x3 : Int32) (μ : jm) : cj 18 [jR 8 k1, jI x1, jI x2, jI x3] μ = (jbr (decide (x1 < 0)) (evj 18 23 [jU, jU, jU, jU] [] μ) (jbr (decide ((5 : Int32) < x1)) (evj 18 23 [jU, jU, jU, jU] [] μ) (bI (cj 10 [jI x2] μ) (fun r1 m1 => jbr (decide (r1 = 0)) (evj 18 23 [jU, jU, jU, jU] [] m1) (bI (cj 95 [jI x3] m1) (fun r2 m2 => jbr (decide (¬ r2 = 0)) (jbr (decide ((gI m2 k1 6) < (7 : Int32))) (jgd (inB (gI m2 k1 6) 7) (jgd (inB (gI (sI m2 (k1 + 3) (ix (gI m2 k1 6)) x1) k1 6) 7) (jgd (inB (gI (sI (sI m2 (k1 + 3) (ix (gI m2 k1 6)) x1) (k1 + 4) (ix (gI (sI m2 (k1 + 3) (ix (gI m2 k1 6)) x1) k1 6)) x2) k1 6) 7) (jgd (inB (gI (sI (sI (sI m2 (k1 + 3) (ix (gI m2 k1 6)) x1) (k1 + 4) (ix (gI (sI m2 (k1 + 3) (ix (gI m2 k1 6)) x1) k1 6)) x2) (k1 + 5) (ix (gI (sI (sI m2 (k1 + 3) (ix (gI m2 k1 6)) x1) (k1 + 4) (ix (gI (sI m2 (k1 + 3) (ix (gI m2 k1 6)) x1) k1 6)) x2) k1 6)) x3) k1 6) 7) (some (some (jI ((gI (sI (sI (sI (sI (sI m2 (k1 + 3) (ix (gI m2 k1 6)) x1) (k1 + 4) (ix (gI (sI m2 (k1 + 3) (ix (gI m2 k1 6)) x1) k1 6)) x2) (k1 + 5) (ix (gI (sI (sI m2 (k1 + 3) (ix (gI m2 k1 6)) x1) (k1 + 4) (ix (gI (sI m2 (k1 + 3) (ix (gI m2 k1 6)) x1) k1 6)) x2) k1 6)) x3) (k1 + 6) (ix (gI (sI (sI (sI m2 (k1 + 3) (ix (gI m2 k1 6)) x1) (k1 + 4) (ix (gI (sI m2 (k1 + 3) (ix (gI m2 k1 6)) x1) k1 6)) x2) (k1 + 5) (ix (gI (sI (sI m2 (k1 + 3) (ix (gI m2 k1 6)) x1) (k1 + 4) (ix (gI (sI m2 (k1 + 3) (ix (gI m2 k1 6)) x1) k1 6)) x2) k1 6)) x3) k1 6)) (-1 : Int32)) k1 6 ((gI (sI (sI (sI (sI m2 (k1 + 3) (ix (gI m2 k1 6)) x1) (k1 + 4) (ix (gI (sI m2 (k1 + 3) (ix (gI m2 k1 6)) x1) k1 6)) x2) (k1 + 5) (ix (gI (sI (sI m2 (k1 + 3) (ix (gI m2 k1 6)) x1) (k1 + 4) (ix (gI (sI m2 (k1 + 3) (ix (gI m2 k1 6)) x1) k1 6)) x2) k1 6)) x3) (k1 + 6) (ix (gI (sI (sI (sI m2 (k1 + 3) (ix (gI m2 k1 6)) x1) (k1 + 4) (ix (gI (sI m2 (k1 + 3) (ix (gI m2 k1 6)) x1) k1 6)) x2) (k1 + 5) (ix (gI (sI (sI m2 (k1 + 3) (ix (gI m2 k1 6)) x1) (k1 + 4) (ix (gI (sI m2 (k1 + 3) (ix (gI m2 k1 6)) x1) k1 6)) x2) k1 6)) x3) k1 6)) (-1 : Int32)) k1 6) + (1 : Int32))) k1 6) - (1 : Int32))), sI (sI (sI (sI (sI m2 (k1 + 3) (ix (gI m2 k1 6)) x1) (k1 + 4) (ix (gI (sI m2 (k1 + 3) (ix (gI m2 k1 6)) x1) k1 6)) x2) (k1 + 5) (ix (gI (sI (sI m2 (k1 + 3) (ix (gI m2 k1 6)) x1) (k1 + 4) (ix (gI (sI m2 (k1 + 3) (ix (gI m2 k1 6)) x1) k1 6)) x2) k1 6)) x3) (k1 + 6) (ix (gI (sI (sI (sI m2 (k1 + 3) (ix (gI m2 k1 6)) x1) (k1 + 4) (ix (gI (sI m2 (k1 + 3) (ix (gI m2 k1 6)) x1) k1 6)) x2) (k1 + 5) (ix (gI (sI (sI m2 (k1 + 3) (ix (gI m2 k1 6)) x1) (k1 + 4) (ix (gI (sI m2 (k1 + 3) (ix (gI m2 k1 6)) x1) k1 6)) x2) k1 6)) x3) k1 6)) (-1 : Int32)) k1 6 ((gI (sI (sI (sI (sI m2 (k1 + 3) (ix (gI m2 k1 6)) x1) (k1 + 4) (ix (gI (sI m2 (k1 + 3) (ix (gI m2 k1 6)) x1) k1 6)) x2) (k1 + 5) (ix (gI (sI (sI m2 (k1 + 3) (ix (gI m2 k1 6)) x1) (k1 + 4) (ix (gI (sI m2 (k1 + 3) (ix (gI m2 k1 6)) x1) k1 6)) x2) k1 6)) x3) (k1 + 6) (ix (gI (sI (sI (sI m2 (k1 + 3) (ix (gI m2 k1 6)) x1) (k1 + 4) (ix (gI (sI m2 (k1 + 3) (ix (gI m2 k1 6)) x1) k1 6)) x2) (k1 + 5) (ix (gI (sI (sI m2 (k1 + 3) (ix (gI m2 k1 6)) x1) (k1 + 4) (ix (gI (sI m2 (k1 + 3) (ix (gI m2 k1 6)) x1) k1 6)) x2) k1 6)) x3) k1 6)) (-1 : Int32)) k1 6) + (1 : Int32)))))))) (some (some (jI (-4 : Int32)), m2))) (evj 18 23 [jU, jU, jU, jU] [] m2))))))) :=
  (cj_it (F := K18) rfl [23] 51 _ _).trans rfl
set_option maxRecDepth 100000 in
theorem e_Valley_addPerson_23  (μ : jm) : evj 18 23 [jU, jU, jU, jU] [] μ = (some (some (jI (-2 : Int32)), μ)) :=
  (evj_s (F := K18) rfl [23] 3 rfl).trans rfl
set_option maxRecDepth 100000 in
theorem e_Valley_addMates (k1 : Nat) (x1 : Int32) (x2 : Int32) (μ : jm) : cj 19 [jR 8 k1, jI x1, jI x2] μ = (bI (cj 20 [jR 8 k1, jI x1] μ) (fun r1 m1 => jbr (decide (r1 = 0)) (evj 19 21 [jU, jU, jU] [] m1) (bI (cj 20 [jR 8 k1, jI x2] m1) (fun r2 m2 => jbr (decide (r2 = 0)) (evj 19 21 [jU, jU, jU] [] m2) (jbr (decide (¬ x1 = x2)) (jgd (inB x1 7) (jbr (decide (¬ (gI m2 (k1 + 6) (ix x1)) = (-1 : Int32))) (evj 19 44 [jU, jU, jU] [] m2) (jgd (inB x2 7) (jbr (decide ((gI m2 (k1 + 6) (ix x2)) = (-1 : Int32))) (jgd (inB x1 7) (jgd (inB x2 7) (some (some (jI (1 : Int32)), sI (sI m2 (k1 + 6) (ix x1) x2) (k1 + 6) (ix x2) x1)))) (evj 19 44 [jU, jU, jU] [] m2))))) (evj 19 21 [jU, jU, jU] [] m2)))))) :=
  (cj_it (F := K19) rfl [21, 44] 36 _ _).trans rfl
set_option maxRecDepth 100000 in
theorem e_Valley_addMates_21  (μ : jm) : evj 19 21 [jU, jU, jU] [] μ = (some (some (jI (-2 : Int32)), μ)) :=
  (evj_s (F := K19) rfl [21, 44] 3 rfl).trans rfl
set_option maxRecDepth 100000 in
theorem e_Valley_addMates_44  (μ : jm) : evj 19 44 [jU, jU, jU] [] μ = (some (some (jI (-3 : Int32)), μ)) :=
  (evj_s (F := K19) rfl [21, 44] 3 rfl).trans rfl
set_option maxRecDepth 100000 in
theorem e_Valley_isPerson (k1 : Nat) (x1 : Int32) (μ : jm) : cj 20 [jR 8 k1, jI x1] μ = (jbr (decide (x1 < 0)) (some (some (jI ((0 : Int32) &&& 1)), μ)) (jbr (decide ((gI μ k1 6) ≤ x1)) (some (some (jI ((0 : Int32) &&& 1)), μ)) (some (some (jI ((1 : Int32) &&& 1)), μ)))) :=
  (cj_it (F := K20) rfl [] 10 _ _).trans rfl
set_option maxRecDepth 100000 in
theorem e_Valley_move (k1 : Nat) (x1 : Int32) (x2 : Int32) (μ : jm) : cj 21 [jR 8 k1, jI x1, jI x2] μ = (bI (cj 20 [jR 8 k1, jI x1] μ) (fun r1 m1 => jbr (decide (r1 = 0)) (some (some (jI (-2 : Int32)), m1)) (bI (cj 95 [jI x2] m1) (fun r2 m2 => jbr (decide (¬ r2 = 0)) (jgd (inB x1 7) (jgd (inB x1 7) (some (some (jI (gI m2 (k1 + 5) (ix x1))), sI m2 (k1 + 5) (ix x1) x2)))) (some (some (jI (-2 : Int32)), m2)))))) :=
  (cj_it (F := K21) rfl [] 20 _ _).trans rfl
set_option maxRecDepth 100000 in
theorem e_Valley_addChord (k1 : Nat) (x1 : Int32) (x2 : Int32) (x3 : Int32) (x4 : Int32) (μ : jm) : cj 22 [jR 8 k1, jI x1, jI x2, jI x3, jI x4] μ = (bI (cj 10 [jI x1] μ) (fun r1 m1 => jbr (decide (r1 = 0)) (evj 22 35 [jR 8 k1, jI x1, jI x2, jI x3, jI x4, jU, jU] [] m1) (bI (cj 10 [jI x2] m1) (fun r2 m2 => jbr (decide (r2 = 0)) (evj 22 35 [jR 8 k1, jI x1, jI x2, jI x3, jI x4, jU, jU] [] m2) (bI (cj 10 [jI x3] m2) (fun r3 m3 => jbr (decide (r3 = 0)) (evj 22 35 [jR 8 k1, jI x1, jI x2, jI x3, jI x4, jU, jU] [] m3) (jbr (decide (x2 ≤ x1)) (evj 22 35 [jR 8 k1, jI x1, jI x2, jI x3, jI x4, jU, jU] [] m3) (jbr (decide (x3 ≤ x2)) (evj 22 35 [jR 8 k1, jI x1, jI x2, jI x3, jI x4, jU, jU] [] m3) (evj 22 36 [jR 8 k1, jI x1, jI x2, jI x3, jI x4, jU, jU] [jI (1 : Int32)] m3))))))))) :=
  (cj_it (F := K22) rfl [35, 36] 18 _ _).trans rfl
set_option maxRecDepth 100000 in
theorem e_Valley_addChord_35 (k1 : Nat) (x1 : Int32) (x2 : Int32) (x3 : Int32) (x4 : Int32) (μ : jm) : evj 22 35 [jR 8 k1, jI x1, jI x2, jI x3, jI x4, jU, jU] [] μ = (evj 22 36 [jR 8 k1, jI x1, jI x2, jI x3, jI x4, jU, jU] [jI (0 : Int32)] μ) :=
  (evj_s (F := K22) rfl [35, 36] 2 rfl).trans rfl
set_option maxRecDepth 100000 in
theorem e_Valley_addChord_36 (k1 : Nat) (x1 : Int32) (x2 : Int32) (x3 : Int32) (x4 : Int32) (x5 : Int32) (μ : jm) : evj 22 36 [jR 8 k1, jI x1, jI x2, jI x3, jI x4, jU, jU] [jI x5] μ = (jbr (decide (x5 = 0)) (some (some (jI (-2 : Int32)), μ)) (jbr (decide (x4 < (1 : Int32))) (some (some (jI (-2 : Int32)), μ)) (jbr (decide (x4 ≤ (9 : Int32))) (bI (cj 23 [jR 8 k1, jI ((((1 : Int32) <<< (x1 &&& 31)) ||| ((1 : Int32) <<< (x2 &&& 31))) ||| ((1 : Int32) <<< (x3 &&& 31)))] μ) (fun r1 m1 => jbr (decide (r1 = 0)) (jbr (decide ((gI m1 k1 9) < (8 : Int32))) (jgd (inB (gI m1 k1 9) 8) (jgd (inB (gI (sI m1 (k1 + 7) (ix (gI m1 k1 9)) ((((1 : Int32) <<< (x1 &&& 31)) ||| ((1 : Int32) <<< (x2 &&& 31))) ||| ((1 : Int32) <<< (x3 &&& 31)))) k1 9) 8) (some (some (jI ((gI (sI (sI (sI m1 (k1 + 7) (ix (gI m1 k1 9)) ((((1 : Int32) <<< (x1 &&& 31)) ||| ((1 : Int32) <<< (x2 &&& 31))) ||| ((1 : Int32) <<< (x3 &&& 31)))) (k1 + 8) (ix (gI (sI m1 (k1 + 7) (ix (gI m1 k1 9)) ((((1 : Int32) <<< (x1 &&& 31)) ||| ((1 : Int32) <<< (x2 &&& 31))) ||| ((1 : Int32) <<< (x3 &&& 31)))) k1 9)) x4) k1 9 ((gI (sI (sI m1 (k1 + 7) (ix (gI m1 k1 9)) ((((1 : Int32) <<< (x1 &&& 31)) ||| ((1 : Int32) <<< (x2 &&& 31))) ||| ((1 : Int32) <<< (x3 &&& 31)))) (k1 + 8) (ix (gI (sI m1 (k1 + 7) (ix (gI m1 k1 9)) ((((1 : Int32) <<< (x1 &&& 31)) ||| ((1 : Int32) <<< (x2 &&& 31))) ||| ((1 : Int32) <<< (x3 &&& 31)))) k1 9)) x4) k1 9) + (1 : Int32))) k1 9) - (1 : Int32))), sI (sI (sI m1 (k1 + 7) (ix (gI m1 k1 9)) ((((1 : Int32) <<< (x1 &&& 31)) ||| ((1 : Int32) <<< (x2 &&& 31))) ||| ((1 : Int32) <<< (x3 &&& 31)))) (k1 + 8) (ix (gI (sI m1 (k1 + 7) (ix (gI m1 k1 9)) ((((1 : Int32) <<< (x1 &&& 31)) ||| ((1 : Int32) <<< (x2 &&& 31))) ||| ((1 : Int32) <<< (x3 &&& 31)))) k1 9)) x4) k1 9 ((gI (sI (sI m1 (k1 + 7) (ix (gI m1 k1 9)) ((((1 : Int32) <<< (x1 &&& 31)) ||| ((1 : Int32) <<< (x2 &&& 31))) ||| ((1 : Int32) <<< (x3 &&& 31)))) (k1 + 8) (ix (gI (sI m1 (k1 + 7) (ix (gI m1 k1 9)) ((((1 : Int32) <<< (x1 &&& 31)) ||| ((1 : Int32) <<< (x2 &&& 31))) ||| ((1 : Int32) <<< (x3 &&& 31)))) k1 9)) x4) k1 9) + (1 : Int32)))))) (some (some (jI (-4 : Int32)), m1))) (some (some (jI (-2 : Int32)), m1)))) (some (some (jI (-2 : Int32)), μ))))) :=
  (evj_s (F := K22) rfl [35, 36] 53 rfl).trans rfl
set_option maxRecDepth 100000 in
theorem e_Valley_hasChordOf (k1 : Nat) (x1 : Int32) (μ : jm) : cj 23 [jR 8 k1, jI x1] μ = (evj 23 2 [jR 8 k1, jI x1, jI (0 : Int32)] [] μ) :=
  (cj_it (F := K23) rfl [2] 3 _ _).trans rfl
set_option maxRecDepth 100000 in
theorem e_Valley_hasChordOf_2 (k1 : Nat) (x1 : Int32) (x2 : Int32) (μ : jm) : evj 23 2 [jR 8 k1, jI x1, jI x2] [] μ = (jbr (decide ((gI μ k1 9) ≤ x2)) (some (some (jI ((0 : Int32) &&& 1)), μ)) (jgd (inB x2 8) (jbr (decide (¬ (gI μ (k1 + 7) (ix x2)) = x1)) (evj 23 2 [jR 8 k1, jI x1, jI (x2 + 1)] [] μ) (some (some (jI ((1 : Int32) &&& 1)), μ))))) :=
  (evj_s (F := K23) rfl [2] 13 rfl).trans rfl
set_option maxRecDepth 100000 in
theorem e_Valley_changeSlack (k1 : Nat) (x1 : Int32) (μ : jm) : cj 24 [jR 8 k1, jI x1] μ = (jbr (decide (x1 < 0)) (some (some (jI (-2 : Int32)), μ)) (jbr (decide (x1 ≤ (2 : Int32))) (some (some (jI (gI μ k1 10)), sI μ k1 10 x1)) (some (some (jI (-2 : Int32)), μ)))) :=
  (cj_it (F := K24) rfl [] 14 _ _).trans rfl
set_option maxRecDepth 100000 in
theorem e_Valley_isMember (k1 : Nat) (x1 : Int32) (x2 : Int32) (μ : jm) : cj 25 [jR 8 k1, jI x1, jI x2] μ = (bI (cj 26 [jR 8 k1, jI x2] μ) (fun r1 m1 => jbr (decide (r1 = 0)) (some (some (jI ((0 : Int32) &&& 1)), m1)) (bI (cj 20 [jR 8 k1, jI x1] m1) (fun r2 m2 => jbr (decide (r2 = 0)) (some (some (jI ((0 : Int32) &&& 1)), m2)) (jbr (decide (((x2 >>> (x1 &&& 31)) &&& (1 : Int32)) = 0)) (some (some (jI ((0 : Int32) &&& 1)), m2)) (some (some (jI ((1 : Int32) &&& 1)), m2))))))) :=
  (cj_it (F := K25) rfl [] 18 _ _).trans rfl
set_option maxRecDepth 100000 in
theorem e_Valley_isSet (k1 : Nat) (x1 : Int32) (μ : jm) : cj 26 [jR 8 k1, jI x1] μ = (jbr (decide (x1 < 0)) (some (some (jI ((0 : Int32) &&& 1)), μ)) (jbr (decide (((1 : Int32) <<< ((gI μ k1 6) &&& 31)) ≤ x1)) (some (some (jI ((0 : Int32) &&& 1)), μ)) (some (some (jI ((1 : Int32) &&& 1)), μ)))) :=
  (cj_it (F := K26) rfl [] 12 _ _).trans rfl
set_option maxRecDepth 100000 in
theorem e_Valley_becomeEmpty (k1 : Nat) (μ : jm) : cj 27 [jR 8 k1] μ = (bV (cj 1 [jR 1006 (k1 + 1), jI (0 : Int32)] μ) (fun m1 => bV (cj 1 [jR 1006 (k1 + 2), jI (0 : Int32)] m1) (fun m2 => some (none, sI (sI (sI (sI (sI m2 k1 6 (0 : Int32)) k1 9 (0 : Int32)) k1 10 (0 : Int32)) k1 12 (0 : Int32)) k1 14 (0 : Int32))))) :=
  (cj_it (F := K27) rfl [] 25 _ _).trans rfl
set_option maxRecDepth 100000 in
theorem e_Valley_copyAll (k1 : Nat) (k2 : Nat) (μ : jm) : cj 28 [jR 8 k1, jR 8 k2] μ = (jgd (jcg (0 : Int32) (0 : Int32) (6 : Int32) 6 6) (jgd (jcg (0 : Int32) (0 : Int32) (6 : Int32) 6 6) (bV (cj 29 [jR 8 k1, jR 8 k2] (cpI (cpI μ (k2 + 1) (ix (0 : Int32)) (k1 + 1) (ix (0 : Int32)) (ix (6 : Int32))) (k2 + 2) (ix (0 : Int32)) (k1 + 2) (ix (0 : Int32)) (ix (6 : Int32)))) (fun m1 => jgd (jcg (0 : Int32) (0 : Int32) (8 : Int32) 8 8) (jgd (jcg (0 : Int32) (0 : Int32) (8 : Int32) 8 8) (jgd (jcg (0 : Int32) (0 : Int32) (6 : Int32) 6 6) (jgd (jcg (0 : Int32) (0 : Int32) (6 : Int32) 6 6) (some (none, sI (cpI (sI (cpI (sI (sI (cpI (cpI m1 (k2 + 7) (ix (0 : Int32)) (k1 + 7) (ix (0 : Int32)) (ix (8 : Int32))) (k2 + 8) (ix (0 : Int32)) (k1 + 8) (ix (0 : Int32)) (ix (8 : Int32))) k1 9 (gI (cpI (cpI m1 (k2 + 7) (ix (0 : Int32)) (k1 + 7) (ix (0 : Int32)) (ix (8 : Int32))) (k2 + 8) (ix (0 : Int32)) (k1 + 8) (ix (0 : Int32)) (ix (8 : Int32))) k2 9)) k1 10 (gI (sI (cpI (cpI m1 (k2 + 7) (ix (0 : Int32)) (k1 + 7) (ix (0 : Int32)) (ix (8 : Int32))) (k2 + 8) (ix (0 : Int32)) (k1 + 8) (ix (0 : Int32)) (ix (8 : Int32))) k1 9 (gI (cpI (cpI m1 (k2 + 7) (ix (0 : Int32)) (k1 + 7) (ix (0 : Int32)) (ix (8 : Int32))) (k2 + 8) (ix (0 : Int32)) (k1 + 8) (ix (0 : Int32)) (ix (8 : Int32))) k2 9)) k2 10)) (k2 + 9) (ix (0 : Int32)) (k1 + 9) (ix (0 : Int32)) (ix (6 : Int32))) k1 12 (gI (cpI (sI (sI (cpI (cpI m1 (k2 + 7) (ix (0 : Int32)) (k1 + 7) (ix (0 : Int32)) (ix (8 : Int32))) (k2 + 8) (ix (0 : Int32)) (k1 + 8) (ix (0 : Int32)) (ix (8 : Int32))) k1 9 (gI (cpI (cpI m1 (k2 + 7) (ix (0 : Int32)) (k1 + 7) (ix (0 : Int32)) (ix (8 : Int32))) (k2 + 8) (ix (0 : Int32)) (k1 + 8) (ix (0 : Int32)) (ix (8 : Int32))) k2 9)) k1 10 (gI (sI (cpI (cpI m1 (k2 + 7) (ix (0 : Int32)) (k1 + 7) (ix (0 : Int32)) (ix (8 : Int32))) (k2 + 8) (ix (0 : Int32)) (k1 + 8) (ix (0 : Int32)) (ix (8 : Int32))) k1 9 (gI (cpI (cpI m1 (k2 + 7) (ix (0 : Int32)) (k1 + 7) (ix (0 : Int32)) (ix (8 : Int32))) (k2 + 8) (ix (0 : Int32)) (k1 + 8) (ix (0 : Int32)) (ix (8 : Int32))) k2 9)) k2 10)) (k2 + 9) (ix (0 : Int32)) (k1 + 9) (ix (0 : Int32)) (ix (6 : Int32))) k2 12)) (k2 + 10) (ix (0 : Int32)) (k1 + 10) (ix (0 : Int32)) (ix (6 : Int32))) k1 14 (gI (cpI (sI (cpI (sI (sI (cpI (cpI m1 (k2 + 7) (ix (0 : Int32)) (k1 + 7) (ix (0 : Int32)) (ix (8 : Int32))) (k2 + 8) (ix (0 : Int32)) (k1 + 8) (ix (0 : Int32)) (ix (8 : Int32))) k1 9 (gI (cpI (cpI m1 (k2 + 7) (ix (0 : Int32)) (k1 + 7) (ix (0 : Int32)) (ix (8 : Int32))) (k2 + 8) (ix (0 : Int32)) (k1 + 8) (ix (0 : Int32)) (ix (8 : Int32))) k2 9)) k1 10 (gI (sI (cpI (cpI m1 (k2 + 7) (ix (0 : Int32)) (k1 + 7) (ix (0 : Int32)) (ix (8 : Int32))) (k2 + 8) (ix (0 : Int32)) (k1 + 8) (ix (0 : Int32)) (ix (8 : Int32))) k1 9 (gI (cpI (cpI m1 (k2 + 7) (ix (0 : Int32)) (k1 + 7) (ix (0 : Int32)) (ix (8 : Int32))) (k2 + 8) (ix (0 : Int32)) (k1 + 8) (ix (0 : Int32)) (ix (8 : Int32))) k2 9)) k2 10)) (k2 + 9) (ix (0 : Int32)) (k1 + 9) (ix (0 : Int32)) (ix (6 : Int32))) k1 12 (gI (cpI (sI (sI (cpI (cpI m1 (k2 + 7) (ix (0 : Int32)) (k1 + 7) (ix (0 : Int32)) (ix (8 : Int32))) (k2 + 8) (ix (0 : Int32)) (k1 + 8) (ix (0 : Int32)) (ix (8 : Int32))) k1 9 (gI (cpI (cpI m1 (k2 + 7) (ix (0 : Int32)) (k1 + 7) (ix (0 : Int32)) (ix (8 : Int32))) (k2 + 8) (ix (0 : Int32)) (k1 + 8) (ix (0 : Int32)) (ix (8 : Int32))) k2 9)) k1 10 (gI (sI (cpI (cpI m1 (k2 + 7) (ix (0 : Int32)) (k1 + 7) (ix (0 : Int32)) (ix (8 : Int32))) (k2 + 8) (ix (0 : Int32)) (k1 + 8) (ix (0 : Int32)) (ix (8 : Int32))) k1 9 (gI (cpI (cpI m1 (k2 + 7) (ix (0 : Int32)) (k1 + 7) (ix (0 : Int32)) (ix (8 : Int32))) (k2 + 8) (ix (0 : Int32)) (k1 + 8) (ix (0 : Int32)) (ix (8 : Int32))) k2 9)) k2 10)) (k2 + 9) (ix (0 : Int32)) (k1 + 9) (ix (0 : Int32)) (ix (6 : Int32))) k2 12)) (k2 + 10) (ix (0 : Int32)) (k1 + 10) (ix (0 : Int32)) (ix (6 : Int32))) k2 14)))))))))) :=
  (cj_it (F := K28) rfl [] 69 _ _).trans rfl
set_option maxRecDepth 100000 in
theorem e_Valley_copyPeople (k1 : Nat) (k2 : Nat) (μ : jm) : cj 29 [jR 8 k1, jR 8 k2] μ = (jgd (jcg (0 : Int32) (0 : Int32) (7 : Int32) 7 7) (jgd (jcg (0 : Int32) (0 : Int32) (7 : Int32) 7 7) (jgd (jcg (0 : Int32) (0 : Int32) (7 : Int32) 7 7) (jgd (jcg (0 : Int32) (0 : Int32) (7 : Int32) 7 7) (some (none, sI (cpI (cpI (cpI (cpI μ (k2 + 3) (ix (0 : Int32)) (k1 + 3) (ix (0 : Int32)) (ix (7 : Int32))) (k2 + 4) (ix (0 : Int32)) (k1 + 4) (ix (0 : Int32)) (ix (7 : Int32))) (k2 + 5) (ix (0 : Int32)) (k1 + 5) (ix (0 : Int32)) (ix (7 : Int32))) (k2 + 6) (ix (0 : Int32)) (k1 + 6) (ix (0 : Int32)) (ix (7 : Int32))) k1 6 (gI (cpI (cpI (cpI (cpI μ (k2 + 3) (ix (0 : Int32)) (k1 + 3) (ix (0 : Int32)) (ix (7 : Int32))) (k2 + 4) (ix (0 : Int32)) (k1 + 4) (ix (0 : Int32)) (ix (7 : Int32))) (k2 + 5) (ix (0 : Int32)) (k1 + 5) (ix (0 : Int32)) (ix (7 : Int32))) (k2 + 6) (ix (0 : Int32)) (k1 + 6) (ix (0 : Int32)) (ix (7 : Int32))) k2 6))))))) :=
  (cj_it (F := K29) rfl [] 38 _ _).trans rfl
set_option maxRecDepth 100000 in
theorem e_Valley_isChord (k1 : Nat) (x1 : Int32) (μ : jm) : cj 30 [jR 8 k1, jI x1] μ = (jbr (decide (x1 < 0)) (some (some (jI ((0 : Int32) &&& 1)), μ)) (jbr (decide ((gI μ k1 9) ≤ x1)) (some (some (jI ((0 : Int32) &&& 1)), μ)) (some (some (jI ((1 : Int32) &&& 1)), μ)))) :=
  (cj_it (F := K30) rfl [] 10 _ _).trans rfl
set_option maxRecDepth 100000 in
theorem e_Valley_peopleIn (k1 : Nat) (x1 : Int32) (μ : jm) : cj 31 [jR 8 k1, jI x1] μ = (evj 31 4 [jR 8 k1, jI x1, jI (0 : Int32), jI (0 : Int32)] [] μ) :=
  (cj_it (F := K31) rfl [4] 5 _ _).trans rfl
set_option maxRecDepth 100000 in
theorem e_Valley_peopleIn_4 (k1 : Nat) (x1 : Int32) (x2 : Int32) (x3 : Int32) (μ : jm) : evj 31 4 [jR 8 k1, jI x1, jI x2, jI x3] [] μ = (jbr (decide ((gI μ k1 6) ≤ x3)) (some (some (jI x2), μ)) (jgd (inB x3 7) (jbr (decide (((x1 >>> ((gI μ (k1 + 5) (ix x3)) &&& 31)) &&& (1 : Int32)) = 0)) (evj 31 4 [jR 8 k1, jI x1, jI x2, jI (x3 + 1)] [] μ) (evj 31 4 [jR 8 k1, jI x1, jI (x2 ||| ((1 : Int32) <<< (x3 &&& 31))), jI (x3 + 1)] [] μ)))) :=
  (evj_s (F := K31) rfl [4] 22 rfl).trans rfl
set_option maxRecDepth 100000 in
theorem e_Valley_hasDoor (k1 : Nat) (x1 : Int32) (x2 : Int32) (μ : jm) : cj 32 [jR 8 k1, jI x1, jI x2] μ = (jgd (inB x1 6) (jbr (decide ((((gI μ (k1 + 1) (ix x1)) >>> (x2 &&& 31)) &&& (1 : Int32)) = 0)) (some (some (jI ((0 : Int32) &&& 1)), μ)) (some (some (jI ((1 : Int32) &&& 1)), μ)))) :=
  (cj_it (F := K32) rfl [] 13 _ _).trans rfl
set_option maxRecDepth 100000 in
theorem e_Valley_addToSpeech (k1 : Nat) (x1 : Int32) (μ : jm) : cj 33 [jR 8 k1, jI x1] μ = (bI (cj 30 [jR 8 k1, jI x1] μ) (fun r1 m1 => jbr (decide (¬ r1 = 0)) (jbr (decide ((gI m1 k1 12) < (6 : Int32))) (jgd (inB (gI m1 k1 12) 6) (some (some (jI (gI (sI (sI m1 (k1 + 9) (ix (gI m1 k1 12)) x1) k1 12 ((gI (sI m1 (k1 + 9) (ix (gI m1 k1 12)) x1) k1 12) + (1 : Int32))) k1 12)), sI (sI m1 (k1 + 9) (ix (gI m1 k1 12)) x1) k1 12 ((gI (sI m1 (k1 + 9) (ix (gI m1 k1 12)) x1) k1 12) + (1 : Int32))))) (some (some (jI (-4 : Int32)), m1))) (some (some (jI (-2 : Int32)), m1)))) :=
  (cj_it (F := K33) rfl [] 24 _ _).trans rfl
set_option maxRecDepth 100000 in
theorem e_Valley_endSpeech (k1 : Nat) (μ : jm) : cj 34 [jR 8 k1] μ = (some (some (jI (gI μ k1 12)), sI μ k1 12 (0 : Int32))) :=
  (cj_it (F := K34) rfl [] 9 _ _).trans rfl
set_option maxRecDepth 100000 in
theorem e_Valley_chordsOfSpeech (k1 : Nat) (μ : jm) : cj 35 [jR 8 k1] μ = (evj 35 4 [jR 8 k1, jI (0 : Int32), jI (0 : Int32)] [] μ) :=
  (cj_it (F := K35) rfl [4] 5 _ _).trans rfl
set_option maxRecDepth 100000 in
theorem e_Valley_chordsOfSpeech_4 (k1 : Nat) (x1 : Int32) (x2 : Int32) (μ : jm) : evj 35 4 [jR 8 k1, jI x1, jI x2] [] μ = (jbr (decide ((gI μ k1 12) ≤ x2)) (some (some (jI x1), μ)) (jgd (inB x2 6) (evj 35 4 [jR 8 k1, jI (x1 ||| ((1 : Int32) <<< ((gI μ (k1 + 9) (ix x2)) &&& 31))), jI (x2 + 1)] [] μ))) :=
  (evj_s (F := K35) rfl [4] 16 rfl).trans rfl
set_option maxRecDepth 100000 in
theorem e_Valley_addHole (k1 : Nat) (x1 : Int32) (μ : jm) : cj 36 [jR 8 k1, jI x1] μ = (jbr (decide (x1 < 0)) (some (some (jI (-2 : Int32)), μ)) (jbr (decide ((4095 : Int32) < x1)) (some (some (jI (-2 : Int32)), μ)) (bI (cj 0 [jI x1] μ) (fun r1 m1 => jbr (decide (r1 ≤ (3 : Int32))) (jbr (decide ((gI m1 k1 14) < (6 : Int32))) (jgd (inB (gI m1 k1 14) 6) (some (some (jI ((gI (sI (sI m1 (k1 + 10) (ix (gI m1 k1 14)) x1) k1 14 ((gI (sI m1 (k1 + 10) (ix (gI m1 k1 14)) x1) k1 14) + (1 : Int32))) k1 14) - (1 : Int32))), sI (sI m1 (k1 + 10) (ix (gI m1 k1 14)) x1) k1 14 ((gI (sI m1 (k1 + 10) (ix (gI m1 k1 14)) x1) k1 14) + (1 : Int32))))) (some (some (jI (-4 : Int32)), m1))) (some (some (jI (-2 : Int32)), m1)))))) :=
  (cj_it (F := K36) rfl [] 31 _ _).trans rfl
set_option maxRecDepth 100000 in
theorem e_Valley_endHoles (k1 : Nat) (μ : jm) : cj 37 [jR 8 k1] μ = (some (some (jI (gI μ k1 14)), sI μ k1 14 (0 : Int32))) :=
  (cj_it (F := K37) rfl [] 9 _ _).trans rfl
set_option maxRecDepth 100000 in
theorem e_Valley_isHole (k1 : Nat) (x1 : Int32) (μ : jm) : cj 38 [jR 8 k1, jI x1] μ = (jbr (decide (x1 < 0)) (some (some (jI ((0 : Int32) &&& 1)), μ)) (jbr (decide ((gI μ k1 14) ≤ x1)) (some (some (jI ((0 : Int32) &&& 1)), μ)) (some (some (jI ((1 : Int32) &&& 1)), μ)))) :=
  (cj_it (F := K38) rfl [] 10 _ _).trans rfl
set_option maxRecDepth 100000 in
theorem e_Valley_chordsWith (k1 : Nat) (x1 : Int32) (μ : jm) : cj 39 [jR 8 k1, jI x1] μ = (evj 39 4 [jR 8 k1, jI x1, jI (0 : Int32), jI (0 : Int32)] [] μ) :=
  (cj_it (F := K39) rfl [4] 5 _ _).trans rfl
set_option maxRecDepth 100000 in
theorem e_Valley_chordsWith_4 (k1 : Nat) (x1 : Int32) (x2 : Int32) (x3 : Int32) (μ : jm) : evj 39 4 [jR 8 k1, jI x1, jI x2, jI x3] [] μ = (jbr (decide ((gI μ k1 9) ≤ x3)) (some (some (jI x2), μ)) (jgd (inB x3 8) (jbr (decide (¬ (x1 &&& ((gI μ (k1 + 7) (ix x3)) ^^^ (-1 : Int32))) = 0)) (evj 39 4 [jR 8 k1, jI x1, jI x2, jI (x3 + 1)] [] μ) (evj 39 4 [jR 8 k1, jI x1, jI (x2 ||| ((1 : Int32) <<< (x3 &&& 31))), jI (x3 + 1)] [] μ)))) :=
  (evj_s (F := K39) rfl [4] 22 rfl).trans rfl
set_option maxRecDepth 100000 in
theorem e_Valley_wed (k1 : Nat) (x1 : Int32) (x2 : Int32) (μ : jm) : cj 40 [jR 8 k1, jI x1, jI x2] μ = (bV (cj 41 [jR 8 k1, jI x1] μ) (fun m1 => bV (cj 41 [jR 8 k1, jI x2] m1) (fun m2 => jgd (inB x1 7) (jgd (inB x2 7) (jgd (inB x1 7) (jgd (inB x2 7) (some (none, sI (sI (sI (sI m2 (k1 + 3) (ix x1) (2 : Int32)) (k1 + 3) (ix x2) (2 : Int32)) (k1 + 6) (ix x1) x2) (k1 + 6) (ix x2) x1)))))))) :=
  (cj_it (F := K40) rfl [] 28 _ _).trans rfl
set_option maxRecDepth 100000 in
theorem e_Valley_freeSpouseOf (k1 : Nat) (x1 : Int32) (μ : jm) : cj 41 [jR 8 k1, jI x1] μ = (jgd (inB x1 7) (bI (cj 20 [jR 8 k1, jI (gI μ (k1 + 6) (ix x1))] μ) (fun r1 m1 => jbr (decide (r1 = 0)) (some (none, m1)) (jgd (inB (gI μ (k1 + 6) (ix x1)) 7) (some (none, sI m1 (k1 + 6) (ix (gI μ (k1 + 6) (ix x1))) (-1 : Int32))))))) :=
  (cj_it (F := K41) rfl [] 16 _ _).trans rfl
set_option maxRecDepth 100000 in
theorem e_Valley_digestOn (k1 : Nat) (x1 : Int64) (μ : jm) : cj 42 [jR 8 k1, jL x1] μ = (bL (cj 43 [jR 8 k1, jL x1] μ) (fun r1 m1 => evj 42 9 [jR 8 k1, jU, jU, jL r1, jU, jI (0 : Int32)] [] m1)) :=
  (cj_it (F := K42) rfl [9, 87, 147, 180] 7 _ _).trans rfl
set_option maxRecDepth 100000 in
theorem e_Valley_digestOn_9 (k1 : Nat) (y1 : Int64) (x2 : Int32) (μ : jm) : evj 42 9 [jR 8 k1, jU, jU, jL y1, jU, jI x2] [] μ = (jbr (decide ((gI μ k1 6) ≤ x2)) (evj 42 87 [jR 8 k1, jU, jU, jL y1, jU, jI (0 : Int32)] [] μ) (jgd (inB x2 7) (jgd (inB x2 7) (jgd (inB x2 7) (jgd (inB x2 7) (evj 42 9 [jR 8 k1, jU, jU, jL (((31 : Int64) * (((31 : Int64) * (((31 : Int64) * (((31 : Int64) * y1) + ((gI μ (k1 + 3) (ix x2) : Int32).toInt64))) + ((gI μ (k1 + 4) (ix x2) : Int32).toInt64))) + ((gI μ (k1 + 5) (ix x2) : Int32).toInt64))) + ((gI μ (k1 + 6) (ix x2) : Int32).toInt64)), jU, jI (x2 + 1)] [] μ)))))) :=
  (evj_s (F := K42) rfl [9, 87, 147, 180] 47 rfl).trans rfl
set_option maxRecDepth 100000 in
theorem e_Valley_digestOn_87 (k1 : Nat) (y1 : Int64) (x2 : Int32) (μ : jm) : evj 42 87 [jR 8 k1, jU, jU, jL y1, jU, jI x2] [] μ = (jbr (decide ((gI μ k1 9) ≤ x2)) (evj 42 147 [jR 8 k1, jU, jU, jL (((31 : Int64) * y1) + ((gI μ k1 10 : Int32).toInt64)), jU, jI (0 : Int32)] [] μ) (jgd (inB x2 8) (jgd (inB x2 8) (evj 42 87 [jR 8 k1, jU, jU, jL (((31 : Int64) * (((31 : Int64) * y1) + ((gI μ (k1 + 7) (ix x2) : Int32).toInt64))) + ((gI μ (k1 + 8) (ix x2) : Int32).toInt64)), jU, jI (x2 + 1)] [] μ)))) :=
  (evj_s (F := K42) rfl [9, 87, 147, 180] 27 rfl).trans rfl
set_option maxRecDepth 100000 in
theorem e_Valley_digestOn_147 (k1 : Nat) (y1 : Int64) (x2 : Int32) (μ : jm) : evj 42 147 [jR 8 k1, jU, jU, jL y1, jU, jI x2] [] μ = (jbr (decide ((gI μ k1 12) ≤ x2)) (evj 42 180 [jR 8 k1, jU, jU, jL y1, jU, jI (0 : Int32)] [] μ) (jgd (inB x2 6) (evj 42 147 [jR 8 k1, jU, jU, jL (((31 : Int64) * y1) + ((gI μ (k1 + 9) (ix x2) : Int32).toInt64)), jU, jI (x2 + 1)] [] μ))) :=
  (evj_s (F := K42) rfl [9, 87, 147, 180] 17 rfl).trans rfl
set_option maxRecDepth 100000 in
theorem e_Valley_digestOn_180 (k1 : Nat) (y1 : Int64) (x2 : Int32) (μ : jm) : evj 42 180 [jR 8 k1, jU, jU, jL y1, jU, jI x2] [] μ = (jbr (decide ((gI μ k1 14) ≤ x2)) (some (some (jL y1), μ)) (jgd (inB x2 6) (evj 42 180 [jR 8 k1, jU, jU, jL (((31 : Int64) * y1) + ((gI μ (k1 + 10) (ix x2) : Int32).toInt64)), jU, jI (x2 + 1)] [] μ))) :=
  (evj_s (F := K42) rfl [9, 87, 147, 180] 17 rfl).trans rfl
set_option maxRecDepth 100000 in
theorem e_Valley_digestOfRooms (k1 : Nat) (x1 : Int64) (μ : jm) : cj 43 [jR 8 k1, jL x1] μ = (evj 43 5 [jR 8 k1, jU, jU, jL x1, jU, jI (0 : Int32), jU] [] μ) :=
  (cj_it (F := K43) rfl [5, 15] 5 _ _).trans rfl
set_option maxRecDepth 100000 in
theorem e_Valley_digestOfRooms_5 (k1 : Nat) (y1 : Int64) (x2 : Int32) (μ : jm) : evj 43 5 [jR 8 k1, jU, jU, jL y1, jU, jI x2, jU] [] μ = (jbr (decide ((6 : Int32) ≤ x2)) (some (some (jL y1), μ)) (evj 43 15 [jR 8 k1, jU, jU, jL y1, jU, jI x2, jI (0 : Int32)] [] μ)) :=
  (evj_s (F := K43) rfl [5, 15] 6 rfl).trans rfl
set_option maxRecDepth 100000 in
theorem e_Valley_digestOfRooms_15 (k1 : Nat) (y1 : Int64) (x2 : Int32) (x3 : Int32) (μ : jm) : evj 43 15 [jR 8 k1, jU, jU, jL y1, jU, jI x2, jI x3] [] μ = (jbr (decide (x2 ≤ x3)) (evj 43 5 [jR 8 k1, jU, jU, jL y1, jU, jI (x2 + 1), jU] [] μ) (jgd (inB x2 6) (jgd (inB x2 6) (evj 43 15 [jR 8 k1, jU, jU, jL (((31 : Int64) * (((31 : Int64) * y1) + ((((gI μ (k1 + 1) (ix x2)) >>> (x3 &&& 31)) &&& (1 : Int32) : Int32).toInt64))) + ((((gI μ (k1 + 2) (ix x2)) >>> (x3 &&& 31)) &&& (1 : Int32) : Int32).toInt64)), jU, jI x2, jI (x3 + 1)] [] μ)))) :=
  (evj_s (F := K43) rfl [5, 15] 34 rfl).trans rfl
set_option maxRecDepth 100000 in
theorem e_Fraction_become (x1 : Int64) (x2 : Int64) (μ : jm) : cj 44 [jR 4 49, jL x1, jL x2] μ = (bL (cj 45 [jL x1, jL x2] μ) (fun r1 m1 => jbr (decide ((lg_cmp r1 (0 : Int64)) ≤ 0)) (some (none, m1)) (jgd (decide (¬ r1 = 0)) (jgd (decide (¬ r1 = 0)) (some (none, sL (sL m1 49 0 (x1 / r1)) 49 1 (x2 / r1))))))) :=
  (cj_it (F := K44) rfl [] 20 _ _).trans rfl
set_option maxRecDepth 100000 in
theorem e_Fraction_commonDivisor (x0 : Int64) (x1 : Int64) (μ : jm) : cj 45 [jL x0, jL x1] μ = (evj 45 9 [jU, jU, jU, jU, jL x0, jU, jL x1, jU, jI (0 : Int32), jU, jU] [] μ) :=
  (cj_it (F := K45) rfl [9] 7 _ _).trans rfl
set_option maxRecDepth 100000 in
theorem e_Fraction_commonDivisor_9 (y0 : Int64) (y1 : Int64) (x2 : Int32) (μ : jm) : evj 45 9 [jU, jU, jU, jU, jL y0, jU, jL y1, jU, jI x2, jU, jU] [] μ = (jbr (decide ((1000 : Int32) ≤ x2)) (some (some (jL y0), μ)) (jbr (decide ((lg_cmp y1 (0 : Int64)) = 0)) (some (some (jL y0), μ)) (jgd (decide (¬ y1 = 0)) (evj 45 9 [jU, jU, jU, jU, jL y1, jU, jL (y0 - y0 / y1 * y1), jU, jI (x2 + 1), jU, jU] [] μ)))) :=
  (evj_s (F := K45) rfl [9] 18 rfl).trans rfl
end
section
/-! EQUATIONS of the runs, by program: from a method's entry, or a cut, to the next cuts -/
set_option maxRecDepth 100000 in
theorem e_Choir_notesOf (k1 : Nat) (x1 : Int32) (x2 : Int32) (μ : jm) : cj 46 [jR 8 k1, jI x1, jI x2] μ = (jgd (inB x1 7) (jgd (inB x1 7) (jbr (decide ((gI μ (k1 + 3) (ix x1)) = 1)) (jbr (decide (¬ x2 = ((1 : Int32) <<< (x1 &&& 31)))) (bI (cj 11 [jI ((1 : Int32) <<< ((gI μ (k1 + 4) (ix x1)) &&& 31)), jI (1 : Int32)] μ) (fun r1 m1 => evj 46 64 [jU, jU, jU, jU] [jI r1] m1)) (evj 46 64 [jU, jU, jU, jU] [jI ((1 : Int32) <<< ((gI μ (k1 + 4) (ix x1)) &&& 31))] μ)) (jbr (decide ((gI μ (k1 + 3) (ix x1)) = 2)) (jgd (inB x1 7) (bI (cj 47 [jI (gI μ (k1 + 6) (ix x1)), jI x2] μ) (fun r2 m2 => jbr (decide (r2 = 0)) (evj 46 90 [jU, jU, jU, jU] [jI ((1 : Int32) <<< ((gI μ (k1 + 4) (ix x1)) &&& 31))] m2) (bI (cj 11 [jI ((1 : Int32) <<< ((gI μ (k1 + 4) (ix x1)) &&& 31)), jI (7 : Int32)] m2) (fun r3 m3 => evj 46 90 [jU, jU, jU, jU] [jI (((1 : Int32) <<< ((gI μ (k1 + 4) (ix x1)) &&& 31)) ||| r3)] m3))))) (jbr (decide ((gI μ (k1 + 3) (ix x1)) = 3)) (evj 46 91 [jU, jU, jU, jI ((1 : Int32) <<< ((gI μ (k1 + 4) (ix x1)) &&& 31))] [] μ) (jbr (decide ((gI μ (k1 + 3) (ix x1)) = 4)) (evj 46 91 [jU, jU, jU, jI ((1 : Int32) <<< ((gI μ (k1 + 4) (ix x1)) &&& 31))] [] μ) (jbr (decide ((gI μ (k1 + 3) (ix x1)) = 5)) (bI (cj 11 [jI ((1 : Int32) <<< ((gI μ (k1 + 4) (ix x1)) &&& 31)), jI (1 : Int32)] μ) (fun r4 m4 => bI (cj 11 [jI ((1 : Int32) <<< ((gI μ (k1 + 4) (ix x1)) &&& 31)), jI (6 : Int32)] m4) (fun r5 m5 => some (some (jI ((((1 : Int32) <<< ((gI μ (k1 + 4) (ix x1)) &&& 31)) ||| r4) ||| r5)), m5)))) (some (some (jI ((1 : Int32) <<< ((gI μ (k1 + 4) (ix x1)) &&& 31))), μ))))))))) :=
  (cj_it (F := K46) rfl [64, 90, 91] 26 _ _).trans rfl
set_option maxRecDepth 100000 in
theorem e_Choir_notesOf_64 (x0 : Int32) (μ : jm) : evj 46 64 [jU, jU, jU, jU] [jI x0] μ = (some (some (jI x0), μ)) :=
  (evj_s (F := K46) rfl [64, 90, 91] 2 rfl).trans rfl
set_option maxRecDepth 100000 in
theorem e_Choir_notesOf_90 (x0 : Int32) (μ : jm) : evj 46 90 [jU, jU, jU, jU] [jI x0] μ = (some (some (jI x0), μ)) :=
  (evj_s (F := K46) rfl [64, 90, 91] 2 rfl).trans rfl
set_option maxRecDepth 100000 in
theorem e_Choir_notesOf_91 (x0 : Int32) (μ : jm) : evj 46 91 [jU, jU, jU, jI x0] [] μ = (bI (cj 11 [jI x0, jI (1 : Int32)] μ) (fun r1 m1 => some (some (jI (x0 ||| r1)), m1))) :=
  (evj_s (F := K46) rfl [64, 90, 91] 7 rfl).trans rfl
set_option maxRecDepth 100000 in
theorem e_Choir_isMateIn (x0 : Int32) (x1 : Int32) (μ : jm) : cj 47 [jI x0, jI x1] μ = (jbr (decide (x0 < 0)) (some (some (jI ((0 : Int32) &&& 1)), μ)) (jbr (decide ((7 : Int32) ≤ x0)) (some (some (jI ((0 : Int32) &&& 1)), μ)) (jbr (decide (((x1 >>> (x0 &&& 31)) &&& (1 : Int32)) = 0)) (some (some (jI ((0 : Int32) &&& 1)), μ)) (some (some (jI ((1 : Int32) &&& 1)), μ))))) :=
  (cj_it (F := K47) rfl [] 15 _ _).trans rfl
set_option maxRecDepth 100000 in
theorem e_Choir_canSay (k1 : Nat) (x2 : Int32) (x3 : Int32) (μ : jm) : cj 48 [jR 1 50, jR 8 k1, jI x2, jI x3] μ = (bV (cj 49 [jR 1 50, jR 8 k1, jI x2] μ) (fun m1 => bI (cj 30 [jR 8 k1, jI x3] m1) (fun r2 m2 => jbr (decide (r2 = 0)) (some (some (jI ((0 : Int32) &&& 1)), m2)) (jgd (inB x3 8) (bI (cj 50 [jR 1 50, jI (gI m2 (k1 + 7) (ix x3))] m2) (fun r3 m3 => jbr (decide (r3 = 0)) (some (some (jI ((0 : Int32) &&& 1)), m3)) (some (some (jI ((1 : Int32) &&& 1)), m3)))))))) :=
  (cj_it (F := K48) rfl [] 19 _ _).trans rfl
set_option maxRecDepth 100000 in
theorem e_Choir_gather (k1 : Nat) (x2 : Int32) (μ : jm) : cj 49 [jR 1 50, jR 8 k1, jI x2] μ = (evj 49 2 [jR 1 50, jR 8 k1, jI x2, jI (0 : Int32)] [] μ) :=
  (cj_it (F := K49) rfl [2] 3 _ _).trans rfl
set_option maxRecDepth 100000 in
theorem e_Choir_gather_2 (k1 : Nat) (x1 : Int32) (x2 : Int32) (μ : jm) : evj 49 2 [jR 1 50, jR 8 k1, jI x1, jI x2] [] μ = (jbr (decide ((7 : Int32) ≤ x2)) (some (none, μ)) (jgd (inB x2 7) (bI (cj 25 [jR 8 k1, jI x2, jI x1] (sI μ 51 (ix x2) (0 : Int32))) (fun r1 m1 => jbr (decide (r1 = 0)) (evj 49 2 [jR 1 50, jR 8 k1, jI x1, jI (x2 + 1)] [] m1) (bI (cj 46 [jR 8 k1, jI x2, jI x1] m1) (fun r2 m2 => bI (cj 12 [jI r2, jI (gI m2 k1 10)] m2) (fun r3 m3 => jgd (inB x2 7) (jgd (inB x2 7) (jbr (decide ((gI (sI m3 51 (ix x2) r3) (k1 + 3) (ix x2)) < (4 : Int32))) (jgd (inB x2 7) (evj 49 2 [jR 1 50, jR 8 k1, jI x1, jI (x2 + 1)] [] (sI (sI m3 51 (ix x2) r3) 52 (ix x2) (1 : Int32)))) (jgd (inB x2 7) (evj 49 2 [jR 1 50, jR 8 k1, jI x1, jI (x2 + 1)] [] (sI (sI m3 51 (ix x2) r3) 52 (ix x2) (2 : Int32))))))))))))) :=
  (evj_s (F := K49) rfl [2] 39 rfl).trans rfl
set_option maxRecDepth 100000 in
theorem e_Choir_fillsAll (x1 : Int32) (μ : jm) : cj 50 [jR 1 50, jI x1] μ = (evj 50 4 [jR 1 50, jI x1, jI (1 : Int32), jI (0 : Int32), jU] [] μ) :=
  (cj_it (F := K50) rfl [4, 24] 5 _ _).trans rfl
set_option maxRecDepth 100000 in
theorem e_Choir_fillsAll_4 (x0 : Int32) (x1 : Int32) (x2 : Int32) (μ : jm) : evj 50 4 [jR 1 50, jI x0, jI x1, jI x2, jU] [] μ = (jbr (decide ((7 : Int32) ≤ x2)) (bI (cj 14 [jI x1] μ) (fun r1 m1 => some (some (jI (r1 &&& 1)), m1))) (jgd (inB x2 7) (jbr (decide (((gI μ 51 (ix x2)) &&& x0) = 0)) (evj 50 4 [jR 1 50, jI x0, jI x1, jI (x2 + 1), jU] [] μ) (evj 50 24 [jR 1 50, jI x0, jI x1, jI x2, jI (0 : Int32)] [] μ)))) :=
  (evj_s (F := K50) rfl [4, 24] 13 rfl).trans rfl
set_option maxRecDepth 100000 in
theorem e_Choir_fillsAll_24 (x0 : Int32) (x1 : Int32) (x2 : Int32) (x3 : Int32) (μ : jm) : evj 50 24 [jR 1 50, jI x0, jI x1, jI x2, jI x3] [] μ = (jgd (inB x2 7) (jbr (decide ((gI μ 52 (ix x2)) ≤ x3)) (evj 50 4 [jR 1 50, jI x0, jI x1, jI (x2 + 1), jU] [] μ) (jgd (inB x2 7) (bI (cj 13 [jI x1, jI (gI μ 51 (ix x2)), jI x0] μ) (fun r1 m1 => evj 50 24 [jR 1 50, jI x0, jI (x1 ||| r1), jI x2, jI (x3 + 1)] [] m1))))) :=
  (evj_s (F := K50) rfl [4, 24] 19 rfl).trans rfl
set_option maxRecDepth 100000 in
theorem e_Choir_chordsOf (k1 : Nat) (x2 : Int32) (μ : jm) : cj 51 [jR 1 50, jR 8 k1, jI x2] μ = (bV (cj 49 [jR 1 50, jR 8 k1, jI x2] μ) (fun m1 => evj 51 11 [jR 1 50, jR 8 k1, jU, jI (0 : Int32), jI (0 : Int32)] [] m1)) :=
  (cj_it (F := K51) rfl [11] 9 _ _).trans rfl
set_option maxRecDepth 100000 in
theorem e_Choir_chordsOf_11 (k1 : Nat) (x1 : Int32) (x2 : Int32) (μ : jm) : evj 51 11 [jR 1 50, jR 8 k1, jU, jI x1, jI x2] [] μ = (jbr (decide ((gI μ k1 9) ≤ x2)) (some (some (jI x1), μ)) (jgd (inB x2 8) (bI (cj 50 [jR 1 50, jI (gI μ (k1 + 7) (ix x2))] μ) (fun r1 m1 => jbr (decide (r1 = 0)) (evj 51 11 [jR 1 50, jR 8 k1, jU, jI x1, jI (x2 + 1)] [] m1) (evj 51 11 [jR 1 50, jR 8 k1, jU, jI (x1 ||| ((1 : Int32) <<< (x2 &&& 31))), jI (x2 + 1)] [] m1))))) :=
  (evj_s (F := K51) rfl [11] 20 rfl).trans rfl
set_option maxRecDepth 100000 in
theorem e_Choir_smallestSet (k1 : Nat) (x2 : Int32) (x3 : Int32) (μ : jm) : cj 52 [jR 1 50, jR 8 k1, jI x2, jI x3] μ = (evj 52 10 [jR 1 50, jR 8 k1, jI x2, jI x3, jI (-1 : Int32), jI (8 : Int32), jI (0 : Int32), jU] [] μ) :=
  (cj_it (F := K52) rfl [10, 39, 40] 7 _ _).trans rfl
set_option maxRecDepth 100000 in
theorem e_Choir_smallestSet_10 (k1 : Nat) (x1 : Int32) (x2 : Int32) (x3 : Int32) (x4 : Int32) (x5 : Int32) (μ : jm) : evj 52 10 [jR 1 50, jR 8 k1, jI x1, jI x2, jI x3, jI x4, jI x5, jU] [] μ = (jbr (decide (x1 < x5)) (some (some (jI x3), μ)) (jbr (decide (¬ (x5 &&& (x1 ^^^ (-1 : Int32))) = 0)) (evj 52 39 [jR 1 50, jR 8 k1, jI x1, jI x2, jI x3, jI x4, jI x5, jU] [] μ) (bI (cj 0 [jI x5] μ) (fun r1 m1 => jbr (decide (x4 ≤ r1)) (evj 52 39 [jR 1 50, jR 8 k1, jI x1, jI x2, jI x3, jI x4, jI x5, jU] [] m1) (evj 52 40 [jR 1 50, jR 8 k1, jI x1, jI x2, jI x3, jI x4, jI x5, jU] [jI (1 : Int32)] m1))))) :=
  (evj_s (F := K52) rfl [10, 39, 40] 16 rfl).trans rfl
set_option maxRecDepth 100000 in
theorem e_Choir_smallestSet_39 (k1 : Nat) (x1 : Int32) (x2 : Int32) (x3 : Int32) (x4 : Int32) (x5 : Int32) (μ : jm) : evj 52 39 [jR 1 50, jR 8 k1, jI x1, jI x2, jI x3, jI x4, jI x5, jU] [] μ = (evj 52 40 [jR 1 50, jR 8 k1, jI x1, jI x2, jI x3, jI x4, jI x5, jU] [jI (0 : Int32)] μ) :=
  (evj_s (F := K52) rfl [10, 39, 40] 2 rfl).trans rfl
set_option maxRecDepth 100000 in
theorem e_Choir_smallestSet_40 (k1 : Nat) (x1 : Int32) (x2 : Int32) (x3 : Int32) (x4 : Int32) (x5 : Int32) (x6 : Int32) (μ : jm) : evj 52 40 [jR 1 50, jR 8 k1, jI x1, jI x2, jI x3, jI x4, jI x5, jU] [jI x6] μ = (jbr (decide (x6 = 0)) (evj 52 10 [jR 1 50, jR 8 k1, jI x1, jI x2, jI x3, jI x4, jI (x5 + 1), jU] [] μ) (bI (cj 48 [jR 1 50, jR 8 k1, jI x5, jI x2] μ) (fun r1 m1 => jbr (decide (r1 = 0)) (evj 52 10 [jR 1 50, jR 8 k1, jI x1, jI x2, jI x3, jI x4, jI (x5 + 1), jU] [] m1) (bI (cj 0 [jI x5] m1) (fun r2 m2 => evj 52 10 [jR 1 50, jR 8 k1, jI x1, jI x2, jI x5, jI r2, jI (x5 + 1), jU] [] m2))))) :=
  (evj_s (F := K52) rfl [10, 39, 40] 17 rfl).trans rfl
set_option maxRecDepth 100000 in
theorem e_Choir_canSayAll (k1 : Nat) (x2 : Int32) (x3 : Int32) (μ : jm) : cj 53 [jR 1 50, jR 8 k1, jI x2, jI x3] μ = (bV (cj 49 [jR 1 50, jR 8 k1, jI x2] μ) (fun m1 => evj 53 9 [jR 1 50, jR 8 k1, jU, jI x3, jI (0 : Int32)] [] m1)) :=
  (cj_it (F := K53) rfl [9] 7 _ _).trans rfl
set_option maxRecDepth 100000 in
theorem e_Choir_canSayAll_9 (k1 : Nat) (x1 : Int32) (x2 : Int32) (μ : jm) : evj 53 9 [jR 1 50, jR 8 k1, jU, jI x1, jI x2] [] μ = (jbr (decide ((gI μ k1 9) ≤ x2)) (some (some (jI ((1 : Int32) &&& 1)), μ)) (jbr (decide (((x1 >>> (x2 &&& 31)) &&& (1 : Int32)) = 0)) (evj 53 9 [jR 1 50, jR 8 k1, jU, jI x1, jI (x2 + 1)] [] μ) (jgd (inB x2 8) (bI (cj 50 [jR 1 50, jI (gI μ (k1 + 7) (ix x2))] μ) (fun r1 m1 => jbr (decide (¬ r1 = 0)) (evj 53 9 [jR 1 50, jR 8 k1, jU, jI x1, jI (x2 + 1)] [] m1) (some (some (jI ((0 : Int32) &&& 1)), m1))))))) :=
  (evj_s (F := K53) rfl [9] 20 rfl).trans rfl
set_option maxRecDepth 100000 in
theorem e_Choir_blockers (k1 : Nat) (x2 : Int32) (x3 : Int32) (μ : jm) : cj 54 [jR 1 50, jR 8 k1, jI x2, jI x3] μ = (evj 54 6 [jR 1 50, jR 8 k1, jI x2, jI x3, jI (0 : Int32), jI (0 : Int32), jU] [] μ) :=
  (cj_it (F := K54) rfl [6] 5 _ _).trans rfl
set_option maxRecDepth 100000 in
theorem e_Choir_blockers_6 (k1 : Nat) (x1 : Int32) (x2 : Int32) (x3 : Int32) (x4 : Int32) (μ : jm) : evj 54 6 [jR 1 50, jR 8 k1, jI x1, jI x2, jI x3, jI x4, jU] [] μ = (jbr (decide ((7 : Int32) ≤ x4)) (some (some (jI x3), μ)) (jbr (decide ((x1 &&& ((1 : Int32) <<< (x4 &&& 31))) = 0)) (evj 54 6 [jR 1 50, jR 8 k1, jI x1, jI x2, jI x3, jI (x4 + 1), jU] [] μ) (bI (cj 48 [jR 1 50, jR 8 k1, jI (x1 &&& ((x1 &&& ((1 : Int32) <<< (x4 &&& 31))) ^^^ (-1 : Int32))), jI x2] μ) (fun r1 m1 => jbr (decide (¬ r1 = 0)) (evj 54 6 [jR 1 50, jR 8 k1, jI x1, jI x2, jI x3, jI (x4 + 1), jU] [] m1) (evj 54 6 [jR 1 50, jR 8 k1, jI x1, jI x2, jI (x3 ||| (x1 &&& ((1 : Int32) <<< (x4 &&& 31)))), jI (x4 + 1), jU] [] m1))))) :=
  (evj_s (F := K54) rfl [6] 28 rfl).trans rfl
set_option maxRecDepth 100000 in
theorem e_Choir_setsSwungBy (k1 : Nat) (x2 : Int32) (x3 : Int32) (x4 : Int32) (μ : jm) : cj 55 [jR 1 50, jR 8 k1, jI x2, jI x3, jI x4] μ = (evj 55 19 [jR 1 50, jR 8 k1, jU, jU, jI x4, jI ((1 : Int32) <<< (x3 &&& 31)), jI (x2 &&& (((1 : Int32) <<< (x3 &&& 31)) ^^^ (-1 : Int32))), jI (0 : Int32), jI (0 : Int32), jU] [] μ) :=
  (cj_it (F := K55) rfl [19, 41] 15 _ _).trans rfl
set_option maxRecDepth 100000 in
theorem e_Choir_setsSwungBy_19 (k1 : Nat) (x1 : Int32) (x2 : Int32) (x3 : Int32) (x4 : Int32) (x5 : Int32) (μ : jm) : evj 55 19 [jR 1 50, jR 8 k1, jU, jU, jI x1, jI x2, jI x3, jI x4, jI x5, jU] [] μ = (jbr (decide (x3 < x5)) (some (some (jI x4), μ)) (jbr (decide (¬ (x5 &&& (x3 ^^^ (-1 : Int32))) = 0)) (evj 55 41 [jR 1 50, jR 8 k1, jU, jU, jI x1, jI x2, jI x3, jI x4, jI x5, jU] [jI (0 : Int32)] μ) (evj 55 41 [jR 1 50, jR 8 k1, jU, jU, jI x1, jI x2, jI x3, jI x4, jI x5, jU] [jI (1 : Int32)] μ))) :=
  (evj_s (F := K55) rfl [19, 41] 12 rfl).trans rfl
set_option maxRecDepth 100000 in
theorem e_Choir_setsSwungBy_41 (k1 : Nat) (x1 : Int32) (x2 : Int32) (x3 : Int32) (x4 : Int32) (x5 : Int32) (x6 : Int32) (μ : jm) : evj 55 41 [jR 1 50, jR 8 k1, jU, jU, jI x1, jI x2, jI x3, jI x4, jI x5, jU] [jI x6] μ = (jbr (decide (x6 = 0)) (evj 55 19 [jR 1 50, jR 8 k1, jU, jU, jI x1, jI x2, jI x3, jI x4, jI (x5 + 1), jU] [] μ) (bI (cj 48 [jR 1 50, jR 8 k1, jI x5, jI x1] μ) (fun r1 m1 => jbr (decide (¬ r1 = 0)) (evj 55 19 [jR 1 50, jR 8 k1, jU, jU, jI x1, jI x2, jI x3, jI x4, jI (x5 + 1), jU] [] m1) (bI (cj 48 [jR 1 50, jR 8 k1, jI (x5 ||| x2), jI x1] m1) (fun r2 m2 => jbr (decide (r2 = 0)) (evj 55 19 [jR 1 50, jR 8 k1, jU, jU, jI x1, jI x2, jI x3, jI x4, jI (x5 + 1), jU] [] m2) (evj 55 19 [jR 1 50, jR 8 k1, jU, jU, jI x1, jI x2, jI x3, jI (x4 + 1), jI (x5 + 1), jU] [] m2)))))) :=
  (evj_s (F := K55) rfl [19, 41] 21 rfl).trans rfl
set_option maxRecDepth 100000 in
theorem e_Choir_bestCouple (k1 : Nat) (k2 : Nat) (x3 : Int32) (μ : jm) : cj 56 [jR 1 50, jR 8 k1, jR 8 k2, jI x3] μ = (bV (cj 28 [jR 8 k2, jR 8 k1] μ) (fun m1 => evj 56 14 [jR 1 50, jR 8 k1, jR 8 k2, jI x3, jI (-1 : Int32), jI (-1 : Int32), jI (0 : Int32), jU, jU, jU] [] m1)) :=
  (cj_it (F := K56) rfl [14, 27, 58, 59] 10 _ _).trans rfl
set_option maxRecDepth 100000 in
theorem e_Choir_bestCouple_14 (k1 : Nat) (k2 : Nat) (x2 : Int32) (x3 : Int32) (x4 : Int32) (x5 : Int32) (μ : jm) : evj 56 14 [jR 1 50, jR 8 k1, jR 8 k2, jI x2, jI x3, jI x4, jI x5, jU, jU, jU] [] μ = (jbr (decide ((7 : Int32) ≤ x5)) (some (some (jI x3), μ)) (evj 56 27 [jR 1 50, jR 8 k1, jR 8 k2, jI x2, jI x3, jI x4, jI x5, jI (x5 + (1 : Int32)), jU, jU] [] μ)) :=
  (evj_s (F := K56) rfl [14, 27, 58, 59] 8 rfl).trans rfl
set_option maxRecDepth 100000 in
theorem e_Choir_bestCouple_27 (k1 : Nat) (k2 : Nat) (x2 : Int32) (x3 : Int32) (x4 : Int32) (x5 : Int32) (x6 : Int32) (μ : jm) : evj 56 27 [jR 1 50, jR 8 k1, jR 8 k2, jI x2, jI x3, jI x4, jI x5, jI x6, jU, jU] [] μ = (jbr (decide ((7 : Int32) ≤ x6)) (evj 56 14 [jR 1 50, jR 8 k1, jR 8 k2, jI x2, jI x3, jI x4, jI (x5 + 1), jU, jU, jU] [] μ) (bI (cj 25 [jR 8 k1, jI x5, jI x2] μ) (fun r1 m1 => jbr (decide (r1 = 0)) (evj 56 58 [jR 1 50, jR 8 k1, jR 8 k2, jI x2, jI x3, jI x4, jI x5, jI x6, jU, jU] [] m1) (bI (cj 25 [jR 8 k1, jI x6, jI x2] m1) (fun r2 m2 => jbr (decide (r2 = 0)) (evj 56 58 [jR 1 50, jR 8 k1, jR 8 k2, jI x2, jI x3, jI x4, jI x5, jI x6, jU, jU] [] m2) (evj 56 59 [jR 1 50, jR 8 k1, jR 8 k2, jI x2, jI x3, jI x4, jI x5, jI x6, jU, jU] [jI (1 : Int32)] m2)))))) :=
  (evj_s (F := K56) rfl [14, 27, 58, 59] 16 rfl).trans rfl
set_option maxRecDepth 100000 in
theorem e_Choir_bestCouple_58 (k1 : Nat) (k2 : Nat) (x2 : Int32) (x3 : Int32) (x4 : Int32) (x5 : Int32) (x6 : Int32) (μ : jm) : evj 56 58 [jR 1 50, jR 8 k1, jR 8 k2, jI x2, jI x3, jI x4, jI x5, jI x6, jU, jU] [] μ = (evj 56 59 [jR 1 50, jR 8 k1, jR 8 k2, jI x2, jI x3, jI x4, jI x5, jI x6, jU, jU] [jI (0 : Int32)] μ) :=
  (evj_s (F := K56) rfl [14, 27, 58, 59] 2 rfl).trans rfl
set_option maxRecDepth 100000 in
theorem e_Choir_bestCouple_59 (k1 : Nat) (k2 : Nat) (x2 : Int32) (x3 : Int32) (x4 : Int32) (x5 : Int32) (x6 : Int32) (x7 : Int32) (μ : jm) : evj 56 59 [jR 1 50, jR 8 k1, jR 8 k2, jI x2, jI x3, jI x4, jI x5, jI x6, jU, jU] [jI x7] μ = (jbr (decide (x7 = 0)) (evj 56 27 [jR 1 50, jR 8 k1, jR 8 k2, jI x2, jI x3, jI x4, jI x5, jI (x6 + 1), jU, jU] [] μ) (jgd (inB x5 7) (jbr (decide (¬ (gI μ (k1 + 6) (ix x5)) = x6)) (bV (cj 29 [jR 8 k2, jR 8 k1] μ) (fun m1 => bV (cj 40 [jR 8 k2, jI x5, jI x6] m1) (fun m2 => bI (cj 51 [jR 1 50, jR 8 k2, jI x2] m2) (fun r3 m3 => bI (cj 0 [jI r3] m3) (fun r4 m4 => jbr (decide (r4 ≤ x4)) (evj 56 27 [jR 1 50, jR 8 k1, jR 8 k2, jI x2, jI x3, jI x4, jI x5, jI (x6 + 1), jU, jU] [] m4) (evj 56 27 [jR 1 50, jR 8 k1, jR 8 k2, jI x2, jI (((10 : Int32) * x5) + x6), jI r4, jI x5, jI (x6 + 1), jU, jU] [] m4)))))) (evj 56 27 [jR 1 50, jR 8 k1, jR 8 k2, jI x2, jI x3, jI x4, jI x5, jI (x6 + 1), jU, jU] [] μ)))) :=
  (evj_s (F := K56) rfl [14, 27, 58, 59] 36 rfl).trans rfl
set_option maxRecDepth 100000 in
theorem e_Errand_seek (k1 : Nat) (x3 : Int32) (μ : jm) : cj 57 [jR 2 53, jR 8 k1, jR 1 50, jI x3] μ = (bV (cj 58 [jR 2 53, jR 8 k1] μ) (fun m1 => bI (cj 35 [jR 8 k1] (sI m1 53 1 (-1 : Int32))) (fun r2 m2 => evj 57 27 [jR 2 53, jR 8 k1, jR 1 50, jI x3, jI r2, jI ((1 : Int32) <<< ((gI m2 k1 6) &&& 31)), jI (0 : Int32), jU, jU] [] m2))) :=
  (cj_it (F := K57) rfl [27, 108, 127] 17 _ _).trans rfl
set_option maxRecDepth 100000 in
theorem e_Errand_seek_27 (k1 : Nat) (x1 : Int32) (x2 : Int32) (x3 : Int32) (x4 : Int32) (μ : jm) : evj 57 27 [jR 2 53, jR 8 k1, jR 1 50, jI x1, jI x2, jI x3, jI x4, jU, jU] [] μ = (jbr (decide (x3 ≤ x4)) (jbr (decide ((gI μ 53 1) = (-1 : Int32))) (evj 57 127 [jU, jU, jU, jU, jU, jU, jU, jU, jU] [jI (0 : Int32)] μ) (evj 57 127 [jU, jU, jU, jU, jU, jU, jU, jU, jU] [jI (1 : Int32)] μ)) (bI (cj 60 [jR 2 53, jR 8 k1, jI x4, jI x1] μ) (fun r1 m1 => jbr (decide (¬ r1 = (-1 : Int32))) (bI (cj 61 [jR 2 53, jR 8 k1, jI r1, jI x4, jI x1] m1) (fun r2 m2 => bI (cj 62 [jR 2 53, jI r2, jI r1, jI x4] m2) (fun r3 m3 => jbr (decide (r3 = 0)) (evj 57 108 [jR 2 53, jR 8 k1, jR 1 50, jI x1, jI x2, jI x3, jI x4, jU, jU] [] m3) (bI (cj 53 [jR 1 50, jR 8 k1, jI x4, jI x2] m3) (fun r4 m4 => jbr (decide (r4 = 0)) (evj 57 108 [jR 2 53, jR 8 k1, jR 1 50, jI x1, jI x2, jI x3, jI x4, jU, jU] [] m4) (evj 57 108 [jR 2 53, jR 8 k1, jR 1 50, jI x1, jI x2, jI x3, jI x4, jU, jU] [] (sI (sI (sI m4 53 1 r2) 53 2 r1) 53 3 x4))))))) (evj 57 108 [jR 2 53, jR 8 k1, jR 1 50, jI x1, jI x2, jI x3, jI x4, jU, jU] [] m1)))) :=
  (evj_s (F := K57) rfl [27, 108, 127] 41 rfl).trans rfl
set_option maxRecDepth 100000 in
theorem e_Errand_seek_108 (k1 : Nat) (x1 : Int32) (x2 : Int32) (x3 : Int32) (x4 : Int32) (μ : jm) : evj 57 108 [jR 2 53, jR 8 k1, jR 1 50, jI x1, jI x2, jI x3, jI x4, jU, jU] [] μ = (evj 57 27 [jR 2 53, jR 8 k1, jR 1 50, jI x1, jI x2, jI x3, jI (x4 + 1), jU, jU] [] μ) :=
  (evj_s (F := K57) rfl [27, 108, 127] 3 rfl).trans rfl
set_option maxRecDepth 100000 in
theorem e_Errand_seek_127 (x0 : Int32) (μ : jm) : evj 57 127 [jU, jU, jU, jU, jU, jU, jU, jU, jU] [jI x0] μ = (some (some (jI (x0 &&& 1)), μ)) :=
  (evj_s (F := K57) rfl [27, 108, 127] 2 rfl).trans rfl
set_option maxRecDepth 100000 in
theorem e_Errand_measure (k1 : Nat) (μ : jm) : cj 58 [jR 2 53, jR 8 k1] μ = (evj 58 2 [jR 2 53, jR 8 k1, jI (0 : Int32), jU, jU] [] μ) :=
  (cj_it (F := K58) rfl [2, 10, 41] 3 _ _).trans rfl
set_option maxRecDepth 100000 in
theorem e_Errand_measure_2 (k1 : Nat) (x1 : Int32) (μ : jm) : evj 58 2 [jR 2 53, jR 8 k1, jI x1, jU, jU] [] μ = (jbr (decide ((6 : Int32) ≤ x1)) (some (none, μ)) (evj 58 10 [jR 2 53, jR 8 k1, jI x1, jI (0 : Int32), jU] [] μ)) :=
  (evj_s (F := K58) rfl [2, 10, 41] 6 rfl).trans rfl
set_option maxRecDepth 100000 in
theorem e_Errand_measure_10 (k1 : Nat) (x1 : Int32) (x2 : Int32) (μ : jm) : evj 58 10 [jR 2 53, jR 8 k1, jI x1, jI x2, jU] [] μ = (jbr (decide ((6 : Int32) ≤ x2)) (evj 58 41 [jR 2 53, jR 8 k1, jI x1, jI ((1 : Int32) <<< (x1 &&& 31)), jI (0 : Int32)] [] μ) (jgd (inB ((x1 * (6 : Int32)) + x2) 36) (evj 58 10 [jR 2 53, jR 8 k1, jI x1, jI (x2 + 1), jU] [] (sI μ 54 (ix ((x1 * (6 : Int32)) + x2)) (-1 : Int32))))) :=
  (evj_s (F := K58) rfl [2, 10, 41] 15 rfl).trans rfl
set_option maxRecDepth 100000 in
theorem e_Errand_measure_41 (k1 : Nat) (x1 : Int32) (x2 : Int32) (x3 : Int32) (μ : jm) : evj 58 41 [jR 2 53, jR 8 k1, jI x1, jI x2, jI x3] [] μ = (jbr (decide ((6 : Int32) ≤ x3)) (evj 58 2 [jR 2 53, jR 8 k1, jI (x1 + 1), jU, jU] [] μ) (bI (cj 59 [jR 2 53, jR 8 k1, jI x1, jI x2, jI x3] μ) (fun r1 m1 => evj 58 41 [jR 2 53, jR 8 k1, jI x1, jI r1, jI (x3 + 1)] [] m1))) :=
  (evj_s (F := K58) rfl [2, 10, 41] 13 rfl).trans rfl
set_option maxRecDepth 100000 in
theorem e_Errand_spreadOnce (k1 : Nat) (x2 : Int32) (x3 : Int32) (x4 : Int32) (μ : jm) : cj 59 [jR 2 53, jR 8 k1, jI x2, jI x3, jI x4] μ = (evj 59 6 [jR 2 53, jR 8 k1, jI x2, jI x3, jI x4, jI x3, jI (0 : Int32), jU] [] μ) :=
  (cj_it (F := K59) rfl [6] 5 _ _).trans rfl
set_option maxRecDepth 100000 in
theorem e_Errand_spreadOnce_6 (k1 : Nat) (x1 : Int32) (x2 : Int32) (x3 : Int32) (x4 : Int32) (x5 : Int32) (μ : jm) : evj 59 6 [jR 2 53, jR 8 k1, jI x1, jI x2, jI x3, jI x4, jI x5, jU] [] μ = (jbr (decide ((6 : Int32) ≤ x5)) (some (some (jI x4), μ)) (jbr (decide (((x2 >>> (x5 &&& 31)) &&& (1 : Int32)) = 0)) (evj 59 6 [jR 2 53, jR 8 k1, jI x1, jI x2, jI x3, jI x4, jI (x5 + 1), jU] [] μ) (jgd (inB ((x1 * (6 : Int32)) + x5) 36) (jbr (decide (¬ (gI μ 54 (ix ((x1 * (6 : Int32)) + x5))) = (-1 : Int32))) (evj 59 6 [jR 2 53, jR 8 k1, jI x1, jI x2, jI x3, jI x4, jI (x5 + 1), jU] [] μ) (jgd (inB ((x1 * (6 : Int32)) + x5) 36) (jgd (inB x5 6) (evj 59 6 [jR 2 53, jR 8 k1, jI x1, jI x2, jI x3, jI (x4 ||| (gI (sI μ 54 (ix ((x1 * (6 : Int32)) + x5)) x3) (k1 + 1) (ix x5))), jI (x5 + 1), jU] [] (sI μ 54 (ix ((x1 * (6 : Int32)) + x5)) x3)))))))) :=
  (evj_s (F := K59) rfl [6] 36 rfl).trans rfl
set_option maxRecDepth 100000 in
theorem e_Errand_nearestRoom (k1 : Nat) (x2 : Int32) (x3 : Int32) (μ : jm) : cj 60 [jR 2 53, jR 8 k1, jI x2, jI x3] μ = (evj 60 9 [jR 2 53, jR 8 k1, jI x2, jI x3, jI (-1 : Int32), jI (0 : Int32), jI (0 : Int32), jU] [] μ) :=
  (cj_it (F := K60) rfl [9] 7 _ _).trans rfl
set_option maxRecDepth 100000 in
theorem e_Errand_nearestRoom_9 (k1 : Nat) (x1 : Int32) (x2 : Int32) (x3 : Int32) (x4 : Int32) (x5 : Int32) (μ : jm) : evj 60 9 [jR 2 53, jR 8 k1, jI x1, jI x2, jI x3, jI x4, jI x5, jU] [] μ = (jbr (decide ((6 : Int32) ≤ x5)) (some (some (jI x3), μ)) (bI (cj 61 [jR 2 53, jR 8 k1, jI x5, jI x1, jI x2] μ) (fun r1 m1 => jbr (decide (r1 = (-1 : Int32))) (evj 60 9 [jR 2 53, jR 8 k1, jI x1, jI x2, jI x3, jI x4, jI (x5 + 1), jU] [] m1) (jbr (decide (x3 = (-1 : Int32))) (evj 60 9 [jR 2 53, jR 8 k1, jI x1, jI x2, jI x5, jI r1, jI (x5 + 1), jU] [] m1) (jbr (decide (x4 ≤ r1)) (evj 60 9 [jR 2 53, jR 8 k1, jI x1, jI x2, jI x3, jI x4, jI (x5 + 1), jU] [] m1) (evj 60 9 [jR 2 53, jR 8 k1, jI x1, jI x2, jI x5, jI r1, jI (x5 + 1), jU] [] m1)))))) :=
  (evj_s (F := K60) rfl [9] 26 rfl).trans rfl
set_option maxRecDepth 100000 in
theorem e_Errand_stepsTo (k1 : Nat) (x2 : Int32) (x3 : Int32) (x4 : Int32) (μ : jm) : cj 61 [jR 2 53, jR 8 k1, jI x2, jI x3, jI x4] μ = (evj 61 6 [jR 2 53, jR 8 k1, jI x2, jI x3, jI x4, jI (0 : Int32), jI (0 : Int32), jU] [] μ) :=
  (cj_it (F := K61) rfl [6] 5 _ _).trans rfl
set_option maxRecDepth 100000 in
theorem e_Errand_stepsTo_6 (k1 : Nat) (x1 : Int32) (x2 : Int32) (x3 : Int32) (x4 : Int32) (x5 : Int32) (μ : jm) : evj 61 6 [jR 2 53, jR 8 k1, jI x1, jI x2, jI x3, jI x4, jI x5, jU] [] μ = (jbr (decide ((gI μ k1 6) ≤ x5)) (some (some (jI x4), μ)) (jbr (decide (((x2 >>> (x5 &&& 31)) &&& (1 : Int32)) = 0)) (evj 61 6 [jR 2 53, jR 8 k1, jI x1, jI x2, jI x3, jI x4, jI (x5 + 1), jU] [] μ) (jgd (inB x5 7) (jgd (inB (((gI μ (k1 + 5) (ix x5)) * (6 : Int32)) + x1) 36) (jbr (decide ((gI μ 54 (ix (((gI μ (k1 + 5) (ix x5)) * (6 : Int32)) + x1))) = (-1 : Int32))) (some (some (jI (-1 : Int32)), μ)) (jbr (decide ((gI μ 54 (ix (((gI μ (k1 + 5) (ix x5)) * (6 : Int32)) + x1))) ≤ x3)) (evj 61 6 [jR 2 53, jR 8 k1, jI x1, jI x2, jI x3, jI (x4 + (gI μ 54 (ix (((gI μ (k1 + 5) (ix x5)) * (6 : Int32)) + x1)))), jI (x5 + 1), jU] [] μ) (some (some (jI (-1 : Int32)), μ)))))))) :=
  (evj_s (F := K61) rfl [6] 35 rfl).trans rfl
set_option maxRecDepth 100000 in
theorem e_Errand_isBetter (x1 : Int32) (x2 : Int32) (x3 : Int32) (μ : jm) : cj 62 [jR 2 53, jI x1, jI x2, jI x3] μ = (jbr (decide ((gI μ 53 1) = (-1 : Int32))) (evj 62 16 [jR 2 53, jI x1, jU, jU] [] μ) (jbr (decide (x1 = (gI μ 53 1))) (jbr (decide (x2 = (gI μ 53 2))) (bI (cj 0 [jI x3] μ) (fun r1 m1 => bI (cj 0 [jI (gI m1 53 3)] m1) (fun r2 m2 => jbr (decide (r2 ≤ r1)) (evj 62 79 [jU, jU, jU, jU] [jI (0 : Int32)] m2) (evj 62 79 [jU, jU, jU, jU] [jI (1 : Int32)] m2)))) (jbr (decide ((gI μ 53 2) ≤ x2)) (evj 62 59 [jU, jU, jU, jU] [jI (0 : Int32)] μ) (evj 62 59 [jU, jU, jU, jU] [jI (1 : Int32)] μ))) (evj 62 16 [jR 2 53, jI x1, jU, jU] [] μ))) :=
  (cj_it (F := K62) rfl [16, 59, 79] 21 _ _).trans rfl
set_option maxRecDepth 100000 in
theorem e_Errand_isBetter_16 (x0 : Int32) (μ : jm) : evj 62 16 [jR 2 53, jI x0, jU, jU] [] μ = (jbr (decide ((gI μ 53 1) = (-1 : Int32))) (some (some (jI ((1 : Int32) &&& 1)), μ)) (jbr (decide ((gI μ 53 1) ≤ x0)) (some (some (jI ((0 : Int32) &&& 1)), μ)) (some (some (jI ((1 : Int32) &&& 1)), μ)))) :=
  (evj_s (F := K62) rfl [16, 59, 79] 12 rfl).trans rfl
set_option maxRecDepth 100000 in
theorem e_Errand_isBetter_59 (x0 : Int32) (μ : jm) : evj 62 59 [jU, jU, jU, jU] [jI x0] μ = (some (some (jI (x0 &&& 1)), μ)) :=
  (evj_s (F := K62) rfl [16, 59, 79] 2 rfl).trans rfl
set_option maxRecDepth 100000 in
theorem e_Errand_isBetter_79 (x0 : Int32) (μ : jm) : evj 62 79 [jU, jU, jU, jU] [jI x0] μ = (some (some (jI (x0 &&& 1)), μ)) :=
  (evj_s (F := K62) rfl [16, 59, 79] 2 rfl).trans rfl
set_option maxRecDepth 100000 in
theorem e_Fog_confuses (x0 : Int32) (x1 : Int32) (x2 : Int32) (μ : jm) : cj 63 [jI x0, jI x1, jI x2] μ = (evj 63 5 [jI x0, jI x1, jI x2, jI (1 : Int32), jI (0 : Int32), jU] [] μ) :=
  (cj_it (F := K63) rfl [5] 5 _ _).trans rfl
set_option maxRecDepth 100000 in
theorem e_Fog_confuses_5 (x0 : Int32) (x1 : Int32) (x2 : Int32) (x3 : Int32) (x4 : Int32) (μ : jm) : evj 63 5 [jI x0, jI x1, jI x2, jI x3, jI x4, jU] [] μ = (jbr (decide ((12 : Int32) ≤ x4)) (bI (cj 14 [jI x3] μ) (fun r1 m1 => some (some (jI (r1 &&& 1)), m1))) (jbr (decide ((x0 &&& ((1 : Int32) <<< (x4 &&& 31))) = 0)) (evj 63 5 [jI x0, jI x1, jI x2, jI x3, jI (x4 + 1), jU] [] μ) (bI (cj 12 [jI (x0 &&& ((1 : Int32) <<< (x4 &&& 31))), jI x2] μ) (fun r2 m2 => bI (cj 13 [jI x3, jI r2, jI x1] m2) (fun r3 m3 => evj 63 5 [jI x0, jI x1, jI x2, jI r3, jI (x4 + 1), jU] [] m3))))) :=
  (evj_s (F := K63) rfl [5] 21 rfl).trans rfl
set_option maxRecDepth 100000 in
theorem e_Fog_leastToGo (k1 : Nat) (x2 : Int32) (μ : jm) : cj 64 [jR 3 55, jR 8 k1, jI x2] μ = (bV (cj 65 [jR 3 55, jR 8 k1, jI x2] μ) (fun m1 => evj 64 21 [jR 3 55, jU, jU, jI (((1 : Int32) <<< ((gI m1 k1 9) &&& 31)) - (1 : Int32)), jI (((1 : Int32) <<< ((gI m1 k1 9) &&& 31)) - (1 : Int32)), jI (0 : Int32)] [] m1)) :=
  (cj_it (F := K64) rfl [21] 16 _ _).trans rfl
set_option maxRecDepth 100000 in
theorem e_Fog_leastToGo_21 (x0 : Int32) (x1 : Int32) (x2 : Int32) (μ : jm) : evj 64 21 [jR 3 55, jU, jU, jI x0, jI x1, jI x2] [] μ = (jbr (decide (x0 < x2)) (some (some (jI x1), μ)) (bI (cj 0 [jI x2] μ) (fun r1 m1 => bI (cj 0 [jI x1] m1) (fun r2 m2 => jbr (decide (r2 ≤ r1)) (evj 64 21 [jR 3 55, jU, jU, jI x0, jI x1, jI (x2 + 1)] [] m2) (bI (cj 66 [jR 3 55, jI (x0 &&& (x2 ^^^ (-1 : Int32)))] m2) (fun r3 m3 => jbr (decide (r3 = 0)) (evj 64 21 [jR 3 55, jU, jU, jI x0, jI x1, jI (x2 + 1)] [] m3) (evj 64 21 [jR 3 55, jU, jU, jI x0, jI x2, jI (x2 + 1)] [] m3))))))) :=
  (evj_s (F := K64) rfl [21] 21 rfl).trans rfl
set_option maxRecDepth 100000 in
theorem e_Fog_findRivals (k1 : Nat) (x2 : Int32) (μ : jm) : cj 65 [jR 3 55, jR 8 k1, jI x2] μ = (evj 65 2 [jR 3 55, jR 8 k1, jI x2, jI (0 : Int32), jU] [] μ) :=
  (cj_it (F := K65) rfl [2, 20] 3 _ _).trans rfl
set_option maxRecDepth 100000 in
theorem e_Fog_findRivals_2 (k1 : Nat) (x1 : Int32) (x2 : Int32) (μ : jm) : evj 65 2 [jR 3 55, jR 8 k1, jI x1, jI x2, jU] [] μ = (jbr (decide ((gI μ k1 9) ≤ x2)) (some (none, μ)) (jgd (inB x2 8) (evj 65 20 [jR 3 55, jR 8 k1, jI x1, jI x2, jI (0 : Int32)] [] (sI μ 56 (ix x2) (0 : Int32))))) :=
  (evj_s (F := K65) rfl [2, 20] 12 rfl).trans rfl
set_option maxRecDepth 100000 in
theorem e_Fog_findRivals_20 (k1 : Nat) (x1 : Int32) (x2 : Int32) (x3 : Int32) (μ : jm) : evj 65 20 [jR 3 55, jR 8 k1, jI x1, jI x2, jI x3] [] μ = (jbr (decide ((gI μ k1 9) ≤ x3)) (evj 65 2 [jR 3 55, jR 8 k1, jI x1, jI (x2 + 1), jU] [] μ) (jbr (decide (x2 = x3)) (evj 65 20 [jR 3 55, jR 8 k1, jI x1, jI x2, jI (x3 + 1)] [] μ) (jgd (inB x2 8) (jgd (inB x3 8) (bI (cj 63 [jI (gI μ (k1 + 7) (ix x2)), jI (gI μ (k1 + 7) (ix x3)), jI x1] μ) (fun r1 m1 => jbr (decide (r1 = 0)) (evj 65 20 [jR 3 55, jR 8 k1, jI x1, jI x2, jI (x3 + 1)] [] m1) (jgd (inB x2 8) (jgd (inB x2 8) (evj 65 20 [jR 3 55, jR 8 k1, jI x1, jI x2, jI (x3 + 1)] [] (sI m1 56 (ix x2) ((gI m1 56 (ix x2)) ||| ((1 : Int32) <<< (x3 &&& 31))))))))))))) :=
  (evj_s (F := K65) rfl [2, 20] 31 rfl).trans rfl
set_option maxRecDepth 100000 in
theorem e_Fog_isClear (x1 : Int32) (μ : jm) : cj 66 [jR 3 55, jI x1] μ = (evj 66 2 [jR 3 55, jI x1, jI (0 : Int32)] [] μ) :=
  (cj_it (F := K66) rfl [2] 3 _ _).trans rfl
set_option maxRecDepth 100000 in
theorem e_Fog_isClear_2 (x0 : Int32) (x1 : Int32) (μ : jm) : evj 66 2 [jR 3 55, jI x0, jI x1] [] μ = (jbr (decide ((8 : Int32) ≤ x1)) (some (some (jI ((1 : Int32) &&& 1)), μ)) (jbr (decide (((x0 >>> (x1 &&& 31)) &&& (1 : Int32)) = 0)) (evj 66 2 [jR 3 55, jI x0, jI (x1 + 1)] [] μ) (jgd (inB x1 8) (jbr (decide (((gI μ 56 (ix x1)) &&& x0) = 0)) (evj 66 2 [jR 3 55, jI x0, jI (x1 + 1)] [] μ) (some (some (jI ((0 : Int32) &&& 1)), μ)))))) :=
  (evj_s (F := K66) rfl [2] 19 rfl).trans rfl
set_option maxRecDepth 100000 in
theorem e_Rumour_spread (k1 : Nat) (x2 : Int32) (μ : jm) : cj 67 [jR 6 57, jR 8 k1, jI x2] μ = (evj 67 12 [jR 6 57, jR 8 k1, jU, jI (0 : Int32), jU, jU] [] (sI (sI μ 57 2 x2) 57 1 (0 : Int32))) :=
  (cj_it (F := K67) rfl [12, 45, 80, 89] 9 _ _).trans rfl
set_option maxRecDepth 100000 in
theorem e_Rumour_spread_12 (k1 : Nat) (x1 : Int32) (μ : jm) : evj 67 12 [jR 6 57, jR 8 k1, jU, jI x1, jU, jU] [] μ = (jbr (decide ((gI μ k1 6) ≤ x1)) (evj 67 45 [jR 6 57, jR 8 k1, jU, jI (0 : Int32), jU, jU] [] μ) (jgd (inB x1 7) (evj 67 12 [jR 6 57, jR 8 k1, jU, jI (x1 + 1), jU, jU] [] (sI μ 57 1 ((gI μ 57 1) ||| ((1 : Int32) <<< ((gI μ (k1 + 5) (ix x1)) &&& 31))))))) :=
  (evj_s (F := K67) rfl [12, 45, 80, 89] 18 rfl).trans rfl
set_option maxRecDepth 100000 in
theorem e_Rumour_spread_45 (k1 : Nat) (x1 : Int32) (μ : jm) : evj 67 45 [jR 6 57, jR 8 k1, jU, jI x1, jU, jU] [] μ = (jbr (decide ((6 : Int32) ≤ x1)) (evj 67 80 [jR 6 57, jR 8 k1, jU, jI (0 : Int32), jU, jU] [] μ) (jbr (decide (¬ x1 = (gI μ 57 2))) (jgd (inB x1 6) (evj 67 45 [jR 6 57, jR 8 k1, jU, jI (x1 + 1), jU, jU] [] (sI μ 58 (ix x1) (1000 : Int32)))) (jgd (inB x1 6) (evj 67 45 [jR 6 57, jR 8 k1, jU, jI (x1 + 1), jU, jU] [] (sI μ 58 (ix x1) (0 : Int32)))))) :=
  (evj_s (F := K67) rfl [12, 45, 80, 89] 16 rfl).trans rfl
set_option maxRecDepth 100000 in
theorem e_Rumour_spread_80 (k1 : Nat) (x1 : Int32) (μ : jm) : evj 67 80 [jR 6 57, jR 8 k1, jU, jI x1, jU, jU] [] μ = (jbr (decide ((6 : Int32) ≤ x1)) (some (none, μ)) (evj 67 89 [jR 6 57, jR 8 k1, jU, jI x1, jI (0 : Int32), jU] [] μ)) :=
  (evj_s (F := K67) rfl [12, 45, 80, 89] 6 rfl).trans rfl
set_option maxRecDepth 100000 in
theorem e_Rumour_spread_89 (k1 : Nat) (x1 : Int32) (x2 : Int32) (μ : jm) : evj 67 89 [jR 6 57, jR 8 k1, jU, jI x1, jI x2, jU] [] μ = (jbr (decide ((6 : Int32) ≤ x2)) (evj 67 80 [jR 6 57, jR 8 k1, jU, jI (x1 + 1), jU, jU] [] μ) (bI (cj 68 [jR 6 57, jR 8 k1, jI x2] μ) (fun r1 m1 => jbr (decide (r1 = (-1 : Int32))) (evj 67 89 [jR 6 57, jR 8 k1, jU, jI x1, jI (x2 + 1), jU] [] m1) (jgd (inB x2 6) (bI (cj 69 [jR 6 57, jI r1] m1) (fun r2 m2 => jgd (inB x2 6) (evj 67 89 [jR 6 57, jR 8 k1, jU, jI x1, jI (x2 + 1), jU] [] (sI m2 58 (ix x2) (if r2 < (gI m1 58 (ix x2)) then r2 else (gI m1 58 (ix x2))))))))))) :=
  (evj_s (F := K67) rfl [12, 45, 80, 89] 26 rfl).trans rfl
set_option maxRecDepth 100000 in
theorem e_Rumour_nextRoom (k1 : Nat) (x2 : Int32) (μ : jm) : cj 68 [jR 6 57, jR 8 k1, jI x2] μ = (evj 68 5 [jR 6 57, jR 8 k1, jI x2, jI (-1 : Int32), jI (0 : Int32), jU] [] μ) :=
  (cj_it (F := K68) rfl [5, 43, 44] 5 _ _).trans rfl
set_option maxRecDepth 100000 in
theorem e_Rumour_nextRoom_5 (k1 : Nat) (x1 : Int32) (x2 : Int32) (x3 : Int32) (μ : jm) : evj 68 5 [jR 6 57, jR 8 k1, jI x1, jI x2, jI x3, jU] [] μ = (jbr (decide ((6 : Int32) ≤ x3)) (some (some (jI x2), μ)) (jgd (inB x1 6) (jbr (decide ((((gI μ (k1 + 2) (ix x1)) >>> (x3 &&& 31)) &&& (1 : Int32)) = 0)) (evj 68 43 [jR 6 57, jR 8 k1, jI x1, jI x2, jI x3, jU] [] μ) (jgd (inB x3 6) (jbr (decide ((1000 : Int32) ≤ (gI μ 58 (ix x3)))) (evj 68 43 [jR 6 57, jR 8 k1, jI x1, jI x2, jI x3, jU] [] μ) (evj 68 44 [jR 6 57, jR 8 k1, jI x1, jI x2, jI x3, jU] [jI (1 : Int32)] μ)))))) :=
  (evj_s (F := K68) rfl [5, 43, 44] 21 rfl).trans rfl
set_option maxRecDepth 100000 in
theorem e_Rumour_nextRoom_43 (k1 : Nat) (x1 : Int32) (x2 : Int32) (x3 : Int32) (μ : jm) : evj 68 43 [jR 6 57, jR 8 k1, jI x1, jI x2, jI x3, jU] [] μ = (evj 68 44 [jR 6 57, jR 8 k1, jI x1, jI x2, jI x3, jU] [jI (0 : Int32)] μ) :=
  (evj_s (F := K68) rfl [5, 43, 44] 2 rfl).trans rfl
set_option maxRecDepth 100000 in
theorem e_Rumour_nextRoom_44 (k1 : Nat) (x1 : Int32) (x2 : Int32) (x3 : Int32) (x4 : Int32) (μ : jm) : evj 68 44 [jR 6 57, jR 8 k1, jI x1, jI x2, jI x3, jU] [jI x4] μ = (jbr (decide (x4 = 0)) (evj 68 5 [jR 6 57, jR 8 k1, jI x1, jI x2, jI (x3 + 1), jU] [] μ) (jbr (decide (x2 = (-1 : Int32))) (evj 68 5 [jR 6 57, jR 8 k1, jI x1, jI x3, jI (x3 + 1), jU] [] μ) (bI (cj 69 [jR 6 57, jI x3] μ) (fun r1 m1 => bI (cj 69 [jR 6 57, jI x2] m1) (fun r2 m2 => jbr (decide (r2 ≤ r1)) (evj 68 5 [jR 6 57, jR 8 k1, jI x1, jI x2, jI (x3 + 1), jU] [] m2) (evj 68 5 [jR 6 57, jR 8 k1, jI x1, jI x3, jI (x3 + 1), jU] [] m2)))))) :=
  (evj_s (F := K68) rfl [5, 43, 44] 18 rfl).trans rfl
set_option maxRecDepth 100000 in
theorem e_Rumour_costBy (x1 : Int32) (μ : jm) : cj 69 [jR 6 57, jI x1] μ = (jbr (decide (x1 = (gI μ 57 2))) (evj 69 19 [jR 6 57, jI x1, jU] [] μ) (jbr (decide ((((gI μ 57 1) >>> (x1 &&& 31)) &&& (1 : Int32)) = 0)) (jgd (inB x1 6) (jbr (decide ((0 : Int32) = 0)) (some (some (jI ((gI μ 58 (ix x1)) + (17 : Int32))), μ)) (some (some (jI ((gI μ 58 (ix x1)) + (1 : Int32))), μ)))) (evj 69 19 [jR 6 57, jI x1, jU] [] μ))) :=
  (cj_it (F := K69) rfl [19] 24 _ _).trans rfl
set_option maxRecDepth 100000 in
theorem e_Rumour_costBy_19 (x0 : Int32) (μ : jm) : evj 69 19 [jR 6 57, jI x0, jU] [] μ = (jgd (inB x0 6) (jbr (decide ((1 : Int32) = 0)) (some (some (jI ((gI μ 58 (ix x0)) + (17 : Int32))), μ)) (some (some (jI ((gI μ 58 (ix x0)) + (1 : Int32))), μ)))) :=
  (evj_s (F := K69) rfl [19] 14 rfl).trans rfl
set_option maxRecDepth 100000 in
theorem e_Rumour_sentFrom (x1 : Int32) (μ : jm) : cj 70 [jR 6 57, jI x1] μ = (jgd (inB x1 6) (jbr (decide ((gI μ 58 (ix x1)) < (1000 : Int32))) (jgd (inB x1 6) (jgd (decide (¬ (16 : Int32) = 0)) (some (some (jI ((gI μ 58 (ix x1)) / (16 : Int32))), μ)))) (some (some (jI (-1 : Int32)), μ)))) :=
  (cj_it (F := K70) rfl [] 14 _ _).trans rfl
set_option maxRecDepth 100000 in
theorem e_Rumour_roomOfRow (k1 : Nat) (x2 : Int32) (x3 : Int32) (μ : jm) : cj 71 [jR 6 57, jR 8 k1, jI x2, jI x3] μ = (jgd (inB x2 6) (jbr (decide ((gI μ 58 (ix x2)) < (1000 : Int32))) (jgd (inB x2 6) (jgd (decide (¬ (16 : Int32) = 0)) (jbr (decide (x3 ≤ ((gI μ 58 (ix x2)) - (gI μ 58 (ix x2)) / (16 : Int32) * (16 : Int32)))) (evj 71 36 [jR 6 57, jR 8 k1, jU, jI x3, jI x2, jI (0 : Int32)] [] μ) (some (some (jI (-5 : Int32)), μ))))) (some (some (jI (-1 : Int32)), μ)))) :=
  (cj_it (F := K71) rfl [36] 19 _ _).trans rfl
set_option maxRecDepth 100000 in
theorem e_Rumour_roomOfRow_36 (k1 : Nat) (x1 : Int32) (x2 : Int32) (x3 : Int32) (μ : jm) : evj 71 36 [jR 6 57, jR 8 k1, jU, jI x1, jI x2, jI x3] [] μ = (jbr (decide (x1 ≤ x3)) (some (some (jI x2), μ)) (jbr (decide (x2 = (-1 : Int32))) (some (some (jI x2), μ)) (bI (cj 68 [jR 6 57, jR 8 k1, jI x2] μ) (fun r1 m1 => evj 71 36 [jR 6 57, jR 8 k1, jU, jI x1, jI r1, jI (x3 + 1)] [] m1)))) :=
  (evj_s (F := K71) rfl [36] 14 rfl).trans rfl
set_option maxRecDepth 100000 in
theorem e_Guess_countRows (k1 : Nat) (μ : jm) : cj 72 [jR 5 59, jR 8 k1] μ = (bL (cj 73 [jR 5 59, jR 8 k1, jI (0 : Int32), jI (-1 : Int32), jI (-1 : Int32)] μ) (fun r1 m1 => some (some (jI ((r1 : Int64).toInt32)), m1))) :=
  (cj_it (F := K72) rfl [] 9 _ _).trans rfl
set_option maxRecDepth 100000 in
theorem e_Guess_sumRows (k1 : Nat) (x2 : Int32) (x3 : Int32) (x4 : Int32) (μ : jm) : cj 73 [jR 5 59, jR 8 k1, jI x2, jI x3, jI x4] μ = (bV (cj 2 [jR 2008 60, jL (0 : Int64)] μ) (fun m1 => evj 73 14 [jR 5 59, jR 8 k1, jI x2, jI x3, jI x4, jL (1 : Int64), jU, jI (0 : Int32), jU, jU, jU, jU, jU, jU] [] m1)) :=
  (cj_it (F := K73) rfl [14, 61] 9 _ _).trans rfl
set_option maxRecDepth 100000 in
theorem e_Guess_sumRows_14 (k1 : Nat) (x1 : Int32) (x2 : Int32) (x3 : Int32) (y4 : Int64) (x5 : Int32) (μ : jm) : evj 73 14 [jR 5 59, jR 8 k1, jI x1, jI x2, jI x3, jL y4, jU, jI x5, jU, jU, jU, jU, jU, jU] [] μ = (jbr (decide ((gI μ k1 14) ≤ x5)) (some (some (jL y4), μ)) (jgd (inB x5 6) (bI (cj 39 [jR 8 k1, jI (gI μ (k1 + 10) (ix x5))] μ) (fun r1 m1 => jbr (decide (¬ x5 = x2)) (evj 73 61 [jR 5 59, jR 8 k1, jI x1, jI x2, jI x3, jL (0 : Int64), jU, jI x5, jI r1, jL y4, jU, jI (0 : Int32), jU, jU] [] m1) (evj 73 61 [jR 5 59, jR 8 k1, jI x1, jI x2, jI x3, jL (0 : Int64), jU, jI x5, jI (r1 &&& ((1 : Int32) <<< (x3 &&& 31))), jL y4, jU, jI (0 : Int32), jU, jU] [] m1))))) :=
  (evj_s (F := K73) rfl [14, 61] 27 rfl).trans rfl
set_option maxRecDepth 100000 in
theorem e_Guess_sumRows_61 (k1 : Nat) (x1 : Int32) (x2 : Int32) (x3 : Int32) (y4 : Int64) (x5 : Int32) (x6 : Int32) (y7 : Int64) (x8 : Int32) (μ : jm) : evj 73 61 [jR 5 59, jR 8 k1, jI x1, jI x2, jI x3, jL y4, jU, jI x5, jI x6, jL y7, jU, jI x8, jU, jU] [] μ = (jbr (decide ((gI μ k1 9) ≤ x8)) (evj 73 14 [jR 5 59, jR 8 k1, jI x1, jI x2, jI x3, jL y4, jU, jI (x5 + 1), jU, jU, jU, jU, jU, jU] [] μ) (jbr (decide (((x6 >>> (x8 &&& 31)) &&& (1 : Int32)) = 0)) (jbr (decide (x1 = 0)) (jgd (inB x8 8) (jgd (inB x8 8) (evj 73 61 [jR 5 59, jR 8 k1, jI x1, jI x2, jI x3, jL (y4 + (gL (sL μ 60 (ix x8) (0 : Int64)) 60 (ix x8))), jU, jI x5, jI x6, jL y7, jU, jI (x8 + 1), jU, jU] [] (sL μ 60 (ix x8) (0 : Int64))))) (jgd (inB x8 8) (jgd (inB x8 8) (jgd (inB x8 8) (evj 73 61 [jR 5 59, jR 8 k1, jI x1, jI x2, jI x3, jL (y4 + (gL (sL μ 60 (ix x8) ((0 : Int64) * ((gI μ (k1 + 8) (ix x8) : Int32).toInt64))) 60 (ix x8))), jU, jI x5, jI x6, jL y7, jU, jI (x8 + 1), jU, jU] [] (sL μ 60 (ix x8) ((0 : Int64) * ((gI μ (k1 + 8) (ix x8) : Int32).toInt64)))))))) (jgd (inB x8 8) (jbr (decide (x1 = 0)) (jgd (inB x8 8) (jgd (inB x8 8) (evj 73 61 [jR 5 59, jR 8 k1, jI x1, jI x2, jI x3, jL (y4 + (gL (sL μ 60 (ix x8) (y7 - (gL μ 60 (ix x8)))) 60 (ix x8))), jU, jI x5, jI x6, jL y7, jU, jI (x8 + 1), jU, jU] [] (sL μ 60 (ix x8) (y7 - (gL μ 60 (ix x8))))))) (jgd (inB x8 8) (jgd (inB x8 8) (jgd (inB x8 8) (evj 73 61 [jR 5 59, jR 8 k1, jI x1, jI x2, jI x3, jL (y4 + (gL (sL μ 60 (ix x8) ((y7 - (gL μ 60 (ix x8))) * ((gI μ (k1 + 8) (ix x8) : Int32).toInt64))) 60 (ix x8))), jU, jI x5, jI x6, jL y7, jU, jI (x8 + 1), jU, jU] [] (sL μ 60 (ix x8) ((y7 - (gL μ 60 (ix x8))) * ((gI μ (k1 + 8) (ix x8) : Int32).toInt64))))))))))) :=
  (evj_s (F := K73) rfl [14, 61] 42 rfl).trans rfl
set_option maxRecDepth 100000 in
theorem e_Guess_weighRows (k1 : Nat) (x2 : Int32) (x3 : Int32) (μ : jm) : cj 74 [jR 5 59, jR 8 k1, jI x2, jI x3] μ = (bL (cj 73 [jR 5 59, jR 8 k1, jI (1 : Int32), jI x2, jI x3] μ) (fun r1 m1 => some (some (jL r1), m1))) :=
  (cj_it (F := K74) rfl [] 8 _ _).trans rfl
set_option maxRecDepth 100000 in
theorem e_Chant_learn (k1 : Nat) (x2 : Int32) (x3 : Int32) (μ : jm) : cj 75 [jR 0 61, jR 8 k1, jI x2, jI x3] μ = (bV (cj 76 [jR 0 61, jR 8 k1, jI x3] (sI μ 61 2 x2)) (fun m1 => evj 75 14 [jR 0 61, jU, jI x2, jU, jI (1 : Int32), jU] [] m1)) :=
  (cj_it (F := K75) rfl [14, 32] 10 _ _).trans rfl
set_option maxRecDepth 100000 in
theorem e_Chant_learn_14 (x0 : Int32) (x1 : Int32) (μ : jm) : evj 75 14 [jR 0 61, jU, jI x0, jU, jI x1, jU] [] μ = (jbr (decide (x0 < x1)) (some (none, μ)) (jbr (decide (¬ (x1 &&& (x0 ^^^ (-1 : Int32))) = 0)) (evj 75 14 [jR 0 61, jU, jI x0, jU, jI (x1 + 1), jU] [] μ) (evj 75 32 [jR 0 61, jU, jI x0, jU, jI x1, jI (0 : Int32)] [] μ))) :=
  (evj_s (F := K75) rfl [14, 32] 12 rfl).trans rfl
set_option maxRecDepth 100000 in
theorem e_Chant_learn_32 (x0 : Int32) (x1 : Int32) (x2 : Int32) (μ : jm) : evj 75 32 [jR 0 61, jU, jI x0, jU, jI x1, jI x2] [] μ = (jbr (decide ((7 : Int32) ≤ x2)) (evj 75 14 [jR 0 61, jU, jI x0, jU, jI (x1 + 1), jU] [] μ) (bI (cj 77 [jR 0 61, jI x1, jI x2] μ) (fun r1 m1 => jgd (inB ((x1 * (7 : Int32)) + x2) 896) (evj 75 32 [jR 0 61, jU, jI x0, jU, jI x1, jI (x2 + 1)] [] (sI m1 62 (ix ((x1 * (7 : Int32)) + x2)) r1))))) :=
  (evj_s (F := K75) rfl [14, 32] 18 rfl).trans rfl
set_option maxRecDepth 100000 in
theorem e_Chant_findNeighbours (k1 : Nat) (x2 : Int32) (μ : jm) : cj 76 [jR 0 61, jR 8 k1, jI x2] μ = (evj 76 2 [jR 0 61, jR 8 k1, jI x2, jI (0 : Int32), jU, jU] [] μ) :=
  (cj_it (F := K76) rfl [2, 18] 3 _ _).trans rfl
set_option maxRecDepth 100000 in
theorem e_Chant_findNeighbours_2 (k1 : Nat) (x1 : Int32) (x2 : Int32) (μ : jm) : evj 76 2 [jR 0 61, jR 8 k1, jI x1, jI x2, jU, jU] [] μ = (jbr (decide ((7 : Int32) ≤ x2)) (some (none, μ)) (jgd (inB x2 7) (evj 76 18 [jR 0 61, jR 8 k1, jI x1, jI x2, jI (0 : Int32), jU] [] (sI μ 63 (ix x2) (0 : Int32))))) :=
  (evj_s (F := K76) rfl [2, 18] 11 rfl).trans rfl
set_option maxRecDepth 100000 in
theorem e_Chant_findNeighbours_18 (k1 : Nat) (x1 : Int32) (x2 : Int32) (x3 : Int32) (μ : jm) : evj 76 18 [jR 0 61, jR 8 k1, jI x1, jI x2, jI x3, jU] [] μ = (jbr (decide ((gI μ k1 6) ≤ x2)) (evj 76 2 [jR 0 61, jR 8 k1, jI x1, jI (x2 + 1), jU, jU] [] μ) (jbr (decide ((gI μ k1 6) ≤ x3)) (evj 76 2 [jR 0 61, jR 8 k1, jI x1, jI (x2 + 1), jU, jU] [] μ) (jgd (inB x2 7) (bI (cj 12 [jI ((1 : Int32) <<< ((gI μ (k1 + 4) (ix x2)) &&& 31)), jI x1] μ) (fun r1 m1 => jgd (inB x3 7) (jbr (decide (((r1 >>> ((gI m1 (k1 + 4) (ix x3)) &&& 31)) &&& (1 : Int32)) = 0)) (evj 76 18 [jR 0 61, jR 8 k1, jI x1, jI x2, jI (x3 + 1), jU] [] m1) (jgd (inB x2 7) (jgd (inB x2 7) (evj 76 18 [jR 0 61, jR 8 k1, jI x1, jI x2, jI (x3 + 1), jU] [] (sI m1 63 (ix x2) ((gI m1 63 (ix x2)) ||| ((1 : Int32) <<< (x3 &&& 31))))))))))))) :=
  (evj_s (F := K76) rfl [2, 18] 39 rfl).trans rfl
set_option maxRecDepth 100000 in
theorem e_Chant_ordersFrom (x1 : Int32) (x2 : Int32) (μ : jm) : cj 77 [jR 0 61, jI x1, jI x2] μ = (jbr (decide (¬ ((x1 >>> (x2 &&& 31)) &&& (1 : Int32)) = 0)) (jbr (decide (¬ (x1 &&& (((1 : Int32) <<< (x2 &&& 31)) ^^^ (-1 : Int32))) = 0)) (jgd (inB x2 7) (bI (cj 78 [jR 0 61, jI (x1 &&& (((1 : Int32) <<< (x2 &&& 31)) ^^^ (-1 : Int32))), jI ((x1 &&& (((1 : Int32) <<< (x2 &&& 31)) ^^^ (-1 : Int32))) &&& (gI μ 63 (ix x2)))] μ) (fun r1 m1 => some (some (jI r1), m1)))) (some (some (jI (1 : Int32)), μ))) (some (some (jI (0 : Int32)), μ))) :=
  (cj_it (F := K77) rfl [] 27 _ _).trans rfl
set_option maxRecDepth 100000 in
theorem e_Chant_ordersAmong (x1 : Int32) (x2 : Int32) (μ : jm) : cj 78 [jR 0 61, jI x1, jI x2] μ = (evj 78 5 [jR 0 61, jI x1, jI x2, jI (0 : Int32), jI (0 : Int32)] [] μ) :=
  (cj_it (F := K78) rfl [5] 5 _ _).trans rfl
set_option maxRecDepth 100000 in
theorem e_Chant_ordersAmong_5 (x0 : Int32) (x1 : Int32) (x2 : Int32) (x3 : Int32) (μ : jm) : evj 78 5 [jR 0 61, jI x0, jI x1, jI x2, jI x3] [] μ = (jbr (decide ((7 : Int32) ≤ x3)) (some (some (jI x2), μ)) (jbr (decide (((x1 >>> (x3 &&& 31)) &&& (1 : Int32)) = 0)) (evj 78 5 [jR 0 61, jI x0, jI x1, jI x2, jI (x3 + 1)] [] μ) (jgd (inB ((x0 * (7 : Int32)) + x3) 896) (evj 78 5 [jR 0 61, jI x0, jI x1, jI (x2 + (gI μ 62 (ix ((x0 * (7 : Int32)) + x3)))), jI (x3 + 1)] [] μ)))) :=
  (evj_s (F := K78) rfl [5] 23 rfl).trans rfl
set_option maxRecDepth 100000 in
theorem e_Chant_orders  (μ : jm) : cj 79 [jR 0 61] μ = (jbr (decide (¬ (gI μ 61 2) = 0)) (bI (cj 78 [jR 0 61, jI (gI μ 61 2), jI (gI μ 61 2)] μ) (fun r1 m1 => some (some (jI r1), m1))) (some (some (jI (1 : Int32)), μ))) :=
  (cj_it (F := K79) rfl [] 11 _ _).trans rfl
set_option maxRecDepth 100000 in
theorem e_Chant_placeInFirst (x1 : Int32) (μ : jm) : cj 80 [jR 0 61, jI x1] μ = (bI (cj 0 [jI (gI μ 61 2)] μ) (fun r1 m1 => jbr (decide (r1 ≤ x1)) (some (some (jI (-5 : Int32)), m1)) (bI (cj 79 [jR 0 61] m1) (fun r2 m2 => jbr (decide (¬ r2 = 0)) (evj 80 37 [jR 0 61, jI x1, jI (gI m2 61 2), jI (gI m2 61 2), jI (-1 : Int32), jI (0 : Int32)] [] m2) (some (some (jI (-5 : Int32)), m2)))))) :=
  (cj_it (F := K80) rfl [37] 19 _ _).trans rfl
set_option maxRecDepth 100000 in
theorem e_Chant_placeInFirst_37 (x0 : Int32) (x1 : Int32) (x2 : Int32) (x3 : Int32) (x4 : Int32) (μ : jm) : evj 80 37 [jR 0 61, jI x0, jI x1, jI x2, jI x3, jI x4] [] μ = (jbr (decide (x0 < x4)) (some (some (jI x3), μ)) (bI (cj 81 [jR 0 61, jI x1, jI x2] μ) (fun r1 m1 => jbr (decide (¬ r1 = (-1 : Int32))) (jgd (inB r1 7) (evj 80 37 [jR 0 61, jI x0, jI (x1 &&& (((1 : Int32) <<< (r1 &&& 31)) ^^^ (-1 : Int32))), jI ((x1 &&& (((1 : Int32) <<< (r1 &&& 31)) ^^^ (-1 : Int32))) &&& (gI m1 63 (ix r1))), jI r1, jI (x4 + 1)] [] m1)) (some (some (jI (-5 : Int32)), m1))))) :=
  (evj_s (F := K80) rfl [37] 29 rfl).trans rfl
set_option maxRecDepth 100000 in
theorem e_Chant_leastBeginning (x1 : Int32) (x2 : Int32) (μ : jm) : cj 81 [jR 0 61, jI x1, jI x2] μ = (evj 81 2 [jR 0 61, jI x1, jI x2, jI (0 : Int32)] [] μ) :=
  (cj_it (F := K81) rfl [2] 3 _ _).trans rfl
set_option maxRecDepth 100000 in
theorem e_Chant_leastBeginning_2 (x0 : Int32) (x1 : Int32) (x2 : Int32) (μ : jm) : evj 81 2 [jR 0 61, jI x0, jI x1, jI x2] [] μ = (jbr (decide ((7 : Int32) ≤ x2)) (some (some (jI (-1 : Int32)), μ)) (jbr (decide (((x1 >>> (x2 &&& 31)) &&& (1 : Int32)) = 0)) (evj 81 2 [jR 0 61, jI x0, jI x1, jI (x2 + 1)] [] μ) (jgd (inB ((x0 * (7 : Int32)) + x2) 896) (jbr (decide ((gI μ 62 (ix ((x0 * (7 : Int32)) + x2))) ≤ 0)) (evj 81 2 [jR 0 61, jI x0, jI x1, jI (x2 + 1)] [] μ) (some (some (jI x2), μ)))))) :=
  (evj_s (F := K81) rfl [2] 21 rfl).trans rfl
set_option maxRecDepth 100000 in
theorem e_Text_append (x1 : Int64) (x2 : Int32) (μ : jm) : cj 82 [jR 7 46, jL x1, jI x2] μ = (jbr (decide (x2 < (1 : Int32))) (some (some (jI (-2 : Int32)), μ)) (jbr (decide (x2 ≤ (8 : Int32))) (jbr (decide (((gI μ 46 1) + x2) ≤ (200 : Int32))) (evj 82 34 [jR 7 46, jL x1, jU, jU, jI (x2 - (1 : Int32))] [] μ) (some (some (jI (-4 : Int32)), μ))) (some (some (jI (-2 : Int32)), μ)))) :=
  (cj_it (F := K82) rfl [34] 17 _ _).trans rfl
set_option maxRecDepth 100000 in
theorem e_Text_append_34 (y0 : Int64) (x1 : Int32) (μ : jm) : evj 82 34 [jR 7 46, jL y0, jU, jU, jI x1] [] μ = (jbr (decide (x1 < 0)) (some (some (jI (gI μ 46 1)), μ)) (jgd (inB (gI μ 46 1) 200) (evj 82 34 [jR 7 46, jL y0, jU, jU, jI (x1 + (-1))] [] (sI (sI μ 47 (ix (gI μ 46 1)) ((((y0 >>> (((8 : Int32) * x1 : Int32).toInt64 &&& 63) : Int64).toInt32 : Int32).toInt8.toInt32 : Int32).toInt8.toInt32)) 46 1 ((gI (sI μ 47 (ix (gI μ 46 1)) ((((y0 >>> (((8 : Int32) * x1 : Int32).toInt64 &&& 63) : Int64).toInt32 : Int32).toInt8.toInt32 : Int32).toInt8.toInt32)) 46 1) + (1 : Int32)))))) :=
  (evj_s (F := K82) rfl [34] 23 rfl).trans rfl
set_option maxRecDepth 100000 in
theorem e_Text_erase  (μ : jm) : cj 83 [jR 7 46] μ = (some (some (jI (gI μ 46 1)), sI μ 46 1 (0 : Int32))) :=
  (cj_it (F := K83) rfl [] 9 _ _).trans rfl
set_option maxRecDepth 100000 in
theorem e_Text_tellTo (k1 : Nat) (μ : jm) : cj 84 [jR 7 46, jR 8 k1] μ = (bV (cj 27 [jR 8 k1] μ) (fun m1 => bV (cj 85 [jR 7 46] (sI m1 46 2 (0 : Int32))) (fun m2 => evj 84 17 [jR 7 46, jR 8 k1, jI (0 : Int32), jI (-1 : Int32)] [] m2))) :=
  (cj_it (F := K84) rfl [17, 61, 71] 12 _ _).trans rfl
set_option maxRecDepth 100000 in
theorem e_Text_tellTo_17 (k1 : Nat) (x1 : Int32) (x2 : Int32) (μ : jm) : evj 84 17 [jR 7 46, jR 8 k1, jI x1, jI x2] [] μ = (jbr (decide ((gI μ 46 3) = 0)) (evj 84 71 [jU, jU, jI x1, jI x2] [] μ) (jbr (decide ((200 : Int32) < x1)) (evj 84 71 [jU, jU, jI x1, jI x2] [] μ) (bI (cj 92 [jR 7 46] μ) (fun r1 m1 => jbr (decide (¬ r1 = 0)) (jbr (decide (¬ x2 = (-1 : Int32))) (evj 84 61 [jR 7 46, jR 8 k1, jI x1, jI x2] [] m1) (bI (cj 93 [jR 7 46, jR 8 k1] m1) (fun r2 m2 => jbr (decide (0 ≤ r2)) (evj 84 61 [jR 7 46, jR 8 k1, jI x1, jI x2] [] m2) (evj 84 61 [jR 7 46, jR 8 k1, jI x1, jI x1] [] m2)))) (some (some (jI ((-10 : Int32) - (gI m1 46 4))), m1)))))) :=
  (evj_s (F := K84) rfl [17, 61, 71] 19 rfl).trans rfl
set_option maxRecDepth 100000 in
theorem e_Text_tellTo_61 (k1 : Nat) (x1 : Int32) (x2 : Int32) (μ : jm) : evj 84 61 [jR 7 46, jR 8 k1, jI x1, jI x2] [] μ = (bV (cj 85 [jR 7 46] μ) (fun m1 => evj 84 17 [jR 7 46, jR 8 k1, jI (x1 + 1), jI x2] [] m1)) :=
  (evj_s (F := K84) rfl [17, 61, 71] 5 rfl).trans rfl
set_option maxRecDepth 100000 in
theorem e_Text_tellTo_71 (x0 : Int32) (x1 : Int32) (μ : jm) : evj 84 71 [jU, jU, jI x0, jI x1] [] μ = (jbr (decide (¬ x1 = (-1 : Int32))) (some (some (jI ((-1000 : Int32) - x1)), μ)) (some (some (jI x0), μ))) :=
  (evj_s (F := K84) rfl [17, 61, 71] 8 rfl).trans rfl
set_option maxRecDepth 100000 in
theorem e_Text_readToken  (μ : jm) : cj 85 [jR 7 46] μ = (jbr (decide ((gI μ 46 1) ≤ (gI μ 46 2))) (evj 85 38 [jR 7 46] [] μ) (jgd (inB (gI μ 46 2) 200) (jbr (decide (¬ (gI μ 47 (ix (gI μ 46 2))) = (32 : Int32))) (evj 85 38 [jR 7 46] [] μ) (evj 85 0 [jR 7 46] [] (sI μ 46 2 ((gI μ 46 2) + (1 : Int32))))))) :=
  (cj_it (F := K85) rfl [0, 38] 20 _ _).trans rfl
set_option maxRecDepth 100000 in
theorem e_Text_readToken_0  (μ : jm) : evj 85 0 [jR 7 46] [] μ = (jbr (decide ((gI μ 46 1) ≤ (gI μ 46 2))) (evj 85 38 [jR 7 46] [] μ) (jgd (inB (gI μ 46 2) 200) (jbr (decide (¬ (gI μ 47 (ix (gI μ 46 2))) = (32 : Int32))) (evj 85 38 [jR 7 46] [] μ) (evj 85 0 [jR 7 46] [] (sI μ 46 2 ((gI μ 46 2) + (1 : Int32))))))) :=
  (evj_s (F := K85) rfl [0, 38] 20 rfl).trans rfl
set_option maxRecDepth 100000 in
theorem e_Text_readToken_38  (μ : jm) : evj 85 38 [jR 7 46] [] μ = (jbr (decide ((gI (sI μ 46 4 (gI μ 46 2)) 46 2) < (gI (sI μ 46 4 (gI μ 46 2)) 46 1))) (jgd (inB (gI (sI μ 46 4 (gI μ 46 2)) 46 2) 200) (bI (cj 86 [jI (gI (sI μ 46 4 (gI μ 46 2)) 47 (ix (gI (sI μ 46 4 (gI μ 46 2)) 46 2)))] (sI μ 46 4 (gI μ 46 2))) (fun r1 m1 => jbr (decide (r1 = 0)) (jgd (inB (gI m1 46 2) 200) (bI (cj 90 [jI (gI m1 47 (ix (gI m1 46 2)))] m1) (fun r2 m2 => jbr (decide (r2 = 0)) (jgd (inB (gI m2 46 2) 200) (jbr (decide (¬ (gI m2 47 (ix (gI m2 46 2))) = (59 : Int32))) (some (none, sI (sI m2 46 3 (4 : Int32)) 46 2 ((gI (sI m2 46 3 (4 : Int32)) 46 2) + (1 : Int32)))) (some (none, sI (sI m2 46 3 (3 : Int32)) 46 2 ((gI (sI m2 46 3 (3 : Int32)) 46 2) + (1 : Int32)))))) (bV (cj 91 [jR 7 46] m2) (fun m3 => some (none, m3)))))) (bV (cj 87 [jR 7 46] m1) (fun m4 => some (none, m4)))))) (some (none, sI (sI μ 46 4 (gI μ 46 2)) 46 3 (0 : Int32)))) :=
  (evj_s (F := K85) rfl [0, 38] 42 rfl).trans rfl
set_option maxRecDepth 100000 in
theorem e_Text_isLetter (x0 : Int32) (μ : jm) : cj 86 [jI x0] μ = (jbr (decide (x0 < (97 : Int32))) (some (some (jI ((0 : Int32) &&& 1)), μ)) (jbr (decide ((122 : Int32) < x0)) (some (some (jI ((0 : Int32) &&& 1)), μ)) (some (some (jI ((1 : Int32) &&& 1)), μ)))) :=
  (cj_it (F := K86) rfl [] 10 _ _).trans rfl
set_option maxRecDepth 100000 in
theorem e_Text_readWord  (μ : jm) : cj 87 [jR 7 46] μ = (jbr (decide ((gI μ 46 1) ≤ (gI μ 46 2))) (evj 87 46 [jR 7 46, jI (0 : Int32)] [] (sI μ 46 3 (4 : Int32))) (jgd (inB (gI μ 46 2) 200) (bI (cj 86 [jI (gI μ 47 (ix (gI μ 46 2)))] μ) (fun r1 m1 => jbr (decide (r1 = 0)) (evj 87 46 [jR 7 46, jI (0 : Int32)] [] (sI m1 46 3 (4 : Int32))) (evj 87 0 [jR 7 46, jU] [] (sI m1 46 2 ((gI m1 46 2) + (1 : Int32)))))))) :=
  (cj_it (F := K87) rfl [0, 46] 20 _ _).trans rfl
set_option maxRecDepth 100000 in
theorem e_Text_readWord_0  (μ : jm) : evj 87 0 [jR 7 46, jU] [] μ = (jbr (decide ((gI μ 46 1) ≤ (gI μ 46 2))) (evj 87 46 [jR 7 46, jI (0 : Int32)] [] (sI μ 46 3 (4 : Int32))) (jgd (inB (gI μ 46 2) 200) (bI (cj 86 [jI (gI μ 47 (ix (gI μ 46 2)))] μ) (fun r1 m1 => jbr (decide (r1 = 0)) (evj 87 46 [jR 7 46, jI (0 : Int32)] [] (sI m1 46 3 (4 : Int32))) (evj 87 0 [jR 7 46, jU] [] (sI m1 46 2 ((gI m1 46 2) + (1 : Int32)))))))) :=
  (evj_s (F := K87) rfl [0, 46] 20 rfl).trans rfl
set_option maxRecDepth 100000 in
theorem e_Text_readWord_46 (x0 : Int32) (μ : jm) : evj 87 46 [jR 7 46, jI x0] [] μ = (jbr (decide ((6 : Int32) ≤ x0)) (some (none, μ)) (bR (cj 88 [jI x0] μ) (fun r1 m1 => bI (cj 89 [jR 7 46, .inr (.inr (.inl r1))] m1) (fun r2 m2 => jbr (decide (r2 = 0)) (evj 87 46 [jR 7 46, jI (x0 + 1)] [] m2) (evj 87 46 [jR 7 46, jI (x0 + 1)] [] (sI (sI m2 46 3 (1 : Int32)) 46 5 x0)))))) :=
  (evj_s (F := K87) rfl [0, 46] 17 rfl).trans rfl
set_option maxRecDepth 100000 in
theorem e_Text_wordOf (x0 : Int32) (μ : jm) : cj 88 [jI x0] μ = (jbr (decide (x0 = 0)) (some (some (jR 98 0), μ)) (jbr (decide (x0 = 1)) (some (some (jR 98 1), μ)) (jbr (decide (x0 = 2)) (some (some (jR 98 2), μ)) (jbr (decide (x0 = 3)) (some (some (jR 98 3), μ)) (jbr (decide (x0 = 4)) (some (some (jR 98 4), μ)) (some (some (jR 98 5), μ))))))) :=
  (cj_it (F := K88) rfl [] 5 _ _).trans rfl
set_option maxRecDepth 100000 in
theorem e_Text_isTokenWord (k1 : Nat) (μ : jm) : cj 89 [jR 7 46, jR 98 k1] μ = (bI (cj 4 [jR 98 k1] μ) (fun r1 m1 => jbr (decide (((gI μ 46 2) - (gI μ 46 4)) = r1)) (evj 89 20 [jR 7 46, jR 98 k1, jI (0 : Int32)] [] m1) (some (some (jI ((0 : Int32) &&& 1)), m1)))) :=
  (cj_it (F := K89) rfl [20] 11 _ _).trans rfl
set_option maxRecDepth 100000 in
theorem e_Text_isTokenWord_20 (k1 : Nat) (x1 : Int32) (μ : jm) : evj 89 20 [jR 7 46, jR 98 k1, jI x1] [] μ = (bI (cj 4 [jR 98 k1] μ) (fun r1 m1 => jbr (decide (r1 ≤ x1)) (some (some (jI ((1 : Int32) &&& 1)), m1)) (jgd (inB ((gI m1 46 4) + x1) 200) (bI (cj 6 [jR 98 k1, jI x1] m1) (fun r2 m2 => jbr (decide ((gI m1 47 (ix ((gI m1 46 4) + x1))) = r2)) (evj 89 20 [jR 7 46, jR 98 k1, jI (x1 + 1)] [] m2) (some (some (jI ((0 : Int32) &&& 1)), m2))))))) :=
  (evj_s (F := K89) rfl [20] 18 rfl).trans rfl
set_option maxRecDepth 100000 in
theorem e_Text_isFigure (x0 : Int32) (μ : jm) : cj 90 [jI x0] μ = (jbr (decide (x0 < (48 : Int32))) (some (some (jI ((0 : Int32) &&& 1)), μ)) (jbr (decide ((57 : Int32) < x0)) (some (some (jI ((0 : Int32) &&& 1)), μ)) (some (some (jI ((1 : Int32) &&& 1)), μ)))) :=
  (cj_it (F := K90) rfl [] 10 _ _).trans rfl
set_option maxRecDepth 100000 in
theorem e_Text_readNumber  (μ : jm) : cj 91 [jR 7 46] μ = (evj 91 5 [jR 7 46] [] (sI μ 46 5 (0 : Int32))) :=
  (cj_it (F := K91) rfl [5] 4 _ _).trans rfl
set_option maxRecDepth 100000 in
theorem e_Text_readNumber_5  (μ : jm) : evj 91 5 [jR 7 46] [] μ = (jbr (decide ((gI μ 46 1) ≤ (gI μ 46 2))) (jbr (decide ((2 : Int32) < ((gI μ 46 2) - (gI μ 46 4)))) (some (none, sI μ 46 3 (4 : Int32))) (some (none, sI μ 46 3 (2 : Int32)))) (jgd (inB (gI μ 46 2) 200) (bI (cj 90 [jI (gI μ 47 (ix (gI μ 46 2)))] μ) (fun r1 m1 => jbr (decide (r1 = 0)) (jbr (decide ((2 : Int32) < ((gI m1 46 2) - (gI m1 46 4)))) (some (none, sI m1 46 3 (4 : Int32))) (some (none, sI m1 46 3 (2 : Int32)))) (jgd (inB (gI m1 46 2) 200) (evj 91 5 [jR 7 46] [] (sI (sI m1 46 5 ((((10 : Int32) * (gI m1 46 5)) + (gI m1 47 (ix (gI m1 46 2)))) - (48 : Int32))) 46 2 ((gI (sI m1 46 5 ((((10 : Int32) * (gI m1 46 5)) + (gI m1 47 (ix (gI m1 46 2)))) - (48 : Int32))) 46 2) + (1 : Int32))))))))) :=
  (evj_s (F := K91) rfl [5] 34 rfl).trans rfl
set_option maxRecDepth 100000 in
theorem e_Text_readItem  (μ : jm) : cj 92 [jR 7 46] μ = (jbr (decide ((gI μ 46 3) = (1 : Int32))) (evj 92 20 [jR 7 46, jI (0 : Int32)] [] (sI μ 46 6 (gI μ 46 5))) (some (some (jI ((0 : Int32) &&& 1)), μ))) :=
  (cj_it (F := K92) rfl [20] 11 _ _).trans rfl
set_option maxRecDepth 100000 in
theorem e_Text_readItem_20 (x0 : Int32) (μ : jm) : evj 92 20 [jR 7 46, jI x0] [] μ = (jgd (inB (gI μ 46 6) 6) (jbr (decide ((jnum (ix (gI μ 46 6))) ≤ x0)) (bV (cj 85 [jR 7 46] μ) (fun m1 => jbr (decide (¬ (gI m1 46 3) = (3 : Int32))) (some (some (jI ((0 : Int32) &&& 1)), m1)) (some (some (jI ((1 : Int32) &&& 1)), m1)))) (bV (cj 85 [jR 7 46] μ) (fun m2 => jbr (decide ((gI m2 46 3) = (2 : Int32))) (jgd (inB x0 4) (evj 92 20 [jR 7 46, jI (x0 + 1)] [] (sI m2 48 (ix x0) (gI m2 46 5)))) (some (some (jI ((0 : Int32) &&& 1)), m2)))))) :=
  (evj_s (F := K92) rfl [20] 21 rfl).trans rfl
set_option maxRecDepth 100000 in
theorem e_Text_tellItem (k1 : Nat) (μ : jm) : cj 93 [jR 7 46, jR 8 k1] μ = (jbr (decide ((gI μ 46 6) = 0)) (jgd (inB (0 : Int32) 4) (jgd (inB (1 : Int32) 4) (bI (cj 15 [jR 8 k1, jI (gI μ 48 (ix (0 : Int32))), jI (gI μ 48 (ix (1 : Int32)))] μ) (fun r1 m1 => some (some (jI r1), m1))))) (jbr (decide ((gI μ 46 6) = 1)) (jgd (inB (0 : Int32) 4) (jgd (inB (1 : Int32) 4) (bI (cj 17 [jR 8 k1, jI (gI μ 48 (ix (0 : Int32))), jI (gI μ 48 (ix (1 : Int32)))] μ) (fun r2 m2 => some (some (jI r2), m2))))) (jbr (decide ((gI μ 46 6) = 2)) (jgd (inB (0 : Int32) 4) (jgd (inB (1 : Int32) 4) (jgd (inB (2 : Int32) 4) (bI (cj 18 [jR 8 k1, jI (gI μ 48 (ix (0 : Int32))), jI (gI μ 48 (ix (1 : Int32))), jI (gI μ 48 (ix (2 : Int32)))] μ) (fun r3 m3 => some (some (jI r3), m3)))))) (jbr (decide ((gI μ 46 6) = 3)) (jgd (inB (0 : Int32) 4) (jgd (inB (1 : Int32) 4) (bI (cj 19 [jR 8 k1, jI (gI μ 48 (ix (0 : Int32))), jI (gI μ 48 (ix (1 : Int32)))] μ) (fun r4 m4 => some (some (jI r4), m4))))) (jbr (decide ((gI μ 46 6) = 4)) (jgd (inB (0 : Int32) 4) (jgd (inB (1 : Int32) 4) (jgd (inB (2 : Int32) 4) (jgd (inB (3 : Int32) 4) (bI (cj 22 [jR 8 k1, jI (gI μ 48 (ix (0 : Int32))), jI (gI μ 48 (ix (1 : Int32))), jI (gI μ 48 (ix (2 : Int32))), jI (gI μ 48 (ix (3 : Int32)))] μ) (fun r5 m5 => some (some (jI r5), m5))))))) (jgd (inB (0 : Int32) 4) (bI (cj 24 [jR 8 k1, jI (gI μ 48 (ix (0 : Int32)))] μ) (fun r6 m6 => some (some (jI r6), m6))))))))) :=
  (cj_it (F := K93) rfl [] 23 _ _).trans rfl
end
section
/-! EQUATIONS of the runs, by program: from a method's entry, or a cut, to the next cuts -/
set_option maxRecDepth 100000 in
theorem e_N_door (x1 : Int32) (x2 : Int32) (μ : jm) : cj 94 [jR 9 0, jI x1, jI x2] μ = (bI (cj 15 [jR 8 1, jI x1, jI x2] μ) (fun r1 m1 => bI (cj 96 [jR 9 0, jI r1] m1) (fun r2 m2 => some (some (jI r2), m2)))) :=
  (cj_it (F := K94) rfl [] 9 _ _).trans rfl
set_option maxRecDepth 100000 in
theorem e_N_isRoom (x0 : Int32) (μ : jm) : cj 95 [jI x0] μ = (jbr (decide (x0 < 0)) (some (some (jI ((0 : Int32) &&& 1)), μ)) (jbr (decide ((6 : Int32) ≤ x0)) (some (some (jI ((0 : Int32) &&& 1)), μ)) (some (some (jI ((1 : Int32) &&& 1)), μ)))) :=
  (cj_it (F := K95) rfl [] 9 _ _).trans rfl
set_option maxRecDepth 100000 in
theorem e_N_told (x1 : Int32) (μ : jm) : cj 96 [jR 9 0, jI x1] μ = (jbr (decide (¬ x1 = (-2 : Int32))) (jbr (decide (¬ x1 = (-3 : Int32))) (jbr (decide (¬ x1 = (-4 : Int32))) (some (some (jI x1), μ)) (some (some (jI x1), sI μ 0 8 ((gI μ 0 8) + (1 : Int32))))) (some (some (jI x1), sI μ 0 7 ((gI μ 0 7) + (1 : Int32))))) (some (some (jI x1), sI μ 0 6 ((gI μ 0 6) + (1 : Int32))))) :=
  (cj_it (F := K96) rfl [] 18 _ _).trans rfl
set_option maxRecDepth 100000 in
theorem e_N_hears (x1 : Int32) (x2 : Int32) (μ : jm) : cj 97 [jR 9 0, jI x1, jI x2] μ = (bI (cj 17 [jR 8 1, jI x1, jI x2] μ) (fun r1 m1 => bI (cj 96 [jR 9 0, jI r1] m1) (fun r2 m2 => some (some (jI r2), m2)))) :=
  (cj_it (F := K97) rfl [] 9 _ _).trans rfl
set_option maxRecDepth 100000 in
theorem e_N_one (x1 : Int32) (x2 : Int32) (x3 : Int32) (μ : jm) : cj 98 [jR 9 0, jI x1, jI x2, jI x3] μ = (bI (cj 18 [jR 8 1, jI x1, jI x2, jI x3] μ) (fun r1 m1 => bI (cj 96 [jR 9 0, jI r1] m1) (fun r2 m2 => some (some (jI r2), m2)))) :=
  (cj_it (F := K98) rfl [] 10 _ _).trans rfl
set_option maxRecDepth 100000 in
theorem e_N_mates (x1 : Int32) (x2 : Int32) (μ : jm) : cj 99 [jR 9 0, jI x1, jI x2] μ = (bI (cj 19 [jR 8 1, jI x1, jI x2] μ) (fun r1 m1 => bI (cj 96 [jR 9 0, jI r1] m1) (fun r2 m2 => some (some (jI r2), m2)))) :=
  (cj_it (F := K99) rfl [] 9 _ _).trans rfl
set_option maxRecDepth 100000 in
theorem e_N_goes (x1 : Int32) (x2 : Int32) (μ : jm) : cj 100 [jR 9 0, jI x1, jI x2] μ = (bI (cj 21 [jR 8 1, jI x1, jI x2] μ) (fun r1 m1 => bI (cj 96 [jR 9 0, jI r1] m1) (fun r2 m2 => some (some (jI r2), m2)))) :=
  (cj_it (F := K100) rfl [] 9 _ _).trans rfl
set_option maxRecDepth 100000 in
theorem e_N_chord (x1 : Int32) (x2 : Int32) (x3 : Int32) (x4 : Int32) (μ : jm) : cj 101 [jR 9 0, jI x1, jI x2, jI x3, jI x4] μ = (bI (cj 22 [jR 8 1, jI x1, jI x2, jI x3, jI x4] μ) (fun r1 m1 => bI (cj 96 [jR 9 0, jI r1] m1) (fun r2 m2 => some (some (jI r2), m2)))) :=
  (cj_it (F := K101) rfl [] 11 _ _).trans rfl
set_option maxRecDepth 100000 in
theorem e_N_slack (x1 : Int32) (μ : jm) : cj 102 [jR 9 0, jI x1] μ = (bI (cj 24 [jR 8 1, jI x1] μ) (fun r1 m1 => bI (cj 96 [jR 9 0, jI r1] m1) (fun r2 m2 => some (some (jI r2), m2)))) :=
  (cj_it (F := K102) rfl [] 8 _ _).trans rfl
set_option maxRecDepth 100000 in
theorem e_N_sounds (x1 : Int32) (x2 : Int32) (μ : jm) : cj 103 [jR 9 0, jI x1, jI x2] μ = (bI (cj 25 [jR 8 1, jI x1, jI x2] μ) (fun r1 m1 => jbr (decide (¬ r1 = 0)) (bI (cj 46 [jR 8 1, jI x1, jI x2] m1) (fun r2 m2 => some (some (jI r2), m2))) (bI (cj 96 [jR 9 0, jI (-2 : Int32)] m1) (fun r3 m3 => some (some (jI r3), m3))))) :=
  (cj_it (F := K103) rfl [] 13 _ _).trans rfl
set_option maxRecDepth 100000 in
theorem e_N_type (x1 : Int64) (x2 : Int32) (μ : jm) : cj 104 [jR 9 0, jL x1, jI x2] μ = (bI (cj 82 [jR 7 46, jL x1, jI x2] μ) (fun r1 m1 => bI (cj 96 [jR 9 0, jI r1] m1) (fun r2 m2 => some (some (jI r2), m2)))) :=
  (cj_it (F := K104) rfl [] 9 _ _).trans rfl
set_option maxRecDepth 100000 in
theorem e_N_clear  (μ : jm) : cj 105 [jR 9 0] μ = (bI (cj 83 [jR 7 46] μ) (fun r1 m1 => some (some (jI r1), m1))) :=
  (cj_it (F := K105) rfl [] 5 _ _).trans rfl
set_option maxRecDepth 100000 in
theorem e_N_read  (μ : jm) : cj 106 [jR 9 0] μ = (bI (cj 84 [jR 7 46, jR 8 12] μ) (fun r1 m1 => jbr (decide (r1 < 0)) (some (some (jI r1), m1)) (bV (cj 28 [jR 8 1, jR 8 12] m1) (fun m2 => some (some (jI r1), m2))))) :=
  (cj_it (F := K106) rfl [] 16 _ _).trans rfl
set_option maxRecDepth 100000 in
theorem e_N_says (x1 : Int32) (x2 : Int32) (μ : jm) : cj 107 [jR 9 0, jI x1, jI x2] μ = (bI (cj 26 [jR 8 1, jI x1] μ) (fun r1 m1 => jbr (decide (r1 = 0)) (bI (cj 96 [jR 9 0, jI (-2 : Int32)] m1) (fun r2 m2 => some (some (jI r2), m2))) (bI (cj 30 [jR 8 1, jI x2] m1) (fun r3 m3 => jbr (decide (¬ r3 = 0)) (bI (cj 48 [jR 1 50, jR 8 1, jI x1, jI x2] m3) (fun r4 m4 => jbr (decide (r4 = 0)) (some (some (jI (0 : Int32)), m4)) (some (some (jI (1 : Int32)), m4)))) (bI (cj 96 [jR 9 0, jI (-2 : Int32)] m3) (fun r5 m5 => some (some (jI r5), m5))))))) :=
  (cj_it (F := K107) rfl [] 22 _ _).trans rfl
set_option maxRecDepth 100000 in
theorem e_N_said (x1 : Int32) (μ : jm) : cj 108 [jR 9 0, jI x1] μ = (bI (cj 95 [jI x1] μ) (fun r1 m1 => jbr (decide (¬ r1 = 0)) (bI (cj 31 [jR 8 1, jI ((1 : Int32) <<< (x1 &&& 31))] m1) (fun r2 m2 => bI (cj 51 [jR 1 50, jR 8 1, jI r2] m2) (fun r3 m3 => some (some (jI r3), m3)))) (bI (cj 96 [jR 9 0, jI (-2 : Int32)] m1) (fun r4 m4 => some (some (jI r4), m4))))) :=
  (cj_it (F := K108) rfl [] 16 _ _).trans rfl
set_option maxRecDepth 100000 in
theorem e_N_byDoor (x1 : Int32) (x2 : Int32) (μ : jm) : cj 109 [jR 9 0, jI x1, jI x2] μ = (bI (cj 95 [jI x1] μ) (fun r1 m1 => jbr (decide (r1 = 0)) (bI (cj 96 [jR 9 0, jI (-2 : Int32)] m1) (fun r2 m2 => some (some (jI r2), m2))) (bI (cj 95 [jI x2] m1) (fun r3 m3 => jbr (decide (¬ r3 = 0)) (bI (cj 32 [jR 8 1, jI x1, jI x2] m3) (fun r4 m4 => jbr (decide (¬ r4 = 0)) (bI (cj 31 [jR 8 1, jI (((1 : Int32) <<< (x1 &&& 31)) ||| ((1 : Int32) <<< (x2 &&& 31)))] m4) (fun r5 m5 => bI (cj 51 [jR 1 50, jR 8 1, jI r5] m5) (fun r6 m6 => some (some (jI r6), m6)))) (bI (cj 96 [jR 9 0, jI (-3 : Int32)] m4) (fun r7 m7 => some (some (jI r7), m7))))) (bI (cj 96 [jR 9 0, jI (-2 : Int32)] m3) (fun r8 m8 => some (some (jI r8), m8))))))) :=
  (cj_it (F := K109) rfl [] 29 _ _).trans rfl
set_option maxRecDepth 100000 in
theorem e_N_fewest (x1 : Int32) (x2 : Int32) (μ : jm) : cj 110 [jR 9 0, jI x1, jI x2] μ = (bI (cj 26 [jR 8 1, jI x1] μ) (fun r1 m1 => jbr (decide (r1 = 0)) (bI (cj 96 [jR 9 0, jI (-2 : Int32)] m1) (fun r2 m2 => some (some (jI r2), m2))) (bI (cj 30 [jR 8 1, jI x2] m1) (fun r3 m3 => jbr (decide (¬ r3 = 0)) (bI (cj 52 [jR 1 50, jR 8 1, jI x1, jI x2] m3) (fun r4 m4 => some (some (jI r4), m4))) (bI (cj 96 [jR 9 0, jI (-2 : Int32)] m3) (fun r5 m5 => some (some (jI r5), m5))))))) :=
  (cj_it (F := K110) rfl [] 19 _ _).trans rfl
set_option maxRecDepth 100000 in
theorem e_N_speak (x1 : Int32) (μ : jm) : cj 111 [jR 9 0, jI x1] μ = (bI (cj 33 [jR 8 1, jI x1] μ) (fun r1 m1 => bI (cj 96 [jR 9 0, jI r1] m1) (fun r2 m2 => some (some (jI r2), m2)))) :=
  (cj_it (F := K111) rfl [] 8 _ _).trans rfl
set_option maxRecDepth 100000 in
theorem e_N_hush  (μ : jm) : cj 112 [jR 9 0] μ = (bI (cj 34 [jR 8 1] μ) (fun r1 m1 => some (some (jI r1), m1))) :=
  (cj_it (F := K112) rfl [] 5 _ _).trans rfl
set_option maxRecDepth 100000 in
theorem e_N_fetch (x1 : Int32) (μ : jm) : cj 113 [jR 9 0, jI x1] μ = (jbr (decide (x1 < 0)) (evj 113 9 [jR 9 0, jU] [] μ) (jbr (decide (x1 ≤ (2 : Int32))) (bI (cj 57 [jR 2 53, jR 8 1, jR 1 50, jI (9 : Int32)] μ) (fun r1 m1 => jbr (decide (¬ r1 = 0)) (jbr (decide (¬ x1 = 0)) (jbr (decide (¬ x1 = (1 : Int32))) (evj 113 74 [jU, jU] [jI (gI m1 53 3)] m1) (evj 113 74 [jU, jU] [jI (gI m1 53 2)] m1)) (evj 113 74 [jU, jU] [jI (gI m1 53 1)] m1)) (some (some (jI (-1 : Int32)), m1)))) (evj 113 9 [jR 9 0, jU] [] μ))) :=
  (cj_it (F := K113) rfl [9, 74] 24 _ _).trans rfl
set_option maxRecDepth 100000 in
theorem e_N_fetch_9  (μ : jm) : evj 113 9 [jR 9 0, jU] [] μ = (bI (cj 96 [jR 9 0, jI (-2 : Int32)] μ) (fun r1 m1 => some (some (jI r1), m1))) :=
  (evj_s (F := K113) rfl [9, 74] 5 rfl).trans rfl
set_option maxRecDepth 100000 in
theorem e_N_fetch_74 (x0 : Int32) (μ : jm) : evj 113 74 [jU, jU] [jI x0] μ = (some (some (jI x0), μ)) :=
  (evj_s (F := K113) rfl [9, 74] 2 rfl).trans rfl
set_option maxRecDepth 100000 in
theorem e_N_inTime (x1 : Int32) (μ : jm) : cj 114 [jR 9 0, jI x1] μ = (jbr (decide (x1 < 0)) (bI (cj 96 [jR 9 0, jI (-2 : Int32)] μ) (fun r1 m1 => some (some (jI r1), m1))) (jbr (decide (x1 ≤ (9 : Int32))) (bI (cj 57 [jR 2 53, jR 8 1, jR 1 50, jI x1] μ) (fun r2 m2 => jbr (decide (r2 = 0)) (some (some (jI (-1 : Int32)), m2)) (some (some (jI (gI m2 53 1)), m2)))) (bI (cj 96 [jR 9 0, jI (-2 : Int32)] μ) (fun r3 m3 => some (some (jI r3), m3))))) :=
  (cj_it (F := K114) rfl [] 20 _ _).trans rfl
set_option maxRecDepth 100000 in
theorem e_N_taken (x1 : Int32) (x2 : Int32) (x3 : Int32) (μ : jm) : cj 115 [jR 9 0, jI x1, jI x2, jI x3] μ = (bI (cj 30 [jR 8 1, jI x1] μ) (fun r1 m1 => jbr (decide (r1 = 0)) (evj 115 34 [jR 9 0, jU, jU, jU] [] m1) (bI (cj 30 [jR 8 1, jI x2] m1) (fun r2 m2 => jbr (decide (r2 = 0)) (evj 115 34 [jR 9 0, jU, jU, jU] [] m2) (jbr (decide (x1 = x2)) (evj 115 34 [jR 9 0, jU, jU, jU] [] m2) (bI (cj 116 [jI x3] m2) (fun r3 m3 => jbr (decide (¬ r3 = 0)) (jgd (inB x1 8) (jgd (inB x2 8) (bI (cj 63 [jI (gI m3 8 (ix x1)), jI (gI m3 8 (ix x2)), jI x3] m3) (fun r4 m4 => jbr (decide (r4 = 0)) (evj 115 71 [jU, jU, jU, jU] [jI (0 : Int32)] m4) (evj 115 71 [jU, jU, jU, jU] [jI (1 : Int32)] m4))))) (evj 115 34 [jR 9 0, jU, jU, jU] [] m3)))))))) :=
  (cj_it (F := K115) rfl [34, 71] 32 _ _).trans rfl
set_option maxRecDepth 100000 in
theorem e_N_taken_34  (μ : jm) : evj 115 34 [jR 9 0, jU, jU, jU] [] μ = (bI (cj 96 [jR 9 0, jI (-2 : Int32)] μ) (fun r1 m1 => some (some (jI r1), m1))) :=
  (evj_s (F := K115) rfl [34, 71] 5 rfl).trans rfl
set_option maxRecDepth 100000 in
theorem e_N_taken_71 (x0 : Int32) (μ : jm) : evj 115 71 [jU, jU, jU, jU] [jI x0] μ = (some (some (jI x0), μ)) :=
  (evj_s (F := K115) rfl [34, 71] 2 rfl).trans rfl
set_option maxRecDepth 100000 in
theorem e_N_isFog (x0 : Int32) (μ : jm) : cj 116 [jI x0] μ = (jbr (decide (x0 < 0)) (some (some (jI ((0 : Int32) &&& 1)), μ)) (jbr (decide ((3 : Int32) < x0)) (some (some (jI ((0 : Int32) &&& 1)), μ)) (some (some (jI ((1 : Int32) &&& 1)), μ)))) :=
  (cj_it (F := K116) rfl [] 9 _ _).trans rfl
set_option maxRecDepth 100000 in
theorem e_N_drop (x1 : Int32) (μ : jm) : cj 117 [jR 9 0, jI x1] μ = (bI (cj 116 [jI x1] μ) (fun r1 m1 => jbr (decide (¬ r1 = 0)) (bI (cj 64 [jR 3 55, jR 8 1, jI x1] m1) (fun r2 m2 => some (some (jI r2), m2))) (bI (cj 96 [jR 9 0, jI (-2 : Int32)] m1) (fun r3 m3 => some (some (jI r3), m3))))) :=
  (cj_it (F := K117) rfl [] 11 _ _).trans rfl
set_option maxRecDepth 100000 in
theorem e_N_news (x1 : Int32) (x2 : Int32) (x3 : Int32) (μ : jm) : cj 118 [jR 9 0, jI x1, jI x2, jI x3] μ = (bI (cj 95 [jI x1] μ) (fun r1 m1 => jbr (decide (r1 = 0)) (bI (cj 119 [jR 9 0] m1) (fun r2 m2 => some (some (jI r2), m2))) (bI (cj 95 [jI x2] m1) (fun r3 m3 => jbr (decide (r3 = 0)) (bI (cj 119 [jR 9 0] m3) (fun r4 m4 => some (some (jI r4), m4))) (jbr (decide ((-1 : Int32) ≤ x3)) (bV (cj 67 [jR 6 57, jR 8 1, jI x2] m3) (fun m5 => jbr (decide (¬ x3 = (-1 : Int32))) (bI (cj 71 [jR 6 57, jR 8 1, jI x1, jI x3] m5) (fun r6 m6 => some (some (jI r6), m6))) (bI (cj 70 [jR 6 57, jI x1] m5) (fun r7 m7 => some (some (jI r7), m7))))) (bI (cj 119 [jR 9 0] m3) (fun r8 m8 => some (some (jI r8), m8)))))))) :=
  (cj_it (F := K118) rfl [] 27 _ _).trans rfl
set_option maxRecDepth 100000 in
theorem e_N_badForRows  (μ : jm) : cj 119 [jR 9 0] μ = (some (some (jI (-10 : Int32)), sI μ 0 6 ((gI μ 0 6) + (1 : Int32)))) :=
  (cj_it (F := K119) rfl [] 9 _ _).trans rfl
set_option maxRecDepth 100000 in
theorem e_N_hole (x1 : Int32) (μ : jm) : cj 120 [jR 9 0, jI x1] μ = (bI (cj 36 [jR 8 1, jI x1] μ) (fun r1 m1 => bI (cj 96 [jR 9 0, jI r1] m1) (fun r2 m2 => some (some (jI r2), m2)))) :=
  (cj_it (F := K120) rfl [] 8 _ _).trans rfl
set_option maxRecDepth 100000 in
theorem e_N_whole  (μ : jm) : cj 121 [jR 9 0] μ = (bI (cj 37 [jR 8 1] μ) (fun r1 m1 => some (some (jI r1), m1))) :=
  (cj_it (F := K121) rfl [] 5 _ _).trans rfl
set_option maxRecDepth 100000 in
theorem e_N_meant (x1 : Int32) (μ : jm) : cj 122 [jR 9 0, jI x1] μ = (bI (cj 38 [jR 8 1, jI x1] μ) (fun r1 m1 => jbr (decide (¬ r1 = 0)) (jgd (inB x1 6) (bI (cj 39 [jR 8 1, jI (gI m1 11 (ix x1))] m1) (fun r2 m2 => some (some (jI r2), m2)))) (bI (cj 96 [jR 9 0, jI (-2 : Int32)] m1) (fun r3 m3 => some (some (jI r3), m3))))) :=
  (cj_it (F := K122) rfl [] 15 _ _).trans rfl
set_option maxRecDepth 100000 in
theorem e_N_ways  (μ : jm) : cj 123 [jR 9 0] μ = (bI (cj 72 [jR 5 59, jR 8 1] μ) (fun r1 m1 => some (some (jI r1), m1))) :=
  (cj_it (F := K123) rfl [] 7 _ _).trans rfl
set_option maxRecDepth 100000 in
theorem e_N_odds (x1 : Int32) (x2 : Int32) (μ : jm) : cj 124 [jR 9 0, jI x1, jI x2] μ = (bI (cj 38 [jR 8 1, jI x1] μ) (fun r1 m1 => jbr (decide (r1 = 0)) (bI (cj 96 [jR 9 0, jI (-2 : Int32)] m1) (fun r2 m2 => some (some (jI r2), m2))) (bI (cj 30 [jR 8 1, jI x2] m1) (fun r3 m3 => jbr (decide (¬ r3 = 0)) (bL (cj 74 [jR 5 59, jR 8 1, jI (-1 : Int32), jI (-1 : Int32)] m3) (fun r4 m4 => jbr (decide (0 < (lg_cmp r4 (0 : Int64)))) (bL (cj 74 [jR 5 59, jR 8 1, jI x1, jI x2] m4) (fun r5 m5 => bV (cj 44 [jR 4 49, jL r5, jL r4] m5) (fun m6 => some (some (jI (1 : Int32)), m6)))) (bI (cj 96 [jR 9 0, jI (-3 : Int32)] m4) (fun r7 m7 => some (some (jI r7), m7))))) (bI (cj 96 [jR 9 0, jI (-2 : Int32)] m3) (fun r8 m8 => some (some (jI r8), m8))))))) :=
  (cj_it (F := K124) rfl [] 36 _ _).trans rfl
set_option maxRecDepth 100000 in
theorem e_N_block (x1 : Int32) (x2 : Int32) (μ : jm) : cj 125 [jR 9 0, jI x1, jI x2] μ = (bI (cj 26 [jR 8 1, jI x1] μ) (fun r1 m1 => jbr (decide (r1 = 0)) (bI (cj 96 [jR 9 0, jI (-2 : Int32)] m1) (fun r2 m2 => some (some (jI r2), m2))) (bI (cj 30 [jR 8 1, jI x2] m1) (fun r3 m3 => jbr (decide (¬ r3 = 0)) (bI (cj 48 [jR 1 50, jR 8 1, jI x1, jI x2] m3) (fun r4 m4 => jbr (decide (¬ r4 = 0)) (bI (cj 54 [jR 1 50, jR 8 1, jI x1, jI x2] m4) (fun r5 m5 => some (some (jI r5), m5))) (bI (cj 96 [jR 9 0, jI (-3 : Int32)] m4) (fun r6 m6 => some (some (jI r6), m6))))) (bI (cj 96 [jR 9 0, jI (-2 : Int32)] m3) (fun r7 m7 => some (some (jI r7), m7))))))) :=
  (cj_it (F := K125) rfl [] 27 _ _).trans rfl
set_option maxRecDepth 100000 in
theorem e_N_swing (x1 : Int32) (x2 : Int32) (x3 : Int32) (μ : jm) : cj 126 [jR 9 0, jI x1, jI x2, jI x3] μ = (bI (cj 25 [jR 8 1, jI x2, jI x1] μ) (fun r1 m1 => jbr (decide (r1 = 0)) (bI (cj 96 [jR 9 0, jI (-2 : Int32)] m1) (fun r2 m2 => some (some (jI r2), m2))) (bI (cj 30 [jR 8 1, jI x3] m1) (fun r3 m3 => jbr (decide (¬ r3 = 0)) (bI (cj 0 [jI x1] m3) (fun r4 m4 => bI (cj 55 [jR 1 50, jR 8 1, jI x1, jI x2, jI x3] m4) (fun r5 m5 => bV (cj 44 [jR 4 49, jL ((r5 : Int32).toInt64), jL ((1 : Int64) <<< ((r4 - (1 : Int32) : Int32).toInt64 &&& 63))] m5) (fun m6 => some (some (jI (1 : Int32)), m6))))) (bI (cj 96 [jR 9 0, jI (-2 : Int32)] m3) (fun r7 m7 => some (some (jI r7), m7))))))) :=
  (cj_it (F := K126) rfl [] 34 _ _).trans rfl
set_option maxRecDepth 100000 in
theorem e_N_song (x1 : Int32) (x2 : Int32) (x3 : Int32) (μ : jm) : cj 127 [jR 9 0, jI x1, jI x2, jI x3] μ = (bI (cj 26 [jR 8 1, jI x1] μ) (fun r1 m1 => jbr (decide (r1 = 0)) (evj 127 26 [jR 9 0, jU, jU, jU] [] m1) (jbr (decide (x2 < 0)) (evj 127 26 [jR 9 0, jU, jU, jU] [] m1) (jbr (decide ((6 : Int32) < x2)) (evj 127 26 [jR 9 0, jU, jU, jU] [] m1) (jbr (decide ((-1 : Int32) ≤ x3)) (bV (cj 75 [jR 0 61, jR 8 1, jI x1, jI x2] m1) (fun m2 => jbr (decide (¬ x3 = (-1 : Int32))) (bI (cj 80 [jR 0 61, jI x3] m2) (fun r3 m3 => evj 127 67 [jU, jU, jU, jU] [jI r3] m3)) (bI (cj 79 [jR 0 61] m2) (fun r4 m4 => evj 127 67 [jU, jU, jU, jU] [jI r4] m4)))) (evj 127 26 [jR 9 0, jU, jU, jU] [] m1)))))) :=
  (cj_it (F := K127) rfl [26, 67] 28 _ _).trans rfl
set_option maxRecDepth 100000 in
theorem e_N_song_26  (μ : jm) : evj 127 26 [jR 9 0, jU, jU, jU] [] μ = (bI (cj 119 [jR 9 0] μ) (fun r1 m1 => some (some (jI r1), m1))) :=
  (evj_s (F := K127) rfl [26, 67] 4 rfl).trans rfl
set_option maxRecDepth 100000 in
theorem e_N_song_67 (x0 : Int32) (μ : jm) : evj 127 67 [jU, jU, jU, jU] [jI x0] μ = (some (some (jI x0), μ)) :=
  (evj_s (F := K127) rfl [26, 67] 2 rfl).trans rfl
set_option maxRecDepth 100000 in
theorem e_N_couple (x1 : Int32) (μ : jm) : cj 128 [jR 9 0, jI x1] μ = (bI (cj 26 [jR 8 1, jI x1] μ) (fun r1 m1 => jbr (decide (¬ r1 = 0)) (bI (cj 56 [jR 1 50, jR 8 1, jR 8 12, jI x1] m1) (fun r2 m2 => some (some (jI r2), m2))) (bI (cj 96 [jR 9 0, jI (-2 : Int32)] m1) (fun r3 m3 => some (some (jI r3), m3))))) :=
  (cj_it (F := K128) rfl [] 15 _ _).trans rfl
set_option maxRecDepth 100000 in
theorem e_N_part (x1 : Int32) (μ : jm) : cj 129 [jR 9 0, jI x1] μ = (jbr (decide (x1 < 0)) (bI (cj 96 [jR 9 0, jI (-2 : Int32)] μ) (fun r1 m1 => some (some (jL ((r1 : Int32).toInt64)), m1))) (jbr (decide (x1 ≤ (1 : Int32))) (jbr (decide (¬ x1 = 0)) (some (some (jL (gL μ 49 1)), μ)) (some (some (jL (gL μ 49 0)), μ))) (bI (cj 96 [jR 9 0, jI (-2 : Int32)] μ) (fun r2 m2 => some (some (jL ((r2 : Int32).toInt64)), m2))))) :=
  (cj_it (F := K129) rfl [] 13 _ _).trans rfl
set_option maxRecDepth 100000 in
theorem e_N_image (x1 : Int32) (μ : jm) : cj 130 [jR 9 0, jI x1] μ = (bI (cj 131 [jI x1] μ) (fun r1 m1 => jbr (decide (¬ r1 = 0)) (jgd (inB x1 2) (bV (cj 28 [jR 8 (24 + 11 * ix x1), jR 8 1] m1) (fun m2 => some (some (jI (1 : Int32)), sI m2 0 3 ((gI m2 0 3) ||| ((1 : Int32) <<< (x1 &&& 31))))))) (bI (cj 96 [jR 9 0, jI (-2 : Int32)] m1) (fun r3 m3 => some (some (jI r3), m3))))) :=
  (cj_it (F := K130) rfl [] 21 _ _).trans rfl
set_option maxRecDepth 100000 in
theorem e_N_isImage (x0 : Int32) (μ : jm) : cj 131 [jI x0] μ = (jbr (decide (x0 < 0)) (some (some (jI ((0 : Int32) &&& 1)), μ)) (jbr (decide ((2 : Int32) ≤ x0)) (some (some (jI ((0 : Int32) &&& 1)), μ)) (some (some (jI ((1 : Int32) &&& 1)), μ)))) :=
  (cj_it (F := K131) rfl [] 9 _ _).trans rfl
set_option maxRecDepth 100000 in
theorem e_N_from (x1 : Int32) (μ : jm) : cj 132 [jR 9 0, jI x1] μ = (bI (cj 131 [jI x1] μ) (fun r1 m1 => jbr (decide (¬ r1 = 0)) (jbr (decide (¬ (((gI m1 0 3) >>> (x1 &&& 31)) &&& (1 : Int32)) = 0)) (jgd (inB x1 2) (bV (cj 28 [jR 8 1, jR 8 (24 + 11 * ix x1)] m1) (fun m2 => some (some (jI (1 : Int32)), m2)))) (bI (cj 96 [jR 9 0, jI (-3 : Int32)] m1) (fun r3 m3 => some (some (jI r3), m3)))) (bI (cj 96 [jR 9 0, jI (-2 : Int32)] m1) (fun r4 m4 => some (some (jI r4), m4))))) :=
  (cj_it (F := K132) rfl [] 20 _ _).trans rfl
set_option maxRecDepth 100000 in
theorem e_N_status (x1 : Int32) (μ : jm) : cj 133 [jR 9 0, jI x1] μ = (jbr (decide (x1 = 0)) (some (some (jI (gI μ 0 6)), μ)) (jbr (decide (x1 = 1)) (some (some (jI (gI μ 0 7)), μ)) (jbr (decide (x1 = 2)) (some (some (jI (gI μ 0 8)), μ)) (some (some (jI (-1 : Int32)), sI μ 0 6 ((gI μ 0 6) + (1 : Int32))))))) :=
  (cj_it (F := K133) rfl [] 11 _ _).trans rfl
set_option maxRecDepth 100000 in
theorem e_N_count (x1 : Int32) (μ : jm) : cj 134 [jR 9 0, jI x1] μ = (jbr (decide (x1 < 0)) (bI (cj 96 [jR 9 0, jI (-2 : Int32)] μ) (fun r1 m1 => some (some (jI r1), m1))) (jbr (decide (x1 ≤ (4 : Int32))) (bI (cj 135 [jR 9 0, jI x1] μ) (fun r2 m2 => some (some (jI r2), m2))) (bI (cj 96 [jR 9 0, jI (-2 : Int32)] μ) (fun r3 m3 => some (some (jI r3), m3))))) :=
  (cj_it (F := K134) rfl [] 10 _ _).trans rfl
set_option maxRecDepth 100000 in
theorem e_N_amount (x1 : Int32) (μ : jm) : cj 135 [jR 9 0, jI x1] μ = (jbr (decide (x1 = 0)) (some (some (jI (gI μ 1 6)), μ)) (jbr (decide (x1 = 1)) (some (some (jI (gI μ 1 9)), μ)) (jbr (decide (x1 = 2)) (some (some (jI (gI μ 1 12)), μ)) (jbr (decide (x1 = 3)) (some (some (jI (gI μ 1 14)), μ)) (some (some (jI (gI μ 46 1)), μ)))))) :=
  (cj_it (F := K135) rfl [] 7 _ _).trans rfl
set_option maxRecDepth 100000 in
theorem e_N_digest  (μ : jm) : cj 136 [jR 9 0] μ = (evj 136 6 [jR 9 0, jL (677 : Int64), jU, jI (0 : Int32)] [] μ) :=
  (cj_it (F := K136) rfl [6] 5 _ _).trans rfl
set_option maxRecDepth 100000 in
theorem e_N_digest_6 (y0 : Int64) (x1 : Int32) (μ : jm) : evj 136 6 [jR 9 0, jL y0, jU, jI x1] [] μ = (jbr (decide ((4 : Int32) < x1)) (bL (cj 42 [jR 8 1, jL y0] μ) (fun r1 m1 => some (some (jL (((31 : Int64) * (((31 : Int64) * r1) + (gL m1 49 0))) + (gL m1 49 1))), m1))) (bI (cj 135 [jR 9 0, jI x1] μ) (fun r2 m2 => evj 136 6 [jR 9 0, jL (((31 : Int64) * y0) + ((r2 : Int32).toInt64)), jU, jI (x1 + 1)] [] m2))) :=
  (evj_s (F := K136) rfl [6] 25 rfl).trans rfl
end
section
/-! EQUATIONS of the runs, by program: from a method's entry, or a cut, to the next cuts -/
set_option maxRecDepth 100000 in
theorem e_M_door (x1 : Int32) (x2 : Int32) (μ : jm) : cj 137 [jR 10 64, jI x1, jI x2] μ = (bI (cj 138 [jR 10 64, jI (0 : Int32), jI (0 : Int32), jI x1, jI x2] μ) (fun r1 m1 => bI (cj 141 [jR 10 64, jI r1] m1) (fun r2 m2 => some (some (jI r2), m2)))) :=
  (cj_it (F := K137) rfl [] 10 _ _).trans rfl
set_option maxRecDepth 100000 in
theorem e_M_tie (x1 : Int32) (x2 : Int32) (x3 : Int32) (x4 : Int32) (μ : jm) : cj 138 [jR 10 64, jI x1, jI x2, jI x3, jI x4] μ = (bI (cj 139 [jI x3] μ) (fun r1 m1 => jbr (decide (r1 = 0)) (some (some (jI (-2 : Int32)), m1)) (bI (cj 139 [jI x4] m1) (fun r2 m2 => jbr (decide (r2 = 0)) (some (some (jI (-2 : Int32)), m2)) (jbr (decide (¬ x3 = x4)) (jgd (inB (((x1 + x2) + ((6 : Int32) * x3)) + x4) 560) (jbr (decide (¬ (gI m2 65 (ix (((x1 + x2) + ((6 : Int32) * x3)) + x4))) = (1 : Int32))) (jgd (inB (((x1 + x2) + ((6 : Int32) * x3)) + x4) 560) (jgd (inB (((x1 + x2) + ((6 : Int32) * x4)) + x3) 560) (some (some (jI (1 : Int32)), sI (sI m2 65 (ix (((x1 + x2) + ((6 : Int32) * x3)) + x4)) (1 : Int32)) 65 (ix (((x1 + x2) + ((6 : Int32) * x4)) + x3)) (1 : Int32))))) (some (some (jI (-3 : Int32)), m2)))) (some (some (jI (-2 : Int32)), m2))))))) :=
  (cj_it (F := K138) rfl [] 52 _ _).trans rfl
set_option maxRecDepth 100000 in
theorem e_M_isRoom (x0 : Int32) (μ : jm) : cj 139 [jI x0] μ = (bI (cj 140 [jL ((x0 : Int32).toInt64), jL (0 : Int64), jL (5 : Int64)] μ) (fun r1 m1 => some (some (jI (r1 &&& 1)), m1))) :=
  (cj_it (F := K139) rfl [] 7 _ _).trans rfl
set_option maxRecDepth 100000 in
theorem e_M_in (x0 : Int64) (x1 : Int64) (x2 : Int64) (μ : jm) : cj 140 [jL x0, jL x1, jL x2] μ = (jbr (decide ((lg_cmp x0 x1) < 0)) (some (some (jI ((0 : Int32) &&& 1)), μ)) (jbr (decide (0 < (lg_cmp x0 x2))) (some (some (jI ((0 : Int32) &&& 1)), μ)) (some (some (jI ((1 : Int32) &&& 1)), μ)))) :=
  (cj_it (F := K140) rfl [] 12 _ _).trans rfl
set_option maxRecDepth 100000 in
theorem e_M_told (x1 : Int32) (μ : jm) : cj 141 [jR 10 64, jI x1] μ = (jbr (decide (x1 = (-2 : Int32))) (jgd (inB ((-2 : Int32) - x1) 3) (jgd (inB ((-2 : Int32) - x1) 3) (some (some (jI x1), sI μ 68 (ix ((-2 : Int32) - x1)) ((gI μ 68 (ix ((-2 : Int32) - x1))) + (1 : Int32)))))) (jbr (decide (x1 = (-3 : Int32))) (jgd (inB ((-2 : Int32) - x1) 3) (jgd (inB ((-2 : Int32) - x1) 3) (some (some (jI x1), sI μ 68 (ix ((-2 : Int32) - x1)) ((gI μ 68 (ix ((-2 : Int32) - x1))) + (1 : Int32)))))) (jbr (decide (¬ x1 = (-4 : Int32))) (some (some (jI x1), μ)) (jgd (inB ((-2 : Int32) - x1) 3) (jgd (inB ((-2 : Int32) - x1) 3) (some (some (jI x1), sI μ 68 (ix ((-2 : Int32) - x1)) ((gI μ 68 (ix ((-2 : Int32) - x1))) + (1 : Int32))))))))) :=
  (cj_it (F := K141) rfl [] 22 _ _).trans rfl
set_option maxRecDepth 100000 in
theorem e_M_hears (x1 : Int32) (x2 : Int32) (μ : jm) : cj 142 [jR 10 64, jI x1, jI x2] μ = (bI (cj 138 [jR 10 64, jI (0 : Int32), jI (36 : Int32), jI x1, jI x2] μ) (fun r1 m1 => bI (cj 141 [jR 10 64, jI r1] m1) (fun r2 m2 => some (some (jI r2), m2)))) :=
  (cj_it (F := K142) rfl [] 10 _ _).trans rfl
set_option maxRecDepth 100000 in
theorem e_M_one (x1 : Int32) (x2 : Int32) (x3 : Int32) (μ : jm) : cj 143 [jR 10 64, jI x1, jI x2, jI x3] μ = (bI (cj 144 [jR 10 64, jI (0 : Int32), jI x1, jI x2, jI x3] μ) (fun r1 m1 => bI (cj 141 [jR 10 64, jI r1] m1) (fun r2 m2 => some (some (jI r2), m2)))) :=
  (cj_it (F := K143) rfl [] 10 _ _).trans rfl
set_option maxRecDepth 100000 in
theorem e_M_addOne (x1 : Int32) (x2 : Int32) (x3 : Int32) (x4 : Int32) (μ : jm) : cj 144 [jR 10 64, jI x1, jI x2, jI x3, jI x4] μ = (bI (cj 140 [jL ((x2 : Int32).toInt64), jL (0 : Int64), jL (5 : Int64)] μ) (fun r1 m1 => jbr (decide (r1 = 0)) (some (some (jI (-2 : Int32)), m1)) (bI (cj 140 [jL ((x3 : Int32).toInt64), jL (0 : Int64), jL (11 : Int64)] m1) (fun r2 m2 => jbr (decide (r2 = 0)) (some (some (jI (-2 : Int32)), m2)) (bI (cj 139 [jI x4] m2) (fun r3 m3 => jbr (decide (¬ r3 = 0)) (jgd (inB (x1 + (72 : Int32)) 560) (jbr (decide (¬ (gI m3 65 (ix (x1 + (72 : Int32)))) = (7 : Int32))) (jgd (inB ((x1 + (73 : Int32)) + (gI m3 65 (ix (x1 + (72 : Int32))))) 560) (jgd (inB ((x1 + (80 : Int32)) + (gI m3 65 (ix (x1 + (72 : Int32))))) 560) (jgd (inB ((x1 + (87 : Int32)) + (gI m3 65 (ix (x1 + (72 : Int32))))) 560) (jgd (inB ((x1 + (94 : Int32)) + (gI m3 65 (ix (x1 + (72 : Int32))))) 560) (jgd (inB (x1 + (72 : Int32)) 560) (jgd (inB (x1 + (72 : Int32)) 560) (some (some (jI (gI m3 65 (ix (x1 + (72 : Int32))))), sI (sI (sI (sI (sI m3 65 (ix ((x1 + (73 : Int32)) + (gI m3 65 (ix (x1 + (72 : Int32)))))) x2) 65 (ix ((x1 + (80 : Int32)) + (gI m3 65 (ix (x1 + (72 : Int32)))))) x3) 65 (ix ((x1 + (87 : Int32)) + (gI m3 65 (ix (x1 + (72 : Int32)))))) x4) 65 (ix ((x1 + (94 : Int32)) + (gI m3 65 (ix (x1 + (72 : Int32)))))) (-1 : Int32)) 65 (ix (x1 + (72 : Int32))) ((gI (sI (sI (sI (sI m3 65 (ix ((x1 + (73 : Int32)) + (gI m3 65 (ix (x1 + (72 : Int32)))))) x2) 65 (ix ((x1 + (80 : Int32)) + (gI m3 65 (ix (x1 + (72 : Int32)))))) x3) 65 (ix ((x1 + (87 : Int32)) + (gI m3 65 (ix (x1 + (72 : Int32)))))) x4) 65 (ix ((x1 + (94 : Int32)) + (gI m3 65 (ix (x1 + (72 : Int32)))))) (-1 : Int32)) 65 (ix (x1 + (72 : Int32)))) + (1 : Int32)))))))))) (some (some (jI (-4 : Int32)), m3)))) (some (some (jI (-2 : Int32)), m3)))))))) :=
  (cj_it (F := K144) rfl [] 74 _ _).trans rfl
set_option maxRecDepth 100000 in
theorem e_M_mates (x1 : Int32) (x2 : Int32) (μ : jm) : cj 145 [jR 10 64, jI x1, jI x2] μ = (bI (cj 146 [jR 10 64, jI (0 : Int32), jI x1, jI x2] μ) (fun r1 m1 => bI (cj 141 [jR 10 64, jI r1] m1) (fun r2 m2 => some (some (jI r2), m2)))) :=
  (cj_it (F := K145) rfl [] 9 _ _).trans rfl
set_option maxRecDepth 100000 in
theorem e_M_addMates (x1 : Int32) (x2 : Int32) (x3 : Int32) (μ : jm) : cj 146 [jR 10 64, jI x1, jI x2, jI x3] μ = (bI (cj 147 [jR 10 64, jI x1, jI x2] μ) (fun r1 m1 => jbr (decide (r1 = 0)) (evj 146 23 [jU, jU, jU, jU] [] m1) (bI (cj 147 [jR 10 64, jI x1, jI x3] m1) (fun r2 m2 => jbr (decide (r2 = 0)) (evj 146 23 [jU, jU, jU, jU] [] m2) (jbr (decide (¬ x2 = x3)) (jgd (inB ((x1 + (94 : Int32)) + x2) 560) (jbr (decide (¬ (gI m2 65 (ix ((x1 + (94 : Int32)) + x2))) = (-1 : Int32))) (evj 146 56 [jU, jU, jU, jU] [] m2) (jgd (inB ((x1 + (94 : Int32)) + x3) 560) (jbr (decide ((gI m2 65 (ix ((x1 + (94 : Int32)) + x3))) = (-1 : Int32))) (jgd (inB ((x1 + (94 : Int32)) + x2) 560) (jgd (inB ((x1 + (94 : Int32)) + x3) 560) (some (some (jI (1 : Int32)), sI (sI m2 65 (ix ((x1 + (94 : Int32)) + x2)) x3) 65 (ix ((x1 + (94 : Int32)) + x3)) x2)))) (evj 146 56 [jU, jU, jU, jU] [] m2))))) (evj 146 23 [jU, jU, jU, jU] [] m2)))))) :=
  (cj_it (F := K146) rfl [23, 56] 54 _ _).trans rfl
set_option maxRecDepth 100000 in
theorem e_M_addMates_23  (μ : jm) : evj 146 23 [jU, jU, jU, jU] [] μ = (some (some (jI (-2 : Int32)), μ)) :=
  (evj_s (F := K146) rfl [23, 56] 3 rfl).trans rfl
set_option maxRecDepth 100000 in
theorem e_M_addMates_56  (μ : jm) : evj 146 56 [jU, jU, jU, jU] [] μ = (some (some (jI (-3 : Int32)), μ)) :=
  (evj_s (F := K146) rfl [23, 56] 3 rfl).trans rfl
set_option maxRecDepth 100000 in
theorem e_M_isOne (x1 : Int32) (x2 : Int32) (μ : jm) : cj 147 [jR 10 64, jI x1, jI x2] μ = (jgd (inB (x1 + (72 : Int32)) 560) (bI (cj 140 [jL ((x2 : Int32).toInt64), jL (0 : Int64), jL (((gI μ 65 (ix (x1 + (72 : Int32)))) - (1 : Int32) : Int32).toInt64)] μ) (fun r1 m1 => some (some (jI (r1 &&& 1)), m1)))) :=
  (cj_it (F := K147) rfl [] 15 _ _).trans rfl
set_option maxRecDepth 100000 in
theorem e_M_goes (x1 : Int32) (x2 : Int32) (μ : jm) : cj 148 [jR 10 64, jI x1, jI x2] μ = (bI (cj 147 [jR 10 64, jI (0 : Int32), jI x1] μ) (fun r1 m1 => jbr (decide (r1 = 0)) (bI (cj 141 [jR 10 64, jI (-2 : Int32)] m1) (fun r2 m2 => some (some (jI r2), m2))) (bI (cj 139 [jI x2] m1) (fun r3 m3 => jbr (decide (¬ r3 = 0)) (jgd (inB ((87 : Int32) + x1) 560) (jgd (inB ((87 : Int32) + x1) 560) (some (some (jI (gI m3 65 (ix ((87 : Int32) + x1)))), sI m3 65 (ix ((87 : Int32) + x1)) x2)))) (bI (cj 141 [jR 10 64, jI (-2 : Int32)] m3) (fun r4 m4 => some (some (jI r4), m4))))))) :=
  (cj_it (F := K148) rfl [] 25 _ _).trans rfl
set_option maxRecDepth 100000 in
theorem e_M_chord (x1 : Int32) (x2 : Int32) (x3 : Int32) (x4 : Int32) (μ : jm) : cj 149 [jR 10 64, jI x1, jI x2, jI x3, jI x4] μ = (bI (cj 150 [jR 10 64, jI (0 : Int32), jI x1, jI x2, jI x3, jI x4] μ) (fun r1 m1 => bI (cj 141 [jR 10 64, jI r1] m1) (fun r2 m2 => some (some (jI r2), m2)))) :=
  (cj_it (F := K149) rfl [] 11 _ _).trans rfl
set_option maxRecDepth 100000 in
theorem e_M_addChord (x1 : Int32) (x2 : Int32) (x3 : Int32) (x4 : Int32) (x5 : Int32) (μ : jm) : cj 150 [jR 10 64, jI x1, jI x2, jI x3, jI x4, jI x5] μ = (jbr (decide (x2 < 0)) (evj 150 35 [jU, jU, jU, jU, jU, jU, jU, jU, jU] [] μ) (jbr (decide (x3 ≤ x2)) (evj 150 35 [jU, jU, jU, jU, jU, jU, jU, jU, jU] [] μ) (jbr (decide (x4 ≤ x3)) (evj 150 35 [jU, jU, jU, jU, jU, jU, jU, jU, jU] [] μ) (jbr (decide ((12 : Int32) ≤ x4)) (evj 150 35 [jU, jU, jU, jU, jU, jU, jU, jU, jU] [] μ) (bI (cj 140 [jL ((x5 : Int32).toInt64), jL (1 : Int64), jL (9 : Int64)] μ) (fun r1 m1 => jbr (decide (¬ r1 = 0)) (jgd (inB (x1 + (101 : Int32)) 560) (evj 150 66 [jR 10 64, jI x1, jU, jU, jU, jI x5, jI ((((1 : Int32) <<< (x2 &&& 31)) ||| ((1 : Int32) <<< (x3 &&& 31))) ||| ((1 : Int32) <<< (x4 &&& 31))), jI (gI m1 65 (ix (x1 + (101 : Int32)))), jI (0 : Int32)] [] m1)) (evj 150 35 [jU, jU, jU, jU, jU, jU, jU, jU, jU] [] m1))))))) :=
  (cj_it (F := K150) rfl [35, 66] 39 _ _).trans rfl
set_option maxRecDepth 100000 in
theorem e_M_addChord_35  (μ : jm) : evj 150 35 [jU, jU, jU, jU, jU, jU, jU, jU, jU] [] μ = (some (some (jI (-2 : Int32)), μ)) :=
  (evj_s (F := K150) rfl [35, 66] 3 rfl).trans rfl
set_option maxRecDepth 100000 in
theorem e_M_addChord_66 (x0 : Int32) (x1 : Int32) (x2 : Int32) (x3 : Int32) (x4 : Int32) (μ : jm) : evj 150 66 [jR 10 64, jI x0, jU, jU, jU, jI x1, jI x2, jI x3, jI x4] [] μ = (jbr (decide (x3 ≤ x4)) (jbr (decide (¬ x3 = (8 : Int32))) (jgd (inB ((x0 + (102 : Int32)) + x3) 560) (jgd (inB ((x0 + (110 : Int32)) + x3) 560) (jgd (inB (x0 + (101 : Int32)) 560) (jgd (inB (x0 + (101 : Int32)) 560) (some (some (jI x3), sI (sI (sI μ 65 (ix ((x0 + (102 : Int32)) + x3)) x2) 65 (ix ((x0 + (110 : Int32)) + x3)) x1) 65 (ix (x0 + (101 : Int32))) ((gI (sI (sI μ 65 (ix ((x0 + (102 : Int32)) + x3)) x2) 65 (ix ((x0 + (110 : Int32)) + x3)) x1) 65 (ix (x0 + (101 : Int32)))) + (1 : Int32)))))))) (some (some (jI (-4 : Int32)), μ))) (jgd (inB ((x0 + (102 : Int32)) + x4) 560) (jbr (decide (¬ (gI μ 65 (ix ((x0 + (102 : Int32)) + x4))) = x2)) (evj 150 66 [jR 10 64, jI x0, jU, jU, jU, jI x1, jI x2, jI x3, jI (x4 + 1)] [] μ) (some (some (jI (-2 : Int32)), μ))))) :=
  (evj_s (F := K150) rfl [35, 66] 37 rfl).trans rfl
set_option maxRecDepth 100000 in
theorem e_M_slack (x1 : Int32) (μ : jm) : cj 151 [jR 10 64, jI x1] μ = (bI (cj 152 [jR 10 64, jI (0 : Int32), jI x1] μ) (fun r1 m1 => bI (cj 141 [jR 10 64, jI r1] m1) (fun r2 m2 => some (some (jI r2), m2)))) :=
  (cj_it (F := K151) rfl [] 8 _ _).trans rfl
set_option maxRecDepth 100000 in
theorem e_M_setSlack (x1 : Int32) (x2 : Int32) (μ : jm) : cj 152 [jR 10 64, jI x1, jI x2] μ = (bI (cj 140 [jL ((x2 : Int32).toInt64), jL (0 : Int64), jL (2 : Int64)] μ) (fun r1 m1 => jbr (decide (¬ r1 = 0)) (jgd (inB (x1 + (118 : Int32)) 560) (jgd (inB (x1 + (118 : Int32)) 560) (some (some (jI (gI m1 65 (ix (x1 + (118 : Int32))))), sI m1 65 (ix (x1 + (118 : Int32))) x2)))) (some (some (jI (-2 : Int32)), m1)))) :=
  (cj_it (F := K152) rfl [] 23 _ _).trans rfl
set_option maxRecDepth 100000 in
theorem e_M_sounds (x1 : Int32) (x2 : Int32) (μ : jm) : cj 153 [jR 10 64, jI x1, jI x2] μ = (bI (cj 154 [jR 10 64, jI x2] μ) (fun r1 m1 => jbr (decide (r1 = 0)) (bI (cj 141 [jR 10 64, jI (-2 : Int32)] m1) (fun r2 m2 => some (some (jI r2), m2))) (bI (cj 147 [jR 10 64, jI (0 : Int32), jI x1] m1) (fun r3 m3 => jbr (decide (r3 = 0)) (bI (cj 141 [jR 10 64, jI (-2 : Int32)] m3) (fun r4 m4 => some (some (jI r4), m4))) (bI (cj 155 [jI x2, jI x1] m3) (fun r5 m5 => jbr (decide (¬ r5 = 0)) (bI (cj 156 [jR 10 64, jI (0 : Int32), jI x1, jI x2] m5) (fun r6 m6 => some (some (jI r6), m6))) (bI (cj 141 [jR 10 64, jI (-2 : Int32)] m5) (fun r7 m7 => some (some (jI r7), m7))))))))) :=
  (cj_it (F := K153) rfl [] 20 _ _).trans rfl
set_option maxRecDepth 100000 in
theorem e_M_isSet (x1 : Int32) (μ : jm) : cj 154 [jR 10 64, jI x1] μ = (jgd (inB (72 : Int32) 560) (bI (cj 140 [jL ((x1 : Int32).toInt64), jL (0 : Int64), jL ((((1 : Int32) <<< ((gI μ 65 (ix (72 : Int32))) &&& 31)) - (1 : Int32) : Int32).toInt64)] μ) (fun r1 m1 => some (some (jI (r1 &&& 1)), m1)))) :=
  (cj_it (F := K154) rfl [] 15 _ _).trans rfl
set_option maxRecDepth 100000 in
theorem e_M_has (x0 : Int32) (x1 : Int32) (μ : jm) : cj 155 [jI x0, jI x1] μ = (jbr (decide (¬ ((x0 >>> (x1 &&& 31)) &&& (1 : Int32)) = (1 : Int32))) (some (some (jI ((0 : Int32) &&& 1)), μ)) (some (some (jI ((1 : Int32) &&& 1)), μ))) :=
  (cj_it (F := K155) rfl [] 11 _ _).trans rfl
set_option maxRecDepth 100000 in
theorem e_M_soundsOf (x1 : Int32) (x2 : Int32) (x3 : Int32) (μ : jm) : cj 156 [jR 10 64, jI x1, jI x2, jI x3] μ = (jgd (inB ((x1 + (80 : Int32)) + x2) 560) (jgd (inB ((x1 + (73 : Int32)) + x2) 560) (jbr (decide (¬ (gI μ 65 (ix ((x1 + (73 : Int32)) + x2))) = (1 : Int32))) (jbr (decide (¬ (gI μ 65 (ix ((x1 + (73 : Int32)) + x2))) = (2 : Int32))) (jbr (decide ((2 : Int32) ≤ (gI μ 65 (ix ((x1 + (73 : Int32)) + x2))))) (bI (cj 157 [jI ((1 : Int32) <<< ((gI μ 65 (ix ((x1 + (80 : Int32)) + x2))) &&& 31)), jI (1 : Int32)] μ) (fun r1 m1 => jbr (decide (¬ (gI μ 65 (ix ((x1 + (73 : Int32)) + x2))) = (5 : Int32))) (evj 156 138 [jU, jU, jU, jU, jU, jU, jU] [jI (0 : Int32), jI (((1 : Int32) <<< ((gI μ 65 (ix ((x1 + (80 : Int32)) + x2))) &&& 31)) ||| r1)] m1) (bI (cj 157 [jI ((1 : Int32) <<< ((gI μ 65 (ix ((x1 + (80 : Int32)) + x2))) &&& 31)), jI (6 : Int32)] m1) (fun r2 m2 => evj 156 138 [jU, jU, jU, jU, jU, jU, jU] [jI r2, jI (((1 : Int32) <<< ((gI μ 65 (ix ((x1 + (80 : Int32)) + x2))) &&& 31)) ||| r1)] m2)))) (some (some (jI ((1 : Int32) <<< ((gI μ 65 (ix ((x1 + (80 : Int32)) + x2))) &&& 31))), μ))) (jgd (inB ((x1 + (94 : Int32)) + x2) 560) (jbr (decide ((gI μ 65 (ix ((x1 + (94 : Int32)) + x2))) = (-1 : Int32))) (evj 156 100 [jU, jU, jU, jU, jI ((1 : Int32) <<< ((gI μ 65 (ix ((x1 + (80 : Int32)) + x2))) &&& 31)), jU, jU] [] μ) (bI (cj 155 [jI x3, jI (gI μ 65 (ix ((x1 + (94 : Int32)) + x2)))] μ) (fun r3 m3 => jbr (decide (r3 = 0)) (evj 156 100 [jU, jU, jU, jU, jI ((1 : Int32) <<< ((gI μ 65 (ix ((x1 + (80 : Int32)) + x2))) &&& 31)), jU, jU] [] m3) (bI (cj 157 [jI ((1 : Int32) <<< ((gI μ 65 (ix ((x1 + (80 : Int32)) + x2))) &&& 31)), jI (7 : Int32)] m3) (fun r4 m4 => evj 156 102 [jU, jU, jU, jU, jU, jU, jU] [jI (((1 : Int32) <<< ((gI μ 65 (ix ((x1 + (80 : Int32)) + x2))) &&& 31)) ||| r4)] m4))))))) (jbr (decide (¬ x3 = ((1 : Int32) <<< (x2 &&& 31)))) (bI (cj 157 [jI ((1 : Int32) <<< ((gI μ 65 (ix ((x1 + (80 : Int32)) + x2))) &&& 31)), jI (1 : Int32)] μ) (fun r5 m5 => evj 156 52 [jU, jU, jU, jU, jU, jU, jU] [jI r5] m5)) (evj 156 52 [jU, jU, jU, jU, jU, jU, jU] [jI ((1 : Int32) <<< ((gI μ 65 (ix ((x1 + (80 : Int32)) + x2))) &&& 31))] μ))))) :=
  (cj_it (F := K156) rfl [52, 100, 102, 138] 49 _ _).trans rfl
set_option maxRecDepth 100000 in
theorem e_M_soundsOf_52 (x0 : Int32) (μ : jm) : evj 156 52 [jU, jU, jU, jU, jU, jU, jU] [jI x0] μ = (some (some (jI x0), μ)) :=
  (evj_s (F := K156) rfl [52, 100, 102, 138] 2 rfl).trans rfl
set_option maxRecDepth 100000 in
theorem e_M_soundsOf_100 (x0 : Int32) (μ : jm) : evj 156 100 [jU, jU, jU, jU, jI x0, jU, jU] [] μ = (evj 156 102 [jU, jU, jU, jU, jU, jU, jU] [jI x0] μ) :=
  (evj_s (F := K156) rfl [52, 100, 102, 138] 2 rfl).trans rfl
set_option maxRecDepth 100000 in
theorem e_M_soundsOf_102 (x0 : Int32) (μ : jm) : evj 156 102 [jU, jU, jU, jU, jU, jU, jU] [jI x0] μ = (some (some (jI x0), μ)) :=
  (evj_s (F := K156) rfl [52, 100, 102, 138] 2 rfl).trans rfl
set_option maxRecDepth 100000 in
theorem e_M_soundsOf_138 (x0 : Int32) (x1 : Int32) (μ : jm) : evj 156 138 [jU, jU, jU, jU, jU, jU, jU] [jI x0, jI x1] μ = (some (some (jI (x1 ||| x0)), μ)) :=
  (evj_s (F := K156) rfl [52, 100, 102, 138] 3 rfl).trans rfl
set_option maxRecDepth 100000 in
theorem e_M_turned (x0 : Int32) (x1 : Int32) (μ : jm) : cj 157 [jI x0, jI x1] μ = (some (some (jI (((x0 <<< (x1 &&& 31)) ||| ((x0 <<< (x1 &&& 31)) >>> ((12 : Int32) &&& 31))) &&& (4095 : Int32))), μ)) :=
  (cj_it (F := K157) rfl [] 13 _ _).trans rfl
set_option maxRecDepth 100000 in
theorem e_M_type (x1 : Int64) (x2 : Int32) (μ : jm) : cj 158 [jR 10 64, jL x1, jI x2] μ = (bI (cj 140 [jL ((x2 : Int32).toInt64), jL (1 : Int64), jL (8 : Int64)] μ) (fun r1 m1 => jbr (decide (¬ r1 = 0)) (jbr (decide (((gI m1 64 3) + x2) ≤ (200 : Int32))) (evj 158 43 [jR 10 64, jL x1, jU, jU, jI (x2 - (1 : Int32))] [] m1) (bI (cj 141 [jR 10 64, jI (-4 : Int32)] m1) (fun r2 m2 => some (some (jI r2), m2)))) (bI (cj 141 [jR 10 64, jI (-2 : Int32)] m1) (fun r3 m3 => some (some (jI r3), m3))))) :=
  (cj_it (F := K158) rfl [43] 17 _ _).trans rfl
set_option maxRecDepth 100000 in
theorem e_M_type_43 (y0 : Int64) (x1 : Int32) (μ : jm) : evj 158 43 [jR 10 64, jL y0, jU, jU, jI x1] [] μ = (jbr (decide (x1 < 0)) (some (some (jI (gI μ 64 3)), μ)) (jgd (inB (gI μ 64 3) 200) (evj 158 43 [jR 10 64, jL y0, jU, jU, jI (x1 + (-1))] [] (sI (sI μ 67 (ix (gI μ 64 3)) (((y0 >>> (((8 : Int32) * x1 : Int32).toInt64 &&& 63)) &&& (255 : Int64) : Int64).toInt32)) 64 3 ((gI (sI μ 67 (ix (gI μ 64 3)) (((y0 >>> (((8 : Int32) * x1 : Int32).toInt64 &&& 63)) &&& (255 : Int64) : Int64).toInt32)) 64 3) + (1 : Int32)))))) :=
  (evj_s (F := K158) rfl [43] 24 rfl).trans rfl
set_option maxRecDepth 100000 in
theorem e_M_clear  (μ : jm) : cj 159 [jR 10 64] μ = (some (some (jI (gI μ 64 3)), sI μ 64 3 (0 : Int32))) :=
  (cj_it (F := K159) rfl [] 9 _ _).trans rfl
set_option maxRecDepth 100000 in
theorem e_M_read  (μ : jm) : cj 160 [jR 10 64] μ = (evj 160 15 [jR 10 64, jU] [] (sI (sI (sI μ 64 10 (0 : Int32)) 64 9 (0 : Int32)) 64 11 (-1 : Int32))) :=
  (cj_it (F := K160) rfl [15, 55, 81] 10 _ _).trans rfl
set_option maxRecDepth 100000 in
theorem e_M_read_15  (μ : jm) : evj 160 15 [jR 10 64, jU] [] μ = (jbr (decide (¬ (gI μ 64 11) = (-1 : Int32))) (jbr (decide ((gI μ 64 11) = (-1 : Int32))) (evj 160 55 [jR 10 64, jI (0 : Int32)] [] μ) (some (some (jI ((-10 : Int32) - (gI μ 64 11))), μ))) (bI (cj 161 [jR 10 64] μ) (fun r1 m1 => jbr (decide (¬ r1 = 0)) (jbr (decide ((gI m1 64 11) = (-1 : Int32))) (evj 160 55 [jR 10 64, jI (0 : Int32)] [] m1) (some (some (jI ((-10 : Int32) - (gI m1 64 11))), m1))) (bV (cj 162 [jR 10 64] m1) (fun m2 => evj 160 15 [jR 10 64, jU] [] m2))))) :=
  (evj_s (F := K160) rfl [15, 55, 81] 17 rfl).trans rfl
set_option maxRecDepth 100000 in
theorem e_M_read_55 (x0 : Int32) (μ : jm) : evj 160 55 [jR 10 64, jI x0] [] μ = (jbr (decide ((140 : Int32) ≤ x0)) (evj 160 81 [jR 10 64, jI (0 : Int32)] [] μ) (jgd (inB ((420 : Int32) + x0) 560) (evj 160 55 [jR 10 64, jI (x0 + 1)] [] (sI μ 65 (ix ((420 : Int32) + x0)) (0 : Int32))))) :=
  (evj_s (F := K160) rfl [15, 55, 81] 13 rfl).trans rfl
set_option maxRecDepth 100000 in
theorem e_M_read_81 (x0 : Int32) (μ : jm) : evj 160 81 [jR 10 64, jI x0] [] μ = (jbr (decide ((gI μ 64 9) ≤ x0)) (bV (cj 168 [jR 10 64, jI (420 : Int32), jI (0 : Int32)] μ) (fun m1 => some (some (jI (gI m1 64 9)), m1))) (bI (cj 167 [jR 10 64, jI x0] μ) (fun r2 m2 => jbr (decide (0 ≤ r2)) (evj 160 81 [jR 10 64, jI (x0 + 1)] [] m2) (some (some (jI ((-1000 : Int32) - x0)), m2))))) :=
  (evj_s (F := K160) rfl [15, 55, 81] 13 rfl).trans rfl
set_option maxRecDepth 100000 in
theorem e_M_isEnd  (μ : jm) : cj 161 [jR 10 64] μ = (jbr (decide ((gI μ 64 3) ≤ (gI μ 64 10))) (jbr (decide (¬ (gI μ 64 10) = (gI μ 64 3))) (some (some (jI ((0 : Int32) &&& 1)), μ)) (some (some (jI ((1 : Int32) &&& 1)), μ))) (jgd (inB (gI μ 64 10) 200) (jbr (decide (¬ (gI μ 67 (ix (gI μ 64 10))) = (32 : Int32))) (jbr (decide (¬ (gI μ 64 10) = (gI μ 64 3))) (some (some (jI ((0 : Int32) &&& 1)), μ)) (some (some (jI ((1 : Int32) &&& 1)), μ))) (evj 161 0 [jR 10 64] [] (sI μ 64 10 ((gI μ 64 10) + (1 : Int32))))))) :=
  (cj_it (F := K161) rfl [0] 21 _ _).trans rfl
set_option maxRecDepth 100000 in
theorem e_M_isEnd_0  (μ : jm) : evj 161 0 [jR 10 64] [] μ = (jbr (decide ((gI μ 64 3) ≤ (gI μ 64 10))) (jbr (decide (¬ (gI μ 64 10) = (gI μ 64 3))) (some (some (jI ((0 : Int32) &&& 1)), μ)) (some (some (jI ((1 : Int32) &&& 1)), μ))) (jgd (inB (gI μ 64 10) 200) (jbr (decide (¬ (gI μ 67 (ix (gI μ 64 10))) = (32 : Int32))) (jbr (decide (¬ (gI μ 64 10) = (gI μ 64 3))) (some (some (jI ((0 : Int32) &&& 1)), μ)) (some (some (jI ((1 : Int32) &&& 1)), μ))) (evj 161 0 [jR 10 64] [] (sI μ 64 10 ((gI μ 64 10) + (1 : Int32))))))) :=
  (evj_s (F := K161) rfl [0] 21 rfl).trans rfl
set_option maxRecDepth 100000 in
theorem e_M_takeItem  (μ : jm) : cj 162 [jR 10 64] μ = (bI (cj 163 [jR 10 64] μ) (fun r1 m1 => jgd (inB (gI m1 64 9) 40) (evj 162 17 [jR 10 64, jI r1, jI (0 : Int32)] [] (sI m1 69 (ix (gI m1 64 9)) r1)))) :=
  (cj_it (F := K162) rfl [17, 56] 12 _ _).trans rfl
set_option maxRecDepth 100000 in
theorem e_M_takeItem_17 (x0 : Int32) (x1 : Int32) (μ : jm) : evj 162 17 [jR 10 64, jI x0, jI x1] [] μ = (bI (cj 165 [jI x0] μ) (fun r1 m1 => jbr (decide (r1 ≤ x1)) (evj 162 56 [jR 10 64, jU, jU] [] m1) (jbr (decide (¬ (gI m1 64 11) = (-1 : Int32))) (evj 162 56 [jR 10 64, jU, jU] [] m1) (bI (cj 166 [jR 10 64] m1) (fun r2 m2 => jgd (inB (((4 : Int32) * (gI m1 64 9)) + x1) 160) (evj 162 17 [jR 10 64, jI x0, jI (x1 + 1)] [] (sI m2 70 (ix (((4 : Int32) * (gI m1 64 9)) + x1)) r2))))))) :=
  (evj_s (F := K162) rfl [17, 56] 22 rfl).trans rfl
set_option maxRecDepth 100000 in
theorem e_M_takeItem_56  (μ : jm) : evj 162 56 [jR 10 64, jU, jU] [] μ = (jbr (decide (¬ (gI μ 64 11) = (-1 : Int32))) (some (none, sI (sI μ 64 10 ((gI μ 64 10) + (1 : Int32))) 64 9 ((gI (sI μ 64 10 ((gI μ 64 10) + (1 : Int32))) 64 9) + (1 : Int32)))) (bI (cj 161 [jR 10 64] μ) (fun r1 m1 => jbr (decide (¬ r1 = 0)) (some (none, sI (sI (sI m1 64 11 (gI m1 64 10)) 64 10 ((gI (sI m1 64 11 (gI m1 64 10)) 64 10) + (1 : Int32))) 64 9 ((gI (sI (sI m1 64 11 (gI m1 64 10)) 64 10 ((gI (sI m1 64 11 (gI m1 64 10)) 64 10) + (1 : Int32))) 64 9) + (1 : Int32)))) (jgd (inB (gI m1 64 10) 200) (jbr (decide ((gI m1 67 (ix (gI m1 64 10))) = (59 : Int32))) (some (none, sI (sI m1 64 10 ((gI m1 64 10) + (1 : Int32))) 64 9 ((gI (sI m1 64 10 ((gI m1 64 10) + (1 : Int32))) 64 9) + (1 : Int32)))) (some (none, sI (sI (sI m1 64 11 (gI m1 64 10)) 64 10 ((gI (sI m1 64 11 (gI m1 64 10)) 64 10) + (1 : Int32))) 64 9 ((gI (sI (sI m1 64 11 (gI m1 64 10)) 64 10 ((gI (sI m1 64 11 (gI m1 64 10)) 64 10) + (1 : Int32))) 64 9) + (1 : Int32))))))))) :=
  (evj_s (F := K162) rfl [17, 56] 32 rfl).trans rfl
set_option maxRecDepth 100000 in
theorem e_M_takeWord  (μ : jm) : cj 163 [jR 10 64] μ = (evj 163 7 [jR 10 64, jI (gI μ 64 10), jL (0 : Int64), jU, jU] [] μ) :=
  (cj_it (F := K163) rfl [7, 75, 89] 6 _ _).trans rfl
set_option maxRecDepth 100000 in
theorem e_M_takeWord_7 (x0 : Int32) (y1 : Int64) (μ : jm) : evj 163 7 [jR 10 64, jI x0, jL y1, jU, jU] [] μ = (jbr (decide ((gI μ 64 3) ≤ (gI μ 64 10))) (evj 163 89 [jR 10 64, jI x0, jL y1, jU, jU] [] μ) (jgd (inB (gI μ 64 10) 200) (bI (cj 140 [jL ((gI μ 67 (ix (gI μ 64 10)) : Int32).toInt64), jL (97 : Int64), jL (122 : Int64)] μ) (fun r1 m1 => jbr (decide (r1 = 0)) (evj 163 89 [jR 10 64, jI x0, jL y1, jU, jU] [] m1) (jbr (decide ((6 : Int32) ≤ ((gI m1 64 10) - x0))) (evj 163 75 [jR 10 64, jI x0, jU, jU, jU] [jL y1] m1) (jgd (inB (gI m1 64 10) 200) (evj 163 75 [jR 10 64, jI x0, jU, jU, jU] [jL ((((32 : Int64) * y1) + ((gI m1 67 (ix (gI m1 64 10)) : Int32).toInt64)) - (96 : Int64))] m1))))))) :=
  (evj_s (F := K163) rfl [7, 75, 89] 35 rfl).trans rfl
set_option maxRecDepth 100000 in
theorem e_M_takeWord_75 (x0 : Int32) (y1 : Int64) (μ : jm) : evj 163 75 [jR 10 64, jI x0, jU, jU, jU] [jL y1] μ = (evj 163 7 [jR 10 64, jI x0, jL y1, jU, jU] [] (sI μ 64 10 ((gI μ 64 10) + (1 : Int32)))) :=
  (evj_s (F := K163) rfl [7, 75, 89] 9 rfl).trans rfl
set_option maxRecDepth 100000 in
theorem e_M_takeWord_89 (x0 : Int32) (y1 : Int64) (μ : jm) : evj 163 89 [jR 10 64, jI x0, jL y1, jU, jU] [] μ = (bI (cj 164 [jL y1] μ) (fun r1 m1 => jbr (decide (¬ r1 = (-1 : Int32))) (some (some (jI r1), sI m1 64 11 (gI m1 64 11))) (some (some (jI r1), sI m1 64 11 x0)))) :=
  (evj_s (F := K163) rfl [7, 75, 89] 13 rfl).trans rfl
set_option maxRecDepth 100000 in
theorem e_M_wordOf (x0 : Int64) (μ : jm) : cj 164 [jL x0] μ = (jbr (decide (¬ (lg_cmp x0 (146930 : Int64)) = 0)) (jbr (decide (¬ (lg_cmp x0 (8554067 : Int64)) = 0)) (jbr (decide (¬ (lg_cmp x0 (15813 : Int64)) = 0)) (jbr (decide (¬ (lg_cmp x0 (13684915 : Int64)) = 0)) (jbr (decide (¬ (lg_cmp x0 (3423812 : Int64)) = 0)) (jbr (decide (¬ (lg_cmp x0 (20317291 : Int64)) = 0)) (evj 164 73 [jU, jU] [jI (-1 : Int32)] μ) (evj 164 73 [jU, jU] [jI (5 : Int32)] μ)) (evj 164 73 [jU, jU] [jI (4 : Int32)] μ)) (evj 164 73 [jU, jU] [jI (3 : Int32)] μ)) (evj 164 73 [jU, jU] [jI (2 : Int32)] μ)) (evj 164 73 [jU, jU] [jI (1 : Int32)] μ)) (evj 164 73 [jU, jU] [jI (0 : Int32)] μ)) :=
  (cj_it (F := K164) rfl [73] 27 _ _).trans rfl
set_option maxRecDepth 100000 in
theorem e_M_wordOf_73 (x0 : Int32) (μ : jm) : evj 164 73 [jU, jU] [jI x0] μ = (some (some (jI x0), μ)) :=
  (evj_s (F := K164) rfl [73] 2 rfl).trans rfl
set_option maxRecDepth 100000 in
theorem e_M_numbersOf (x0 : Int32) (μ : jm) : cj 165 [jI x0] μ = (jbr (decide (¬ x0 = (4 : Int32))) (jbr (decide (¬ x0 = (2 : Int32))) (jbr (decide (¬ x0 = (5 : Int32))) (some (some (jI (2 : Int32)), μ)) (some (some (jI (1 : Int32)), μ))) (some (some (jI (3 : Int32)), μ))) (some (some (jI (4 : Int32)), μ))) :=
  (cj_it (F := K165) rfl [] 13 _ _).trans rfl
set_option maxRecDepth 100000 in
theorem e_M_takeNumber  (μ : jm) : cj 166 [jR 10 64] μ = (bI (cj 161 [jR 10 64] μ) (fun r1 m1 => jbr (decide (r1 = 0)) (evj 166 24 [jR 10 64, jI (gI m1 64 10), jI (0 : Int32)] [] m1) (some (some (jI (-1 : Int32)), sI m1 64 11 (gI m1 64 3))))) :=
  (cj_it (F := K166) rfl [24, 88, 102] 10 _ _).trans rfl
set_option maxRecDepth 100000 in
theorem e_M_takeNumber_24 (x0 : Int32) (x1 : Int32) (μ : jm) : evj 166 24 [jR 10 64, jI x0, jI x1] [] μ = (jbr (decide ((gI μ 64 3) ≤ (gI μ 64 10))) (evj 166 102 [jR 10 64, jI x0, jI x1] [] μ) (jgd (inB (gI μ 64 10) 200) (bI (cj 140 [jL ((gI μ 67 (ix (gI μ 64 10)) : Int32).toInt64), jL (48 : Int64), jL (57 : Int64)] μ) (fun r1 m1 => jbr (decide (r1 = 0)) (evj 166 102 [jR 10 64, jI x0, jI x1] [] m1) (jbr (decide ((2 : Int32) ≤ ((gI m1 64 10) - x0))) (evj 166 88 [jR 10 64, jI x0, jU] [jI x1] m1) (jgd (inB (gI m1 64 10) 200) (evj 166 88 [jR 10 64, jI x0, jU] [jI ((((10 : Int32) * x1) + (gI m1 67 (ix (gI m1 64 10)))) - (48 : Int32))] m1))))))) :=
  (evj_s (F := K166) rfl [24, 88, 102] 34 rfl).trans rfl
set_option maxRecDepth 100000 in
theorem e_M_takeNumber_88 (x0 : Int32) (x1 : Int32) (μ : jm) : evj 166 88 [jR 10 64, jI x0, jU] [jI x1] μ = (evj 166 24 [jR 10 64, jI x0, jI x1] [] (sI μ 64 10 ((gI μ 64 10) + (1 : Int32)))) :=
  (evj_s (F := K166) rfl [24, 88, 102] 9 rfl).trans rfl
set_option maxRecDepth 100000 in
theorem e_M_takeNumber_102 (x0 : Int32) (x1 : Int32) (μ : jm) : evj 166 102 [jR 10 64, jI x0, jI x1] [] μ = (jbr (decide ((gI μ 64 10) = x0)) (some (some (jI x1), sI μ 64 11 x0)) (jbr (decide (((gI μ 64 10) - x0) ≤ (2 : Int32))) (some (some (jI x1), sI μ 64 11 (gI μ 64 11))) (some (some (jI x1), sI μ 64 11 x0)))) :=
  (evj_s (F := K166) rfl [24, 88, 102] 17 rfl).trans rfl
set_option maxRecDepth 100000 in
theorem e_M_tellItem (x1 : Int32) (μ : jm) : cj 167 [jR 10 64, jI x1] μ = (jgd (inB ((4 : Int32) * x1) 160) (jgd (inB (((4 : Int32) * x1) + (1 : Int32)) 160) (jgd (inB (((4 : Int32) * x1) + (2 : Int32)) 160) (jgd (inB x1 40) (jbr (decide ((gI μ 69 (ix x1)) = 0)) (bI (cj 138 [jR 10 64, jI (420 : Int32), jI (0 : Int32), jI (gI μ 70 (ix ((4 : Int32) * x1))), jI (gI μ 70 (ix (((4 : Int32) * x1) + (1 : Int32))))] μ) (fun r1 m1 => some (some (jI r1), m1))) (jbr (decide ((gI μ 69 (ix x1)) = 1)) (bI (cj 138 [jR 10 64, jI (420 : Int32), jI (36 : Int32), jI (gI μ 70 (ix ((4 : Int32) * x1))), jI (gI μ 70 (ix (((4 : Int32) * x1) + (1 : Int32))))] μ) (fun r2 m2 => some (some (jI r2), m2))) (jbr (decide ((gI μ 69 (ix x1)) = 2)) (bI (cj 144 [jR 10 64, jI (420 : Int32), jI (gI μ 70 (ix ((4 : Int32) * x1))), jI (gI μ 70 (ix (((4 : Int32) * x1) + (1 : Int32)))), jI (gI μ 70 (ix (((4 : Int32) * x1) + (2 : Int32))))] μ) (fun r3 m3 => some (some (jI r3), m3))) (jbr (decide ((gI μ 69 (ix x1)) = 3)) (bI (cj 146 [jR 10 64, jI (420 : Int32), jI (gI μ 70 (ix ((4 : Int32) * x1))), jI (gI μ 70 (ix (((4 : Int32) * x1) + (1 : Int32))))] μ) (fun r4 m4 => some (some (jI r4), m4))) (jbr (decide ((gI μ 69 (ix x1)) = 4)) (jgd (inB (((4 : Int32) * x1) + (3 : Int32)) 160) (bI (cj 150 [jR 10 64, jI (420 : Int32), jI (gI μ 70 (ix ((4 : Int32) * x1))), jI (gI μ 70 (ix (((4 : Int32) * x1) + (1 : Int32)))), jI (gI μ 70 (ix (((4 : Int32) * x1) + (2 : Int32)))), jI (gI μ 70 (ix (((4 : Int32) * x1) + (3 : Int32))))] μ) (fun r5 m5 => some (some (jI r5), m5)))) (bI (cj 152 [jR 10 64, jI (420 : Int32), jI (gI μ 70 (ix ((4 : Int32) * x1)))] μ) (fun r6 m6 => some (some (jI r6), m6)))))))))))) :=
  (cj_it (F := K167) rfl [] 46 _ _).trans rfl
set_option maxRecDepth 100000 in
theorem e_M_copy (x1 : Int32) (x2 : Int32) (μ : jm) : cj 168 [jR 10 64, jI x1, jI x2] μ = (evj 168 2 [jR 10 64, jI x1, jI x2, jI (0 : Int32)] [] μ) :=
  (cj_it (F := K168) rfl [2] 3 _ _).trans rfl
set_option maxRecDepth 100000 in
theorem e_M_copy_2 (x0 : Int32) (x1 : Int32) (x2 : Int32) (μ : jm) : evj 168 2 [jR 10 64, jI x0, jI x1, jI x2] [] μ = (jbr (decide ((140 : Int32) ≤ x2)) (some (none, μ)) (jgd (inB (x0 + x2) 560) (jgd (inB (x1 + x2) 560) (evj 168 2 [jR 10 64, jI x0, jI x1, jI (x2 + 1)] [] (sI μ 65 (ix (x1 + x2)) (gI μ 65 (ix (x0 + x2)))))))) :=
  (evj_s (F := K168) rfl [2] 18 rfl).trans rfl
set_option maxRecDepth 100000 in
theorem e_M_says (x1 : Int32) (x2 : Int32) (μ : jm) : cj 169 [jR 10 64, jI x1, jI x2] μ = (bI (cj 154 [jR 10 64, jI x1] μ) (fun r1 m1 => jbr (decide (r1 = 0)) (bI (cj 141 [jR 10 64, jI (-2 : Int32)] m1) (fun r2 m2 => some (some (jI r2), m2))) (bI (cj 170 [jR 10 64, jI x2] m1) (fun r3 m3 => jbr (decide (¬ r3 = 0)) (bI (cj 171 [jR 10 64, jI (0 : Int32), jI x1, jI x2] m3) (fun r4 m4 => jbr (decide (r4 = 0)) (some (some (jI (0 : Int32)), m4)) (some (some (jI (1 : Int32)), m4)))) (bI (cj 141 [jR 10 64, jI (-2 : Int32)] m3) (fun r5 m5 => some (some (jI r5), m5))))))) :=
  (cj_it (F := K169) rfl [] 18 _ _).trans rfl
set_option maxRecDepth 100000 in
theorem e_M_isChord (x1 : Int32) (μ : jm) : cj 170 [jR 10 64, jI x1] μ = (jgd (inB (101 : Int32) 560) (bI (cj 140 [jL ((x1 : Int32).toInt64), jL (0 : Int64), jL (((gI μ 65 (ix (101 : Int32))) - (1 : Int32) : Int32).toInt64)] μ) (fun r1 m1 => some (some (jI (r1 &&& 1)), m1)))) :=
  (cj_it (F := K170) rfl [] 13 _ _).trans rfl
set_option maxRecDepth 100000 in
theorem e_M_doesSay (x1 : Int32) (x2 : Int32) (x3 : Int32) (μ : jm) : cj 171 [jR 10 64, jI x1, jI x2, jI x3] μ = (evj 171 3 [jR 10 64, jI x1, jI x2, jI x3, jI (0 : Int32), jU, jU] [] μ) :=
  (cj_it (F := K171) rfl [3, 65, 78] 3 _ _).trans rfl
set_option maxRecDepth 100000 in
theorem e_M_doesSay_3 (x0 : Int32) (x1 : Int32) (x2 : Int32) (x3 : Int32) (μ : jm) : evj 171 3 [jR 10 64, jI x0, jI x1, jI x2, jI x3, jU, jU] [] μ = (jgd (inB (x0 + (72 : Int32)) 560) (jbr (decide ((gI μ 65 (ix (x0 + (72 : Int32)))) ≤ x3)) (evj 171 65 [jR 10 64, jI x0, jU, jU, jI (1 : Int32), jU, jU] [] μ) (bI (cj 155 [jI x1, jI x3] μ) (fun r1 m1 => jbr (decide (r1 = 0)) (jgd (inB x3 7) (evj 171 3 [jR 10 64, jI x0, jI x1, jI x2, jI (x3 + 1), jU, jU] [] (sI m1 71 (ix x3) (0 : Int32)))) (jgd (inB ((x0 + (102 : Int32)) + x2) 560) (bI (cj 172 [jR 10 64, jI x0, jI x3, jI x1, jI (gI m1 65 (ix ((x0 + (102 : Int32)) + x2)))] m1) (fun r2 m2 => jgd (inB x3 7) (evj 171 3 [jR 10 64, jI x0, jI x1, jI x2, jI (x3 + 1), jU, jU] [] (sI m2 71 (ix x3) r2))))))))) :=
  (evj_s (F := K171) rfl [3, 65, 78] 33 rfl).trans rfl
set_option maxRecDepth 100000 in
theorem e_M_doesSay_65 (x0 : Int32) (x1 : Int32) (μ : jm) : evj 171 65 [jR 10 64, jI x0, jU, jU, jI x1, jU, jU] [] μ = (jbr (decide ((8 : Int32) ≤ x1)) (some (some (jI ((1 : Int32) &&& 1)), μ)) (evj 171 78 [jR 10 64, jI x0, jU, jU, jI x1, jI (0 : Int32), jI (0 : Int32)] [] μ)) :=
  (evj_s (F := K171) rfl [3, 65, 78] 8 rfl).trans rfl
set_option maxRecDepth 100000 in
theorem e_M_doesSay_78 (x0 : Int32) (x1 : Int32) (x2 : Int32) (x3 : Int32) (μ : jm) : evj 171 78 [jR 10 64, jI x0, jU, jU, jI x1, jI x2, jI x3] [] μ = (jgd (inB (x0 + (72 : Int32)) 560) (jbr (decide ((gI μ 65 (ix (x0 + (72 : Int32)))) ≤ x3)) (bI (cj 173 [jI x1] μ) (fun r1 m1 => jbr (decide (r1 ≤ x2)) (evj 171 65 [jR 10 64, jI x0, jU, jU, jI (x1 + 1), jU, jU] [] m1) (some (some (jI ((0 : Int32) &&& 1)), m1)))) (jgd (inB x3 7) (jbr (decide (¬ ((gI μ 71 (ix x3)) &&& x1) = 0)) (jgd (inB ((x0 + (73 : Int32)) + x3) 560) (jbr (decide ((gI μ 65 (ix ((x0 + (73 : Int32)) + x3))) < (4 : Int32))) (evj 171 78 [jR 10 64, jI x0, jU, jU, jI x1, jI (x2 + (1 : Int32)), jI (x3 + 1)] [] μ) (evj 171 78 [jR 10 64, jI x0, jU, jU, jI x1, jI (x2 + (2 : Int32)), jI (x3 + 1)] [] μ))) (evj 171 78 [jR 10 64, jI x0, jU, jU, jI x1, jI (x2 + (0 : Int32)), jI (x3 + 1)] [] μ))))) :=
  (evj_s (F := K171) rfl [3, 65, 78] 33 rfl).trans rfl
set_option maxRecDepth 100000 in
theorem e_M_reachOf (x1 : Int32) (x2 : Int32) (x3 : Int32) (x4 : Int32) (μ : jm) : cj 172 [jR 10 64, jI x1, jI x2, jI x3, jI x4] μ = (bI (cj 156 [jR 10 64, jI x1, jI x2, jI x3] μ) (fun r1 m1 => evj 172 16 [jR 10 64, jI x1, jU, jU, jI x4, jI r1, jI r1, jI (1 : Int32), jU, jU] [] m1)) :=
  (cj_it (F := K172) rfl [16, 68] 11 _ _).trans rfl
set_option maxRecDepth 100000 in
theorem e_M_reachOf_16 (x0 : Int32) (x1 : Int32) (x2 : Int32) (x3 : Int32) (x4 : Int32) (μ : jm) : evj 172 16 [jR 10 64, jI x0, jU, jU, jI x1, jI x2, jI x3, jI x4, jU, jU] [] μ = (jgd (inB (x0 + (118 : Int32)) 560) (jbr (decide ((gI μ 65 (ix (x0 + (118 : Int32)))) < x4)) (evj 172 68 [jU, jU, jU, jU, jI x1, jU, jI x3, jI (0 : Int32), jI (0 : Int32), jI (0 : Int32)] [] μ) (bI (cj 157 [jI x2, jI x4] μ) (fun r1 m1 => bI (cj 157 [jI x2, jI ((12 : Int32) - x4)] m1) (fun r2 m2 => evj 172 16 [jR 10 64, jI x0, jU, jU, jI x1, jI x2, jI (x3 ||| (r1 ||| r2)), jI (x4 + 1), jU, jU] [] m2))))) :=
  (evj_s (F := K172) rfl [16, 68] 23 rfl).trans rfl
set_option maxRecDepth 100000 in
theorem e_M_reachOf_68 (x0 : Int32) (x1 : Int32) (x2 : Int32) (x3 : Int32) (x4 : Int32) (μ : jm) : evj 172 68 [jU, jU, jU, jU, jI x0, jU, jI x1, jI x2, jI x3, jI x4] [] μ = (jbr (decide ((12 : Int32) ≤ x4)) (some (some (jI x2), μ)) (bI (cj 155 [jI x0, jI x4] μ) (fun r1 m1 => jbr (decide (r1 = 0)) (evj 172 68 [jU, jU, jU, jU, jI x0, jU, jI x1, jI x2, jI x3, jI (x4 + 1)] [] m1) (bI (cj 155 [jI x1, jI x4] m1) (fun r2 m2 => jbr (decide (r2 = 0)) (evj 172 68 [jU, jU, jU, jU, jI x0, jU, jI x1, jI (x2 ||| (0 : Int32)), jI (x3 + 1), jI (x4 + 1)] [] m2) (evj 172 68 [jU, jU, jU, jU, jI x0, jU, jI x1, jI (x2 ||| ((1 : Int32) <<< (x3 &&& 31))), jI (x3 + 1), jI (x4 + 1)] [] m2)))))) :=
  (evj_s (F := K172) rfl [16, 68] 22 rfl).trans rfl
set_option maxRecDepth 100000 in
theorem e_M_ones (x0 : Int32) (μ : jm) : cj 173 [jI x0] μ = (evj 173 4 [jI x0, jI (0 : Int32), jI (0 : Int32)] [] μ) :=
  (cj_it (F := K173) rfl [4] 5 _ _).trans rfl
set_option maxRecDepth 100000 in
theorem e_M_ones_4 (x0 : Int32) (x1 : Int32) (x2 : Int32) (μ : jm) : evj 173 4 [jI x0, jI x1, jI x2] [] μ = (jbr (decide ((31 : Int32) ≤ x2)) (some (some (jI x1), μ)) (evj 173 4 [jI x0, jI (x1 + ((x0 >>> (x2 &&& 31)) &&& (1 : Int32))), jI (x2 + 1)] [] μ)) :=
  (evj_s (F := K173) rfl [4] 14 rfl).trans rfl
set_option maxRecDepth 100000 in
theorem e_M_said (x1 : Int32) (μ : jm) : cj 174 [jR 10 64, jI x1] μ = (bI (cj 139 [jI x1] μ) (fun r1 m1 => jbr (decide (r1 = 0)) (bI (cj 141 [jR 10 64, jI (-2 : Int32)] m1) (fun r2 m2 => some (some (jI r2), m2))) (bI (cj 175 [jR 10 64, jI x1] m1) (fun r3 m3 => bI (cj 176 [jR 10 64, jI (0 : Int32), jI r3] m3) (fun r4 m4 => some (some (jI r4), m4)))))) :=
  (cj_it (F := K174) rfl [] 12 _ _).trans rfl
set_option maxRecDepth 100000 in
theorem e_M_setIn (x1 : Int32) (μ : jm) : cj 175 [jR 10 64, jI x1] μ = (evj 175 4 [jR 10 64, jI x1, jI (0 : Int32), jI (0 : Int32)] [] μ) :=
  (cj_it (F := K175) rfl [4] 5 _ _).trans rfl
set_option maxRecDepth 100000 in
theorem e_M_setIn_4 (x0 : Int32) (x1 : Int32) (x2 : Int32) (μ : jm) : evj 175 4 [jR 10 64, jI x0, jI x1, jI x2] [] μ = (jgd (inB (72 : Int32) 560) (jbr (decide ((gI μ 65 (ix (72 : Int32))) ≤ x2)) (some (some (jI x1), μ)) (jgd (inB ((87 : Int32) + x2) 560) (jbr (decide (¬ (gI μ 65 (ix ((87 : Int32) + x2))) = x0)) (evj 175 4 [jR 10 64, jI x0, jI (x1 ||| (0 : Int32)), jI (x2 + 1)] [] μ) (evj 175 4 [jR 10 64, jI x0, jI (x1 ||| ((1 : Int32) <<< (x2 &&& 31))), jI (x2 + 1)] [] μ))))) :=
  (evj_s (F := K175) rfl [4] 24 rfl).trans rfl
set_option maxRecDepth 100000 in
theorem e_M_saidBy (x1 : Int32) (x2 : Int32) (μ : jm) : cj 176 [jR 10 64, jI x1, jI x2] μ = (evj 176 5 [jR 10 64, jI x1, jI x2, jI (0 : Int32), jI (0 : Int32)] [] μ) :=
  (cj_it (F := K176) rfl [5] 5 _ _).trans rfl
set_option maxRecDepth 100000 in
theorem e_M_saidBy_5 (x0 : Int32) (x1 : Int32) (x2 : Int32) (x3 : Int32) (μ : jm) : evj 176 5 [jR 10 64, jI x0, jI x1, jI x2, jI x3] [] μ = (jgd (inB (x0 + (101 : Int32)) 560) (jbr (decide ((gI μ 65 (ix (x0 + (101 : Int32)))) ≤ x3)) (some (some (jI x2), μ)) (bI (cj 171 [jR 10 64, jI x0, jI x1, jI x3] μ) (fun r1 m1 => jbr (decide (r1 = 0)) (evj 176 5 [jR 10 64, jI x0, jI x1, jI (x2 ||| (0 : Int32)), jI (x3 + 1)] [] m1) (evj 176 5 [jR 10 64, jI x0, jI x1, jI (x2 ||| ((1 : Int32) <<< (x3 &&& 31))), jI (x3 + 1)] [] m1))))) :=
  (evj_s (F := K176) rfl [5] 24 rfl).trans rfl
set_option maxRecDepth 100000 in
theorem e_M_byDoor (x1 : Int32) (x2 : Int32) (μ : jm) : cj 177 [jR 10 64, jI x1, jI x2] μ = (bI (cj 139 [jI x1] μ) (fun r1 m1 => jbr (decide (r1 = 0)) (bI (cj 141 [jR 10 64, jI (-2 : Int32)] m1) (fun r2 m2 => some (some (jI r2), m2))) (bI (cj 139 [jI x2] m1) (fun r3 m3 => jbr (decide (¬ r3 = 0)) (jgd (inB (((6 : Int32) * x1) + x2) 560) (jbr (decide (¬ (gI m3 65 (ix (((6 : Int32) * x1) + x2))) = (1 : Int32))) (bI (cj 141 [jR 10 64, jI (-3 : Int32)] m3) (fun r4 m4 => some (some (jI r4), m4))) (bI (cj 175 [jR 10 64, jI x1] m3) (fun r5 m5 => bI (cj 175 [jR 10 64, jI x2] m5) (fun r6 m6 => bI (cj 176 [jR 10 64, jI (0 : Int32), jI (r5 ||| r6)] m6) (fun r7 m7 => some (some (jI r7), m7))))))) (bI (cj 141 [jR 10 64, jI (-2 : Int32)] m3) (fun r8 m8 => some (some (jI r8), m8))))))) :=
  (cj_it (F := K177) rfl [] 29 _ _).trans rfl
set_option maxRecDepth 100000 in
theorem e_M_fewest (x1 : Int32) (x2 : Int32) (μ : jm) : cj 178 [jR 10 64, jI x1, jI x2] μ = (bI (cj 154 [jR 10 64, jI x1] μ) (fun r1 m1 => jbr (decide (r1 = 0)) (bI (cj 141 [jR 10 64, jI (-2 : Int32)] m1) (fun r2 m2 => some (some (jI r2), m2))) (bI (cj 170 [jR 10 64, jI x2] m1) (fun r3 m3 => jbr (decide (¬ r3 = 0)) (evj 178 28 [jR 10 64, jI x1, jI x2, jI (-1 : Int32), jI (0 : Int32)] [] m3) (bI (cj 141 [jR 10 64, jI (-2 : Int32)] m3) (fun r4 m4 => some (some (jI r4), m4))))))) :=
  (cj_it (F := K178) rfl [28, 60] 13 _ _).trans rfl
set_option maxRecDepth 100000 in
theorem e_M_fewest_28 (x0 : Int32) (x1 : Int32) (x2 : Int32) (x3 : Int32) (μ : jm) : evj 178 28 [jR 10 64, jI x0, jI x1, jI x2, jI x3] [] μ = (jbr (decide (x0 < x3)) (some (some (jI x2), μ)) (jbr (decide (¬ (x3 &&& (x0 ^^^ (-1 : Int32))) = 0)) (evj 178 28 [jR 10 64, jI x0, jI x1, jI x2, jI (x3 + 1)] [] μ) (jbr (decide (x2 = (-1 : Int32))) (evj 178 60 [jR 10 64, jI x0, jI x1, jI x2, jI x3] [] μ) (bI (cj 173 [jI x3] μ) (fun r1 m1 => bI (cj 173 [jI x2] m1) (fun r2 m2 => jbr (decide (r2 ≤ r1)) (evj 178 28 [jR 10 64, jI x0, jI x1, jI x2, jI (x3 + 1)] [] m2) (evj 178 60 [jR 10 64, jI x0, jI x1, jI x2, jI x3] [] m2))))))) :=
  (evj_s (F := K178) rfl [28, 60] 20 rfl).trans rfl
set_option maxRecDepth 100000 in
theorem e_M_fewest_60 (x0 : Int32) (x1 : Int32) (x2 : Int32) (x3 : Int32) (μ : jm) : evj 178 60 [jR 10 64, jI x0, jI x1, jI x2, jI x3] [] μ = (bI (cj 171 [jR 10 64, jI (0 : Int32), jI x3, jI x1] μ) (fun r1 m1 => jbr (decide (r1 = 0)) (evj 178 28 [jR 10 64, jI x0, jI x1, jI x2, jI (x3 + 1)] [] m1) (evj 178 28 [jR 10 64, jI x0, jI x1, jI x3, jI (x3 + 1)] [] m1))) :=
  (evj_s (F := K178) rfl [28, 60] 11 rfl).trans rfl
set_option maxRecDepth 100000 in
theorem e_M_speak (x1 : Int32) (μ : jm) : cj 179 [jR 10 64, jI x1] μ = (bI (cj 170 [jR 10 64, jI x1] μ) (fun r1 m1 => jbr (decide (¬ r1 = 0)) (jgd (inB (119 : Int32) 560) (jbr (decide (¬ (gI m1 65 (ix (119 : Int32))) = (6 : Int32))) (jgd (inB ((120 : Int32) + (gI m1 65 (ix (119 : Int32)))) 560) (jgd (inB (119 : Int32) 560) (jgd (inB (119 : Int32) 560) (some (some (jI ((gI m1 65 (ix (119 : Int32))) + (1 : Int32))), sI (sI m1 65 (ix ((120 : Int32) + (gI m1 65 (ix (119 : Int32))))) x1) 65 (ix (119 : Int32)) ((gI (sI m1 65 (ix ((120 : Int32) + (gI m1 65 (ix (119 : Int32))))) x1) 65 (ix (119 : Int32))) + (1 : Int32))))))) (bI (cj 141 [jR 10 64, jI (-4 : Int32)] m1) (fun r2 m2 => some (some (jI r2), m2))))) (bI (cj 141 [jR 10 64, jI (-2 : Int32)] m1) (fun r3 m3 => some (some (jI r3), m3))))) :=
  (cj_it (F := K179) rfl [] 32 _ _).trans rfl
set_option maxRecDepth 100000 in
theorem e_M_hush  (μ : jm) : cj 180 [jR 10 64] μ = (jgd (inB (119 : Int32) 560) (jgd (inB (119 : Int32) 560) (some (some (jI (gI μ 65 (ix (119 : Int32)))), sI μ 65 (ix (119 : Int32)) (0 : Int32))))) :=
  (cj_it (F := K180) rfl [] 13 _ _).trans rfl
set_option maxRecDepth 100000 in
theorem e_M_fetch (x1 : Int32) (μ : jm) : cj 181 [jR 10 64, jI x1] μ = (bI (cj 140 [jL ((x1 : Int32).toInt64), jL (0 : Int64), jL (2 : Int64)] μ) (fun r1 m1 => jbr (decide (¬ r1 = 0)) (bV (cj 182 [jR 10 64, jI (9 : Int32)] m1) (fun m2 => jbr (decide (¬ (gI m2 64 16) = (-1 : Int32))) (jbr (decide (¬ x1 = 0)) (jbr (decide (¬ x1 = (1 : Int32))) (some (some (jI (gI m2 64 16)), m2)) (some (some (jI (gI m2 64 15)), m2))) (some (some (jI (gI m2 64 14)), m2))) (some (some (jI (-1 : Int32)), m2)))) (bI (cj 141 [jR 10 64, jI (-2 : Int32)] m1) (fun r3 m3 => some (some (jI r3), m3))))) :=
  (cj_it (F := K181) rfl [] 23 _ _).trans rfl
set_option maxRecDepth 100000 in
theorem e_M_fetchBy (x1 : Int32) (μ : jm) : cj 182 [jR 10 64, jI x1] μ = (evj 182 4 [jR 10 64, jI x1, jI (0 : Int32), jI (0 : Int32), jU, jU, jU] [] μ) :=
  (cj_it (F := K182) rfl [4, 58, 89, 164, 168, 199] 5 _ _).trans rfl
set_option maxRecDepth 100000 in
theorem e_M_fetchBy_4 (x0 : Int32) (x1 : Int32) (x2 : Int32) (μ : jm) : evj 182 4 [jR 10 64, jI x0, jI x1, jI x2, jU, jU, jU] [] μ = (jgd (inB (119 : Int32) 560) (jbr (decide ((gI μ 65 (ix (119 : Int32))) ≤ x2)) (bV (cj 183 [jR 10 64] μ) (fun m1 => evj 182 58 [jR 10 64, jI x0, jI x1, jI (0 : Int32), jU, jU, jU] [] (sI (sI (sI m1 64 14 (1000 : Int32)) 64 15 (-1 : Int32)) 64 16 (-1 : Int32)))) (jgd (inB ((120 : Int32) + x2) 560) (evj 182 4 [jR 10 64, jI x0, jI (x1 ||| ((1 : Int32) <<< ((gI μ 65 (ix ((120 : Int32) + x2))) &&& 31))), jI (x2 + 1), jU, jU, jU] [] μ)))) :=
  (evj_s (F := K182) rfl [4, 58, 89, 164, 168, 199] 20 rfl).trans rfl
set_option maxRecDepth 100000 in
theorem e_M_fetchBy_58 (x0 : Int32) (x1 : Int32) (x2 : Int32) (μ : jm) : evj 182 58 [jR 10 64, jI x0, jI x1, jI x2, jU, jU, jU] [] μ = (jgd (inB (72 : Int32) 560) (jbr (decide (((1 : Int32) <<< ((gI μ 65 (ix (72 : Int32))) &&& 31)) ≤ x2)) (some (none, μ)) (bI (cj 176 [jR 10 64, jI (0 : Int32), jI x2] μ) (fun r1 m1 => jbr (decide ((r1 &&& x1) = x1)) (evj 182 89 [jR 10 64, jI x0, jI x1, jI x2, jI (0 : Int32), jU, jU] [] m1) (evj 182 199 [jR 10 64, jI x0, jI x1, jI x2, jU, jU, jU] [] m1))))) :=
  (evj_s (F := K182) rfl [4, 58, 89, 164, 168, 199] 19 rfl).trans rfl
set_option maxRecDepth 100000 in
theorem e_M_fetchBy_89 (x0 : Int32) (x1 : Int32) (x2 : Int32) (x3 : Int32) (μ : jm) : evj 182 89 [jR 10 64, jI x0, jI x1, jI x2, jI x3, jU, jU] [] μ = (jbr (decide ((6 : Int32) ≤ x3)) (evj 182 199 [jR 10 64, jI x0, jI x1, jI x2, jU, jU, jU] [] μ) (bI (cj 184 [jR 10 64, jI x2, jI x3, jI x0] μ) (fun r1 m1 => jbr (decide (r1 < (gI m1 64 14))) (evj 182 164 [jR 10 64, jI x0, jI x1, jI x2, jI x3, jI r1, jU] [] m1) (jbr (decide (¬ r1 = (gI m1 64 14))) (evj 182 168 [jR 10 64, jI x0, jI x1, jI x2, jI x3, jI r1, jU] [] m1) (jbr (decide ((1000 : Int32) ≤ r1)) (evj 182 168 [jR 10 64, jI x0, jI x1, jI x2, jI x3, jI r1, jU] [] m1) (jbr (decide (x3 < (gI m1 64 15))) (evj 182 164 [jR 10 64, jI x0, jI x1, jI x2, jI x3, jI r1, jU] [] m1) (jbr (decide (¬ x3 = (gI m1 64 15))) (evj 182 168 [jR 10 64, jI x0, jI x1, jI x2, jI x3, jI r1, jU] [] m1) (bI (cj 173 [jI x2] m1) (fun r2 m2 => bI (cj 173 [jI (gI m2 64 16)] m2) (fun r3 m3 => jbr (decide (r3 ≤ r2)) (evj 182 168 [jR 10 64, jI x0, jI x1, jI x2, jI x3, jI r1, jU] [] m3) (evj 182 164 [jR 10 64, jI x0, jI x1, jI x2, jI x3, jI r1, jU] [] m3))))))))))) :=
  (evj_s (F := K182) rfl [4, 58, 89, 164, 168, 199] 35 rfl).trans rfl
set_option maxRecDepth 100000 in
theorem e_M_fetchBy_164 (x0 : Int32) (x1 : Int32) (x2 : Int32) (x3 : Int32) (x4 : Int32) (μ : jm) : evj 182 164 [jR 10 64, jI x0, jI x1, jI x2, jI x3, jI x4, jU] [] μ = (jbr (decide ((1 : Int32) = 0)) (evj 182 89 [jR 10 64, jI x0, jI x1, jI x2, jI (x3 + 1), jU, jU] [] μ) (evj 182 89 [jR 10 64, jI x0, jI x1, jI x2, jI (x3 + 1), jU, jU] [] (sI (sI (sI μ 64 14 x4) 64 15 x3) 64 16 x2))) :=
  (evj_s (F := K182) rfl [4, 58, 89, 164, 168, 199] 17 rfl).trans rfl
set_option maxRecDepth 100000 in
theorem e_M_fetchBy_168 (x0 : Int32) (x1 : Int32) (x2 : Int32) (x3 : Int32) (x4 : Int32) (μ : jm) : evj 182 168 [jR 10 64, jI x0, jI x1, jI x2, jI x3, jI x4, jU] [] μ = (jbr (decide ((0 : Int32) = 0)) (evj 182 89 [jR 10 64, jI x0, jI x1, jI x2, jI (x3 + 1), jU, jU] [] μ) (evj 182 89 [jR 10 64, jI x0, jI x1, jI x2, jI (x3 + 1), jU, jU] [] (sI (sI (sI μ 64 14 x4) 64 15 x3) 64 16 x2))) :=
  (evj_s (F := K182) rfl [4, 58, 89, 164, 168, 199] 16 rfl).trans rfl
set_option maxRecDepth 100000 in
theorem e_M_fetchBy_199 (x0 : Int32) (x1 : Int32) (x2 : Int32) (μ : jm) : evj 182 199 [jR 10 64, jI x0, jI x1, jI x2, jU, jU, jU] [] μ = (evj 182 58 [jR 10 64, jI x0, jI x1, jI (x2 + 1), jU, jU, jU] [] μ) :=
  (evj_s (F := K182) rfl [4, 58, 89, 164, 168, 199] 3 rfl).trans rfl
set_option maxRecDepth 100000 in
theorem e_M_measure  (μ : jm) : cj 183 [jR 10 64] μ = (evj 183 2 [jR 10 64, jI (0 : Int32), jU, jU] [] μ) :=
  (cj_it (F := K183) rfl [2, 49, 57] 3 _ _).trans rfl
set_option maxRecDepth 100000 in
theorem e_M_measure_2 (x0 : Int32) (μ : jm) : evj 183 2 [jR 10 64, jI x0, jU, jU] [] μ = (jbr (decide ((36 : Int32) ≤ x0)) (evj 183 49 [jR 10 64, jI (0 : Int32), jU, jU] [] μ) (jgd (decide (¬ (7 : Int32) = 0)) (jbr (decide (¬ (x0 - x0 / (7 : Int32) * (7 : Int32)) = 0)) (jgd (inB x0 560) (jbr (decide (¬ (gI μ 65 (ix x0)) = (1 : Int32))) (jgd (inB x0 36) (evj 183 2 [jR 10 64, jI (x0 + 1), jU, jU] [] (sI μ 72 (ix x0) (100 : Int32)))) (jgd (inB x0 36) (evj 183 2 [jR 10 64, jI (x0 + 1), jU, jU] [] (sI μ 72 (ix x0) (1 : Int32)))))) (jgd (inB x0 36) (evj 183 2 [jR 10 64, jI (x0 + 1), jU, jU] [] (sI μ 72 (ix x0) (0 : Int32))))))) :=
  (evj_s (F := K183) rfl [2, 49, 57] 22 rfl).trans rfl
set_option maxRecDepth 100000 in
theorem e_M_measure_49 (x0 : Int32) (μ : jm) : evj 183 49 [jR 10 64, jI x0, jU, jU] [] μ = (jbr (decide ((6 : Int32) ≤ x0)) (some (none, μ)) (evj 183 57 [jR 10 64, jI x0, jI (0 : Int32), jU] [] μ)) :=
  (evj_s (F := K183) rfl [2, 49, 57] 6 rfl).trans rfl
set_option maxRecDepth 100000 in
theorem e_M_measure_57 (x0 : Int32) (x1 : Int32) (μ : jm) : evj 183 57 [jR 10 64, jI x0, jI x1, jU] [] μ = (jbr (decide ((36 : Int32) ≤ x1)) (evj 183 49 [jR 10 64, jI (x0 + 1), jU, jU] [] μ) (jgd (decide (¬ (6 : Int32) = 0)) (jgd (inB (((x1 / (6 : Int32)) * (6 : Int32)) + x0) 36) (jgd (decide (¬ (6 : Int32) = 0)) (jgd (inB (((6 : Int32) * x0) + (x1 - x1 / (6 : Int32) * (6 : Int32))) 36) (jgd (inB x1 36) (jbr (decide ((gI μ 72 (ix x1)) ≤ ((gI μ 72 (ix (((x1 / (6 : Int32)) * (6 : Int32)) + x0))) + (gI μ 72 (ix (((6 : Int32) * x0) + (x1 - x1 / (6 : Int32) * (6 : Int32)))))))) (jgd (inB x1 36) (jgd (inB x1 36) (evj 183 57 [jR 10 64, jI x0, jI (x1 + 1), jU] [] (sI μ 72 (ix x1) (gI μ 72 (ix x1)))))) (jgd (inB x1 36) (evj 183 57 [jR 10 64, jI x0, jI (x1 + 1), jU] [] (sI μ 72 (ix x1) ((gI μ 72 (ix (((x1 / (6 : Int32)) * (6 : Int32)) + x0))) + (gI μ 72 (ix (((6 : Int32) * x0) + (x1 - x1 / (6 : Int32) * (6 : Int32)))))))))))))))) :=
  (evj_s (F := K183) rfl [2, 49, 57] 42 rfl).trans rfl
set_option maxRecDepth 100000 in
theorem e_M_stepsOf (x1 : Int32) (x2 : Int32) (x3 : Int32) (μ : jm) : cj 184 [jR 10 64, jI x1, jI x2, jI x3] μ = (evj 184 6 [jR 10 64, jI x1, jI x2, jI x3, jI (0 : Int32), jI (0 : Int32), jU] [] μ) :=
  (cj_it (F := K184) rfl [6] 5 _ _).trans rfl
set_option maxRecDepth 100000 in
theorem e_M_stepsOf_6 (x0 : Int32) (x1 : Int32) (x2 : Int32) (x3 : Int32) (x4 : Int32) (μ : jm) : evj 184 6 [jR 10 64, jI x0, jI x1, jI x2, jI x3, jI x4, jU] [] μ = (jgd (inB (72 : Int32) 560) (jbr (decide ((gI μ 65 (ix (72 : Int32))) ≤ x4)) (some (some (jI x3), μ)) (bI (cj 155 [jI x0, jI x4] μ) (fun r1 m1 => jbr (decide (r1 = 0)) (jbr (decide ((0 : Int32) ≤ x2)) (evj 184 6 [jR 10 64, jI x0, jI x1, jI x2, jI (x3 + (0 : Int32)), jI (x4 + 1), jU] [] m1) (evj 184 6 [jR 10 64, jI x0, jI x1, jI x2, jI (x3 + (1000 : Int32)), jI (x4 + 1), jU] [] m1)) (jgd (inB ((87 : Int32) + x4) 560) (jgd (inB (((6 : Int32) * (gI m1 65 (ix ((87 : Int32) + x4)))) + x1) 36) (jbr (decide ((gI m1 72 (ix (((6 : Int32) * (gI m1 65 (ix ((87 : Int32) + x4)))) + x1))) ≤ x2)) (evj 184 6 [jR 10 64, jI x0, jI x1, jI x2, jI (x3 + (gI m1 72 (ix (((6 : Int32) * (gI m1 65 (ix ((87 : Int32) + x4)))) + x1)))), jI (x4 + 1), jU] [] m1) (evj 184 6 [jR 10 64, jI x0, jI x1, jI x2, jI (x3 + (1000 : Int32)), jI (x4 + 1), jU] [] m1)))))))) :=
  (evj_s (F := K184) rfl [6] 36 rfl).trans rfl
set_option maxRecDepth 100000 in
theorem e_M_inTime (x1 : Int32) (μ : jm) : cj 185 [jR 10 64, jI x1] μ = (bI (cj 140 [jL ((x1 : Int32).toInt64), jL (0 : Int64), jL (9 : Int64)] μ) (fun r1 m1 => jbr (decide (¬ r1 = 0)) (bV (cj 182 [jR 10 64, jI x1] m1) (fun m2 => jbr (decide (¬ (gI m2 64 16) = (-1 : Int32))) (some (some (jI (gI m2 64 14)), m2)) (some (some (jI (-1 : Int32)), m2)))) (bI (cj 141 [jR 10 64, jI (-2 : Int32)] m1) (fun r3 m3 => some (some (jI r3), m3))))) :=
  (cj_it (F := K185) rfl [] 17 _ _).trans rfl
set_option maxRecDepth 100000 in
theorem e_M_taken (x1 : Int32) (x2 : Int32) (x3 : Int32) (μ : jm) : cj 186 [jR 10 64, jI x1, jI x2, jI x3] μ = (bI (cj 170 [jR 10 64, jI x1] μ) (fun r1 m1 => jbr (decide (r1 = 0)) (evj 186 33 [jR 10 64, jU, jU, jU] [] m1) (bI (cj 170 [jR 10 64, jI x2] m1) (fun r2 m2 => jbr (decide (r2 = 0)) (evj 186 33 [jR 10 64, jU, jU, jU] [] m2) (jbr (decide (x1 = x2)) (evj 186 33 [jR 10 64, jU, jU, jU] [] m2) (bI (cj 140 [jL ((x3 : Int32).toInt64), jL (0 : Int64), jL (3 : Int64)] m2) (fun r3 m3 => jbr (decide (¬ r3 = 0)) (bI (cj 187 [jR 10 64, jI x1, jI x2, jI x3] m3) (fun r4 m4 => jbr (decide (r4 = 0)) (evj 186 55 [jU, jU, jU, jU] [jI (0 : Int32)] m4) (evj 186 55 [jU, jU, jU, jU] [jI (1 : Int32)] m4))) (evj 186 33 [jR 10 64, jU, jU, jU] [] m3)))))))) :=
  (cj_it (F := K186) rfl [33, 55] 26 _ _).trans rfl
set_option maxRecDepth 100000 in
theorem e_M_taken_33  (μ : jm) : evj 186 33 [jR 10 64, jU, jU, jU] [] μ = (bI (cj 141 [jR 10 64, jI (-2 : Int32)] μ) (fun r1 m1 => some (some (jI r1), m1))) :=
  (evj_s (F := K186) rfl [33, 55] 5 rfl).trans rfl
set_option maxRecDepth 100000 in
theorem e_M_taken_55 (x0 : Int32) (μ : jm) : evj 186 55 [jU, jU, jU, jU] [jI x0] μ = (some (some (jI x0), μ)) :=
  (evj_s (F := K186) rfl [33, 55] 2 rfl).trans rfl
set_option maxRecDepth 100000 in
theorem e_M_areTaken (x1 : Int32) (x2 : Int32) (x3 : Int32) (μ : jm) : cj 187 [jR 10 64, jI x1, jI x2, jI x3] μ = (evj 187 3 [jR 10 64, jI x1, jI x2, jI x3, jI (0 : Int32), jU, jU, jU] [] μ) :=
  (cj_it (F := K187) rfl [3, 12, 24] 3 _ _).trans rfl
set_option maxRecDepth 100000 in
theorem e_M_areTaken_3 (x0 : Int32) (x1 : Int32) (x2 : Int32) (x3 : Int32) (μ : jm) : evj 187 3 [jR 10 64, jI x0, jI x1, jI x2, jI x3, jU, jU, jU] [] μ = (jbr (decide ((3 : Int32) ≤ x3)) (some (some (jI ((0 : Int32) &&& 1)), μ)) (evj 187 12 [jR 10 64, jI x0, jI x1, jI x2, jI x3, jI (1 : Int32), jU, jU] [] μ)) :=
  (evj_s (F := K187) rfl [3, 12, 24] 6 rfl).trans rfl
set_option maxRecDepth 100000 in
theorem e_M_areTaken_12 (x0 : Int32) (x1 : Int32) (x2 : Int32) (x3 : Int32) (x4 : Int32) (μ : jm) : evj 187 12 [jR 10 64, jI x0, jI x1, jI x2, jI x3, jI x4, jU, jU] [] μ = (jbr (decide ((3 : Int32) ≤ x4)) (evj 187 3 [jR 10 64, jI x0, jI x1, jI x2, jI (x3 + 1), jU, jU, jU] [] μ) (evj 187 24 [jR 10 64, jI x0, jI x1, jI x2, jI x3, jI x4, jI (1 : Int32), jI (0 : Int32)] [] μ)) :=
  (evj_s (F := K187) rfl [3, 12, 24] 8 rfl).trans rfl
set_option maxRecDepth 100000 in
theorem e_M_areTaken_24 (x0 : Int32) (x1 : Int32) (x2 : Int32) (x3 : Int32) (x4 : Int32) (x5 : Int32) (x6 : Int32) (μ : jm) : evj 187 24 [jR 10 64, jI x0, jI x1, jI x2, jI x3, jI x4, jI x5, jI x6] [] μ = (jbr (decide ((3 : Int32) ≤ x6)) (jbr (decide (x5 = 0)) (evj 187 12 [jR 10 64, jI x0, jI x1, jI x2, jI x3, jI (x4 + 1), jU, jU] [] μ) (some (some (jI ((1 : Int32) &&& 1)), μ))) (jbr (decide (x5 = 0)) (evj 187 24 [jR 10 64, jI x0, jI x1, jI x2, jI x3, jI x4, jI (0 : Int32), jI (x6 + 1)] [] μ) (bI (cj 188 [jR 10 64, jI x0, jI x6] μ) (fun r1 m1 => jgd (decide (¬ (3 : Int32) = 0)) (bI (cj 188 [jR 10 64, jI x1, jI ((x3 + (x4 * x6)) - (x3 + (x4 * x6)) / (3 : Int32) * (3 : Int32))] m1) (fun r2 m2 => bI (cj 189 [jI r1, jI r2, jI x2] m2) (fun r3 m3 => jbr (decide (r3 = 0)) (evj 187 24 [jR 10 64, jI x0, jI x1, jI x2, jI x3, jI x4, jI (0 : Int32), jI (x6 + 1)] [] m3) (evj 187 24 [jR 10 64, jI x0, jI x1, jI x2, jI x3, jI x4, jI (1 : Int32), jI (x6 + 1)] [] m3)))))))) :=
  (evj_s (F := K187) rfl [3, 12, 24] 28 rfl).trans rfl
set_option maxRecDepth 100000 in
theorem e_M_noteOf (x1 : Int32) (x2 : Int32) (μ : jm) : cj 188 [jR 10 64, jI x1, jI x2] μ = (evj 188 5 [jR 10 64, jI x1, jU, jI x2, jI (0 : Int32)] [] μ) :=
  (cj_it (F := K188) rfl [5] 5 _ _).trans rfl
set_option maxRecDepth 100000 in
theorem e_M_noteOf_5 (x0 : Int32) (x1 : Int32) (x2 : Int32) (μ : jm) : evj 188 5 [jR 10 64, jI x0, jU, jI x1, jI x2] [] μ = (jbr (decide ((12 : Int32) ≤ x2)) (some (some (jI (-1 : Int32)), μ)) (jgd (inB ((102 : Int32) + x0) 560) (bI (cj 155 [jI (gI μ 65 (ix ((102 : Int32) + x0))), jI x2] μ) (fun r1 m1 => jbr (decide (r1 = 0)) (evj 188 5 [jR 10 64, jI x0, jU, jI x1, jI (x2 + 1)] [] m1) (jbr (decide (¬ x1 = 0)) (evj 188 5 [jR 10 64, jI x0, jU, jI (x1 + (-1)), jI (x2 + 1)] [] m1) (some (some (jI x2), m1))))))) :=
  (evj_s (F := K188) rfl [5] 18 rfl).trans rfl
set_option maxRecDepth 100000 in
theorem e_M_areNear (x0 : Int32) (x1 : Int32) (x2 : Int32) (μ : jm) : cj 189 [jI x0, jI x1, jI x2] μ = (jbr (decide (x1 ≤ x0)) (evj 189 14 [jU, jU, jI x2, jU] [jI (x0 - x1)] μ) (evj 189 14 [jU, jU, jI x2, jU] [jI (x1 - x0)] μ)) :=
  (cj_it (F := K189) rfl [14] 8 _ _).trans rfl
set_option maxRecDepth 100000 in
theorem e_M_areNear_14 (x0 : Int32) (x1 : Int32) (μ : jm) : evj 189 14 [jU, jU, jI x0, jU] [jI x1] μ = (jbr (decide (x1 ≤ x0)) (some (some (jI ((1 : Int32) &&& 1)), μ)) (jbr (decide (x0 < ((12 : Int32) - x1))) (some (some (jI ((0 : Int32) &&& 1)), μ)) (some (some (jI ((1 : Int32) &&& 1)), μ)))) :=
  (evj_s (F := K189) rfl [14] 13 rfl).trans rfl
set_option maxRecDepth 100000 in
theorem e_M_drop (x1 : Int32) (μ : jm) : cj 190 [jR 10 64, jI x1] μ = (bI (cj 140 [jL ((x1 : Int32).toInt64), jL (0 : Int64), jL (3 : Int64)] μ) (fun r1 m1 => jbr (decide (¬ r1 = 0)) (jgd (inB (101 : Int32) 560) (evj 190 29 [jR 10 64, jI x1, jI (gI m1 65 (ix (101 : Int32))), jI (0 : Int32), jU, jU, jU] [] m1)) (bI (cj 141 [jR 10 64, jI (-2 : Int32)] m1) (fun r2 m2 => some (some (jI r2), m2))))) :=
  (cj_it (F := K190) rfl [29, 44, 101, 136, 172, 177, 185] 14 _ _).trans rfl
set_option maxRecDepth 100000 in
theorem e_M_drop_29 (x0 : Int32) (x1 : Int32) (x2 : Int32) (μ : jm) : evj 190 29 [jR 10 64, jI x0, jI x1, jI x2, jU, jU, jU] [] μ = (jbr (decide (x1 ≤ x2)) (evj 190 101 [jR 10 64, jU, jI x1, jI (-1 : Int32), jI (0 : Int32), jU, jU] [] μ) (jgd (inB x2 8) (evj 190 44 [jR 10 64, jI x0, jI x1, jI x2, jI (0 : Int32), jU, jU] [] (sI μ 73 (ix x2) (0 : Int32))))) :=
  (evj_s (F := K190) rfl [29, 44, 101, 136, 172, 177, 185] 11 rfl).trans rfl
set_option maxRecDepth 100000 in
theorem e_M_drop_44 (x0 : Int32) (x1 : Int32) (x2 : Int32) (x3 : Int32) (μ : jm) : evj 190 44 [jR 10 64, jI x0, jI x1, jI x2, jI x3, jU, jU] [] μ = (jbr (decide (x1 ≤ x3)) (evj 190 29 [jR 10 64, jI x0, jI x1, jI (x2 + 1), jU, jU, jU] [] μ) (jgd (inB x2 8) (jbr (decide (x2 = x3)) (jgd (inB x2 8) (evj 190 44 [jR 10 64, jI x0, jI x1, jI x2, jI (x3 + 1), jU, jU] [] (sI μ 73 (ix x2) ((gI μ 73 (ix x2)) ||| (0 : Int32))))) (bI (cj 187 [jR 10 64, jI x2, jI x3, jI x0] μ) (fun r1 m1 => jbr (decide (r1 = 0)) (jgd (inB x2 8) (evj 190 44 [jR 10 64, jI x0, jI x1, jI x2, jI (x3 + 1), jU, jU] [] (sI m1 73 (ix x2) ((gI μ 73 (ix x2)) ||| (0 : Int32))))) (jgd (inB x2 8) (evj 190 44 [jR 10 64, jI x0, jI x1, jI x2, jI (x3 + 1), jU, jU] [] (sI m1 73 (ix x2) ((gI μ 73 (ix x2)) ||| ((1 : Int32) <<< (x3 &&& 31))))))))))) :=
  (evj_s (F := K190) rfl [29, 44, 101, 136, 172, 177, 185] 26 rfl).trans rfl
set_option maxRecDepth 100000 in
theorem e_M_drop_101 (x0 : Int32) (x1 : Int32) (x2 : Int32) (μ : jm) : evj 190 101 [jR 10 64, jU, jI x0, jI x1, jI x2, jU, jU] [] μ = (jbr (decide (((1 : Int32) <<< (x0 &&& 31)) ≤ x2)) (some (some (jI x1), μ)) (jbr (decide (x1 = (-1 : Int32))) (evj 190 136 [jR 10 64, jU, jI x0, jI x1, jI x2, jI (1 : Int32), jI (0 : Int32)] [] μ) (bI (cj 173 [jI x2] μ) (fun r1 m1 => bI (cj 173 [jI x1] m1) (fun r2 m2 => jbr (decide (r2 ≤ r1)) (evj 190 136 [jR 10 64, jU, jI x0, jI x1, jI x2, jI (0 : Int32), jI (0 : Int32)] [] m2) (evj 190 136 [jR 10 64, jU, jI x0, jI x1, jI x2, jI (1 : Int32), jI (0 : Int32)] [] m2)))))) :=
  (evj_s (F := K190) rfl [29, 44, 101, 136, 172, 177, 185] 19 rfl).trans rfl
set_option maxRecDepth 100000 in
theorem e_M_drop_136 (x0 : Int32) (x1 : Int32) (x2 : Int32) (x3 : Int32) (x4 : Int32) (μ : jm) : evj 190 136 [jR 10 64, jU, jI x0, jI x1, jI x2, jI x3, jI x4] [] μ = (jbr (decide (x0 ≤ x4)) (evj 190 185 [jR 10 64, jU, jI x0, jI x1, jI x2, jI x3, jU] [] μ) (jbr (decide (x3 = 0)) (evj 190 185 [jR 10 64, jU, jI x0, jI x1, jI x2, jI x3, jU] [] μ) (bI (cj 155 [jI x2, jI x4] μ) (fun r1 m1 => jbr (decide (¬ r1 = 0)) (evj 190 172 [jR 10 64, jU, jI x0, jI x1, jI x2, jU, jI x4] [] m1) (jgd (inB x4 8) (jbr (decide (¬ ((gI m1 73 (ix x4)) &&& (x2 ^^^ (-1 : Int32))) = 0)) (evj 190 177 [jR 10 64, jU, jI x0, jI x1, jI x2, jU, jI x4] [jI (0 : Int32)] m1) (evj 190 172 [jR 10 64, jU, jI x0, jI x1, jI x2, jU, jI x4] [] m1))))))) :=
  (evj_s (F := K190) rfl [29, 44, 101, 136, 172, 177, 185] 20 rfl).trans rfl
set_option maxRecDepth 100000 in
theorem e_M_drop_172 (x0 : Int32) (x1 : Int32) (x2 : Int32) (x3 : Int32) (μ : jm) : evj 190 172 [jR 10 64, jU, jI x0, jI x1, jI x2, jU, jI x3] [] μ = (evj 190 177 [jR 10 64, jU, jI x0, jI x1, jI x2, jU, jI x3] [jI (1 : Int32)] μ) :=
  (evj_s (F := K190) rfl [29, 44, 101, 136, 172, 177, 185] 3 rfl).trans rfl
set_option maxRecDepth 100000 in
theorem e_M_drop_177 (x0 : Int32) (x1 : Int32) (x2 : Int32) (x3 : Int32) (x4 : Int32) (μ : jm) : evj 190 177 [jR 10 64, jU, jI x0, jI x1, jI x2, jU, jI x3] [jI x4] μ = (evj 190 136 [jR 10 64, jU, jI x0, jI x1, jI x2, jI x4, jI (x3 + 1)] [] μ) :=
  (evj_s (F := K190) rfl [29, 44, 101, 136, 172, 177, 185] 4 rfl).trans rfl
set_option maxRecDepth 100000 in
theorem e_M_drop_185 (x0 : Int32) (x1 : Int32) (x2 : Int32) (x3 : Int32) (μ : jm) : evj 190 185 [jR 10 64, jU, jI x0, jI x1, jI x2, jI x3, jU] [] μ = (jbr (decide (x3 = 0)) (evj 190 101 [jR 10 64, jU, jI x0, jI x1, jI (x2 + 1), jU, jU] [] μ) (evj 190 101 [jR 10 64, jU, jI x0, jI x2, jI (x2 + 1), jU, jU] [] μ)) :=
  (evj_s (F := K190) rfl [29, 44, 101, 136, 172, 177, 185] 8 rfl).trans rfl
set_option maxRecDepth 100000 in
theorem e_M_news (x1 : Int32) (x2 : Int32) (x3 : Int32) (μ : jm) : cj 191 [jR 10 64, jI x1, jI x2, jI x3] μ = (bI (cj 139 [jI x1] μ) (fun r1 m1 => jbr (decide (r1 = 0)) (evj 191 19 [jR 10 64, jU, jU, jU, jU, jU, jU] [] m1) (bI (cj 139 [jI x2] m1) (fun r2 m2 => jbr (decide (r2 = 0)) (evj 191 19 [jR 10 64, jU, jU, jU, jU, jU, jU] [] m2) (jbr (decide ((-1 : Int32) ≤ x3)) (bV (cj 192 [jR 10 64, jI x2] m2) (fun m3 => jgd (inB x1 6) (jbr (decide (0 ≤ (gI m3 74 (ix x1)))) (jbr (decide (¬ x3 = (-1 : Int32))) (evj 191 69 [jR 10 64, jU, jI x2, jI x3, jI x1, jI (0 : Int32), jU] [] m3) (jgd (inB x1 6) (jgd (decide (¬ (100 : Int32) = 0)) (some (some (jI ((gI m3 74 (ix x1)) / (100 : Int32))), m3))))) (some (some (jI (-1 : Int32)), m3))))) (evj 191 19 [jR 10 64, jU, jU, jU, jU, jU, jU] [] m2)))))) :=
  (cj_it (F := K191) rfl [19, 69, 87] 28 _ _).trans rfl
set_option maxRecDepth 100000 in
theorem e_M_news_19  (μ : jm) : evj 191 19 [jR 10 64, jU, jU, jU, jU, jU, jU] [] μ = (jgd (inB (0 : Int32) 3) (jgd (inB (0 : Int32) 3) (some (some (jI (-10 : Int32)), sI μ 68 (ix (0 : Int32)) ((gI μ 68 (ix (0 : Int32))) + (1 : Int32)))))) :=
  (evj_s (F := K191) rfl [19, 69, 87] 11 rfl).trans rfl
set_option maxRecDepth 100000 in
theorem e_M_news_69 (x0 : Int32) (x1 : Int32) (x2 : Int32) (x3 : Int32) (μ : jm) : evj 191 69 [jR 10 64, jU, jI x0, jI x1, jI x2, jI x3, jU] [] μ = (jbr (decide (x1 ≤ x3)) (some (some (jI x2), μ)) (jbr (decide (¬ x2 = x0)) (evj 191 87 [jR 10 64, jU, jI x0, jI x1, jI x2, jI x3, jI (0 : Int32)] [] μ) (some (some (jI (-5 : Int32)), μ)))) :=
  (evj_s (F := K191) rfl [19, 69, 87] 9 rfl).trans rfl
set_option maxRecDepth 100000 in
theorem e_M_news_87 (x0 : Int32) (x1 : Int32) (x2 : Int32) (x3 : Int32) (x4 : Int32) (μ : jm) : evj 191 87 [jR 10 64, jU, jI x0, jI x1, jI x2, jI x3, jI x4] [] μ = (bI (cj 193 [jR 10 64, jI x2, jI x4, jI x0] μ) (fun r1 m1 => jgd (inB x2 6) (jbr (decide (r1 = (gI m1 74 (ix x2)))) (evj 191 69 [jR 10 64, jU, jI x0, jI x1, jI x4, jI (x3 + 1), jU] [] m1) (evj 191 87 [jR 10 64, jU, jI x0, jI x1, jI x2, jI x3, jI (x4 + 1)] [] m1)))) :=
  (evj_s (F := K191) rfl [19, 69, 87] 15 rfl).trans rfl
set_option maxRecDepth 100000 in
theorem e_M_findCosts (x1 : Int32) (μ : jm) : cj 192 [jR 10 64, jI x1] μ = (evj 192 2 [jR 10 64, jI x1, jI (0 : Int32), jU, jU, jU] [] μ) :=
  (cj_it (F := K192) rfl [2, 32, 40, 49, 73] 3 _ _).trans rfl
set_option maxRecDepth 100000 in
theorem e_M_findCosts_2 (x0 : Int32) (x1 : Int32) (μ : jm) : evj 192 2 [jR 10 64, jI x0, jI x1, jU, jU, jU] [] μ = (jbr (decide ((6 : Int32) ≤ x1)) (evj 192 32 [jR 10 64, jI x0, jI (0 : Int32), jU, jU, jU] [] μ) (jbr (decide (¬ x1 = x0)) (jgd (inB x1 6) (evj 192 2 [jR 10 64, jI x0, jI (x1 + 1), jU, jU, jU] [] (sI μ 74 (ix x1) (-1 : Int32)))) (jgd (inB x1 6) (evj 192 2 [jR 10 64, jI x0, jI (x1 + 1), jU, jU, jU] [] (sI μ 74 (ix x1) (0 : Int32)))))) :=
  (evj_s (F := K192) rfl [2, 32, 40, 49, 73] 15 rfl).trans rfl
set_option maxRecDepth 100000 in
theorem e_M_findCosts_32 (x0 : Int32) (x1 : Int32) (μ : jm) : evj 192 32 [jR 10 64, jI x0, jI x1, jU, jU, jU] [] μ = (jbr (decide ((6 : Int32) ≤ x1)) (some (none, μ)) (evj 192 40 [jR 10 64, jI x0, jI x1, jI (0 : Int32), jU, jU] [] μ)) :=
  (evj_s (F := K192) rfl [2, 32, 40, 49, 73] 6 rfl).trans rfl
set_option maxRecDepth 100000 in
theorem e_M_findCosts_40 (x0 : Int32) (x1 : Int32) (x2 : Int32) (μ : jm) : evj 192 40 [jR 10 64, jI x0, jI x1, jI x2, jU, jU] [] μ = (jbr (decide ((6 : Int32) ≤ x2)) (evj 192 32 [jR 10 64, jI x0, jI (x1 + 1), jU, jU, jU] [] μ) (evj 192 49 [jR 10 64, jI x0, jI x1, jI x2, jI (0 : Int32), jU] [] μ)) :=
  (evj_s (F := K192) rfl [2, 32, 40, 49, 73] 6 rfl).trans rfl
set_option maxRecDepth 100000 in
theorem e_M_findCosts_49 (x0 : Int32) (x1 : Int32) (x2 : Int32) (x3 : Int32) (μ : jm) : evj 192 49 [jR 10 64, jI x0, jI x1, jI x2, jI x3, jU] [] μ = (jbr (decide ((6 : Int32) ≤ x3)) (evj 192 40 [jR 10 64, jI x0, jI x1, jI (x2 + 1), jU, jU] [] μ) (jbr (decide (¬ x2 = x0)) (bI (cj 193 [jR 10 64, jI x2, jI x3, jI x0] μ) (fun r1 m1 => evj 192 73 [jR 10 64, jI x0, jI x1, jI x2, jI x3, jU] [jI r1] m1)) (evj 192 73 [jR 10 64, jI x0, jI x1, jI x2, jI x3, jU] [jI (-1 : Int32)] μ))) :=
  (evj_s (F := K192) rfl [2, 32, 40, 49, 73] 12 rfl).trans rfl
set_option maxRecDepth 100000 in
theorem e_M_findCosts_73 (x0 : Int32) (x1 : Int32) (x2 : Int32) (x3 : Int32) (x4 : Int32) (μ : jm) : evj 192 73 [jR 10 64, jI x0, jI x1, jI x2, jI x3, jU] [jI x4] μ = (jbr (decide (x4 < 0)) (jgd (inB x2 6) (jgd (inB x2 6) (evj 192 49 [jR 10 64, jI x0, jI x1, jI x2, jI (x3 + 1), jU] [] (sI μ 74 (ix x2) (gI μ 74 (ix x2)))))) (jgd (inB x2 6) (jbr (decide ((gI μ 74 (ix x2)) < 0)) (jgd (inB x2 6) (evj 192 49 [jR 10 64, jI x0, jI x1, jI x2, jI (x3 + 1), jU] [] (sI μ 74 (ix x2) x4))) (jgd (inB x2 6) (jbr (decide ((gI μ 74 (ix x2)) ≤ x4)) (jgd (inB x2 6) (jgd (inB x2 6) (evj 192 49 [jR 10 64, jI x0, jI x1, jI x2, jI (x3 + 1), jU] [] (sI μ 74 (ix x2) (gI μ 74 (ix x2)))))) (jgd (inB x2 6) (evj 192 49 [jR 10 64, jI x0, jI x1, jI x2, jI (x3 + 1), jU] [] (sI μ 74 (ix x2) x4)))))))) :=
  (evj_s (F := K192) rfl [2, 32, 40, 49, 73] 25 rfl).trans rfl
set_option maxRecDepth 100000 in
theorem e_M_costOn (x1 : Int32) (x2 : Int32) (x3 : Int32) (μ : jm) : cj 193 [jR 10 64, jI x1, jI x2, jI x3] μ = (jgd (inB (((36 : Int32) + ((6 : Int32) * x1)) + x2) 560) (jbr (decide ((gI μ 65 (ix (((36 : Int32) + ((6 : Int32) * x1)) + x2))) = 0)) (some (some (jI (-1 : Int32)), μ)) (jgd (inB x2 6) (jbr (decide (0 ≤ (gI μ 74 (ix x2)))) (jgd (inB x2 6) (jbr (decide (x2 = x3)) (some (some (jI (((gI μ 74 (ix x2)) + (1 : Int32)) + (0 : Int32))), μ)) (bI (cj 175 [jR 10 64, jI x2] μ) (fun r1 m1 => jbr (decide (¬ r1 = 0)) (some (some (jI (((gI μ 74 (ix x2)) + (1 : Int32)) + (0 : Int32))), m1)) (some (some (jI (((gI μ 74 (ix x2)) + (1 : Int32)) + (100 : Int32))), m1)))))) (some (some (jI (-1 : Int32)), μ)))))) :=
  (cj_it (F := K193) rfl [] 34 _ _).trans rfl
set_option maxRecDepth 100000 in
theorem e_M_hole (x1 : Int32) (μ : jm) : cj 194 [jR 10 64, jI x1] μ = (bI (cj 140 [jL ((x1 : Int32).toInt64), jL (0 : Int64), jL (4095 : Int64)] μ) (fun r1 m1 => jbr (decide (r1 = 0)) (bI (cj 141 [jR 10 64, jI (-2 : Int32)] m1) (fun r2 m2 => some (some (jI r2), m2))) (bI (cj 173 [jI x1] m1) (fun r3 m3 => jbr (decide (r3 ≤ (3 : Int32))) (jgd (inB (126 : Int32) 560) (jbr (decide (¬ (gI m3 65 (ix (126 : Int32))) = (6 : Int32))) (jgd (inB ((127 : Int32) + (gI m3 65 (ix (126 : Int32)))) 560) (jgd (inB (126 : Int32) 560) (jgd (inB (126 : Int32) 560) (some (some (jI (gI m3 65 (ix (126 : Int32)))), sI (sI m3 65 (ix ((127 : Int32) + (gI m3 65 (ix (126 : Int32))))) x1) 65 (ix (126 : Int32)) ((gI (sI m3 65 (ix ((127 : Int32) + (gI m3 65 (ix (126 : Int32))))) x1) 65 (ix (126 : Int32))) + (1 : Int32))))))) (bI (cj 141 [jR 10 64, jI (-4 : Int32)] m3) (fun r4 m4 => some (some (jI r4), m4))))) (bI (cj 141 [jR 10 64, jI (-2 : Int32)] m3) (fun r5 m5 => some (some (jI r5), m5))))))) :=
  (cj_it (F := K194) rfl [] 36 _ _).trans rfl
set_option maxRecDepth 100000 in
theorem e_M_whole  (μ : jm) : cj 195 [jR 10 64] μ = (jgd (inB (126 : Int32) 560) (jgd (inB (126 : Int32) 560) (some (some (jI (gI μ 65 (ix (126 : Int32)))), sI μ 65 (ix (126 : Int32)) (0 : Int32))))) :=
  (cj_it (F := K195) rfl [] 13 _ _).trans rfl
set_option maxRecDepth 100000 in
theorem e_M_meant (x1 : Int32) (μ : jm) : cj 196 [jR 10 64, jI x1] μ = (bI (cj 197 [jR 10 64, jI x1] μ) (fun r1 m1 => jbr (decide (r1 = 0)) (bI (cj 141 [jR 10 64, jI (-2 : Int32)] m1) (fun r2 m2 => some (some (jI r2), m2))) (bI (cj 198 [jR 10 64, jI x1] m1) (fun r3 m3 => some (some (jI r3), m3))))) :=
  (cj_it (F := K196) rfl [] 10 _ _).trans rfl
set_option maxRecDepth 100000 in
theorem e_M_isHole (x1 : Int32) (μ : jm) : cj 197 [jR 10 64, jI x1] μ = (jgd (inB (126 : Int32) 560) (bI (cj 140 [jL ((x1 : Int32).toInt64), jL (0 : Int64), jL (((gI μ 65 (ix (126 : Int32))) - (1 : Int32) : Int32).toInt64)] μ) (fun r1 m1 => some (some (jI (r1 &&& 1)), m1)))) :=
  (cj_it (F := K197) rfl [] 13 _ _).trans rfl
set_option maxRecDepth 100000 in
theorem e_M_meantBy (x1 : Int32) (μ : jm) : cj 198 [jR 10 64, jI x1] μ = (evj 198 4 [jR 10 64, jI x1, jI (0 : Int32), jI (0 : Int32)] [] μ) :=
  (cj_it (F := K198) rfl [4] 5 _ _).trans rfl
set_option maxRecDepth 100000 in
theorem e_M_meantBy_4 (x0 : Int32) (x1 : Int32) (x2 : Int32) (μ : jm) : evj 198 4 [jR 10 64, jI x0, jI x1, jI x2] [] μ = (jgd (inB (101 : Int32) 560) (jbr (decide ((gI μ 65 (ix (101 : Int32))) ≤ x2)) (some (some (jI x1), μ)) (jgd (inB ((127 : Int32) + x0) 560) (jgd (inB ((102 : Int32) + x2) 560) (jbr (decide (¬ ((gI μ 65 (ix ((127 : Int32) + x0))) &&& ((gI μ 65 (ix ((102 : Int32) + x2))) ^^^ (-1 : Int32))) = 0)) (evj 198 4 [jR 10 64, jI x0, jI (x1 ||| (0 : Int32)), jI (x2 + 1)] [] μ) (evj 198 4 [jR 10 64, jI x0, jI (x1 ||| ((1 : Int32) <<< (x2 &&& 31))), jI (x2 + 1)] [] μ)))))) :=
  (evj_s (F := K198) rfl [4] 32 rfl).trans rfl
set_option maxRecDepth 100000 in
theorem e_M_ways  (μ : jm) : cj 199 [jR 10 64] μ = (bL (cj 200 [jR 10 64, jI (0 : Int32), jI (-1 : Int32), jI (0 : Int32)] μ) (fun r1 m1 => some (some (jI ((r1 : Int64).toInt32)), m1))) :=
  (cj_it (F := K199) rfl [] 8 _ _).trans rfl
set_option maxRecDepth 100000 in
theorem e_M_rows (x1 : Int32) (x2 : Int32) (x3 : Int32) (μ : jm) : cj 200 [jR 10 64, jI x1, jI x2, jI x3] μ = (jgd (inB (101 : Int32) 560) (evj 200 15 [jR 10 64, jI x1, jI x2, jI x3, jI (gI μ 65 (ix (101 : Int32))), jL (1 : Int64), jU, jI (0 : Int32), jU, jU, jU, jU] [] μ)) :=
  (cj_it (F := K200) rfl [15, 39, 84, 163] 10 _ _).trans rfl
set_option maxRecDepth 100000 in
theorem e_M_rows_15 (x0 : Int32) (x1 : Int32) (x2 : Int32) (x3 : Int32) (y4 : Int64) (x5 : Int32) (μ : jm) : evj 200 15 [jR 10 64, jI x0, jI x1, jI x2, jI x3, jL y4, jU, jI x5, jU, jU, jU, jU] [] μ = (jbr (decide (x3 ≤ x5)) (evj 200 39 [jR 10 64, jI x0, jI x1, jI x2, jI x3, jL y4, jU, jI (0 : Int32), jU, jU, jU, jU] [] μ) (jgd (inB x5 8) (evj 200 15 [jR 10 64, jI x0, jI x1, jI x2, jI x3, jL y4, jU, jI (x5 + 1), jU, jU, jU, jU] [] (sL μ 75 (ix x5) (0 : Int64))))) :=
  (evj_s (F := K200) rfl [15, 39, 84, 163] 11 rfl).trans rfl
set_option maxRecDepth 100000 in
theorem e_M_rows_39 (x0 : Int32) (x1 : Int32) (x2 : Int32) (x3 : Int32) (y4 : Int64) (x5 : Int32) (μ : jm) : evj 200 39 [jR 10 64, jI x0, jI x1, jI x2, jI x3, jL y4, jU, jI x5, jU, jU, jU, jU] [] μ = (jgd (inB (126 : Int32) 560) (jbr (decide ((gI μ 65 (ix (126 : Int32))) ≤ x5)) (some (some (jL y4), μ)) (jbr (decide (¬ x5 = x1)) (bI (cj 198 [jR 10 64, jI x5] μ) (fun r1 m1 => evj 200 84 [jR 10 64, jI x0, jI x1, jI x2, jI x3, jL y4, jU, jI x5, jI r1, jL (0 : Int64), jU, jI (0 : Int32)] [] m1)) (bI (cj 198 [jR 10 64, jI x5] μ) (fun r2 m2 => evj 200 84 [jR 10 64, jI x0, jI x1, jI x2, jI x3, jL y4, jU, jI x5, jI (r2 &&& ((1 : Int32) <<< (x2 &&& 31))), jL (0 : Int64), jU, jI (0 : Int32)] [] m2))))) :=
  (evj_s (F := K200) rfl [15, 39, 84, 163] 23 rfl).trans rfl
set_option maxRecDepth 100000 in
theorem e_M_rows_84 (x0 : Int32) (x1 : Int32) (x2 : Int32) (x3 : Int32) (y4 : Int64) (x5 : Int32) (x6 : Int32) (y7 : Int64) (x8 : Int32) (μ : jm) : evj 200 84 [jR 10 64, jI x0, jI x1, jI x2, jI x3, jL y4, jU, jI x5, jI x6, jL y7, jU, jI x8] [] μ = (jbr (decide (x3 ≤ x8)) (evj 200 163 [jR 10 64, jI x0, jI x1, jI x2, jI x3, jU, jU, jI x5, jU, jL y7, jU, jI (0 : Int32)] [] μ) (bI (cj 155 [jI x6, jI x8] μ) (fun r1 m1 => jbr (decide (r1 = 0)) (jgd (inB x8 8) (jgd (inB x8 8) (evj 200 84 [jR 10 64, jI x0, jI x1, jI x2, jI x3, jL y4, jU, jI x5, jI x6, jL (y7 + (gL (sL m1 76 (ix x8) (0 : Int64)) 76 (ix x8))), jU, jI (x8 + 1)] [] (sL m1 76 (ix x8) (0 : Int64))))) (jgd (inB x8 8) (jbr (decide (x0 = 0)) (jgd (inB x8 8) (jgd (inB x8 8) (evj 200 84 [jR 10 64, jI x0, jI x1, jI x2, jI x3, jL y4, jU, jI x5, jI x6, jL (y7 + (gL (sL m1 76 (ix x8) ((y4 - (gL m1 75 (ix x8))) * (((1 : Int32) : Int32).toInt64))) 76 (ix x8))), jU, jI (x8 + 1)] [] (sL m1 76 (ix x8) ((y4 - (gL m1 75 (ix x8))) * (((1 : Int32) : Int32).toInt64)))))) (jgd (inB ((110 : Int32) + x8) 560) (jgd (inB x8 8) (jgd (inB x8 8) (evj 200 84 [jR 10 64, jI x0, jI x1, jI x2, jI x3, jL y4, jU, jI x5, jI x6, jL (y7 + (gL (sL m1 76 (ix x8) ((y4 - (gL m1 75 (ix x8))) * ((gI m1 65 (ix ((110 : Int32) + x8)) : Int32).toInt64))) 76 (ix x8))), jU, jI (x8 + 1)] [] (sL m1 76 (ix x8) ((y4 - (gL m1 75 (ix x8))) * ((gI m1 65 (ix ((110 : Int32) + x8)) : Int32).toInt64)))))))))))) :=
  (evj_s (F := K200) rfl [15, 39, 84, 163] 39 rfl).trans rfl
set_option maxRecDepth 100000 in
theorem e_M_rows_163 (x0 : Int32) (x1 : Int32) (x2 : Int32) (x3 : Int32) (x4 : Int32) (y5 : Int64) (x6 : Int32) (μ : jm) : evj 200 163 [jR 10 64, jI x0, jI x1, jI x2, jI x3, jU, jU, jI x4, jU, jL y5, jU, jI x6] [] μ = (jbr (decide (x3 ≤ x6)) (evj 200 39 [jR 10 64, jI x0, jI x1, jI x2, jI x3, jL y5, jU, jI (x4 + 1), jU, jU, jU, jU] [] μ) (jgd (inB x6 8) (jgd (inB x6 8) (evj 200 163 [jR 10 64, jI x0, jI x1, jI x2, jI x3, jU, jU, jI x4, jU, jL y5, jU, jI (x6 + 1)] [] (sL μ 75 (ix x6) (gL μ 76 (ix x6))))))) :=
  (evj_s (F := K200) rfl [15, 39, 84, 163] 14 rfl).trans rfl
set_option maxRecDepth 100000 in
theorem e_M_odds (x1 : Int32) (x2 : Int32) (μ : jm) : cj 201 [jR 10 64, jI x1, jI x2] μ = (bI (cj 197 [jR 10 64, jI x1] μ) (fun r1 m1 => jbr (decide (r1 = 0)) (bI (cj 141 [jR 10 64, jI (-2 : Int32)] m1) (fun r2 m2 => some (some (jI r2), m2))) (bI (cj 170 [jR 10 64, jI x2] m1) (fun r3 m3 => jbr (decide (¬ r3 = 0)) (bL (cj 200 [jR 10 64, jI (1 : Int32), jI (-1 : Int32), jI (0 : Int32)] m3) (fun r4 m4 => jbr (decide (¬ (lg_cmp r4 (0 : Int64)) = 0)) (bL (cj 200 [jR 10 64, jI (1 : Int32), jI x1, jI x2] m4) (fun r5 m5 => bI (cj 202 [jR 10 64, jL r5, jL r4] m5) (fun r6 m6 => some (some (jI r6), m6)))) (bI (cj 141 [jR 10 64, jI (-3 : Int32)] m4) (fun r7 m7 => some (some (jI r7), m7))))) (bI (cj 141 [jR 10 64, jI (-2 : Int32)] m3) (fun r8 m8 => some (some (jI r8), m8))))))) :=
  (cj_it (F := K201) rfl [] 28 _ _).trans rfl
set_option maxRecDepth 100000 in
theorem e_M_share (x1 : Int64) (x2 : Int64) (μ : jm) : cj 202 [jR 10 64, jL x1, jL x2] μ = (evj 202 6 [jR 10 64, jL x1, jU, jL x2, jU, jL x1, jU, jL x2, jU, jU, jU] [] μ) :=
  (cj_it (F := K202) rfl [6] 5 _ _).trans rfl
set_option maxRecDepth 100000 in
theorem e_M_share_6 (y0 : Int64) (y1 : Int64) (y2 : Int64) (y3 : Int64) (μ : jm) : evj 202 6 [jR 10 64, jL y0, jU, jL y1, jU, jL y2, jU, jL y3, jU, jU, jU] [] μ = (jbr (decide ((lg_cmp y3 (0 : Int64)) = 0)) (jgd (decide (¬ y2 = 0)) (jgd (decide (¬ y2 = 0)) (some (some (jI (1 : Int32)), sL (sL μ 64 4 (y0 / y2)) 64 5 (y1 / y2))))) (jgd (decide (¬ y3 = 0)) (evj 202 6 [jR 10 64, jL y0, jU, jL y1, jU, jL y3, jU, jL (y2 - y2 / y3 * y3), jU, jU, jU] [] μ))) :=
  (evj_s (F := K202) rfl [6] 17 rfl).trans rfl
set_option maxRecDepth 100000 in
theorem e_M_block (x1 : Int32) (x2 : Int32) (μ : jm) : cj 203 [jR 10 64, jI x1, jI x2] μ = (bI (cj 154 [jR 10 64, jI x1] μ) (fun r1 m1 => jbr (decide (r1 = 0)) (bI (cj 141 [jR 10 64, jI (-2 : Int32)] m1) (fun r2 m2 => some (some (jI r2), m2))) (bI (cj 170 [jR 10 64, jI x2] m1) (fun r3 m3 => jbr (decide (¬ r3 = 0)) (bI (cj 171 [jR 10 64, jI (0 : Int32), jI x1, jI x2] m3) (fun r4 m4 => jbr (decide (¬ r4 = 0)) (evj 203 45 [jR 10 64, jI x1, jI x2, jI (0 : Int32), jI (0 : Int32)] [] m4) (bI (cj 141 [jR 10 64, jI (-3 : Int32)] m4) (fun r5 m5 => some (some (jI r5), m5))))) (bI (cj 141 [jR 10 64, jI (-2 : Int32)] m3) (fun r6 m6 => some (some (jI r6), m6))))))) :=
  (cj_it (F := K203) rfl [45] 19 _ _).trans rfl
set_option maxRecDepth 100000 in
theorem e_M_block_45 (x0 : Int32) (x1 : Int32) (x2 : Int32) (x3 : Int32) (μ : jm) : evj 203 45 [jR 10 64, jI x0, jI x1, jI x2, jI x3] [] μ = (jgd (inB (72 : Int32) 560) (jbr (decide ((gI μ 65 (ix (72 : Int32))) ≤ x3)) (some (some (jI x2), μ)) (bI (cj 155 [jI x0, jI x3] μ) (fun r1 m1 => jbr (decide (r1 = 0)) (evj 203 45 [jR 10 64, jI x0, jI x1, jI (x2 ||| (0 : Int32)), jI (x3 + 1)] [] m1) (bI (cj 171 [jR 10 64, jI (0 : Int32), jI (x0 &&& (((1 : Int32) <<< (x3 &&& 31)) ^^^ (-1 : Int32))), jI x1] m1) (fun r2 m2 => jbr (decide (¬ r2 = 0)) (evj 203 45 [jR 10 64, jI x0, jI x1, jI (x2 ||| (0 : Int32)), jI (x3 + 1)] [] m2) (evj 203 45 [jR 10 64, jI x0, jI x1, jI (x2 ||| ((1 : Int32) <<< (x3 &&& 31))), jI (x3 + 1)] [] m2))))))) :=
  (evj_s (F := K203) rfl [45] 32 rfl).trans rfl
set_option maxRecDepth 100000 in
theorem e_M_swing (x1 : Int32) (x2 : Int32) (x3 : Int32) (μ : jm) : cj 204 [jR 10 64, jI x1, jI x2, jI x3] μ = (bI (cj 154 [jR 10 64, jI x1] μ) (fun r1 m1 => jbr (decide (r1 = 0)) (bI (cj 141 [jR 10 64, jI (-2 : Int32)] m1) (fun r2 m2 => some (some (jI r2), m2))) (bI (cj 147 [jR 10 64, jI (0 : Int32), jI x2] m1) (fun r3 m3 => jbr (decide (r3 = 0)) (bI (cj 141 [jR 10 64, jI (-2 : Int32)] m3) (fun r4 m4 => some (some (jI r4), m4))) (bI (cj 155 [jI x1, jI x2] m3) (fun r5 m5 => jbr (decide (r5 = 0)) (bI (cj 141 [jR 10 64, jI (-2 : Int32)] m5) (fun r6 m6 => some (some (jI r6), m6))) (bI (cj 170 [jR 10 64, jI x3] m5) (fun r7 m7 => jbr (decide (¬ r7 = 0)) (evj 204 46 [jR 10 64, jI x1, jI x2, jI x3, jL (0 : Int64), jU, jI (0 : Int32)] [] m7) (bI (cj 141 [jR 10 64, jI (-2 : Int32)] m7) (fun r8 m8 => some (some (jI r8), m8))))))))))) :=
  (cj_it (F := K204) rfl [46, 105, 108] 22 _ _).trans rfl
set_option maxRecDepth 100000 in
theorem e_M_swing_46 (x0 : Int32) (x1 : Int32) (x2 : Int32) (y3 : Int64) (x4 : Int32) (μ : jm) : evj 204 46 [jR 10 64, jI x0, jI x1, jI x2, jL y3, jU, jI x4] [] μ = (jbr (decide (x0 < x4)) (bI (cj 173 [jI x0] μ) (fun r1 m1 => bI (cj 202 [jR 10 64, jL y3, jL ((1 : Int64) <<< ((r1 - (1 : Int32) : Int32).toInt64 &&& 63))] m1) (fun r2 m2 => some (some (jI r2), m2)))) (jbr (decide (¬ (x4 &&& (x0 ^^^ (-1 : Int32))) = 0)) (evj 204 108 [jR 10 64, jI x0, jI x1, jI x2, jL y3, jU, jI x4] [] μ) (bI (cj 155 [jI x4, jI x1] μ) (fun r3 m3 => jbr (decide (r3 = 0)) (evj 204 108 [jR 10 64, jI x0, jI x1, jI x2, jL y3, jU, jI x4] [] m3) (bI (cj 171 [jR 10 64, jI (0 : Int32), jI x4, jI x2] m3) (fun r4 m4 => jbr (decide (r4 = 0)) (evj 204 108 [jR 10 64, jI x0, jI x1, jI x2, jL y3, jU, jI x4] [] m4) (bI (cj 171 [jR 10 64, jI (0 : Int32), jI (x4 &&& (((1 : Int32) <<< (x1 &&& 31)) ^^^ (-1 : Int32))), jI x2] m4) (fun r5 m5 => jbr (decide (r5 = 0)) (evj 204 105 [jR 10 64, jI x0, jI x1, jI x2, jU, jU, jI x4] [jL (1 : Int64), jL y3] m5) (evj 204 105 [jR 10 64, jI x0, jI x1, jI x2, jU, jU, jI x4] [jL (0 : Int64), jL y3] m5))))))))) :=
  (evj_s (F := K204) rfl [46, 105, 108] 35 rfl).trans rfl
set_option maxRecDepth 100000 in
theorem e_M_swing_105 (x0 : Int32) (x1 : Int32) (x2 : Int32) (x3 : Int32) (y4 : Int64) (y5 : Int64) (μ : jm) : evj 204 105 [jR 10 64, jI x0, jI x1, jI x2, jU, jU, jI x3] [jL y4, jL y5] μ = (evj 204 108 [jR 10 64, jI x0, jI x1, jI x2, jL (y5 + y4), jU, jI x3] [] μ) :=
  (evj_s (F := K204) rfl [46, 105, 108] 3 rfl).trans rfl
set_option maxRecDepth 100000 in
theorem e_M_swing_108 (x0 : Int32) (x1 : Int32) (x2 : Int32) (y3 : Int64) (x4 : Int32) (μ : jm) : evj 204 108 [jR 10 64, jI x0, jI x1, jI x2, jL y3, jU, jI x4] [] μ = (evj 204 46 [jR 10 64, jI x0, jI x1, jI x2, jL y3, jU, jI (x4 + 1)] [] μ) :=
  (evj_s (F := K204) rfl [46, 105, 108] 3 rfl).trans rfl
set_option maxRecDepth 100000 in
theorem e_M_song (x1 : Int32) (x2 : Int32) (x3 : Int32) (μ : jm) : cj 205 [jR 10 64, jI x1, jI x2, jI x3] μ = (bI (cj 154 [jR 10 64, jI x1] μ) (fun r1 m1 => jbr (decide (r1 = 0)) (jgd (inB (0 : Int32) 3) (jgd (inB (0 : Int32) 3) (some (some (jI (-10 : Int32)), sI m1 68 (ix (0 : Int32)) ((gI m1 68 (ix (0 : Int32))) + (1 : Int32)))))) (bI (cj 140 [jL ((x2 : Int32).toInt64), jL (0 : Int64), jL (6 : Int64)] m1) (fun r2 m2 => jbr (decide (r2 = 0)) (jgd (inB (0 : Int32) 3) (jgd (inB (0 : Int32) 3) (some (some (jI (-10 : Int32)), sI m2 68 (ix (0 : Int32)) ((gI m2 68 (ix (0 : Int32))) + (1 : Int32)))))) (jbr (decide ((-1 : Int32) ≤ x3)) (bV (cj 206 [jR 10 64, jI x1, jI x2] m2) (fun m3 => jbr (decide (¬ x1 = 0)) (evj 205 58 [jR 10 64, jI x1, jI x2, jI x3, jI (0 : Int32), jI (0 : Int32), jU, jU, jU] [] m3) (evj 205 58 [jR 10 64, jI x1, jI x2, jI x3, jI (1 : Int32), jI (0 : Int32), jU, jU, jU] [] m3))) (jgd (inB (0 : Int32) 3) (jgd (inB (0 : Int32) 3) (some (some (jI (-10 : Int32)), sI m2 68 (ix (0 : Int32)) ((gI m2 68 (ix (0 : Int32))) + (1 : Int32))))))))))) :=
  (cj_it (F := K205) rfl [58, 126, 135] 25 _ _).trans rfl
set_option maxRecDepth 100000 in
theorem e_M_song_58 (x0 : Int32) (x1 : Int32) (x2 : Int32) (x3 : Int32) (x4 : Int32) (μ : jm) : evj 205 58 [jR 10 64, jI x0, jI x1, jI x2, jI x3, jI x4, jU, jU, jU] [] μ = (jgd (inB (72 : Int32) 560) (jbr (decide ((gI μ 65 (ix (72 : Int32))) ≤ x4)) (jbr (decide (¬ x2 = (-1 : Int32))) (jbr (decide (x3 = 0)) (some (some (jI (-5 : Int32)), μ)) (bI (cj 173 [jI x0] μ) (fun r1 m1 => jbr (decide (x2 < r1)) (evj 205 126 [jR 10 64, jU, jI x1, jI x2, jU, jI x0, jI (-1 : Int32), jI (0 : Int32), jU] [] m1) (some (some (jI (-5 : Int32)), m1))))) (some (some (jI x3), μ))) (jgd (inB (((7 : Int32) * x0) + x4) 896) (evj 205 58 [jR 10 64, jI x0, jI x1, jI x2, jI (x3 + (gI μ 77 (ix (((7 : Int32) * x0) + x4)))), jI (x4 + 1), jU, jU, jU] [] μ)))) :=
  (evj_s (F := K205) rfl [58, 126, 135] 22 rfl).trans rfl
set_option maxRecDepth 100000 in
theorem e_M_song_126 (x0 : Int32) (x1 : Int32) (x2 : Int32) (x3 : Int32) (x4 : Int32) (μ : jm) : evj 205 126 [jR 10 64, jU, jI x0, jI x1, jU, jI x2, jI x3, jI x4, jU] [] μ = (jbr (decide (x1 < x4)) (some (some (jI x3), μ)) (evj 205 135 [jR 10 64, jU, jI x0, jI x1, jU, jI x2, jI x3, jI x4, jI (0 : Int32)] [] μ)) :=
  (evj_s (F := K205) rfl [58, 126, 135] 6 rfl).trans rfl
set_option maxRecDepth 100000 in
theorem e_M_song_135 (x0 : Int32) (x1 : Int32) (x2 : Int32) (x3 : Int32) (x4 : Int32) (x5 : Int32) (μ : jm) : evj 205 135 [jR 10 64, jU, jI x0, jI x1, jU, jI x2, jI x3, jI x4, jI x5] [] μ = (jgd (inB (((7 : Int32) * x2) + x5) 896) (jbr (decide ((gI μ 77 (ix (((7 : Int32) * x2) + x5))) = 0)) (evj 205 135 [jR 10 64, jU, jI x0, jI x1, jU, jI x2, jI x3, jI x4, jI (x5 + 1)] [] μ) (jbr (decide (x3 = (-1 : Int32))) (evj 205 126 [jR 10 64, jU, jI x0, jI x1, jU, jI (x2 &&& (((1 : Int32) <<< (x5 &&& 31)) ^^^ (-1 : Int32))), jI x5, jI (x4 + 1), jU] [] μ) (jgd (inB ((80 : Int32) + x3) 560) (jgd (inB ((80 : Int32) + x5) 560) (bI (cj 189 [jI (gI μ 65 (ix ((80 : Int32) + x3))), jI (gI μ 65 (ix ((80 : Int32) + x5))), jI x0] μ) (fun r1 m1 => jbr (decide (¬ r1 = 0)) (evj 205 126 [jR 10 64, jU, jI x0, jI x1, jU, jI (x2 &&& (((1 : Int32) <<< (x5 &&& 31)) ^^^ (-1 : Int32))), jI x5, jI (x4 + 1), jU] [] m1) (evj 205 135 [jR 10 64, jU, jI x0, jI x1, jU, jI x2, jI x3, jI x4, jI (x5 + 1)] [] m1)))))))) :=
  (evj_s (F := K205) rfl [58, 126, 135] 40 rfl).trans rfl
set_option maxRecDepth 100000 in
theorem e_M_findOrders (x1 : Int32) (x2 : Int32) (μ : jm) : cj 206 [jR 10 64, jI x1, jI x2] μ = (evj 206 2 [jR 10 64, jI x1, jI x2, jI (0 : Int32), jU, jU, jU, jU] [] μ) :=
  (cj_it (F := K206) rfl [2, 10, 47] 3 _ _).trans rfl
set_option maxRecDepth 100000 in
theorem e_M_findOrders_2 (x0 : Int32) (x1 : Int32) (x2 : Int32) (μ : jm) : evj 206 2 [jR 10 64, jI x0, jI x1, jI x2, jU, jU, jU, jU] [] μ = (jbr (decide (x0 < x2)) (some (none, μ)) (evj 206 10 [jR 10 64, jI x0, jI x1, jI x2, jI (0 : Int32), jU, jU, jU] [] μ)) :=
  (evj_s (F := K206) rfl [2, 10, 47] 6 rfl).trans rfl
set_option maxRecDepth 100000 in
theorem e_M_findOrders_10 (x0 : Int32) (x1 : Int32) (x2 : Int32) (x3 : Int32) (μ : jm) : evj 206 10 [jR 10 64, jI x0, jI x1, jI x2, jI x3, jU, jU, jU] [] μ = (jgd (inB (72 : Int32) 560) (jbr (decide ((gI μ 65 (ix (72 : Int32))) ≤ x3)) (evj 206 2 [jR 10 64, jI x0, jI x1, jI (x2 + 1), jU, jU, jU, jU] [] μ) (jbr (decide (¬ (x2 &&& (((1 : Int32) <<< (x3 &&& 31)) ^^^ (-1 : Int32))) = 0)) (evj 206 47 [jR 10 64, jI x0, jI x1, jI x2, jI x3, jI (x2 &&& (((1 : Int32) <<< (x3 &&& 31)) ^^^ (-1 : Int32))), jI (0 : Int32), jI (0 : Int32)] [] μ) (evj 206 47 [jR 10 64, jI x0, jI x1, jI x2, jI x3, jI (x2 &&& (((1 : Int32) <<< (x3 &&& 31)) ^^^ (-1 : Int32))), jI (1 : Int32), jI (0 : Int32)] [] μ)))) :=
  (evj_s (F := K206) rfl [2, 10, 47] 22 rfl).trans rfl
set_option maxRecDepth 100000 in
theorem e_M_findOrders_47 (x0 : Int32) (x1 : Int32) (x2 : Int32) (x3 : Int32) (x4 : Int32) (x5 : Int32) (x6 : Int32) (μ : jm) : evj 206 47 [jR 10 64, jI x0, jI x1, jI x2, jI x3, jI x4, jI x5, jI x6] [] μ = (jgd (inB (72 : Int32) 560) (jbr (decide ((gI μ 65 (ix (72 : Int32))) ≤ x6)) (bI (cj 155 [jI x2, jI x3] μ) (fun r1 m1 => jbr (decide (r1 = 0)) (jgd (inB (((7 : Int32) * x2) + x3) 896) (evj 206 10 [jR 10 64, jI x0, jI x1, jI x2, jI (x3 + 1), jU, jU, jU] [] (sI m1 77 (ix (((7 : Int32) * x2) + x3)) (0 : Int32)))) (jgd (inB (((7 : Int32) * x2) + x3) 896) (evj 206 10 [jR 10 64, jI x0, jI x1, jI x2, jI (x3 + 1), jU, jU, jU] [] (sI m1 77 (ix (((7 : Int32) * x2) + x3)) x5))))) (bI (cj 155 [jI x4, jI x6] μ) (fun r2 m2 => jbr (decide (r2 = 0)) (evj 206 47 [jR 10 64, jI x0, jI x1, jI x2, jI x3, jI x4, jI (x5 + (0 : Int32)), jI (x6 + 1)] [] m2) (jgd (inB ((80 : Int32) + x3) 560) (jgd (inB ((80 : Int32) + x6) 560) (bI (cj 189 [jI (gI m2 65 (ix ((80 : Int32) + x3))), jI (gI m2 65 (ix ((80 : Int32) + x6))), jI x1] m2) (fun r3 m3 => jbr (decide (r3 = 0)) (evj 206 47 [jR 10 64, jI x0, jI x1, jI x2, jI x3, jI x4, jI (x5 + (0 : Int32)), jI (x6 + 1)] [] m3) (jgd (inB (((7 : Int32) * x4) + x6) 896) (evj 206 47 [jR 10 64, jI x0, jI x1, jI x2, jI x3, jI x4, jI (x5 + (gI m3 77 (ix (((7 : Int32) * x4) + x6)))), jI (x6 + 1)] [] m3)))))))))) :=
  (evj_s (F := K206) rfl [2, 10, 47] 40 rfl).trans rfl
set_option maxRecDepth 100000 in
theorem e_M_couple (x1 : Int32) (μ : jm) : cj 207 [jR 10 64, jI x1] μ = (bI (cj 154 [jR 10 64, jI x1] μ) (fun r1 m1 => jbr (decide (¬ r1 = 0)) (evj 207 22 [jR 10 64, jI x1, jI (-1 : Int32), jI (-1 : Int32), jI (0 : Int32), jU, jU] [] m1) (bI (cj 141 [jR 10 64, jI (-2 : Int32)] m1) (fun r2 m2 => some (some (jI r2), m2))))) :=
  (cj_it (F := K207) rfl [22, 40, 195, 209] 11 _ _).trans rfl
set_option maxRecDepth 100000 in
theorem e_M_couple_22 (x0 : Int32) (x1 : Int32) (x2 : Int32) (x3 : Int32) (μ : jm) : evj 207 22 [jR 10 64, jI x0, jI x1, jI x2, jI x3, jU, jU] [] μ = (jgd (inB (72 : Int32) 560) (jbr (decide ((gI μ 65 (ix (72 : Int32))) ≤ x3)) (some (some (jI x1), μ)) (evj 207 40 [jR 10 64, jI x0, jI x1, jI x2, jI x3, jI (x3 + (1 : Int32)), jU] [] μ))) :=
  (evj_s (F := K207) rfl [22, 40, 195, 209] 11 rfl).trans rfl
set_option maxRecDepth 100000 in
theorem e_M_couple_40 (x0 : Int32) (x1 : Int32) (x2 : Int32) (x3 : Int32) (x4 : Int32) (μ : jm) : evj 207 40 [jR 10 64, jI x0, jI x1, jI x2, jI x3, jI x4, jU] [] μ = (jgd (inB (72 : Int32) 560) (jbr (decide ((gI μ 65 (ix (72 : Int32))) ≤ x4)) (evj 207 22 [jR 10 64, jI x0, jI x1, jI x2, jI (x3 + 1), jU, jU] [] μ) (bI (cj 155 [jI x0, jI x3] μ) (fun r1 m1 => jbr (decide (r1 = 0)) (evj 207 209 [jR 10 64, jI x0, jI x1, jI x2, jI x3, jI x4, jU] [] m1) (bI (cj 155 [jI x0, jI x4] m1) (fun r2 m2 => jbr (decide (r2 = 0)) (evj 207 209 [jR 10 64, jI x0, jI x1, jI x2, jI x3, jI x4, jU] [] m2) (jgd (inB ((94 : Int32) + x3) 560) (jbr (decide (¬ (gI m2 65 (ix ((94 : Int32) + x3))) = x4)) (bV (cj 168 [jR 10 64, jI (0 : Int32), jI (420 : Int32)] m2) (fun m3 => bV (cj 208 [jR 10 64, jI (420 : Int32), jI x3] m3) (fun m4 => bV (cj 208 [jR 10 64, jI (420 : Int32), jI x4] m4) (fun m5 => jgd (inB ((493 : Int32) + x3) 560) (jgd (inB ((493 : Int32) + x4) 560) (jgd (inB ((514 : Int32) + x3) 560) (jgd (inB ((514 : Int32) + x4) 560) (bI (cj 176 [jR 10 64, jI (420 : Int32), jI x0] (sI (sI (sI (sI m5 65 (ix ((493 : Int32) + x3)) (2 : Int32)) 65 (ix ((493 : Int32) + x4)) (2 : Int32)) 65 (ix ((514 : Int32) + x3)) x4) 65 (ix ((514 : Int32) + x4)) x3)) (fun r6 m6 => bI (cj 173 [jI r6] m6) (fun r7 m7 => jbr (decide (r7 ≤ x2)) (evj 207 195 [jR 10 64, jI x0, jU, jI x2, jI x3, jI x4, jI r7] [jI x1] m7) (evj 207 195 [jR 10 64, jI x0, jU, jI x2, jI x3, jI x4, jI r7] [jI (((10 : Int32) * x3) + x4)] m7))))))))))) (evj 207 209 [jR 10 64, jI x0, jI x1, jI x2, jI x3, jI x4, jU] [] m2))))))))) :=
  (evj_s (F := K207) rfl [22, 40, 195, 209] 78 rfl).trans rfl
set_option maxRecDepth 100000 in
theorem e_M_couple_195 (x0 : Int32) (x1 : Int32) (x2 : Int32) (x3 : Int32) (x4 : Int32) (x5 : Int32) (μ : jm) : evj 207 195 [jR 10 64, jI x0, jU, jI x1, jI x2, jI x3, jI x4] [jI x5] μ = (jbr (decide (x4 ≤ x1)) (evj 207 209 [jR 10 64, jI x0, jI x5, jI x1, jI x2, jI x3, jU] [] μ) (evj 207 209 [jR 10 64, jI x0, jI x5, jI x4, jI x2, jI x3, jU] [] μ)) :=
  (evj_s (F := K207) rfl [22, 40, 195, 209] 8 rfl).trans rfl
set_option maxRecDepth 100000 in
theorem e_M_couple_209 (x0 : Int32) (x1 : Int32) (x2 : Int32) (x3 : Int32) (x4 : Int32) (μ : jm) : evj 207 209 [jR 10 64, jI x0, jI x1, jI x2, jI x3, jI x4, jU] [] μ = (evj 207 40 [jR 10 64, jI x0, jI x1, jI x2, jI x3, jI (x4 + 1), jU] [] μ) :=
  (evj_s (F := K207) rfl [22, 40, 195, 209] 3 rfl).trans rfl
set_option maxRecDepth 100000 in
theorem e_M_divorce (x1 : Int32) (x2 : Int32) (μ : jm) : cj 208 [jR 10 64, jI x1, jI x2] μ = (jgd (inB ((x1 + (94 : Int32)) + x2) 560) (jbr (decide ((gI μ 65 (ix ((x1 + (94 : Int32)) + x2))) = (-1 : Int32))) (some (none, μ)) (jgd (inB ((x1 + (94 : Int32)) + (gI μ 65 (ix ((x1 + (94 : Int32)) + x2)))) 560) (jgd (inB ((x1 + (94 : Int32)) + x2) 560) (some (none, sI (sI μ 65 (ix ((x1 + (94 : Int32)) + (gI μ 65 (ix ((x1 + (94 : Int32)) + x2))))) (-1 : Int32)) 65 (ix ((x1 + (94 : Int32)) + x2)) (-1 : Int32))))))) :=
  (cj_it (F := K208) rfl [] 32 _ _).trans rfl
set_option maxRecDepth 100000 in
theorem e_M_part (x1 : Int32) (μ : jm) : cj 209 [jR 10 64, jI x1] μ = (jbr (decide (¬ x1 = 0)) (jbr (decide (¬ x1 = (1 : Int32))) (bI (cj 141 [jR 10 64, jI (-2 : Int32)] μ) (fun r1 m1 => some (some (jL ((r1 : Int32).toInt64)), m1))) (some (some (jL (gL μ 64 5)), μ))) (some (some (jL (gL μ 64 4)), μ))) :=
  (cj_it (F := K209) rfl [] 11 _ _).trans rfl
set_option maxRecDepth 100000 in
theorem e_M_image (x1 : Int32) (μ : jm) : cj 210 [jR 10 64, jI x1] μ = (bI (cj 140 [jL ((x1 : Int32).toInt64), jL (0 : Int64), jL (1 : Int64)] μ) (fun r1 m1 => jbr (decide (¬ r1 = 0)) (bV (cj 168 [jR 10 64, jI (0 : Int32), jI ((140 : Int32) * ((1 : Int32) + x1))] m1) (fun m2 => jgd (inB x1 2) (some (some (jI (1 : Int32)), sI m2 66 (ix x1) ((1 : Int32) &&& 1))))) (bI (cj 141 [jR 10 64, jI (-2 : Int32)] m1) (fun r3 m3 => some (some (jI r3), m3))))) :=
  (cj_it (F := K210) rfl [] 22 _ _).trans rfl
set_option maxRecDepth 100000 in
theorem e_M_from (x1 : Int32) (μ : jm) : cj 211 [jR 10 64, jI x1] μ = (bI (cj 140 [jL ((x1 : Int32).toInt64), jL (0 : Int64), jL (1 : Int64)] μ) (fun r1 m1 => jbr (decide (¬ r1 = 0)) (jgd (inB x1 2) (jbr (decide (¬ (gI m1 66 (ix x1)) = 0)) (bV (cj 168 [jR 10 64, jI ((140 : Int32) * ((1 : Int32) + x1)), jI (0 : Int32)] m1) (fun m2 => some (some (jI (1 : Int32)), m2))) (bI (cj 141 [jR 10 64, jI (-3 : Int32)] m1) (fun r3 m3 => some (some (jI r3), m3))))) (bI (cj 141 [jR 10 64, jI (-2 : Int32)] m1) (fun r4 m4 => some (some (jI r4), m4))))) :=
  (cj_it (F := K211) rfl [] 22 _ _).trans rfl
set_option maxRecDepth 100000 in
theorem e_M_status (x1 : Int32) (μ : jm) : cj 212 [jR 10 64, jI x1] μ = (bI (cj 140 [jL ((x1 : Int32).toInt64), jL (0 : Int64), jL (2 : Int64)] μ) (fun r1 m1 => jbr (decide (¬ r1 = 0)) (jgd (inB x1 3) (some (some (jI (gI m1 68 (ix x1))), m1))) (jgd (inB (0 : Int32) 3) (jgd (inB (0 : Int32) 3) (some (some (jI (-1 : Int32)), sI m1 68 (ix (0 : Int32)) ((gI m1 68 (ix (0 : Int32))) + (1 : Int32)))))))) :=
  (cj_it (F := K212) rfl [] 17 _ _).trans rfl
set_option maxRecDepth 100000 in
theorem e_M_count (x1 : Int32) (μ : jm) : cj 213 [jR 10 64, jI x1] μ = (bI (cj 140 [jL ((x1 : Int32).toInt64), jL (0 : Int64), jL (4 : Int64)] μ) (fun r1 m1 => jbr (decide (r1 = 0)) (bI (cj 141 [jR 10 64, jI (-2 : Int32)] m1) (fun r2 m2 => some (some (jI r2), m2))) (bI (cj 214 [jR 10 64, jI x1] m1) (fun r3 m3 => some (some (jI r3), m3))))) :=
  (cj_it (F := K213) rfl [] 12 _ _).trans rfl
set_option maxRecDepth 100000 in
theorem e_M_countOf (x1 : Int32) (μ : jm) : cj 214 [jR 10 64, jI x1] μ = (jbr (decide (¬ x1 = 0)) (jbr (decide (¬ x1 = (1 : Int32))) (jbr (decide (¬ x1 = (2 : Int32))) (jbr (decide (¬ x1 = (3 : Int32))) (some (some (jI (gI μ 64 3)), μ)) (jgd (inB (126 : Int32) 560) (some (some (jI (gI μ 65 (ix (126 : Int32)))), μ)))) (jgd (inB (119 : Int32) 560) (some (some (jI (gI μ 65 (ix (119 : Int32)))), μ)))) (jgd (inB (101 : Int32) 560) (some (some (jI (gI μ 65 (ix (101 : Int32)))), μ)))) (jgd (inB (72 : Int32) 560) (some (some (jI (gI μ 65 (ix (72 : Int32)))), μ)))) :=
  (cj_it (F := K214) rfl [] 18 _ _).trans rfl
set_option maxRecDepth 100000 in
theorem e_M_digest  (μ : jm) : cj 215 [jR 10 64] μ = (evj 215 9 [jR 10 64, jI (0 : Int32), jU] [] (sL μ 64 22 (677 : Int64))) :=
  (cj_it (F := K215) rfl [9, 32, 40, 94, 169] 6 _ _).trans rfl
set_option maxRecDepth 100000 in
theorem e_M_digest_9 (x0 : Int32) (μ : jm) : evj 215 9 [jR 10 64, jI x0, jU] [] μ = (jbr (decide ((5 : Int32) ≤ x0)) (evj 215 32 [jR 10 64, jI (0 : Int32), jU] [] μ) (bI (cj 214 [jR 10 64, jI x0] μ) (fun r1 m1 => bV (cj 216 [jR 10 64, jL ((r1 : Int32).toInt64)] m1) (fun m2 => evj 215 9 [jR 10 64, jI (x0 + 1), jU] [] m2)))) :=
  (evj_s (F := K215) rfl [9, 32, 40, 94, 169] 12 rfl).trans rfl
set_option maxRecDepth 100000 in
theorem e_M_digest_32 (x0 : Int32) (μ : jm) : evj 215 32 [jR 10 64, jI x0, jU] [] μ = (jbr (decide ((6 : Int32) ≤ x0)) (evj 215 94 [jR 10 64, jI (0 : Int32), jU] [] μ) (evj 215 40 [jR 10 64, jI x0, jI (0 : Int32)] [] μ)) :=
  (evj_s (F := K215) rfl [9, 32, 40, 94, 169] 6 rfl).trans rfl
set_option maxRecDepth 100000 in
theorem e_M_digest_40 (x0 : Int32) (x1 : Int32) (μ : jm) : evj 215 40 [jR 10 64, jI x0, jI x1] [] μ = (jbr (decide (x0 ≤ x1)) (evj 215 32 [jR 10 64, jI (x0 + 1), jU] [] μ) (jgd (inB (((6 : Int32) * x0) + x1) 560) (bV (cj 216 [jR 10 64, jL ((gI μ 65 (ix (((6 : Int32) * x0) + x1)) : Int32).toInt64)] μ) (fun m1 => jgd (inB (((36 : Int32) + ((6 : Int32) * x0)) + x1) 560) (bV (cj 216 [jR 10 64, jL ((gI m1 65 (ix (((36 : Int32) + ((6 : Int32) * x0)) + x1)) : Int32).toInt64)] m1) (fun m2 => evj 215 40 [jR 10 64, jI x0, jI (x1 + 1)] [] m2)))))) :=
  (evj_s (F := K215) rfl [9, 32, 40, 94, 169] 30 rfl).trans rfl
set_option maxRecDepth 100000 in
theorem e_M_digest_94 (x0 : Int32) (μ : jm) : evj 215 94 [jR 10 64, jI x0, jU] [] μ = (jgd (inB (72 : Int32) 560) (jbr (decide ((gI μ 65 (ix (72 : Int32))) ≤ x0)) (evj 215 169 [jR 10 64, jI (0 : Int32), jU] [] μ) (jgd (inB ((73 : Int32) + x0) 560) (bV (cj 216 [jR 10 64, jL ((gI μ 65 (ix ((73 : Int32) + x0)) : Int32).toInt64)] μ) (fun m1 => jgd (inB ((80 : Int32) + x0) 560) (bV (cj 216 [jR 10 64, jL ((gI m1 65 (ix ((80 : Int32) + x0)) : Int32).toInt64)] m1) (fun m2 => jgd (inB ((87 : Int32) + x0) 560) (bV (cj 216 [jR 10 64, jL ((gI m2 65 (ix ((87 : Int32) + x0)) : Int32).toInt64)] m2) (fun m3 => jgd (inB ((94 : Int32) + x0) 560) (bV (cj 216 [jR 10 64, jL ((gI m3 65 (ix ((94 : Int32) + x0)) : Int32).toInt64)] m3) (fun m4 => evj 215 94 [jR 10 64, jI (x0 + 1), jU] [] m4))))))))))) :=
  (evj_s (F := K215) rfl [9, 32, 40, 94, 169] 45 rfl).trans rfl
set_option maxRecDepth 100000 in
theorem e_M_digest_169 (x0 : Int32) (μ : jm) : evj 215 169 [jR 10 64, jI x0, jU] [] μ = (jgd (inB (101 : Int32) 560) (jbr (decide ((gI μ 65 (ix (101 : Int32))) ≤ x0)) (jgd (inB (118 : Int32) 560) (bV (cj 216 [jR 10 64, jL ((gI μ 65 (ix (118 : Int32)) : Int32).toInt64)] μ) (fun m1 => jgd (inB (119 : Int32) 560) (bV (cj 217 [jR 10 64, jI (120 : Int32), jI (gI m1 65 (ix (119 : Int32)))] m1) (fun m2 => jgd (inB (126 : Int32) 560) (bV (cj 217 [jR 10 64, jI (127 : Int32), jI (gI m2 65 (ix (126 : Int32)))] m2) (fun m3 => bV (cj 216 [jR 10 64, jL (gL m3 64 4)] m3) (fun m4 => bV (cj 216 [jR 10 64, jL (gL m4 64 5)] m4) (fun m5 => some (some (jL (gL m5 64 22)), m5)))))))))) (jgd (inB ((102 : Int32) + x0) 560) (bV (cj 216 [jR 10 64, jL ((gI μ 65 (ix ((102 : Int32) + x0)) : Int32).toInt64)] μ) (fun m6 => jgd (inB ((110 : Int32) + x0) 560) (bV (cj 216 [jR 10 64, jL ((gI m6 65 (ix ((110 : Int32) + x0)) : Int32).toInt64)] m6) (fun m7 => evj 215 169 [jR 10 64, jI (x0 + 1), jU] [] m7))))))) :=
  (evj_s (F := K215) rfl [9, 32, 40, 94, 169] 39 rfl).trans rfl
set_option maxRecDepth 100000 in
theorem e_M_mix (x1 : Int64) (μ : jm) : cj 216 [jR 10 64, jL x1] μ = (some (none, sL μ 64 22 (((31 : Int64) * (gL μ 64 22)) + x1))) :=
  (cj_it (F := K216) rfl [] 10 _ _).trans rfl
set_option maxRecDepth 100000 in
theorem e_M_mixAll (x1 : Int32) (x2 : Int32) (μ : jm) : cj 217 [jR 10 64, jI x1, jI x2] μ = (evj 217 2 [jR 10 64, jI x1, jI x2, jI (0 : Int32)] [] μ) :=
  (cj_it (F := K217) rfl [2] 3 _ _).trans rfl
set_option maxRecDepth 100000 in
theorem e_M_mixAll_2 (x0 : Int32) (x1 : Int32) (x2 : Int32) (μ : jm) : evj 217 2 [jR 10 64, jI x0, jI x1, jI x2] [] μ = (jbr (decide (x1 ≤ x2)) (some (none, μ)) (jgd (inB (x0 + x2) 560) (bV (cj 216 [jR 10 64, jL ((gI μ 65 (ix (x0 + x2)) : Int32).toInt64)] μ) (fun m1 => evj 217 2 [jR 10 64, jI x0, jI x1, jI (x2 + 1)] [] m1)))) :=
  (evj_s (F := K217) rfl [2] 15 rfl).trans rfl
end
section
/-! EQUATIONS of the runs, by program: from a method's entry, or a cut, to the next cuts -/
set_option maxRecDepth 100000 in
theorem e_Law_law_16 (k1 : Nat) (μ : jm) : evj 218 16 [jR 96 k1, jR 9 0, jR 10 64, jU] [] μ = (evj 218 18 [jR 96 k1, jR 9 0, jR 10 64, jI (0 : Int32)] [] μ) :=
  (evj_s (F := K218) rfl [18, 196, 229, 262, 305, 338, 371, 424, 447, 480, 543, 556, 569, 602, 625, 658, 691, 714, 727, 750, 773, 816, 839, 882, 905, 918, 941, 954, 987, 1020, 1063, 1106, 1129, 1153, 1176, 1199, 1222, 1245, 1259] 3 rfl).trans rfl
set_option maxRecDepth 100000 in
theorem e_Law_law_18 (k1 : Nat) (x1 : Int32) (μ : jm) : evj 218 18 [jR 96 k1, jR 9 0, jR 10 64, jI x1] [] μ = (jbr (decide (((nI k1) - (5 : Int32)) < x1)) (some (some (jI ((1 : Int32) &&& 1)), μ)) (jgd (inB x1 k1) (jbr (decide (((gI μ 99 (ix x1)) &&& (63 : Int32)) = 0)) (evj 218 196 [jR 96 k1, jR 9 0, jR 10 64, jI x1] [] μ) (jbr (decide (((gI μ 99 (ix x1)) &&& (63 : Int32)) = 1)) (evj 218 229 [jR 96 k1, jR 9 0, jR 10 64, jI x1] [] μ) (jbr (decide (((gI μ 99 (ix x1)) &&& (63 : Int32)) = 2)) (evj 218 262 [jR 96 k1, jR 9 0, jR 10 64, jI x1] [] μ) (jbr (decide (((gI μ 99 (ix x1)) &&& (63 : Int32)) = 3)) (evj 218 305 [jR 96 k1, jR 9 0, jR 10 64, jI x1] [] μ) (jbr (decide (((gI μ 99 (ix x1)) &&& (63 : Int32)) = 4)) (evj 218 338 [jR 96 k1, jR 9 0, jR 10 64, jI x1] [] μ) (jbr (decide (((gI μ 99 (ix x1)) &&& (63 : Int32)) = 5)) (evj 218 371 [jR 96 k1, jR 9 0, jR 10 64, jI x1] [] μ) (jbr (decide (((gI μ 99 (ix x1)) &&& (63 : Int32)) = 6)) (evj 218 424 [jR 96 k1, jR 9 0, jR 10 64, jI x1] [] μ) (jbr (decide (((gI μ 99 (ix x1)) &&& (63 : Int32)) = 7)) (evj 218 447 [jR 96 k1, jR 9 0, jR 10 64, jI x1] [] μ) (jbr (decide (((gI μ 99 (ix x1)) &&& (63 : Int32)) = 8)) (evj 218 480 [jR 96 k1, jR 9 0, jR 10 64, jI x1] [] μ) (jbr (decide (((gI μ 99 (ix x1)) &&& (63 : Int32)) = 9)) (evj 218 543 [jR 96 k1, jR 9 0, jR 10 64, jI x1] [] μ) (jbr (decide (((gI μ 99 (ix x1)) &&& (63 : Int32)) = 10)) (evj 218 556 [jR 96 k1, jR 9 0, jR 10 64, jI x1] [] μ) (jbr (decide (((gI μ 99 (ix x1)) &&& (63 : Int32)) = 11)) (evj 218 569 [jR 96 k1, jR 9 0, jR 10 64, jI x1] [] μ) (jbr (decide (((gI μ 99 (ix x1)) &&& (63 : Int32)) = 12)) (evj 218 602 [jR 96 k1, jR 9 0, jR 10 64, jI x1] [] μ) (jbr (decide (((gI μ 99 (ix x1)) &&& (63 : Int32)) = 13)) (evj 218 625 [jR 96 k1, jR 9 0, jR 10 64, jI x1] [] μ) (jbr (decide (((gI μ 99 (ix x1)) &&& (63 : Int32)) = 14)) (evj 218 658 [jR 96 k1, jR 9 0, jR 10 64, jI x1] [] μ) (jbr (decide (((gI μ 99 (ix x1)) &&& (63 : Int32)) = 15)) (evj 218 691 [jR 96 k1, jR 9 0, jR 10 64, jI x1] [] μ) (jbr (decide (((gI μ 99 (ix x1)) &&& (63 : Int32)) = 16)) (evj 218 714 [jR 96 k1, jR 9 0, jR 10 64, jI x1] [] μ) (jbr (decide (((gI μ 99 (ix x1)) &&& (63 : Int32)) = 17)) (evj 218 727 [jR 96 k1, jR 9 0, jR 10 64, jI x1] [] μ) (jbr (decide (((gI μ 99 (ix x1)) &&& (63 : Int32)) = 18)) (evj 218 750 [jR 96 k1, jR 9 0, jR 10 64, jI x1] [] μ) (jbr (decide (((gI μ 99 (ix x1)) &&& (63 : Int32)) = 19)) (evj 218 773 [jR 96 k1, jR 9 0, jR 10 64, jI x1] [] μ) (jbr (decide (((gI μ 99 (ix x1)) &&& (63 : Int32)) = 20)) (evj 218 816 [jR 96 k1, jR 9 0, jR 10 64, jI x1] [] μ) (jbr (decide (((gI μ 99 (ix x1)) &&& (63 : Int32)) = 21)) (evj 218 839 [jR 96 k1, jR 9 0, jR 10 64, jI x1] [] μ) (jbr (decide (((gI μ 99 (ix x1)) &&& (63 : Int32)) = 22)) (evj 218 882 [jR 96 k1, jR 9 0, jR 10 64, jI x1] [] μ) (jbr (decide (((gI μ 99 (ix x1)) &&& (63 : Int32)) = 23)) (evj 218 905 [jR 96 k1, jR 9 0, jR 10 64, jI x1] [] μ) (jbr (decide (((gI μ 99 (ix x1)) &&& (63 : Int32)) = 24)) (evj 218 918 [jR 96 k1, jR 9 0, jR 10 64, jI x1] [] μ) (jbr (decide (((gI μ 99 (ix x1)) &&& (63 : Int32)) = 25)) (evj 218 941 [jR 96 k1, jR 9 0, jR 10 64, jI x1] [] μ) (jbr (decide (((gI μ 99 (ix x1)) &&& (63 : Int32)) = 26)) (evj 218 954 [jR 96 k1, jR 9 0, jR 10 64, jI x1] [] μ) (jbr (decide (((gI μ 99 (ix x1)) &&& (63 : Int32)) = 27)) (evj 218 987 [jR 96 k1, jR 9 0, jR 10 64, jI x1] [] μ) (jbr (decide (((gI μ 99 (ix x1)) &&& (63 : Int32)) = 28)) (evj 218 1020 [jR 96 k1, jR 9 0, jR 10 64, jI x1] [] μ) (jbr (decide (((gI μ 99 (ix x1)) &&& (63 : Int32)) = 29)) (evj 218 1063 [jR 96 k1, jR 9 0, jR 10 64, jI x1] [] μ) (jbr (decide (((gI μ 99 (ix x1)) &&& (63 : Int32)) = 30)) (evj 218 1106 [jR 96 k1, jR 9 0, jR 10 64, jI x1] [] μ) (jbr (decide (((gI μ 99 (ix x1)) &&& (63 : Int32)) = 31)) (evj 218 1129 [jR 96 k1, jR 9 0, jR 10 64, jI x1] [] μ) (jbr (decide (((gI μ 99 (ix x1)) &&& (63 : Int32)) = 32)) (evj 218 1153 [jR 96 k1, jR 9 0, jR 10 64, jI x1] [] μ) (jbr (decide (((gI μ 99 (ix x1)) &&& (63 : Int32)) = 33)) (evj 218 1176 [jR 96 k1, jR 9 0, jR 10 64, jI x1] [] μ) (jbr (decide (((gI μ 99 (ix x1)) &&& (63 : Int32)) = 34)) (evj 218 1199 [jR 96 k1, jR 9 0, jR 10 64, jI x1] [] μ) (jbr (decide (((gI μ 99 (ix x1)) &&& (63 : Int32)) = 35)) (evj 218 1222 [jR 96 k1, jR 9 0, jR 10 64, jI x1] [] μ) (jbr (decide (((gI μ 99 (ix x1)) &&& (63 : Int32)) = 36)) (evj 218 1245 [jR 96 k1, jR 9 0, jR 10 64, jI x1] [] μ) (evj 218 1259 [jR 96 k1, jR 9 0, jR 10 64, jI x1] [] μ)))))))))))))))))))))))))))))))))))))))) :=
  (evj_s (F := K218) rfl [18, 196, 229, 262, 305, 338, 371, 424, 447, 480, 543, 556, 569, 602, 625, 658, 691, 714, 727, 750, 773, 816, 839, 882, 905, 918, 941, 954, 987, 1020, 1063, 1106, 1129, 1153, 1176, 1199, 1222, 1245, 1259] 13 rfl).trans rfl
set_option maxRecDepth 100000 in
theorem e_Law_law_196 (k1 : Nat) (x1 : Int32) (μ : jm) : evj 218 196 [jR 96 k1, jR 9 0, jR 10 64, jI x1] [] μ = (jgd (inB (x1 + (1 : Int32)) k1) (jgd (inB (x1 + (2 : Int32)) k1) (bI (cj 94 [jR 9 0, jI (gI μ 99 (ix (x1 + (1 : Int32)))), jI (gI μ 99 (ix (x1 + (2 : Int32))))] μ) (fun r1 m1 => jgd (inB (x1 + (1 : Int32)) k1) (jgd (inB (x1 + (2 : Int32)) k1) (bI (cj 137 [jR 10 64, jI (gI m1 99 (ix (x1 + (1 : Int32)))), jI (gI m1 99 (ix (x1 + (2 : Int32))))] m1) (fun r2 m2 => jbr (decide (r1 = r2)) (evj 218 1259 [jR 96 k1, jR 9 0, jR 10 64, jI x1] [] m2) (some (some (jI ((0 : Int32) &&& 1)), m2))))))))) :=
  (evj_s (F := K218) rfl [18, 196, 229, 262, 305, 338, 371, 424, 447, 480, 543, 556, 569, 602, 625, 658, 691, 714, 727, 750, 773, 816, 839, 882, 905, 918, 941, 954, 987, 1020, 1063, 1106, 1129, 1153, 1176, 1199, 1222, 1245, 1259] 28 rfl).trans rfl
set_option maxRecDepth 100000 in
theorem e_Law_law_229 (k1 : Nat) (x1 : Int32) (μ : jm) : evj 218 229 [jR 96 k1, jR 9 0, jR 10 64, jI x1] [] μ = (jgd (inB (x1 + (1 : Int32)) k1) (jgd (inB (x1 + (2 : Int32)) k1) (bI (cj 97 [jR 9 0, jI (gI μ 99 (ix (x1 + (1 : Int32)))), jI (gI μ 99 (ix (x1 + (2 : Int32))))] μ) (fun r1 m1 => jgd (inB (x1 + (1 : Int32)) k1) (jgd (inB (x1 + (2 : Int32)) k1) (bI (cj 142 [jR 10 64, jI (gI m1 99 (ix (x1 + (1 : Int32)))), jI (gI m1 99 (ix (x1 + (2 : Int32))))] m1) (fun r2 m2 => jbr (decide (r1 = r2)) (evj 218 1259 [jR 96 k1, jR 9 0, jR 10 64, jI x1] [] m2) (some (some (jI ((0 : Int32) &&& 1)), m2))))))))) :=
  (evj_s (F := K218) rfl [18, 196, 229, 262, 305, 338, 371, 424, 447, 480, 543, 556, 569, 602, 625, 658, 691, 714, 727, 750, 773, 816, 839, 882, 905, 918, 941, 954, 987, 1020, 1063, 1106, 1129, 1153, 1176, 1199, 1222, 1245, 1259] 28 rfl).trans rfl
set_option maxRecDepth 100000 in
theorem e_Law_law_262 (k1 : Nat) (x1 : Int32) (μ : jm) : evj 218 262 [jR 96 k1, jR 9 0, jR 10 64, jI x1] [] μ = (jgd (inB (x1 + (1 : Int32)) k1) (jgd (inB (x1 + (2 : Int32)) k1) (jgd (inB (x1 + (3 : Int32)) k1) (bI (cj 98 [jR 9 0, jI (gI μ 99 (ix (x1 + (1 : Int32)))), jI (gI μ 99 (ix (x1 + (2 : Int32)))), jI (gI μ 99 (ix (x1 + (3 : Int32))))] μ) (fun r1 m1 => jgd (inB (x1 + (1 : Int32)) k1) (jgd (inB (x1 + (2 : Int32)) k1) (jgd (inB (x1 + (3 : Int32)) k1) (bI (cj 143 [jR 10 64, jI (gI m1 99 (ix (x1 + (1 : Int32)))), jI (gI m1 99 (ix (x1 + (2 : Int32)))), jI (gI m1 99 (ix (x1 + (3 : Int32))))] m1) (fun r2 m2 => jbr (decide (r1 = r2)) (evj 218 1259 [jR 96 k1, jR 9 0, jR 10 64, jI x1] [] m2) (some (some (jI ((0 : Int32) &&& 1)), m2))))))))))) :=
  (evj_s (F := K218) rfl [18, 196, 229, 262, 305, 338, 371, 424, 447, 480, 543, 556, 569, 602, 625, 658, 691, 714, 727, 750, 773, 816, 839, 882, 905, 918, 941, 954, 987, 1020, 1063, 1106, 1129, 1153, 1176, 1199, 1222, 1245, 1259] 38 rfl).trans rfl
set_option maxRecDepth 100000 in
theorem e_Law_law_305 (k1 : Nat) (x1 : Int32) (μ : jm) : evj 218 305 [jR 96 k1, jR 9 0, jR 10 64, jI x1] [] μ = (jgd (inB (x1 + (1 : Int32)) k1) (jgd (inB (x1 + (2 : Int32)) k1) (bI (cj 99 [jR 9 0, jI (gI μ 99 (ix (x1 + (1 : Int32)))), jI (gI μ 99 (ix (x1 + (2 : Int32))))] μ) (fun r1 m1 => jgd (inB (x1 + (1 : Int32)) k1) (jgd (inB (x1 + (2 : Int32)) k1) (bI (cj 145 [jR 10 64, jI (gI m1 99 (ix (x1 + (1 : Int32)))), jI (gI m1 99 (ix (x1 + (2 : Int32))))] m1) (fun r2 m2 => jbr (decide (r1 = r2)) (evj 218 1259 [jR 96 k1, jR 9 0, jR 10 64, jI x1] [] m2) (some (some (jI ((0 : Int32) &&& 1)), m2))))))))) :=
  (evj_s (F := K218) rfl [18, 196, 229, 262, 305, 338, 371, 424, 447, 480, 543, 556, 569, 602, 625, 658, 691, 714, 727, 750, 773, 816, 839, 882, 905, 918, 941, 954, 987, 1020, 1063, 1106, 1129, 1153, 1176, 1199, 1222, 1245, 1259] 28 rfl).trans rfl
set_option maxRecDepth 100000 in
theorem e_Law_law_338 (k1 : Nat) (x1 : Int32) (μ : jm) : evj 218 338 [jR 96 k1, jR 9 0, jR 10 64, jI x1] [] μ = (jgd (inB (x1 + (1 : Int32)) k1) (jgd (inB (x1 + (2 : Int32)) k1) (bI (cj 100 [jR 9 0, jI (gI μ 99 (ix (x1 + (1 : Int32)))), jI (gI μ 99 (ix (x1 + (2 : Int32))))] μ) (fun r1 m1 => jgd (inB (x1 + (1 : Int32)) k1) (jgd (inB (x1 + (2 : Int32)) k1) (bI (cj 148 [jR 10 64, jI (gI m1 99 (ix (x1 + (1 : Int32)))), jI (gI m1 99 (ix (x1 + (2 : Int32))))] m1) (fun r2 m2 => jbr (decide (r1 = r2)) (evj 218 1259 [jR 96 k1, jR 9 0, jR 10 64, jI x1] [] m2) (some (some (jI ((0 : Int32) &&& 1)), m2))))))))) :=
  (evj_s (F := K218) rfl [18, 196, 229, 262, 305, 338, 371, 424, 447, 480, 543, 556, 569, 602, 625, 658, 691, 714, 727, 750, 773, 816, 839, 882, 905, 918, 941, 954, 987, 1020, 1063, 1106, 1129, 1153, 1176, 1199, 1222, 1245, 1259] 28 rfl).trans rfl
set_option maxRecDepth 100000 in
theorem e_Law_law_371 (k1 : Nat) (x1 : Int32) (μ : jm) : evj 218 371 [jR 96 k1, jR 9 0, jR 10 64, jI x1] [] μ = (jgd (inB (x1 + (1 : Int32)) k1) (jgd (inB (x1 + (2 : Int32)) k1) (jgd (inB (x1 + (3 : Int32)) k1) (jgd (inB (x1 + (4 : Int32)) k1) (bI (cj 101 [jR 9 0, jI (gI μ 99 (ix (x1 + (1 : Int32)))), jI (gI μ 99 (ix (x1 + (2 : Int32)))), jI (gI μ 99 (ix (x1 + (3 : Int32)))), jI (gI μ 99 (ix (x1 + (4 : Int32))))] μ) (fun r1 m1 => jgd (inB (x1 + (1 : Int32)) k1) (jgd (inB (x1 + (2 : Int32)) k1) (jgd (inB (x1 + (3 : Int32)) k1) (jgd (inB (x1 + (4 : Int32)) k1) (bI (cj 149 [jR 10 64, jI (gI m1 99 (ix (x1 + (1 : Int32)))), jI (gI m1 99 (ix (x1 + (2 : Int32)))), jI (gI m1 99 (ix (x1 + (3 : Int32)))), jI (gI m1 99 (ix (x1 + (4 : Int32))))] m1) (fun r2 m2 => jbr (decide (r1 = r2)) (evj 218 1259 [jR 96 k1, jR 9 0, jR 10 64, jI x1] [] m2) (some (some (jI ((0 : Int32) &&& 1)), m2))))))))))))) :=
  (evj_s (F := K218) rfl [18, 196, 229, 262, 305, 338, 371, 424, 447, 480, 543, 556, 569, 602, 625, 658, 691, 714, 727, 750, 773, 816, 839, 882, 905, 918, 941, 954, 987, 1020, 1063, 1106, 1129, 1153, 1176, 1199, 1222, 1245, 1259] 48 rfl).trans rfl
set_option maxRecDepth 100000 in
theorem e_Law_law_424 (k1 : Nat) (x1 : Int32) (μ : jm) : evj 218 424 [jR 96 k1, jR 9 0, jR 10 64, jI x1] [] μ = (jgd (inB (x1 + (1 : Int32)) k1) (bI (cj 102 [jR 9 0, jI (gI μ 99 (ix (x1 + (1 : Int32))))] μ) (fun r1 m1 => jgd (inB (x1 + (1 : Int32)) k1) (bI (cj 151 [jR 10 64, jI (gI m1 99 (ix (x1 + (1 : Int32))))] m1) (fun r2 m2 => jbr (decide (r1 = r2)) (evj 218 1259 [jR 96 k1, jR 9 0, jR 10 64, jI x1] [] m2) (some (some (jI ((0 : Int32) &&& 1)), m2))))))) :=
  (evj_s (F := K218) rfl [18, 196, 229, 262, 305, 338, 371, 424, 447, 480, 543, 556, 569, 602, 625, 658, 691, 714, 727, 750, 773, 816, 839, 882, 905, 918, 941, 954, 987, 1020, 1063, 1106, 1129, 1153, 1176, 1199, 1222, 1245, 1259] 18 rfl).trans rfl
set_option maxRecDepth 100000 in
theorem e_Law_law_447 (k1 : Nat) (x1 : Int32) (μ : jm) : evj 218 447 [jR 96 k1, jR 9 0, jR 10 64, jI x1] [] μ = (jgd (inB (x1 + (1 : Int32)) k1) (jgd (inB (x1 + (2 : Int32)) k1) (bI (cj 103 [jR 9 0, jI (gI μ 99 (ix (x1 + (1 : Int32)))), jI (gI μ 99 (ix (x1 + (2 : Int32))))] μ) (fun r1 m1 => jgd (inB (x1 + (1 : Int32)) k1) (jgd (inB (x1 + (2 : Int32)) k1) (bI (cj 153 [jR 10 64, jI (gI m1 99 (ix (x1 + (1 : Int32)))), jI (gI m1 99 (ix (x1 + (2 : Int32))))] m1) (fun r2 m2 => jbr (decide (r1 = r2)) (evj 218 1259 [jR 96 k1, jR 9 0, jR 10 64, jI x1] [] m2) (some (some (jI ((0 : Int32) &&& 1)), m2))))))))) :=
  (evj_s (F := K218) rfl [18, 196, 229, 262, 305, 338, 371, 424, 447, 480, 543, 556, 569, 602, 625, 658, 691, 714, 727, 750, 773, 816, 839, 882, 905, 918, 941, 954, 987, 1020, 1063, 1106, 1129, 1153, 1176, 1199, 1222, 1245, 1259] 28 rfl).trans rfl
set_option maxRecDepth 100000 in
theorem e_Law_law_480 (k1 : Nat) (x1 : Int32) (μ : jm) : evj 218 480 [jR 96 k1, jR 9 0, jR 10 64, jI x1] [] μ = (jgd (inB (x1 + (1 : Int32)) k1) (jgd (inB (x1 + (2 : Int32)) k1) (jgd (inB (x1 + (3 : Int32)) k1) (bI (cj 104 [jR 9 0, jL ((((gI μ 99 (ix (x1 + (1 : Int32))) : Int32).toInt64) <<< (((32 : Int32) : Int32).toInt64 &&& 63)) ||| (((gI μ 99 (ix (x1 + (2 : Int32))) : Int32).toInt64) &&& (4294967295 : Int64))), jI (gI μ 99 (ix (x1 + (3 : Int32))))] μ) (fun r1 m1 => jgd (inB (x1 + (1 : Int32)) k1) (jgd (inB (x1 + (2 : Int32)) k1) (jgd (inB (x1 + (3 : Int32)) k1) (bI (cj 158 [jR 10 64, jL ((((gI m1 99 (ix (x1 + (1 : Int32))) : Int32).toInt64) <<< (((32 : Int32) : Int32).toInt64 &&& 63)) ||| (((gI m1 99 (ix (x1 + (2 : Int32))) : Int32).toInt64) &&& (4294967295 : Int64))), jI (gI m1 99 (ix (x1 + (3 : Int32))))] m1) (fun r2 m2 => jbr (decide (r1 = r2)) (evj 218 1259 [jR 96 k1, jR 9 0, jR 10 64, jI x1] [] m2) (some (some (jI ((0 : Int32) &&& 1)), m2))))))))))) :=
  (evj_s (F := K218) rfl [18, 196, 229, 262, 305, 338, 371, 424, 447, 480, 543, 556, 569, 602, 625, 658, 691, 714, 727, 750, 773, 816, 839, 882, 905, 918, 941, 954, 987, 1020, 1063, 1106, 1129, 1153, 1176, 1199, 1222, 1245, 1259] 52 rfl).trans rfl
set_option maxRecDepth 100000 in
theorem e_Law_law_543 (k1 : Nat) (x1 : Int32) (μ : jm) : evj 218 543 [jR 96 k1, jR 9 0, jR 10 64, jI x1] [] μ = (bI (cj 105 [jR 9 0] μ) (fun r1 m1 => bI (cj 159 [jR 10 64] m1) (fun r2 m2 => jbr (decide (r1 = r2)) (evj 218 1259 [jR 96 k1, jR 9 0, jR 10 64, jI x1] [] m2) (some (some (jI ((0 : Int32) &&& 1)), m2))))) :=
  (evj_s (F := K218) rfl [18, 196, 229, 262, 305, 338, 371, 424, 447, 480, 543, 556, 569, 602, 625, 658, 691, 714, 727, 750, 773, 816, 839, 882, 905, 918, 941, 954, 987, 1020, 1063, 1106, 1129, 1153, 1176, 1199, 1222, 1245, 1259] 8 rfl).trans rfl
set_option maxRecDepth 100000 in
theorem e_Law_law_556 (k1 : Nat) (x1 : Int32) (μ : jm) : evj 218 556 [jR 96 k1, jR 9 0, jR 10 64, jI x1] [] μ = (bI (cj 106 [jR 9 0] μ) (fun r1 m1 => bI (cj 160 [jR 10 64] m1) (fun r2 m2 => jbr (decide (r1 = r2)) (evj 218 1259 [jR 96 k1, jR 9 0, jR 10 64, jI x1] [] m2) (some (some (jI ((0 : Int32) &&& 1)), m2))))) :=
  (evj_s (F := K218) rfl [18, 196, 229, 262, 305, 338, 371, 424, 447, 480, 543, 556, 569, 602, 625, 658, 691, 714, 727, 750, 773, 816, 839, 882, 905, 918, 941, 954, 987, 1020, 1063, 1106, 1129, 1153, 1176, 1199, 1222, 1245, 1259] 8 rfl).trans rfl
set_option maxRecDepth 100000 in
theorem e_Law_law_569 (k1 : Nat) (x1 : Int32) (μ : jm) : evj 218 569 [jR 96 k1, jR 9 0, jR 10 64, jI x1] [] μ = (jgd (inB (x1 + (1 : Int32)) k1) (jgd (inB (x1 + (2 : Int32)) k1) (bI (cj 107 [jR 9 0, jI (gI μ 99 (ix (x1 + (1 : Int32)))), jI (gI μ 99 (ix (x1 + (2 : Int32))))] μ) (fun r1 m1 => jgd (inB (x1 + (1 : Int32)) k1) (jgd (inB (x1 + (2 : Int32)) k1) (bI (cj 169 [jR 10 64, jI (gI m1 99 (ix (x1 + (1 : Int32)))), jI (gI m1 99 (ix (x1 + (2 : Int32))))] m1) (fun r2 m2 => jbr (decide (r1 = r2)) (evj 218 1259 [jR 96 k1, jR 9 0, jR 10 64, jI x1] [] m2) (some (some (jI ((0 : Int32) &&& 1)), m2))))))))) :=
  (evj_s (F := K218) rfl [18, 196, 229, 262, 305, 338, 371, 424, 447, 480, 543, 556, 569, 602, 625, 658, 691, 714, 727, 750, 773, 816, 839, 882, 905, 918, 941, 954, 987, 1020, 1063, 1106, 1129, 1153, 1176, 1199, 1222, 1245, 1259] 28 rfl).trans rfl
set_option maxRecDepth 100000 in
theorem e_Law_law_602 (k1 : Nat) (x1 : Int32) (μ : jm) : evj 218 602 [jR 96 k1, jR 9 0, jR 10 64, jI x1] [] μ = (jgd (inB (x1 + (1 : Int32)) k1) (bI (cj 108 [jR 9 0, jI (gI μ 99 (ix (x1 + (1 : Int32))))] μ) (fun r1 m1 => jgd (inB (x1 + (1 : Int32)) k1) (bI (cj 174 [jR 10 64, jI (gI m1 99 (ix (x1 + (1 : Int32))))] m1) (fun r2 m2 => jbr (decide (r1 = r2)) (evj 218 1259 [jR 96 k1, jR 9 0, jR 10 64, jI x1] [] m2) (some (some (jI ((0 : Int32) &&& 1)), m2))))))) :=
  (evj_s (F := K218) rfl [18, 196, 229, 262, 305, 338, 371, 424, 447, 480, 543, 556, 569, 602, 625, 658, 691, 714, 727, 750, 773, 816, 839, 882, 905, 918, 941, 954, 987, 1020, 1063, 1106, 1129, 1153, 1176, 1199, 1222, 1245, 1259] 18 rfl).trans rfl
set_option maxRecDepth 100000 in
theorem e_Law_law_625 (k1 : Nat) (x1 : Int32) (μ : jm) : evj 218 625 [jR 96 k1, jR 9 0, jR 10 64, jI x1] [] μ = (jgd (inB (x1 + (1 : Int32)) k1) (jgd (inB (x1 + (2 : Int32)) k1) (bI (cj 109 [jR 9 0, jI (gI μ 99 (ix (x1 + (1 : Int32)))), jI (gI μ 99 (ix (x1 + (2 : Int32))))] μ) (fun r1 m1 => jgd (inB (x1 + (1 : Int32)) k1) (jgd (inB (x1 + (2 : Int32)) k1) (bI (cj 177 [jR 10 64, jI (gI m1 99 (ix (x1 + (1 : Int32)))), jI (gI m1 99 (ix (x1 + (2 : Int32))))] m1) (fun r2 m2 => jbr (decide (r1 = r2)) (evj 218 1259 [jR 96 k1, jR 9 0, jR 10 64, jI x1] [] m2) (some (some (jI ((0 : Int32) &&& 1)), m2))))))))) :=
  (evj_s (F := K218) rfl [18, 196, 229, 262, 305, 338, 371, 424, 447, 480, 543, 556, 569, 602, 625, 658, 691, 714, 727, 750, 773, 816, 839, 882, 905, 918, 941, 954, 987, 1020, 1063, 1106, 1129, 1153, 1176, 1199, 1222, 1245, 1259] 28 rfl).trans rfl
set_option maxRecDepth 100000 in
theorem e_Law_law_658 (k1 : Nat) (x1 : Int32) (μ : jm) : evj 218 658 [jR 96 k1, jR 9 0, jR 10 64, jI x1] [] μ = (jgd (inB (x1 + (1 : Int32)) k1) (jgd (inB (x1 + (2 : Int32)) k1) (bI (cj 110 [jR 9 0, jI (gI μ 99 (ix (x1 + (1 : Int32)))), jI (gI μ 99 (ix (x1 + (2 : Int32))))] μ) (fun r1 m1 => jgd (inB (x1 + (1 : Int32)) k1) (jgd (inB (x1 + (2 : Int32)) k1) (bI (cj 178 [jR 10 64, jI (gI m1 99 (ix (x1 + (1 : Int32)))), jI (gI m1 99 (ix (x1 + (2 : Int32))))] m1) (fun r2 m2 => jbr (decide (r1 = r2)) (evj 218 1259 [jR 96 k1, jR 9 0, jR 10 64, jI x1] [] m2) (some (some (jI ((0 : Int32) &&& 1)), m2))))))))) :=
  (evj_s (F := K218) rfl [18, 196, 229, 262, 305, 338, 371, 424, 447, 480, 543, 556, 569, 602, 625, 658, 691, 714, 727, 750, 773, 816, 839, 882, 905, 918, 941, 954, 987, 1020, 1063, 1106, 1129, 1153, 1176, 1199, 1222, 1245, 1259] 28 rfl).trans rfl
set_option maxRecDepth 100000 in
theorem e_Law_law_691 (k1 : Nat) (x1 : Int32) (μ : jm) : evj 218 691 [jR 96 k1, jR 9 0, jR 10 64, jI x1] [] μ = (jgd (inB (x1 + (1 : Int32)) k1) (bI (cj 111 [jR 9 0, jI (gI μ 99 (ix (x1 + (1 : Int32))))] μ) (fun r1 m1 => jgd (inB (x1 + (1 : Int32)) k1) (bI (cj 179 [jR 10 64, jI (gI m1 99 (ix (x1 + (1 : Int32))))] m1) (fun r2 m2 => jbr (decide (r1 = r2)) (evj 218 1259 [jR 96 k1, jR 9 0, jR 10 64, jI x1] [] m2) (some (some (jI ((0 : Int32) &&& 1)), m2))))))) :=
  (evj_s (F := K218) rfl [18, 196, 229, 262, 305, 338, 371, 424, 447, 480, 543, 556, 569, 602, 625, 658, 691, 714, 727, 750, 773, 816, 839, 882, 905, 918, 941, 954, 987, 1020, 1063, 1106, 1129, 1153, 1176, 1199, 1222, 1245, 1259] 18 rfl).trans rfl
set_option maxRecDepth 100000 in
theorem e_Law_law_714 (k1 : Nat) (x1 : Int32) (μ : jm) : evj 218 714 [jR 96 k1, jR 9 0, jR 10 64, jI x1] [] μ = (bI (cj 112 [jR 9 0] μ) (fun r1 m1 => bI (cj 180 [jR 10 64] m1) (fun r2 m2 => jbr (decide (r1 = r2)) (evj 218 1259 [jR 96 k1, jR 9 0, jR 10 64, jI x1] [] m2) (some (some (jI ((0 : Int32) &&& 1)), m2))))) :=
  (evj_s (F := K218) rfl [18, 196, 229, 262, 305, 338, 371, 424, 447, 480, 543, 556, 569, 602, 625, 658, 691, 714, 727, 750, 773, 816, 839, 882, 905, 918, 941, 954, 987, 1020, 1063, 1106, 1129, 1153, 1176, 1199, 1222, 1245, 1259] 8 rfl).trans rfl
set_option maxRecDepth 100000 in
theorem e_Law_law_727 (k1 : Nat) (x1 : Int32) (μ : jm) : evj 218 727 [jR 96 k1, jR 9 0, jR 10 64, jI x1] [] μ = (jgd (inB (x1 + (1 : Int32)) k1) (bI (cj 113 [jR 9 0, jI (gI μ 99 (ix (x1 + (1 : Int32))))] μ) (fun r1 m1 => jgd (inB (x1 + (1 : Int32)) k1) (bI (cj 181 [jR 10 64, jI (gI m1 99 (ix (x1 + (1 : Int32))))] m1) (fun r2 m2 => jbr (decide (r1 = r2)) (evj 218 1259 [jR 96 k1, jR 9 0, jR 10 64, jI x1] [] m2) (some (some (jI ((0 : Int32) &&& 1)), m2))))))) :=
  (evj_s (F := K218) rfl [18, 196, 229, 262, 305, 338, 371, 424, 447, 480, 543, 556, 569, 602, 625, 658, 691, 714, 727, 750, 773, 816, 839, 882, 905, 918, 941, 954, 987, 1020, 1063, 1106, 1129, 1153, 1176, 1199, 1222, 1245, 1259] 18 rfl).trans rfl
set_option maxRecDepth 100000 in
theorem e_Law_law_750 (k1 : Nat) (x1 : Int32) (μ : jm) : evj 218 750 [jR 96 k1, jR 9 0, jR 10 64, jI x1] [] μ = (jgd (inB (x1 + (1 : Int32)) k1) (bI (cj 114 [jR 9 0, jI (gI μ 99 (ix (x1 + (1 : Int32))))] μ) (fun r1 m1 => jgd (inB (x1 + (1 : Int32)) k1) (bI (cj 185 [jR 10 64, jI (gI m1 99 (ix (x1 + (1 : Int32))))] m1) (fun r2 m2 => jbr (decide (r1 = r2)) (evj 218 1259 [jR 96 k1, jR 9 0, jR 10 64, jI x1] [] m2) (some (some (jI ((0 : Int32) &&& 1)), m2))))))) :=
  (evj_s (F := K218) rfl [18, 196, 229, 262, 305, 338, 371, 424, 447, 480, 543, 556, 569, 602, 625, 658, 691, 714, 727, 750, 773, 816, 839, 882, 905, 918, 941, 954, 987, 1020, 1063, 1106, 1129, 1153, 1176, 1199, 1222, 1245, 1259] 18 rfl).trans rfl
set_option maxRecDepth 100000 in
theorem e_Law_law_773 (k1 : Nat) (x1 : Int32) (μ : jm) : evj 218 773 [jR 96 k1, jR 9 0, jR 10 64, jI x1] [] μ = (jgd (inB (x1 + (1 : Int32)) k1) (jgd (inB (x1 + (2 : Int32)) k1) (jgd (inB (x1 + (3 : Int32)) k1) (bI (cj 115 [jR 9 0, jI (gI μ 99 (ix (x1 + (1 : Int32)))), jI (gI μ 99 (ix (x1 + (2 : Int32)))), jI (gI μ 99 (ix (x1 + (3 : Int32))))] μ) (fun r1 m1 => jgd (inB (x1 + (1 : Int32)) k1) (jgd (inB (x1 + (2 : Int32)) k1) (jgd (inB (x1 + (3 : Int32)) k1) (bI (cj 186 [jR 10 64, jI (gI m1 99 (ix (x1 + (1 : Int32)))), jI (gI m1 99 (ix (x1 + (2 : Int32)))), jI (gI m1 99 (ix (x1 + (3 : Int32))))] m1) (fun r2 m2 => jbr (decide (r1 = r2)) (evj 218 1259 [jR 96 k1, jR 9 0, jR 10 64, jI x1] [] m2) (some (some (jI ((0 : Int32) &&& 1)), m2))))))))))) :=
  (evj_s (F := K218) rfl [18, 196, 229, 262, 305, 338, 371, 424, 447, 480, 543, 556, 569, 602, 625, 658, 691, 714, 727, 750, 773, 816, 839, 882, 905, 918, 941, 954, 987, 1020, 1063, 1106, 1129, 1153, 1176, 1199, 1222, 1245, 1259] 38 rfl).trans rfl
set_option maxRecDepth 100000 in
theorem e_Law_law_816 (k1 : Nat) (x1 : Int32) (μ : jm) : evj 218 816 [jR 96 k1, jR 9 0, jR 10 64, jI x1] [] μ = (jgd (inB (x1 + (1 : Int32)) k1) (bI (cj 117 [jR 9 0, jI (gI μ 99 (ix (x1 + (1 : Int32))))] μ) (fun r1 m1 => jgd (inB (x1 + (1 : Int32)) k1) (bI (cj 190 [jR 10 64, jI (gI m1 99 (ix (x1 + (1 : Int32))))] m1) (fun r2 m2 => jbr (decide (r1 = r2)) (evj 218 1259 [jR 96 k1, jR 9 0, jR 10 64, jI x1] [] m2) (some (some (jI ((0 : Int32) &&& 1)), m2))))))) :=
  (evj_s (F := K218) rfl [18, 196, 229, 262, 305, 338, 371, 424, 447, 480, 543, 556, 569, 602, 625, 658, 691, 714, 727, 750, 773, 816, 839, 882, 905, 918, 941, 954, 987, 1020, 1063, 1106, 1129, 1153, 1176, 1199, 1222, 1245, 1259] 18 rfl).trans rfl
set_option maxRecDepth 100000 in
theorem e_Law_law_839 (k1 : Nat) (x1 : Int32) (μ : jm) : evj 218 839 [jR 96 k1, jR 9 0, jR 10 64, jI x1] [] μ = (jgd (inB (x1 + (1 : Int32)) k1) (jgd (inB (x1 + (2 : Int32)) k1) (jgd (inB (x1 + (3 : Int32)) k1) (bI (cj 118 [jR 9 0, jI (gI μ 99 (ix (x1 + (1 : Int32)))), jI (gI μ 99 (ix (x1 + (2 : Int32)))), jI (gI μ 99 (ix (x1 + (3 : Int32))))] μ) (fun r1 m1 => jgd (inB (x1 + (1 : Int32)) k1) (jgd (inB (x1 + (2 : Int32)) k1) (jgd (inB (x1 + (3 : Int32)) k1) (bI (cj 191 [jR 10 64, jI (gI m1 99 (ix (x1 + (1 : Int32)))), jI (gI m1 99 (ix (x1 + (2 : Int32)))), jI (gI m1 99 (ix (x1 + (3 : Int32))))] m1) (fun r2 m2 => jbr (decide (r1 = r2)) (evj 218 1259 [jR 96 k1, jR 9 0, jR 10 64, jI x1] [] m2) (some (some (jI ((0 : Int32) &&& 1)), m2))))))))))) :=
  (evj_s (F := K218) rfl [18, 196, 229, 262, 305, 338, 371, 424, 447, 480, 543, 556, 569, 602, 625, 658, 691, 714, 727, 750, 773, 816, 839, 882, 905, 918, 941, 954, 987, 1020, 1063, 1106, 1129, 1153, 1176, 1199, 1222, 1245, 1259] 38 rfl).trans rfl
set_option maxRecDepth 100000 in
theorem e_Law_law_882 (k1 : Nat) (x1 : Int32) (μ : jm) : evj 218 882 [jR 96 k1, jR 9 0, jR 10 64, jI x1] [] μ = (jgd (inB (x1 + (1 : Int32)) k1) (bI (cj 120 [jR 9 0, jI (gI μ 99 (ix (x1 + (1 : Int32))))] μ) (fun r1 m1 => jgd (inB (x1 + (1 : Int32)) k1) (bI (cj 194 [jR 10 64, jI (gI m1 99 (ix (x1 + (1 : Int32))))] m1) (fun r2 m2 => jbr (decide (r1 = r2)) (evj 218 1259 [jR 96 k1, jR 9 0, jR 10 64, jI x1] [] m2) (some (some (jI ((0 : Int32) &&& 1)), m2))))))) :=
  (evj_s (F := K218) rfl [18, 196, 229, 262, 305, 338, 371, 424, 447, 480, 543, 556, 569, 602, 625, 658, 691, 714, 727, 750, 773, 816, 839, 882, 905, 918, 941, 954, 987, 1020, 1063, 1106, 1129, 1153, 1176, 1199, 1222, 1245, 1259] 18 rfl).trans rfl
set_option maxRecDepth 100000 in
theorem e_Law_law_905 (k1 : Nat) (x1 : Int32) (μ : jm) : evj 218 905 [jR 96 k1, jR 9 0, jR 10 64, jI x1] [] μ = (bI (cj 121 [jR 9 0] μ) (fun r1 m1 => bI (cj 195 [jR 10 64] m1) (fun r2 m2 => jbr (decide (r1 = r2)) (evj 218 1259 [jR 96 k1, jR 9 0, jR 10 64, jI x1] [] m2) (some (some (jI ((0 : Int32) &&& 1)), m2))))) :=
  (evj_s (F := K218) rfl [18, 196, 229, 262, 305, 338, 371, 424, 447, 480, 543, 556, 569, 602, 625, 658, 691, 714, 727, 750, 773, 816, 839, 882, 905, 918, 941, 954, 987, 1020, 1063, 1106, 1129, 1153, 1176, 1199, 1222, 1245, 1259] 8 rfl).trans rfl
set_option maxRecDepth 100000 in
theorem e_Law_law_918 (k1 : Nat) (x1 : Int32) (μ : jm) : evj 218 918 [jR 96 k1, jR 9 0, jR 10 64, jI x1] [] μ = (jgd (inB (x1 + (1 : Int32)) k1) (bI (cj 122 [jR 9 0, jI (gI μ 99 (ix (x1 + (1 : Int32))))] μ) (fun r1 m1 => jgd (inB (x1 + (1 : Int32)) k1) (bI (cj 196 [jR 10 64, jI (gI m1 99 (ix (x1 + (1 : Int32))))] m1) (fun r2 m2 => jbr (decide (r1 = r2)) (evj 218 1259 [jR 96 k1, jR 9 0, jR 10 64, jI x1] [] m2) (some (some (jI ((0 : Int32) &&& 1)), m2))))))) :=
  (evj_s (F := K218) rfl [18, 196, 229, 262, 305, 338, 371, 424, 447, 480, 543, 556, 569, 602, 625, 658, 691, 714, 727, 750, 773, 816, 839, 882, 905, 918, 941, 954, 987, 1020, 1063, 1106, 1129, 1153, 1176, 1199, 1222, 1245, 1259] 18 rfl).trans rfl
set_option maxRecDepth 100000 in
theorem e_Law_law_941 (k1 : Nat) (x1 : Int32) (μ : jm) : evj 218 941 [jR 96 k1, jR 9 0, jR 10 64, jI x1] [] μ = (bI (cj 123 [jR 9 0] μ) (fun r1 m1 => bI (cj 199 [jR 10 64] m1) (fun r2 m2 => jbr (decide (r1 = r2)) (evj 218 1259 [jR 96 k1, jR 9 0, jR 10 64, jI x1] [] m2) (some (some (jI ((0 : Int32) &&& 1)), m2))))) :=
  (evj_s (F := K218) rfl [18, 196, 229, 262, 305, 338, 371, 424, 447, 480, 543, 556, 569, 602, 625, 658, 691, 714, 727, 750, 773, 816, 839, 882, 905, 918, 941, 954, 987, 1020, 1063, 1106, 1129, 1153, 1176, 1199, 1222, 1245, 1259] 8 rfl).trans rfl
set_option maxRecDepth 100000 in
theorem e_Law_law_954 (k1 : Nat) (x1 : Int32) (μ : jm) : evj 218 954 [jR 96 k1, jR 9 0, jR 10 64, jI x1] [] μ = (jgd (inB (x1 + (1 : Int32)) k1) (jgd (inB (x1 + (2 : Int32)) k1) (bI (cj 124 [jR 9 0, jI (gI μ 99 (ix (x1 + (1 : Int32)))), jI (gI μ 99 (ix (x1 + (2 : Int32))))] μ) (fun r1 m1 => jgd (inB (x1 + (1 : Int32)) k1) (jgd (inB (x1 + (2 : Int32)) k1) (bI (cj 201 [jR 10 64, jI (gI m1 99 (ix (x1 + (1 : Int32)))), jI (gI m1 99 (ix (x1 + (2 : Int32))))] m1) (fun r2 m2 => jbr (decide (r1 = r2)) (evj 218 1259 [jR 96 k1, jR 9 0, jR 10 64, jI x1] [] m2) (some (some (jI ((0 : Int32) &&& 1)), m2))))))))) :=
  (evj_s (F := K218) rfl [18, 196, 229, 262, 305, 338, 371, 424, 447, 480, 543, 556, 569, 602, 625, 658, 691, 714, 727, 750, 773, 816, 839, 882, 905, 918, 941, 954, 987, 1020, 1063, 1106, 1129, 1153, 1176, 1199, 1222, 1245, 1259] 28 rfl).trans rfl
set_option maxRecDepth 100000 in
theorem e_Law_law_987 (k1 : Nat) (x1 : Int32) (μ : jm) : evj 218 987 [jR 96 k1, jR 9 0, jR 10 64, jI x1] [] μ = (jgd (inB (x1 + (1 : Int32)) k1) (jgd (inB (x1 + (2 : Int32)) k1) (bI (cj 125 [jR 9 0, jI (gI μ 99 (ix (x1 + (1 : Int32)))), jI (gI μ 99 (ix (x1 + (2 : Int32))))] μ) (fun r1 m1 => jgd (inB (x1 + (1 : Int32)) k1) (jgd (inB (x1 + (2 : Int32)) k1) (bI (cj 203 [jR 10 64, jI (gI m1 99 (ix (x1 + (1 : Int32)))), jI (gI m1 99 (ix (x1 + (2 : Int32))))] m1) (fun r2 m2 => jbr (decide (r1 = r2)) (evj 218 1259 [jR 96 k1, jR 9 0, jR 10 64, jI x1] [] m2) (some (some (jI ((0 : Int32) &&& 1)), m2))))))))) :=
  (evj_s (F := K218) rfl [18, 196, 229, 262, 305, 338, 371, 424, 447, 480, 543, 556, 569, 602, 625, 658, 691, 714, 727, 750, 773, 816, 839, 882, 905, 918, 941, 954, 987, 1020, 1063, 1106, 1129, 1153, 1176, 1199, 1222, 1245, 1259] 28 rfl).trans rfl
set_option maxRecDepth 100000 in
theorem e_Law_law_1020 (k1 : Nat) (x1 : Int32) (μ : jm) : evj 218 1020 [jR 96 k1, jR 9 0, jR 10 64, jI x1] [] μ = (jgd (inB (x1 + (1 : Int32)) k1) (jgd (inB (x1 + (2 : Int32)) k1) (jgd (inB (x1 + (3 : Int32)) k1) (bI (cj 126 [jR 9 0, jI (gI μ 99 (ix (x1 + (1 : Int32)))), jI (gI μ 99 (ix (x1 + (2 : Int32)))), jI (gI μ 99 (ix (x1 + (3 : Int32))))] μ) (fun r1 m1 => jgd (inB (x1 + (1 : Int32)) k1) (jgd (inB (x1 + (2 : Int32)) k1) (jgd (inB (x1 + (3 : Int32)) k1) (bI (cj 204 [jR 10 64, jI (gI m1 99 (ix (x1 + (1 : Int32)))), jI (gI m1 99 (ix (x1 + (2 : Int32)))), jI (gI m1 99 (ix (x1 + (3 : Int32))))] m1) (fun r2 m2 => jbr (decide (r1 = r2)) (evj 218 1259 [jR 96 k1, jR 9 0, jR 10 64, jI x1] [] m2) (some (some (jI ((0 : Int32) &&& 1)), m2))))))))))) :=
  (evj_s (F := K218) rfl [18, 196, 229, 262, 305, 338, 371, 424, 447, 480, 543, 556, 569, 602, 625, 658, 691, 714, 727, 750, 773, 816, 839, 882, 905, 918, 941, 954, 987, 1020, 1063, 1106, 1129, 1153, 1176, 1199, 1222, 1245, 1259] 38 rfl).trans rfl
set_option maxRecDepth 100000 in
theorem e_Law_law_1063 (k1 : Nat) (x1 : Int32) (μ : jm) : evj 218 1063 [jR 96 k1, jR 9 0, jR 10 64, jI x1] [] μ = (jgd (inB (x1 + (1 : Int32)) k1) (jgd (inB (x1 + (2 : Int32)) k1) (jgd (inB (x1 + (3 : Int32)) k1) (bI (cj 127 [jR 9 0, jI (gI μ 99 (ix (x1 + (1 : Int32)))), jI (gI μ 99 (ix (x1 + (2 : Int32)))), jI (gI μ 99 (ix (x1 + (3 : Int32))))] μ) (fun r1 m1 => jgd (inB (x1 + (1 : Int32)) k1) (jgd (inB (x1 + (2 : Int32)) k1) (jgd (inB (x1 + (3 : Int32)) k1) (bI (cj 205 [jR 10 64, jI (gI m1 99 (ix (x1 + (1 : Int32)))), jI (gI m1 99 (ix (x1 + (2 : Int32)))), jI (gI m1 99 (ix (x1 + (3 : Int32))))] m1) (fun r2 m2 => jbr (decide (r1 = r2)) (evj 218 1259 [jR 96 k1, jR 9 0, jR 10 64, jI x1] [] m2) (some (some (jI ((0 : Int32) &&& 1)), m2))))))))))) :=
  (evj_s (F := K218) rfl [18, 196, 229, 262, 305, 338, 371, 424, 447, 480, 543, 556, 569, 602, 625, 658, 691, 714, 727, 750, 773, 816, 839, 882, 905, 918, 941, 954, 987, 1020, 1063, 1106, 1129, 1153, 1176, 1199, 1222, 1245, 1259] 38 rfl).trans rfl
set_option maxRecDepth 100000 in
theorem e_Law_law_1106 (k1 : Nat) (x1 : Int32) (μ : jm) : evj 218 1106 [jR 96 k1, jR 9 0, jR 10 64, jI x1] [] μ = (jgd (inB (x1 + (1 : Int32)) k1) (bI (cj 128 [jR 9 0, jI (gI μ 99 (ix (x1 + (1 : Int32))))] μ) (fun r1 m1 => jgd (inB (x1 + (1 : Int32)) k1) (bI (cj 207 [jR 10 64, jI (gI m1 99 (ix (x1 + (1 : Int32))))] m1) (fun r2 m2 => jbr (decide (r1 = r2)) (evj 218 1259 [jR 96 k1, jR 9 0, jR 10 64, jI x1] [] m2) (some (some (jI ((0 : Int32) &&& 1)), m2))))))) :=
  (evj_s (F := K218) rfl [18, 196, 229, 262, 305, 338, 371, 424, 447, 480, 543, 556, 569, 602, 625, 658, 691, 714, 727, 750, 773, 816, 839, 882, 905, 918, 941, 954, 987, 1020, 1063, 1106, 1129, 1153, 1176, 1199, 1222, 1245, 1259] 18 rfl).trans rfl
set_option maxRecDepth 100000 in
theorem e_Law_law_1129 (k1 : Nat) (x1 : Int32) (μ : jm) : evj 218 1129 [jR 96 k1, jR 9 0, jR 10 64, jI x1] [] μ = (jgd (inB (x1 + (1 : Int32)) k1) (bL (cj 129 [jR 9 0, jI (gI μ 99 (ix (x1 + (1 : Int32))))] μ) (fun r1 m1 => jgd (inB (x1 + (1 : Int32)) k1) (bL (cj 209 [jR 10 64, jI (gI m1 99 (ix (x1 + (1 : Int32))))] m1) (fun r2 m2 => jbr (decide ((lg_cmp r1 r2) = 0)) (evj 218 1259 [jR 96 k1, jR 9 0, jR 10 64, jI x1] [] m2) (some (some (jI ((0 : Int32) &&& 1)), m2))))))) :=
  (evj_s (F := K218) rfl [18, 196, 229, 262, 305, 338, 371, 424, 447, 480, 543, 556, 569, 602, 625, 658, 691, 714, 727, 750, 773, 816, 839, 882, 905, 918, 941, 954, 987, 1020, 1063, 1106, 1129, 1153, 1176, 1199, 1222, 1245, 1259] 19 rfl).trans rfl
set_option maxRecDepth 100000 in
theorem e_Law_law_1153 (k1 : Nat) (x1 : Int32) (μ : jm) : evj 218 1153 [jR 96 k1, jR 9 0, jR 10 64, jI x1] [] μ = (jgd (inB (x1 + (1 : Int32)) k1) (bI (cj 130 [jR 9 0, jI (gI μ 99 (ix (x1 + (1 : Int32))))] μ) (fun r1 m1 => jgd (inB (x1 + (1 : Int32)) k1) (bI (cj 210 [jR 10 64, jI (gI m1 99 (ix (x1 + (1 : Int32))))] m1) (fun r2 m2 => jbr (decide (r1 = r2)) (evj 218 1259 [jR 96 k1, jR 9 0, jR 10 64, jI x1] [] m2) (some (some (jI ((0 : Int32) &&& 1)), m2))))))) :=
  (evj_s (F := K218) rfl [18, 196, 229, 262, 305, 338, 371, 424, 447, 480, 543, 556, 569, 602, 625, 658, 691, 714, 727, 750, 773, 816, 839, 882, 905, 918, 941, 954, 987, 1020, 1063, 1106, 1129, 1153, 1176, 1199, 1222, 1245, 1259] 18 rfl).trans rfl
set_option maxRecDepth 100000 in
theorem e_Law_law_1176 (k1 : Nat) (x1 : Int32) (μ : jm) : evj 218 1176 [jR 96 k1, jR 9 0, jR 10 64, jI x1] [] μ = (jgd (inB (x1 + (1 : Int32)) k1) (bI (cj 132 [jR 9 0, jI (gI μ 99 (ix (x1 + (1 : Int32))))] μ) (fun r1 m1 => jgd (inB (x1 + (1 : Int32)) k1) (bI (cj 211 [jR 10 64, jI (gI m1 99 (ix (x1 + (1 : Int32))))] m1) (fun r2 m2 => jbr (decide (r1 = r2)) (evj 218 1259 [jR 96 k1, jR 9 0, jR 10 64, jI x1] [] m2) (some (some (jI ((0 : Int32) &&& 1)), m2))))))) :=
  (evj_s (F := K218) rfl [18, 196, 229, 262, 305, 338, 371, 424, 447, 480, 543, 556, 569, 602, 625, 658, 691, 714, 727, 750, 773, 816, 839, 882, 905, 918, 941, 954, 987, 1020, 1063, 1106, 1129, 1153, 1176, 1199, 1222, 1245, 1259] 18 rfl).trans rfl
set_option maxRecDepth 100000 in
theorem e_Law_law_1199 (k1 : Nat) (x1 : Int32) (μ : jm) : evj 218 1199 [jR 96 k1, jR 9 0, jR 10 64, jI x1] [] μ = (jgd (inB (x1 + (1 : Int32)) k1) (bI (cj 133 [jR 9 0, jI (gI μ 99 (ix (x1 + (1 : Int32))))] μ) (fun r1 m1 => jgd (inB (x1 + (1 : Int32)) k1) (bI (cj 212 [jR 10 64, jI (gI m1 99 (ix (x1 + (1 : Int32))))] m1) (fun r2 m2 => jbr (decide (r1 = r2)) (evj 218 1259 [jR 96 k1, jR 9 0, jR 10 64, jI x1] [] m2) (some (some (jI ((0 : Int32) &&& 1)), m2))))))) :=
  (evj_s (F := K218) rfl [18, 196, 229, 262, 305, 338, 371, 424, 447, 480, 543, 556, 569, 602, 625, 658, 691, 714, 727, 750, 773, 816, 839, 882, 905, 918, 941, 954, 987, 1020, 1063, 1106, 1129, 1153, 1176, 1199, 1222, 1245, 1259] 18 rfl).trans rfl
set_option maxRecDepth 100000 in
theorem e_Law_law_1222 (k1 : Nat) (x1 : Int32) (μ : jm) : evj 218 1222 [jR 96 k1, jR 9 0, jR 10 64, jI x1] [] μ = (jgd (inB (x1 + (1 : Int32)) k1) (bI (cj 134 [jR 9 0, jI (gI μ 99 (ix (x1 + (1 : Int32))))] μ) (fun r1 m1 => jgd (inB (x1 + (1 : Int32)) k1) (bI (cj 213 [jR 10 64, jI (gI m1 99 (ix (x1 + (1 : Int32))))] m1) (fun r2 m2 => jbr (decide (r1 = r2)) (evj 218 1259 [jR 96 k1, jR 9 0, jR 10 64, jI x1] [] m2) (some (some (jI ((0 : Int32) &&& 1)), m2))))))) :=
  (evj_s (F := K218) rfl [18, 196, 229, 262, 305, 338, 371, 424, 447, 480, 543, 556, 569, 602, 625, 658, 691, 714, 727, 750, 773, 816, 839, 882, 905, 918, 941, 954, 987, 1020, 1063, 1106, 1129, 1153, 1176, 1199, 1222, 1245, 1259] 18 rfl).trans rfl
set_option maxRecDepth 100000 in
theorem e_Law_law_1245 (k1 : Nat) (x1 : Int32) (μ : jm) : evj 218 1245 [jR 96 k1, jR 9 0, jR 10 64, jI x1] [] μ = (bL (cj 136 [jR 9 0] μ) (fun r1 m1 => bL (cj 215 [jR 10 64] m1) (fun r2 m2 => jbr (decide ((lg_cmp r1 r2) = 0)) (evj 218 1259 [jR 96 k1, jR 9 0, jR 10 64, jI x1] [] m2) (some (some (jI ((0 : Int32) &&& 1)), m2))))) :=
  (evj_s (F := K218) rfl [18, 196, 229, 262, 305, 338, 371, 424, 447, 480, 543, 556, 569, 602, 625, 658, 691, 714, 727, 750, 773, 816, 839, 882, 905, 918, 941, 954, 987, 1020, 1063, 1106, 1129, 1153, 1176, 1199, 1222, 1245, 1259] 9 rfl).trans rfl
set_option maxRecDepth 100000 in
theorem e_Law_law_1259 (k1 : Nat) (x1 : Int32) (μ : jm) : evj 218 1259 [jR 96 k1, jR 9 0, jR 10 64, jI x1] [] μ = (evj 218 18 [jR 96 k1, jR 9 0, jR 10 64, jI (x1 + 5)] [] μ) :=
  (evj_s (F := K218) rfl [18, 196, 229, 262, 305, 338, 371, 424, 447, 480, 543, 556, 569, 602, 625, 658, 691, 714, 727, 750, 773, 816, 839, 882, 905, 918, 941, 954, 987, 1020, 1063, 1106, 1129, 1153, 1176, 1199, 1222, 1245, 1259] 3 rfl).trans rfl
end
section
-- ===== PART A: goes FIRST, ahead of the names: the tables' words, and 'selects' of the private methods out of them =====
/-- a private method of a class that the tables say can be made, by its rows of tables_1 -/
def lw_okq (q : MethodName × Nat) : Prop := (q.1.cls ≠ "java/lang/invoke/MethodHandle" ∧ q.1.cls ≠ "java/lang/invoke/VarHandle") ∧ Cond.instantiable q.1.cls q.2 ∈ tables_1 ∧ Cond.privateMethod q.1 ∈ tables_1 ∧ Cond.instanceMethod q.1 ∈ tables_1
theorem lw_p0 : lw_okq (⟨"OneNote", "told", "(I)I"⟩, 15) := ⟨⟨by decide +kernel, by decide +kernel⟩, List.mem_of_getElem? (i := 22) (by decide +kernel), List.mem_of_getElem? (i := 306) (by decide +kernel), List.mem_of_getElem? (i := 307) (by decide +kernel)⟩
theorem lw_p1 : lw_okq (⟨"OneNote$Valley", "hasChordOf", "(I)Z"⟩, 15) := ⟨⟨by decide +kernel, by decide +kernel⟩, List.mem_of_getElem? (i := 30) (by decide +kernel), List.mem_of_getElem? (i := 357) (by decide +kernel), List.mem_of_getElem? (i := 358) (by decide +kernel)⟩
theorem lw_p2 : lw_okq (⟨"OneNote$Text", "readToken", "()V"⟩, 8) := ⟨⟨by decide +kernel, by decide +kernel⟩, List.mem_of_getElem? (i := 110) (by decide +kernel), List.mem_of_getElem? (i := 421) (by decide +kernel), List.mem_of_getElem? (i := 422) (by decide +kernel)⟩
theorem lw_p3 : lw_okq (⟨"OneNote$Text", "readWord", "()V"⟩, 8) := ⟨⟨by decide +kernel, by decide +kernel⟩, List.mem_of_getElem? (i := 110) (by decide +kernel), List.mem_of_getElem? (i := 428) (by decide +kernel), List.mem_of_getElem? (i := 429) (by decide +kernel)⟩
theorem lw_p4 : lw_okq (⟨"OneNote$Text", "isTokenWord", "(Ljava/lang/String;)Z"⟩, 8) := ⟨⟨by decide +kernel, by decide +kernel⟩, List.mem_of_getElem? (i := 110) (by decide +kernel), List.mem_of_getElem? (i := 441) (by decide +kernel), List.mem_of_getElem? (i := 442) (by decide +kernel)⟩
theorem lw_p5 : lw_okq (⟨"OneNote$Text", "readNumber", "()V"⟩, 8) := ⟨⟨by decide +kernel, by decide +kernel⟩, List.mem_of_getElem? (i := 110) (by decide +kernel), List.mem_of_getElem? (i := 496) (by decide +kernel), List.mem_of_getElem? (i := 497) (by decide +kernel)⟩
theorem lw_p6 : lw_okq (⟨"OneNote$Text", "readItem", "()Z"⟩, 8) := ⟨⟨by decide +kernel, by decide +kernel⟩, List.mem_of_getElem? (i := 110) (by decide +kernel), List.mem_of_getElem? (i := 500) (by decide +kernel), List.mem_of_getElem? (i := 501) (by decide +kernel)⟩
theorem lw_p7 : lw_okq (⟨"OneNote$Text", "tellItem", "(LOneNote$Valley;)I"⟩, 8) := ⟨⟨by decide +kernel, by decide +kernel⟩, List.mem_of_getElem? (i := 110) (by decide +kernel), List.mem_of_getElem? (i := 506) (by decide +kernel), List.mem_of_getElem? (i := 507) (by decide +kernel)⟩
theorem lw_p8 : lw_okq (⟨"OneNote$Choir", "gather", "(LOneNote$Valley;I)V"⟩, 2) := ⟨⟨by decide +kernel, by decide +kernel⟩, List.mem_of_getElem? (i := 158) (by decide +kernel), List.mem_of_getElem? (i := 540) (by decide +kernel), List.mem_of_getElem? (i := 541) (by decide +kernel)⟩
theorem lw_p9 : lw_okq (⟨"OneNote$Choir", "fillsAll", "(I)Z"⟩, 2) := ⟨⟨by decide +kernel, by decide +kernel⟩, List.mem_of_getElem? (i := 158) (by decide +kernel), List.mem_of_getElem? (i := 551) (by decide +kernel), List.mem_of_getElem? (i := 552) (by decide +kernel)⟩
theorem lw_p10 : lw_okq (⟨"OneNote$Errand", "measure", "(LOneNote$Valley;)V"⟩, 4) := ⟨⟨by decide +kernel, by decide +kernel⟩, List.mem_of_getElem? (i := 171) (by decide +kernel), List.mem_of_getElem? (i := 622) (by decide +kernel), List.mem_of_getElem? (i := 623) (by decide +kernel)⟩
theorem lw_p11 : lw_okq (⟨"OneNote$Errand", "spreadOnce", "(LOneNote$Valley;III)I"⟩, 4) := ⟨⟨by decide +kernel, by decide +kernel⟩, List.mem_of_getElem? (i := 171) (by decide +kernel), List.mem_of_getElem? (i := 626) (by decide +kernel), List.mem_of_getElem? (i := 627) (by decide +kernel)⟩
theorem lw_p12 : lw_okq (⟨"OneNote$Errand", "nearestRoom", "(LOneNote$Valley;II)I"⟩, 4) := ⟨⟨by decide +kernel, by decide +kernel⟩, List.mem_of_getElem? (i := 171) (by decide +kernel), List.mem_of_getElem? (i := 634) (by decide +kernel), List.mem_of_getElem? (i := 635) (by decide +kernel)⟩
theorem lw_p13 : lw_okq (⟨"OneNote$Errand", "stepsTo", "(LOneNote$Valley;III)I"⟩, 4) := ⟨⟨by decide +kernel, by decide +kernel⟩, List.mem_of_getElem? (i := 171) (by decide +kernel), List.mem_of_getElem? (i := 638) (by decide +kernel), List.mem_of_getElem? (i := 639) (by decide +kernel)⟩
theorem lw_p14 : lw_okq (⟨"OneNote$Errand", "isBetter", "(III)Z"⟩, 4) := ⟨⟨by decide +kernel, by decide +kernel⟩, List.mem_of_getElem? (i := 171) (by decide +kernel), List.mem_of_getElem? (i := 642) (by decide +kernel), List.mem_of_getElem? (i := 643) (by decide +kernel)⟩
theorem lw_p15 : lw_okq (⟨"OneNote$Fog", "findRivals", "(LOneNote$Valley;I)V"⟩, 1) := ⟨⟨by decide +kernel, by decide +kernel⟩, List.mem_of_getElem? (i := 193) (by decide +kernel), List.mem_of_getElem? (i := 676) (by decide +kernel), List.mem_of_getElem? (i := 677) (by decide +kernel)⟩
def lw_privs_1 : List (MethodName × Nat) := [(⟨"OneNote", "told", "(I)I"⟩, 15), (⟨"OneNote$Valley", "hasChordOf", "(I)Z"⟩, 15), (⟨"OneNote$Text", "readToken", "()V"⟩, 8), (⟨"OneNote$Text", "readWord", "()V"⟩, 8), (⟨"OneNote$Text", "isTokenWord", "(Ljava/lang/String;)Z"⟩, 8), (⟨"OneNote$Text", "readNumber", "()V"⟩, 8), (⟨"OneNote$Text", "readItem", "()Z"⟩, 8), (⟨"OneNote$Text", "tellItem", "(LOneNote$Valley;)I"⟩, 8), (⟨"OneNote$Choir", "gather", "(LOneNote$Valley;I)V"⟩, 2), (⟨"OneNote$Choir", "fillsAll", "(I)Z"⟩, 2), (⟨"OneNote$Errand", "measure", "(LOneNote$Valley;)V"⟩, 4), (⟨"OneNote$Errand", "spreadOnce", "(LOneNote$Valley;III)I"⟩, 4), (⟨"OneNote$Errand", "nearestRoom", "(LOneNote$Valley;II)I"⟩, 4), (⟨"OneNote$Errand", "stepsTo", "(LOneNote$Valley;III)I"⟩, 4), (⟨"OneNote$Errand", "isBetter", "(III)Z"⟩, 4), (⟨"OneNote$Fog", "findRivals", "(LOneNote$Valley;I)V"⟩, 1)]
theorem lw_r1 : ∀ q ∈ lw_privs_1, lw_okq q := List.forall_mem_cons.mpr ⟨lw_p0, List.forall_mem_cons.mpr ⟨lw_p1, List.forall_mem_cons.mpr ⟨lw_p2, List.forall_mem_cons.mpr ⟨lw_p3, List.forall_mem_cons.mpr ⟨lw_p4, List.forall_mem_cons.mpr ⟨lw_p5, List.forall_mem_cons.mpr ⟨lw_p6, List.forall_mem_cons.mpr ⟨lw_p7, List.forall_mem_cons.mpr ⟨lw_p8, List.forall_mem_cons.mpr ⟨lw_p9, List.forall_mem_cons.mpr ⟨lw_p10, List.forall_mem_cons.mpr ⟨lw_p11, List.forall_mem_cons.mpr ⟨lw_p12, List.forall_mem_cons.mpr ⟨lw_p13, List.forall_mem_cons.mpr ⟨lw_p14, List.forall_mem_cons.mpr ⟨lw_p15, fun _ h => absurd h List.not_mem_nil⟩⟩⟩⟩⟩⟩⟩⟩⟩⟩⟩⟩⟩⟩⟩⟩
theorem lw_p16 : lw_okq (⟨"OneNote$Fog", "isClear", "(I)Z"⟩, 1) := ⟨⟨by decide +kernel, by decide +kernel⟩, List.mem_of_getElem? (i := 193) (by decide +kernel), List.mem_of_getElem? (i := 682) (by decide +kernel), List.mem_of_getElem? (i := 683) (by decide +kernel)⟩
theorem lw_p17 : lw_okq (⟨"OneNote", "badForRows", "()I"⟩, 15) := ⟨⟨by decide +kernel, by decide +kernel⟩, List.mem_of_getElem? (i := 22) (by decide +kernel), List.mem_of_getElem? (i := 690) (by decide +kernel), List.mem_of_getElem? (i := 691) (by decide +kernel)⟩
theorem lw_p18 : lw_okq (⟨"OneNote$Rumour", "nextRoom", "(LOneNote$Valley;I)I"⟩, 3) := ⟨⟨by decide +kernel, by decide +kernel⟩, List.mem_of_getElem? (i := 203) (by decide +kernel), List.mem_of_getElem? (i := 698) (by decide +kernel), List.mem_of_getElem? (i := 699) (by decide +kernel)⟩
theorem lw_p19 : lw_okq (⟨"OneNote$Rumour", "costBy", "(I)I"⟩, 3) := ⟨⟨by decide +kernel, by decide +kernel⟩, List.mem_of_getElem? (i := 203) (by decide +kernel), List.mem_of_getElem? (i := 702) (by decide +kernel), List.mem_of_getElem? (i := 703) (by decide +kernel)⟩
theorem lw_p20 : lw_okq (⟨"OneNote$Guess", "sumRows", "(LOneNote$Valley;ZII)J"⟩, 1) := ⟨⟨by decide +kernel, by decide +kernel⟩, List.mem_of_getElem? (i := 219) (by decide +kernel), List.mem_of_getElem? (i := 754) (by decide +kernel), List.mem_of_getElem? (i := 755) (by decide +kernel)⟩
theorem lw_p21 : lw_okq (⟨"OneNote$Chant", "findNeighbours", "(LOneNote$Valley;I)V"⟩, 3) := ⟨⟨by decide +kernel, by decide +kernel⟩, List.mem_of_getElem? (i := 230) (by decide +kernel), List.mem_of_getElem? (i := 802) (by decide +kernel), List.mem_of_getElem? (i := 803) (by decide +kernel)⟩
theorem lw_p22 : lw_okq (⟨"OneNote$Chant", "ordersFrom", "(II)I"⟩, 3) := ⟨⟨by decide +kernel, by decide +kernel⟩, List.mem_of_getElem? (i := 230) (by decide +kernel), List.mem_of_getElem? (i := 807) (by decide +kernel), List.mem_of_getElem? (i := 808) (by decide +kernel)⟩
theorem lw_p23 : lw_okq (⟨"OneNote$Chant", "ordersAmong", "(II)I"⟩, 3) := ⟨⟨by decide +kernel, by decide +kernel⟩, List.mem_of_getElem? (i := 230) (by decide +kernel), List.mem_of_getElem? (i := 811) (by decide +kernel), List.mem_of_getElem? (i := 812) (by decide +kernel)⟩
theorem lw_p24 : lw_okq (⟨"OneNote$Chant", "leastBeginning", "(II)I"⟩, 3) := ⟨⟨by decide +kernel, by decide +kernel⟩, List.mem_of_getElem? (i := 230) (by decide +kernel), List.mem_of_getElem? (i := 825) (by decide +kernel), List.mem_of_getElem? (i := 826) (by decide +kernel)⟩
theorem lw_p25 : lw_okq (⟨"OneNote$Valley", "freeSpouseOf", "(I)V"⟩, 15) := ⟨⟨by decide +kernel, by decide +kernel⟩, List.mem_of_getElem? (i := 30) (by decide +kernel), List.mem_of_getElem? (i := 843) (by decide +kernel), List.mem_of_getElem? (i := 844) (by decide +kernel)⟩
theorem lw_p26 : lw_okq (⟨"OneNote", "amount", "(I)I"⟩, 15) := ⟨⟨by decide +kernel, by decide +kernel⟩, List.mem_of_getElem? (i := 22) (by decide +kernel), List.mem_of_getElem? (i := 871) (by decide +kernel), List.mem_of_getElem? (i := 872) (by decide +kernel)⟩
theorem lw_p27 : lw_okq (⟨"OneNote$Valley", "digestOfRooms", "(J)J"⟩, 15) := ⟨⟨by decide +kernel, by decide +kernel⟩, List.mem_of_getElem? (i := 30) (by decide +kernel), List.mem_of_getElem? (i := 885) (by decide +kernel), List.mem_of_getElem? (i := 886) (by decide +kernel)⟩
theorem lw_p28 : lw_okq (⟨"OneNoteModel", "tie", "(IIII)I"⟩, 23) := ⟨⟨by decide +kernel, by decide +kernel⟩, List.mem_of_getElem? (i := 890) (by decide +kernel), List.mem_of_getElem? (i := 971) (by decide +kernel), List.mem_of_getElem? (i := 972) (by decide +kernel)⟩
theorem lw_p29 : lw_okq (⟨"OneNoteModel", "told", "(I)I"⟩, 23) := ⟨⟨by decide +kernel, by decide +kernel⟩, List.mem_of_getElem? (i := 890) (by decide +kernel), List.mem_of_getElem? (i := 982) (by decide +kernel), List.mem_of_getElem? (i := 983) (by decide +kernel)⟩
theorem lw_p30 : lw_okq (⟨"OneNoteModel", "addOne", "(IIII)I"⟩, 23) := ⟨⟨by decide +kernel, by decide +kernel⟩, List.mem_of_getElem? (i := 890) (by decide +kernel), List.mem_of_getElem? (i := 994) (by decide +kernel), List.mem_of_getElem? (i := 995) (by decide +kernel)⟩
theorem lw_p31 : lw_okq (⟨"OneNoteModel", "addMates", "(III)I"⟩, 23) := ⟨⟨by decide +kernel, by decide +kernel⟩, List.mem_of_getElem? (i := 890) (by decide +kernel), List.mem_of_getElem? (i := 1003) (by decide +kernel), List.mem_of_getElem? (i := 1004) (by decide +kernel)⟩
def lw_privs_2 : List (MethodName × Nat) := [(⟨"OneNote$Fog", "isClear", "(I)Z"⟩, 1), (⟨"OneNote", "badForRows", "()I"⟩, 15), (⟨"OneNote$Rumour", "nextRoom", "(LOneNote$Valley;I)I"⟩, 3), (⟨"OneNote$Rumour", "costBy", "(I)I"⟩, 3), (⟨"OneNote$Guess", "sumRows", "(LOneNote$Valley;ZII)J"⟩, 1), (⟨"OneNote$Chant", "findNeighbours", "(LOneNote$Valley;I)V"⟩, 3), (⟨"OneNote$Chant", "ordersFrom", "(II)I"⟩, 3), (⟨"OneNote$Chant", "ordersAmong", "(II)I"⟩, 3), (⟨"OneNote$Chant", "leastBeginning", "(II)I"⟩, 3), (⟨"OneNote$Valley", "freeSpouseOf", "(I)V"⟩, 15), (⟨"OneNote", "amount", "(I)I"⟩, 15), (⟨"OneNote$Valley", "digestOfRooms", "(J)J"⟩, 15), (⟨"OneNoteModel", "tie", "(IIII)I"⟩, 23), (⟨"OneNoteModel", "told", "(I)I"⟩, 23), (⟨"OneNoteModel", "addOne", "(IIII)I"⟩, 23), (⟨"OneNoteModel", "addMates", "(III)I"⟩, 23)]
theorem lw_r2 : ∀ q ∈ lw_privs_2, lw_okq q := List.forall_mem_cons.mpr ⟨lw_p16, List.forall_mem_cons.mpr ⟨lw_p17, List.forall_mem_cons.mpr ⟨lw_p18, List.forall_mem_cons.mpr ⟨lw_p19, List.forall_mem_cons.mpr ⟨lw_p20, List.forall_mem_cons.mpr ⟨lw_p21, List.forall_mem_cons.mpr ⟨lw_p22, List.forall_mem_cons.mpr ⟨lw_p23, List.forall_mem_cons.mpr ⟨lw_p24, List.forall_mem_cons.mpr ⟨lw_p25, List.forall_mem_cons.mpr ⟨lw_p26, List.forall_mem_cons.mpr ⟨lw_p27, List.forall_mem_cons.mpr ⟨lw_p28, List.forall_mem_cons.mpr ⟨lw_p29, List.forall_mem_cons.mpr ⟨lw_p30, List.forall_mem_cons.mpr ⟨lw_p31, fun _ h => absurd h List.not_mem_nil⟩⟩⟩⟩⟩⟩⟩⟩⟩⟩⟩⟩⟩⟩⟩⟩
theorem lw_p32 : lw_okq (⟨"OneNoteModel", "isOne", "(II)Z"⟩, 23) := ⟨⟨by decide +kernel, by decide +kernel⟩, List.mem_of_getElem? (i := 890) (by decide +kernel), List.mem_of_getElem? (i := 1007) (by decide +kernel), List.mem_of_getElem? (i := 1008) (by decide +kernel)⟩
theorem lw_p33 : lw_okq (⟨"OneNoteModel", "addChord", "(IIIII)I"⟩, 23) := ⟨⟨by decide +kernel, by decide +kernel⟩, List.mem_of_getElem? (i := 890) (by decide +kernel), List.mem_of_getElem? (i := 1019) (by decide +kernel), List.mem_of_getElem? (i := 1020) (by decide +kernel)⟩
theorem lw_p34 : lw_okq (⟨"OneNoteModel", "setSlack", "(II)I"⟩, 23) := ⟨⟨by decide +kernel, by decide +kernel⟩, List.mem_of_getElem? (i := 890) (by decide +kernel), List.mem_of_getElem? (i := 1028) (by decide +kernel), List.mem_of_getElem? (i := 1029) (by decide +kernel)⟩
theorem lw_p35 : lw_okq (⟨"OneNoteModel", "isSet", "(I)Z"⟩, 23) := ⟨⟨by decide +kernel, by decide +kernel⟩, List.mem_of_getElem? (i := 890) (by decide +kernel), List.mem_of_getElem? (i := 1037) (by decide +kernel), List.mem_of_getElem? (i := 1038) (by decide +kernel)⟩
theorem lw_p36 : lw_okq (⟨"OneNoteModel", "soundsOf", "(III)I"⟩, 23) := ⟨⟨by decide +kernel, by decide +kernel⟩, List.mem_of_getElem? (i := 890) (by decide +kernel), List.mem_of_getElem? (i := 1044) (by decide +kernel), List.mem_of_getElem? (i := 1045) (by decide +kernel)⟩
theorem lw_p37 : lw_okq (⟨"OneNoteModel", "isEnd", "()Z"⟩, 23) := ⟨⟨by decide +kernel, by decide +kernel⟩, List.mem_of_getElem? (i := 890) (by decide +kernel), List.mem_of_getElem? (i := 1065) (by decide +kernel), List.mem_of_getElem? (i := 1066) (by decide +kernel)⟩
theorem lw_p38 : lw_okq (⟨"OneNoteModel", "takeItem", "()V"⟩, 23) := ⟨⟨by decide +kernel, by decide +kernel⟩, List.mem_of_getElem? (i := 890) (by decide +kernel), List.mem_of_getElem? (i := 1069) (by decide +kernel), List.mem_of_getElem? (i := 1070) (by decide +kernel)⟩
theorem lw_p39 : lw_okq (⟨"OneNoteModel", "takeWord", "()I"⟩, 23) := ⟨⟨by decide +kernel, by decide +kernel⟩, List.mem_of_getElem? (i := 890) (by decide +kernel), List.mem_of_getElem? (i := 1073) (by decide +kernel), List.mem_of_getElem? (i := 1074) (by decide +kernel)⟩
theorem lw_p40 : lw_okq (⟨"OneNoteModel", "takeNumber", "()I"⟩, 23) := ⟨⟨by decide +kernel, by decide +kernel⟩, List.mem_of_getElem? (i := 890) (by decide +kernel), List.mem_of_getElem? (i := 1093) (by decide +kernel), List.mem_of_getElem? (i := 1094) (by decide +kernel)⟩
theorem lw_p41 : lw_okq (⟨"OneNoteModel", "tellItem", "(I)I"⟩, 23) := ⟨⟨by decide +kernel, by decide +kernel⟩, List.mem_of_getElem? (i := 890) (by decide +kernel), List.mem_of_getElem? (i := 1099) (by decide +kernel), List.mem_of_getElem? (i := 1100) (by decide +kernel)⟩
theorem lw_p42 : lw_okq (⟨"OneNoteModel", "copy", "(II)V"⟩, 23) := ⟨⟨by decide +kernel, by decide +kernel⟩, List.mem_of_getElem? (i := 890) (by decide +kernel), List.mem_of_getElem? (i := 1103) (by decide +kernel), List.mem_of_getElem? (i := 1104) (by decide +kernel)⟩
theorem lw_p43 : lw_okq (⟨"OneNoteModel", "isChord", "(I)Z"⟩, 23) := ⟨⟨by decide +kernel, by decide +kernel⟩, List.mem_of_getElem? (i := 890) (by decide +kernel), List.mem_of_getElem? (i := 1111) (by decide +kernel), List.mem_of_getElem? (i := 1112) (by decide +kernel)⟩
theorem lw_p44 : lw_okq (⟨"OneNoteModel", "doesSay", "(III)Z"⟩, 23) := ⟨⟨by decide +kernel, by decide +kernel⟩, List.mem_of_getElem? (i := 890) (by decide +kernel), List.mem_of_getElem? (i := 1115) (by decide +kernel), List.mem_of_getElem? (i := 1116) (by decide +kernel)⟩
theorem lw_p45 : lw_okq (⟨"OneNoteModel", "reachOf", "(IIII)I"⟩, 23) := ⟨⟨by decide +kernel, by decide +kernel⟩, List.mem_of_getElem? (i := 890) (by decide +kernel), List.mem_of_getElem? (i := 1119) (by decide +kernel), List.mem_of_getElem? (i := 1120) (by decide +kernel)⟩
theorem lw_p46 : lw_okq (⟨"OneNoteModel", "setIn", "(I)I"⟩, 23) := ⟨⟨by decide +kernel, by decide +kernel⟩, List.mem_of_getElem? (i := 890) (by decide +kernel), List.mem_of_getElem? (i := 1130) (by decide +kernel), List.mem_of_getElem? (i := 1131) (by decide +kernel)⟩
theorem lw_p47 : lw_okq (⟨"OneNoteModel", "saidBy", "(II)I"⟩, 23) := ⟨⟨by decide +kernel, by decide +kernel⟩, List.mem_of_getElem? (i := 890) (by decide +kernel), List.mem_of_getElem? (i := 1134) (by decide +kernel), List.mem_of_getElem? (i := 1135) (by decide +kernel)⟩
def lw_privs_3 : List (MethodName × Nat) := [(⟨"OneNoteModel", "isOne", "(II)Z"⟩, 23), (⟨"OneNoteModel", "addChord", "(IIIII)I"⟩, 23), (⟨"OneNoteModel", "setSlack", "(II)I"⟩, 23), (⟨"OneNoteModel", "isSet", "(I)Z"⟩, 23), (⟨"OneNoteModel", "soundsOf", "(III)I"⟩, 23), (⟨"OneNoteModel", "isEnd", "()Z"⟩, 23), (⟨"OneNoteModel", "takeItem", "()V"⟩, 23), (⟨"OneNoteModel", "takeWord", "()I"⟩, 23), (⟨"OneNoteModel", "takeNumber", "()I"⟩, 23), (⟨"OneNoteModel", "tellItem", "(I)I"⟩, 23), (⟨"OneNoteModel", "copy", "(II)V"⟩, 23), (⟨"OneNoteModel", "isChord", "(I)Z"⟩, 23), (⟨"OneNoteModel", "doesSay", "(III)Z"⟩, 23), (⟨"OneNoteModel", "reachOf", "(IIII)I"⟩, 23), (⟨"OneNoteModel", "setIn", "(I)I"⟩, 23), (⟨"OneNoteModel", "saidBy", "(II)I"⟩, 23)]
theorem lw_r3 : ∀ q ∈ lw_privs_3, lw_okq q := List.forall_mem_cons.mpr ⟨lw_p32, List.forall_mem_cons.mpr ⟨lw_p33, List.forall_mem_cons.mpr ⟨lw_p34, List.forall_mem_cons.mpr ⟨lw_p35, List.forall_mem_cons.mpr ⟨lw_p36, List.forall_mem_cons.mpr ⟨lw_p37, List.forall_mem_cons.mpr ⟨lw_p38, List.forall_mem_cons.mpr ⟨lw_p39, List.forall_mem_cons.mpr ⟨lw_p40, List.forall_mem_cons.mpr ⟨lw_p41, List.forall_mem_cons.mpr ⟨lw_p42, List.forall_mem_cons.mpr ⟨lw_p43, List.forall_mem_cons.mpr ⟨lw_p44, List.forall_mem_cons.mpr ⟨lw_p45, List.forall_mem_cons.mpr ⟨lw_p46, List.forall_mem_cons.mpr ⟨lw_p47, fun _ h => absurd h List.not_mem_nil⟩⟩⟩⟩⟩⟩⟩⟩⟩⟩⟩⟩⟩⟩⟩⟩
theorem lw_p48 : lw_okq (⟨"OneNoteModel", "fetchBy", "(I)V"⟩, 23) := ⟨⟨by decide +kernel, by decide +kernel⟩, List.mem_of_getElem? (i := 890) (by decide +kernel), List.mem_of_getElem? (i := 1158) (by decide +kernel), List.mem_of_getElem? (i := 1159) (by decide +kernel)⟩
theorem lw_p49 : lw_okq (⟨"OneNoteModel", "measure", "()V"⟩, 23) := ⟨⟨by decide +kernel, by decide +kernel⟩, List.mem_of_getElem? (i := 890) (by decide +kernel), List.mem_of_getElem? (i := 1162) (by decide +kernel), List.mem_of_getElem? (i := 1163) (by decide +kernel)⟩
theorem lw_p50 : lw_okq (⟨"OneNoteModel", "stepsOf", "(III)I"⟩, 23) := ⟨⟨by decide +kernel, by decide +kernel⟩, List.mem_of_getElem? (i := 890) (by decide +kernel), List.mem_of_getElem? (i := 1166) (by decide +kernel), List.mem_of_getElem? (i := 1167) (by decide +kernel)⟩
theorem lw_p51 : lw_okq (⟨"OneNoteModel", "areTaken", "(III)Z"⟩, 23) := ⟨⟨by decide +kernel, by decide +kernel⟩, List.mem_of_getElem? (i := 890) (by decide +kernel), List.mem_of_getElem? (i := 1179) (by decide +kernel), List.mem_of_getElem? (i := 1180) (by decide +kernel)⟩
theorem lw_p52 : lw_okq (⟨"OneNoteModel", "noteOf", "(II)I"⟩, 23) := ⟨⟨by decide +kernel, by decide +kernel⟩, List.mem_of_getElem? (i := 890) (by decide +kernel), List.mem_of_getElem? (i := 1183) (by decide +kernel), List.mem_of_getElem? (i := 1184) (by decide +kernel)⟩
theorem lw_p53 : lw_okq (⟨"OneNoteModel", "findCosts", "(I)V"⟩, 23) := ⟨⟨by decide +kernel, by decide +kernel⟩, List.mem_of_getElem? (i := 890) (by decide +kernel), List.mem_of_getElem? (i := 1198) (by decide +kernel), List.mem_of_getElem? (i := 1199) (by decide +kernel)⟩
theorem lw_p54 : lw_okq (⟨"OneNoteModel", "costOn", "(III)I"⟩, 23) := ⟨⟨by decide +kernel, by decide +kernel⟩, List.mem_of_getElem? (i := 890) (by decide +kernel), List.mem_of_getElem? (i := 1202) (by decide +kernel), List.mem_of_getElem? (i := 1203) (by decide +kernel)⟩
theorem lw_p55 : lw_okq (⟨"OneNoteModel", "isHole", "(I)Z"⟩, 23) := ⟨⟨by decide +kernel, by decide +kernel⟩, List.mem_of_getElem? (i := 890) (by decide +kernel), List.mem_of_getElem? (i := 1219) (by decide +kernel), List.mem_of_getElem? (i := 1220) (by decide +kernel)⟩
theorem lw_p56 : lw_okq (⟨"OneNoteModel", "meantBy", "(I)I"⟩, 23) := ⟨⟨by decide +kernel, by decide +kernel⟩, List.mem_of_getElem? (i := 890) (by decide +kernel), List.mem_of_getElem? (i := 1223) (by decide +kernel), List.mem_of_getElem? (i := 1224) (by decide +kernel)⟩
theorem lw_p57 : lw_okq (⟨"OneNoteModel", "rows", "(ZII)J"⟩, 23) := ⟨⟨by decide +kernel, by decide +kernel⟩, List.mem_of_getElem? (i := 890) (by decide +kernel), List.mem_of_getElem? (i := 1231) (by decide +kernel), List.mem_of_getElem? (i := 1232) (by decide +kernel)⟩
theorem lw_p58 : lw_okq (⟨"OneNoteModel", "share", "(JJ)I"⟩, 23) := ⟨⟨by decide +kernel, by decide +kernel⟩, List.mem_of_getElem? (i := 890) (by decide +kernel), List.mem_of_getElem? (i := 1239) (by decide +kernel), List.mem_of_getElem? (i := 1240) (by decide +kernel)⟩
theorem lw_p59 : lw_okq (⟨"OneNoteModel", "findOrders", "(II)V"⟩, 23) := ⟨⟨by decide +kernel, by decide +kernel⟩, List.mem_of_getElem? (i := 890) (by decide +kernel), List.mem_of_getElem? (i := 1256) (by decide +kernel), List.mem_of_getElem? (i := 1257) (by decide +kernel)⟩
theorem lw_p60 : lw_okq (⟨"OneNoteModel", "divorce", "(II)V"⟩, 23) := ⟨⟨by decide +kernel, by decide +kernel⟩, List.mem_of_getElem? (i := 890) (by decide +kernel), List.mem_of_getElem? (i := 1264) (by decide +kernel), List.mem_of_getElem? (i := 1265) (by decide +kernel)⟩
theorem lw_p61 : lw_okq (⟨"OneNoteModel", "countOf", "(I)I"⟩, 23) := ⟨⟨by decide +kernel, by decide +kernel⟩, List.mem_of_getElem? (i := 890) (by decide +kernel), List.mem_of_getElem? (i := 1289) (by decide +kernel), List.mem_of_getElem? (i := 1290) (by decide +kernel)⟩
theorem lw_p62 : lw_okq (⟨"OneNoteModel", "mix", "(J)V"⟩, 23) := ⟨⟨by decide +kernel, by decide +kernel⟩, List.mem_of_getElem? (i := 890) (by decide +kernel), List.mem_of_getElem? (i := 1298) (by decide +kernel), List.mem_of_getElem? (i := 1299) (by decide +kernel)⟩
theorem lw_p63 : lw_okq (⟨"OneNoteModel", "mixAll", "(II)V"⟩, 23) := ⟨⟨by decide +kernel, by decide +kernel⟩, List.mem_of_getElem? (i := 890) (by decide +kernel), List.mem_of_getElem? (i := 1303) (by decide +kernel), List.mem_of_getElem? (i := 1304) (by decide +kernel)⟩
def lw_privs_4 : List (MethodName × Nat) := [(⟨"OneNoteModel", "fetchBy", "(I)V"⟩, 23), (⟨"OneNoteModel", "measure", "()V"⟩, 23), (⟨"OneNoteModel", "stepsOf", "(III)I"⟩, 23), (⟨"OneNoteModel", "areTaken", "(III)Z"⟩, 23), (⟨"OneNoteModel", "noteOf", "(II)I"⟩, 23), (⟨"OneNoteModel", "findCosts", "(I)V"⟩, 23), (⟨"OneNoteModel", "costOn", "(III)I"⟩, 23), (⟨"OneNoteModel", "isHole", "(I)Z"⟩, 23), (⟨"OneNoteModel", "meantBy", "(I)I"⟩, 23), (⟨"OneNoteModel", "rows", "(ZII)J"⟩, 23), (⟨"OneNoteModel", "share", "(JJ)I"⟩, 23), (⟨"OneNoteModel", "findOrders", "(II)V"⟩, 23), (⟨"OneNoteModel", "divorce", "(II)V"⟩, 23), (⟨"OneNoteModel", "countOf", "(I)I"⟩, 23), (⟨"OneNoteModel", "mix", "(J)V"⟩, 23), (⟨"OneNoteModel", "mixAll", "(II)V"⟩, 23)]
theorem lw_r4 : ∀ q ∈ lw_privs_4, lw_okq q := List.forall_mem_cons.mpr ⟨lw_p48, List.forall_mem_cons.mpr ⟨lw_p49, List.forall_mem_cons.mpr ⟨lw_p50, List.forall_mem_cons.mpr ⟨lw_p51, List.forall_mem_cons.mpr ⟨lw_p52, List.forall_mem_cons.mpr ⟨lw_p53, List.forall_mem_cons.mpr ⟨lw_p54, List.forall_mem_cons.mpr ⟨lw_p55, List.forall_mem_cons.mpr ⟨lw_p56, List.forall_mem_cons.mpr ⟨lw_p57, List.forall_mem_cons.mpr ⟨lw_p58, List.forall_mem_cons.mpr ⟨lw_p59, List.forall_mem_cons.mpr ⟨lw_p60, List.forall_mem_cons.mpr ⟨lw_p61, List.forall_mem_cons.mpr ⟨lw_p62, List.forall_mem_cons.mpr ⟨lw_p63, fun _ h => absurd h List.not_mem_nil⟩⟩⟩⟩⟩⟩⟩⟩⟩⟩⟩⟩⟩⟩⟩⟩
def lw_privs : List (MethodName × Nat) := lw_privs_1 ++ (lw_privs_2 ++ (lw_privs_3 ++ (lw_privs_4)))
def lw_tbl : List Cond := k2_sels lw_privs ++ tables_1
theorem lw_privs_ok : ∀ q ∈ lw_privs, lw_okq q := by
  show ∀ q ∈ lw_privs_1 ++ (lw_privs_2 ++ (lw_privs_3 ++ (lw_privs_4))), lw_okq q
  exact List.forall_mem_append.mpr ⟨lw_r1, List.forall_mem_append.mpr ⟨lw_r2, List.forall_mem_append.mpr ⟨lw_r3, lw_r4⟩⟩⟩
-- ===== end of PART A; then your names; then what follows =====
end
section
/-! ===== BEGIN printed: names, fields, word lists, decode rows ===== -/
def RX0 : String := "OneNote$Chant"
def TX0 : u_T := fun k => match k with
  | 0 => ("OneNote$Chant", "beginning", "[I", true)
  | 1 => ("OneNote$Chant", "neighbours", "[I", true)
  | _ => ("OneNote$Chant", "singers", "I", false)
def tyX0 : Nat → FieldType := fun k => match k with
  | 0 => .array .int
  | 1 => .array .int
  | _ => .int
abbrev wsX00 : List Cond := u_ws RX0 TX0 3
theorem nmX0 : ∀ a, a < 3 → ∀ b, b < 3 → a ≠ b → (TX0 a).2.1 ≠ (TX0 b).2.1 := by decide +kernel
theorem tyX0_ok : ∀ k, k < 3 → parseFieldDescriptor (TX0 k).2.2.1 = some (tyX0 k) := by decide +kernel
abbrev cX0_init : ByteArray := prog_2_method_1_code
def yX0_init : MethodName := ⟨RX0, "<init>", "()V"⟩
abbrev cX0_learn : ByteArray := prog_2_method_2_code
def yX0_learn : MethodName := ⟨RX0, "learn", "(LOneNote$Valley;II)V"⟩
abbrev cX0_findNeighbours : ByteArray := prog_2_method_3_code
def yX0_findNeighbours : MethodName := ⟨RX0, "findNeighbours", "(LOneNote$Valley;I)V"⟩
abbrev cX0_ordersFrom : ByteArray := prog_2_method_4_code
def yX0_ordersFrom : MethodName := ⟨RX0, "ordersFrom", "(II)I"⟩
abbrev cX0_ordersAmong : ByteArray := prog_2_method_5_code
def yX0_ordersAmong : MethodName := ⟨RX0, "ordersAmong", "(II)I"⟩
abbrev cX0_orders : ByteArray := prog_2_method_6_code
def yX0_orders : MethodName := ⟨RX0, "orders", "()I"⟩
abbrev cX0_placeInFirst : ByteArray := prog_2_method_7_code
def yX0_placeInFirst : MethodName := ⟨RX0, "placeInFirst", "(I)I"⟩
abbrev cX0_leastBeginning : ByteArray := prog_2_method_8_code
def yX0_leastBeginning : MethodName := ⟨RX0, "leastBeginning", "(II)I"⟩
def RX1 : String := "OneNote$Choir"
def TX1 : u_T := fun k => match k with
  | 0 => ("OneNote$Choir", "fillable", "[I", true)
  | _ => ("OneNote$Choir", "mostFilled", "[I", true)
def tyX1 : Nat → FieldType := fun k => match k with
  | 0 => .array .int
  | _ => .array .int
abbrev wsX10 : List Cond := u_ws RX1 TX1 2
theorem nmX1 : ∀ a, a < 2 → ∀ b, b < 2 → a ≠ b → (TX1 a).2.1 ≠ (TX1 b).2.1 := by decide +kernel
theorem tyX1_ok : ∀ k, k < 2 → parseFieldDescriptor (TX1 k).2.2.1 = some (tyX1 k) := by decide +kernel
abbrev cX1_init : ByteArray := prog_3_method_1_code
def yX1_init : MethodName := ⟨RX1, "<init>", "()V"⟩
abbrev cX1_notesOf : ByteArray := prog_3_method_2_code
def yX1_notesOf : MethodName := ⟨RX1, "notesOf", "(LOneNote$Valley;II)I"⟩
abbrev cX1_isMateIn : ByteArray := prog_3_method_3_code
def yX1_isMateIn : MethodName := ⟨RX1, "isMateIn", "(II)Z"⟩
abbrev cX1_gather : ByteArray := prog_3_method_4_code
def yX1_gather : MethodName := ⟨RX1, "gather", "(LOneNote$Valley;I)V"⟩
abbrev cX1_fillsAll : ByteArray := prog_3_method_5_code
def yX1_fillsAll : MethodName := ⟨RX1, "fillsAll", "(I)Z"⟩
abbrev cX1_canSay : ByteArray := prog_3_method_6_code
def yX1_canSay : MethodName := ⟨RX1, "canSay", "(LOneNote$Valley;II)Z"⟩
abbrev cX1_canSayAll : ByteArray := prog_3_method_7_code
def yX1_canSayAll : MethodName := ⟨RX1, "canSayAll", "(LOneNote$Valley;II)Z"⟩
abbrev cX1_chordsOf : ByteArray := prog_3_method_8_code
def yX1_chordsOf : MethodName := ⟨RX1, "chordsOf", "(LOneNote$Valley;I)I"⟩
abbrev cX1_smallestSet : ByteArray := prog_3_method_9_code
def yX1_smallestSet : MethodName := ⟨RX1, "smallestSet", "(LOneNote$Valley;II)I"⟩
abbrev cX1_blockers : ByteArray := prog_3_method_10_code
def yX1_blockers : MethodName := ⟨RX1, "blockers", "(LOneNote$Valley;II)I"⟩
abbrev cX1_setsSwungBy : ByteArray := prog_3_method_11_code
def yX1_setsSwungBy : MethodName := ⟨RX1, "setsSwungBy", "(LOneNote$Valley;III)I"⟩
abbrev cX1_bestCouple : ByteArray := prog_3_method_12_code
def yX1_bestCouple : MethodName := ⟨RX1, "bestCouple", "(LOneNote$Valley;LOneNote$Valley;I)I"⟩
def RX2 : String := "OneNote$Errand"
def TX2 : u_T := fun k => match k with
  | 0 => ("OneNote$Errand", "far", "[I", true)
  | 1 => ("OneNote$Errand", "steps", "I", false)
  | 2 => ("OneNote$Errand", "room", "I", false)
  | _ => ("OneNote$Errand", "set", "I", false)
def tyX2 : Nat → FieldType := fun k => match k with
  | 0 => .array .int
  | 1 => .int
  | 2 => .int
  | _ => .int
abbrev wsX20 : List Cond := u_ws RX2 TX2 4
theorem nmX2 : ∀ a, a < 4 → ∀ b, b < 4 → a ≠ b → (TX2 a).2.1 ≠ (TX2 b).2.1 := by decide +kernel
theorem tyX2_ok : ∀ k, k < 4 → parseFieldDescriptor (TX2 k).2.2.1 = some (tyX2 k) := by decide +kernel
abbrev cX2_init : ByteArray := prog_4_method_1_code
def yX2_init : MethodName := ⟨RX2, "<init>", "()V"⟩
abbrev cX2_seek : ByteArray := prog_4_method_2_code
def yX2_seek : MethodName := ⟨RX2, "seek", "(LOneNote$Valley;LOneNote$Choir;I)Z"⟩
abbrev cX2_measure : ByteArray := prog_4_method_3_code
def yX2_measure : MethodName := ⟨RX2, "measure", "(LOneNote$Valley;)V"⟩
abbrev cX2_spreadOnce : ByteArray := prog_4_method_4_code
def yX2_spreadOnce : MethodName := ⟨RX2, "spreadOnce", "(LOneNote$Valley;III)I"⟩
abbrev cX2_nearestRoom : ByteArray := prog_4_method_5_code
def yX2_nearestRoom : MethodName := ⟨RX2, "nearestRoom", "(LOneNote$Valley;II)I"⟩
abbrev cX2_stepsTo : ByteArray := prog_4_method_6_code
def yX2_stepsTo : MethodName := ⟨RX2, "stepsTo", "(LOneNote$Valley;III)I"⟩
abbrev cX2_isBetter : ByteArray := prog_4_method_7_code
def yX2_isBetter : MethodName := ⟨RX2, "isBetter", "(III)Z"⟩
def RX3 : String := "OneNote$Fog"
def TX3 : u_T := fun k => match k with
  | _ => ("OneNote$Fog", "rivals", "[I", true)
def tyX3 : Nat → FieldType := fun k => match k with
  | _ => .array .int
abbrev wsX30 : List Cond := u_ws RX3 TX3 1
theorem nmX3 : ∀ a, a < 1 → ∀ b, b < 1 → a ≠ b → (TX3 a).2.1 ≠ (TX3 b).2.1 := by decide +kernel
theorem tyX3_ok : ∀ k, k < 1 → parseFieldDescriptor (TX3 k).2.2.1 = some (tyX3 k) := by decide +kernel
abbrev cX3_init : ByteArray := prog_5_method_1_code
def yX3_init : MethodName := ⟨RX3, "<init>", "()V"⟩
abbrev cX3_confuses : ByteArray := prog_5_method_2_code
def yX3_confuses : MethodName := ⟨RX3, "confuses", "(III)Z"⟩
abbrev cX3_leastToGo : ByteArray := prog_5_method_3_code
def yX3_leastToGo : MethodName := ⟨RX3, "leastToGo", "(LOneNote$Valley;I)I"⟩
abbrev cX3_findRivals : ByteArray := prog_5_method_4_code
def yX3_findRivals : MethodName := ⟨RX3, "findRivals", "(LOneNote$Valley;I)V"⟩
abbrev cX3_isClear : ByteArray := prog_5_method_5_code
def yX3_isClear : MethodName := ⟨RX3, "isClear", "(I)Z"⟩
def RX4 : String := "OneNote$Fraction"
def TX4 : u_T := fun k => match k with
  | 0 => ("OneNote$Fraction", "above", "J", false)
  | _ => ("OneNote$Fraction", "below", "J", false)
def tyX4 : Nat → FieldType := fun k => match k with
  | 0 => .long
  | _ => .long
abbrev wsX40 : List Cond := u_ws RX4 TX4 2
theorem nmX4 : ∀ a, a < 2 → ∀ b, b < 2 → a ≠ b → (TX4 a).2.1 ≠ (TX4 b).2.1 := by decide +kernel
theorem tyX4_ok : ∀ k, k < 2 → parseFieldDescriptor (TX4 k).2.2.1 = some (tyX4 k) := by decide +kernel
abbrev cX4_init : ByteArray := prog_6_method_1_code
def yX4_init : MethodName := ⟨RX4, "<init>", "()V"⟩
abbrev cX4_become : ByteArray := prog_6_method_2_code
def yX4_become : MethodName := ⟨RX4, "become", "(JJ)V"⟩
abbrev cX4_commonDivisor : ByteArray := prog_6_method_3_code
def yX4_commonDivisor : MethodName := ⟨RX4, "commonDivisor", "(JJ)J"⟩
def RX5 : String := "OneNote$Guess"
def TX5 : u_T := fun k => match k with
  | _ => ("OneNote$Guess", "endingIn", "[J", true)
def tyX5 : Nat → FieldType := fun k => match k with
  | _ => .array .long
abbrev wsX50 : List Cond := u_ws RX5 TX5 1
theorem nmX5 : ∀ a, a < 1 → ∀ b, b < 1 → a ≠ b → (TX5 a).2.1 ≠ (TX5 b).2.1 := by decide +kernel
theorem tyX5_ok : ∀ k, k < 1 → parseFieldDescriptor (TX5 k).2.2.1 = some (tyX5 k) := by decide +kernel
abbrev cX5_init : ByteArray := prog_7_method_1_code
def yX5_init : MethodName := ⟨RX5, "<init>", "()V"⟩
abbrev cX5_countRows : ByteArray := prog_7_method_2_code
def yX5_countRows : MethodName := ⟨RX5, "countRows", "(LOneNote$Valley;)I"⟩
abbrev cX5_weighRows : ByteArray := prog_7_method_3_code
def yX5_weighRows : MethodName := ⟨RX5, "weighRows", "(LOneNote$Valley;II)J"⟩
abbrev cX5_sumRows : ByteArray := prog_7_method_4_code
def yX5_sumRows : MethodName := ⟨RX5, "sumRows", "(LOneNote$Valley;ZII)J"⟩
def RX6 : String := "OneNote$Ring"
def TX6 : u_T := fun k => match k with
  | _ => ("", "", "", false)
def tyX6 : Nat → FieldType := fun k => match k with
  | _ => .int
abbrev wsX60 : List Cond := u_ws RX6 TX6 0
theorem nmX6 : ∀ a, a < 0 → ∀ b, b < 0 → a ≠ b → (TX6 a).2.1 ≠ (TX6 b).2.1 := by decide +kernel
theorem tyX6_ok : ∀ k, k < 0 → parseFieldDescriptor (TX6 k).2.2.1 = some (tyX6 k) := by decide +kernel
abbrev cX6_isNote : ByteArray := prog_8_method_2_code
def yX6_isNote : MethodName := ⟨RX6, "isNote", "(I)Z"⟩
abbrev cX6_raised : ByteArray := prog_8_method_3_code
def yX6_raised : MethodName := ⟨RX6, "raised", "(II)I"⟩
abbrev cX6_near : ByteArray := prog_8_method_4_code
def yX6_near : MethodName := ⟨RX6, "near", "(II)I"⟩
abbrev cX6_filledByOneMore : ByteArray := prog_8_method_5_code
def yX6_filledByOneMore : MethodName := ⟨RX6, "filledByOneMore", "(III)I"⟩
abbrev cX6_isWholeChord : ByteArray := prog_8_method_6_code
def yX6_isWholeChord : MethodName := ⟨RX6, "isWholeChord", "(I)Z"⟩
def RX7 : String := "OneNote$Rumour"
def TX7 : u_T := fun k => match k with
  | 0 => ("OneNote$Rumour", "costs", "[I", true)
  | 1 => ("OneNote$Rumour", "peopled", "I", false)
  | _ => ("OneNote$Rumour", "goal", "I", false)
def tyX7 : Nat → FieldType := fun k => match k with
  | 0 => .array .int
  | 1 => .int
  | _ => .int
abbrev wsX70 : List Cond := u_ws RX7 TX7 3
theorem nmX7 : ∀ a, a < 3 → ∀ b, b < 3 → a ≠ b → (TX7 a).2.1 ≠ (TX7 b).2.1 := by decide +kernel
theorem tyX7_ok : ∀ k, k < 3 → parseFieldDescriptor (TX7 k).2.2.1 = some (tyX7 k) := by decide +kernel
abbrev cX7_init : ByteArray := prog_9_method_1_code
def yX7_init : MethodName := ⟨RX7, "<init>", "()V"⟩
abbrev cX7_spread : ByteArray := prog_9_method_2_code
def yX7_spread : MethodName := ⟨RX7, "spread", "(LOneNote$Valley;I)V"⟩
abbrev cX7_costBy : ByteArray := prog_9_method_3_code
def yX7_costBy : MethodName := ⟨RX7, "costBy", "(I)I"⟩
abbrev cX7_nextRoom : ByteArray := prog_9_method_4_code
def yX7_nextRoom : MethodName := ⟨RX7, "nextRoom", "(LOneNote$Valley;I)I"⟩
abbrev cX7_sentFrom : ByteArray := prog_9_method_5_code
def yX7_sentFrom : MethodName := ⟨RX7, "sentFrom", "(I)I"⟩
abbrev cX7_roomOfRow : ByteArray := prog_9_method_6_code
def yX7_roomOfRow : MethodName := ⟨RX7, "roomOfRow", "(LOneNote$Valley;II)I"⟩
def RX8 : String := "OneNote$Text"
def TX8 : u_T := fun k => match k with
  | 0 => ("OneNote$Text", "bytes", "[B", true)
  | 1 => ("OneNote$Text", "length", "I", false)
  | 2 => ("OneNote$Text", "at", "I", false)
  | 3 => ("OneNote$Text", "token", "I", false)
  | 4 => ("OneNote$Text", "tokenStart", "I", false)
  | 5 => ("OneNote$Text", "tokenValue", "I", false)
  | 6 => ("OneNote$Text", "item", "I", false)
  | _ => ("OneNote$Text", "numbers", "[I", true)
def tyX8 : Nat → FieldType := fun k => match k with
  | 0 => .array .byte
  | 1 => .int
  | 2 => .int
  | 3 => .int
  | 4 => .int
  | 5 => .int
  | 6 => .int
  | _ => .array .int
abbrev wsX80 : List Cond := u_ws RX8 TX8 8
theorem nmX8 : ∀ a, a < 8 → ∀ b, b < 8 → a ≠ b → (TX8 a).2.1 ≠ (TX8 b).2.1 := by decide +kernel
theorem tyX8_ok : ∀ k, k < 8 → parseFieldDescriptor (TX8 k).2.2.1 = some (tyX8 k) := by decide +kernel
abbrev cX8_init : ByteArray := prog_10_method_1_code
def yX8_init : MethodName := ⟨RX8, "<init>", "()V"⟩
abbrev cX8_append : ByteArray := prog_10_method_2_code
def yX8_append : MethodName := ⟨RX8, "append", "(JI)I"⟩
abbrev cX8_erase : ByteArray := prog_10_method_3_code
def yX8_erase : MethodName := ⟨RX8, "erase", "()I"⟩
abbrev cX8_tellTo : ByteArray := prog_10_method_4_code
def yX8_tellTo : MethodName := ⟨RX8, "tellTo", "(LOneNote$Valley;)I"⟩
abbrev cX8_readItem : ByteArray := prog_10_method_5_code
def yX8_readItem : MethodName := ⟨RX8, "readItem", "()Z"⟩
abbrev cX8_tellItem : ByteArray := prog_10_method_6_code
def yX8_tellItem : MethodName := ⟨RX8, "tellItem", "(LOneNote$Valley;)I"⟩
abbrev cX8_readToken : ByteArray := prog_10_method_7_code
def yX8_readToken : MethodName := ⟨RX8, "readToken", "()V"⟩
abbrev cX8_readWord : ByteArray := prog_10_method_8_code
def yX8_readWord : MethodName := ⟨RX8, "readWord", "()V"⟩
abbrev cX8_readNumber : ByteArray := prog_10_method_9_code
def yX8_readNumber : MethodName := ⟨RX8, "readNumber", "()V"⟩
abbrev cX8_isLetter : ByteArray := prog_10_method_10_code
def yX8_isLetter : MethodName := ⟨RX8, "isLetter", "(I)Z"⟩
abbrev cX8_isFigure : ByteArray := prog_10_method_11_code
def yX8_isFigure : MethodName := ⟨RX8, "isFigure", "(I)Z"⟩
abbrev cX8_isTokenWord : ByteArray := prog_10_method_12_code
def yX8_isTokenWord : MethodName := ⟨RX8, "isTokenWord", "(Ljava/lang/String;)Z"⟩
abbrev cX8_wordOf : ByteArray := prog_10_method_13_code
def yX8_wordOf : MethodName := ⟨RX8, "wordOf", "(I)Ljava/lang/String;"⟩
def RX9 : String := "OneNote$Valley"
def TX9 : u_T := fun k => match k with
  | 0 => ("OneNote$Valley", "doors", "[I", true)
  | 1 => ("OneNote$Valley", "hearing", "[I", true)
  | 2 => ("OneNote$Valley", "kinds", "[I", true)
  | 3 => ("OneNote$Valley", "births", "[I", true)
  | 4 => ("OneNote$Valley", "places", "[I", true)
  | 5 => ("OneNote$Valley", "spouses", "[I", true)
  | 6 => ("OneNote$Valley", "people", "I", false)
  | 7 => ("OneNote$Valley", "chordNotes", "[I", true)
  | 8 => ("OneNote$Valley", "uses", "[I", true)
  | 9 => ("OneNote$Valley", "chords", "I", false)
  | 10 => ("OneNote$Valley", "looseness", "I", false)
  | 11 => ("OneNote$Valley", "speech", "[I", true)
  | 12 => ("OneNote$Valley", "speechLength", "I", false)
  | 13 => ("OneNote$Valley", "holes", "[I", true)
  | _ => ("OneNote$Valley", "holeCount", "I", false)
def tyX9 : Nat → FieldType := fun k => match k with
  | 0 => .array .int
  | 1 => .array .int
  | 2 => .array .int
  | 3 => .array .int
  | 4 => .array .int
  | 5 => .array .int
  | 6 => .int
  | 7 => .array .int
  | 8 => .array .int
  | 9 => .int
  | 10 => .int
  | 11 => .array .int
  | 12 => .int
  | 13 => .array .int
  | _ => .int
abbrev wsX90 : List Cond := u_ws RX9 TX9 15
theorem nmX9 : ∀ a, a < 15 → ∀ b, b < 15 → a ≠ b → (TX9 a).2.1 ≠ (TX9 b).2.1 := by decide +kernel
theorem tyX9_ok : ∀ k, k < 15 → parseFieldDescriptor (TX9 k).2.2.1 = some (tyX9 k) := by decide +kernel
abbrev cX9_init : ByteArray := prog_11_method_1_code
def yX9_init : MethodName := ⟨RX9, "<init>", "()V"⟩
abbrev cX9_isPerson : ByteArray := prog_11_method_2_code
def yX9_isPerson : MethodName := ⟨RX9, "isPerson", "(I)Z"⟩
abbrev cX9_isSet : ByteArray := prog_11_method_3_code
def yX9_isSet : MethodName := ⟨RX9, "isSet", "(I)Z"⟩
abbrev cX9_isMember : ByteArray := prog_11_method_4_code
def yX9_isMember : MethodName := ⟨RX9, "isMember", "(II)Z"⟩
abbrev cX9_isChord : ByteArray := prog_11_method_5_code
def yX9_isChord : MethodName := ⟨RX9, "isChord", "(I)Z"⟩
abbrev cX9_isHole : ByteArray := prog_11_method_6_code
def yX9_isHole : MethodName := ⟨RX9, "isHole", "(I)Z"⟩
abbrev cX9_hasDoor : ByteArray := prog_11_method_7_code
def yX9_hasDoor : MethodName := ⟨RX9, "hasDoor", "(II)Z"⟩
abbrev cX9_addDoor : ByteArray := prog_11_method_8_code
def yX9_addDoor : MethodName := ⟨RX9, "addDoor", "(II)I"⟩
abbrev cX9_addHearing : ByteArray := prog_11_method_9_code
def yX9_addHearing : MethodName := ⟨RX9, "addHearing", "(II)I"⟩
abbrev cX9_join : ByteArray := prog_11_method_10_code
def yX9_join : MethodName := ⟨RX9, "join", "([III)I"⟩
abbrev cX9_addPerson : ByteArray := prog_11_method_11_code
def yX9_addPerson : MethodName := ⟨RX9, "addPerson", "(III)I"⟩
abbrev cX9_addMates : ByteArray := prog_11_method_12_code
def yX9_addMates : MethodName := ⟨RX9, "addMates", "(II)I"⟩
abbrev cX9_wed : ByteArray := prog_11_method_13_code
def yX9_wed : MethodName := ⟨RX9, "wed", "(II)V"⟩
abbrev cX9_freeSpouseOf : ByteArray := prog_11_method_14_code
def yX9_freeSpouseOf : MethodName := ⟨RX9, "freeSpouseOf", "(I)V"⟩
abbrev cX9_move : ByteArray := prog_11_method_15_code
def yX9_move : MethodName := ⟨RX9, "move", "(II)I"⟩
abbrev cX9_addChord : ByteArray := prog_11_method_16_code
def yX9_addChord : MethodName := ⟨RX9, "addChord", "(IIII)I"⟩
abbrev cX9_hasChordOf : ByteArray := prog_11_method_17_code
def yX9_hasChordOf : MethodName := ⟨RX9, "hasChordOf", "(I)Z"⟩
abbrev cX9_changeSlack : ByteArray := prog_11_method_18_code
def yX9_changeSlack : MethodName := ⟨RX9, "changeSlack", "(I)I"⟩
abbrev cX9_addToSpeech : ByteArray := prog_11_method_19_code
def yX9_addToSpeech : MethodName := ⟨RX9, "addToSpeech", "(I)I"⟩
abbrev cX9_endSpeech : ByteArray := prog_11_method_20_code
def yX9_endSpeech : MethodName := ⟨RX9, "endSpeech", "()I"⟩
abbrev cX9_addHole : ByteArray := prog_11_method_21_code
def yX9_addHole : MethodName := ⟨RX9, "addHole", "(I)I"⟩
abbrev cX9_endHoles : ByteArray := prog_11_method_22_code
def yX9_endHoles : MethodName := ⟨RX9, "endHoles", "()I"⟩
abbrev cX9_peopleIn : ByteArray := prog_11_method_23_code
def yX9_peopleIn : MethodName := ⟨RX9, "peopleIn", "(I)I"⟩
abbrev cX9_chordsWith : ByteArray := prog_11_method_24_code
def yX9_chordsWith : MethodName := ⟨RX9, "chordsWith", "(I)I"⟩
abbrev cX9_chordsOfSpeech : ByteArray := prog_11_method_25_code
def yX9_chordsOfSpeech : MethodName := ⟨RX9, "chordsOfSpeech", "()I"⟩
abbrev cX9_becomeEmpty : ByteArray := prog_11_method_26_code
def yX9_becomeEmpty : MethodName := ⟨RX9, "becomeEmpty", "()V"⟩
abbrev cX9_copyAll : ByteArray := prog_11_method_27_code
def yX9_copyAll : MethodName := ⟨RX9, "copyAll", "(LOneNote$Valley;)V"⟩
abbrev cX9_copyPeople : ByteArray := prog_11_method_28_code
def yX9_copyPeople : MethodName := ⟨RX9, "copyPeople", "(LOneNote$Valley;)V"⟩
abbrev cX9_digestOn : ByteArray := prog_11_method_29_code
def yX9_digestOn : MethodName := ⟨RX9, "digestOn", "(J)J"⟩
abbrev cX9_digestOfRooms : ByteArray := prog_11_method_30_code
def yX9_digestOfRooms : MethodName := ⟨RX9, "digestOfRooms", "(J)J"⟩
def RX10 : String := "OneNote"
def TX10 : u_T := fun k => match k with
  | 0 => ("OneNote", "valley", "LOneNote$Valley;", true)
  | 1 => ("OneNote", "draft", "LOneNote$Valley;", true)
  | 2 => ("OneNote", "images", "[LOneNote$Valley;", true)
  | 3 => ("OneNote", "imagesKept", "I", false)
  | 4 => ("OneNote", "text", "LOneNote$Text;", true)
  | 5 => ("OneNote", "fraction", "LOneNote$Fraction;", true)
  | 6 => ("OneNote", "refusedAsBad", "I", false)
  | 7 => ("OneNote", "refusedAsNo", "I", false)
  | 8 => ("OneNote", "refusedAsFull", "I", false)
  | 9 => ("OneNote", "choir", "LOneNote$Choir;", true)
  | 10 => ("OneNote", "errand", "LOneNote$Errand;", true)
  | 11 => ("OneNote", "fogOverChords", "LOneNote$Fog;", true)
  | 12 => ("OneNote", "rumour", "LOneNote$Rumour;", true)
  | 13 => ("OneNote", "guess", "LOneNote$Guess;", true)
  | _ => ("OneNote", "chant", "LOneNote$Chant;", true)
def tyX10 : Nat → FieldType := fun k => match k with
  | 0 => .object "OneNote$Valley"
  | 1 => .object "OneNote$Valley"
  | 2 => .array (.object "OneNote$Valley")
  | 3 => .int
  | 4 => .object "OneNote$Text"
  | 5 => .object "OneNote$Fraction"
  | 6 => .int
  | 7 => .int
  | 8 => .int
  | 9 => .object "OneNote$Choir"
  | 10 => .object "OneNote$Errand"
  | 11 => .object "OneNote$Fog"
  | 12 => .object "OneNote$Rumour"
  | 13 => .object "OneNote$Guess"
  | _ => .object "OneNote$Chant"
abbrev wsX100 : List Cond := u_ws RX10 TX10 15
theorem nmX10 : ∀ a, a < 15 → ∀ b, b < 15 → a ≠ b → (TX10 a).2.1 ≠ (TX10 b).2.1 := by decide +kernel
theorem tyX10_ok : ∀ k, k < 15 → parseFieldDescriptor (TX10 k).2.2.1 = some (tyX10 k) := by decide +kernel
abbrev cX10_init : ByteArray := prog_1_method_1_code
def yX10_init : MethodName := ⟨RX10, "<init>", "()V"⟩
abbrev cX10_door : ByteArray := prog_1_method_2_code
def yX10_door : MethodName := ⟨RX10, "door", "(II)I"⟩
abbrev cX10_hears : ByteArray := prog_1_method_3_code
def yX10_hears : MethodName := ⟨RX10, "hears", "(II)I"⟩
abbrev cX10_one : ByteArray := prog_1_method_4_code
def yX10_one : MethodName := ⟨RX10, "one", "(III)I"⟩
abbrev cX10_mates : ByteArray := prog_1_method_5_code
def yX10_mates : MethodName := ⟨RX10, "mates", "(II)I"⟩
abbrev cX10_goes : ByteArray := prog_1_method_6_code
def yX10_goes : MethodName := ⟨RX10, "goes", "(II)I"⟩
abbrev cX10_chord : ByteArray := prog_1_method_7_code
def yX10_chord : MethodName := ⟨RX10, "chord", "(IIII)I"⟩
abbrev cX10_slack : ByteArray := prog_1_method_8_code
def yX10_slack : MethodName := ⟨RX10, "slack", "(I)I"⟩
abbrev cX10_sounds : ByteArray := prog_1_method_9_code
def yX10_sounds : MethodName := ⟨RX10, "sounds", "(II)I"⟩
abbrev cX10_type : ByteArray := prog_1_method_10_code
def yX10_type : MethodName := ⟨RX10, "type", "(JI)I"⟩
abbrev cX10_clear : ByteArray := prog_1_method_11_code
def yX10_clear : MethodName := ⟨RX10, "clear", "()I"⟩
abbrev cX10_read : ByteArray := prog_1_method_12_code
def yX10_read : MethodName := ⟨RX10, "read", "()I"⟩
abbrev cX10_says : ByteArray := prog_1_method_13_code
def yX10_says : MethodName := ⟨RX10, "says", "(II)I"⟩
abbrev cX10_said : ByteArray := prog_1_method_14_code
def yX10_said : MethodName := ⟨RX10, "said", "(I)I"⟩
abbrev cX10_byDoor : ByteArray := prog_1_method_15_code
def yX10_byDoor : MethodName := ⟨RX10, "byDoor", "(II)I"⟩
abbrev cX10_fewest : ByteArray := prog_1_method_16_code
def yX10_fewest : MethodName := ⟨RX10, "fewest", "(II)I"⟩
abbrev cX10_speak : ByteArray := prog_1_method_17_code
def yX10_speak : MethodName := ⟨RX10, "speak", "(I)I"⟩
abbrev cX10_hush : ByteArray := prog_1_method_18_code
def yX10_hush : MethodName := ⟨RX10, "hush", "()I"⟩
abbrev cX10_fetch : ByteArray := prog_1_method_19_code
def yX10_fetch : MethodName := ⟨RX10, "fetch", "(I)I"⟩
abbrev cX10_inTime : ByteArray := prog_1_method_20_code
def yX10_inTime : MethodName := ⟨RX10, "inTime", "(I)I"⟩
abbrev cX10_taken : ByteArray := prog_1_method_21_code
def yX10_taken : MethodName := ⟨RX10, "taken", "(III)I"⟩
abbrev cX10_drop : ByteArray := prog_1_method_22_code
def yX10_drop : MethodName := ⟨RX10, "drop", "(I)I"⟩
abbrev cX10_news : ByteArray := prog_1_method_23_code
def yX10_news : MethodName := ⟨RX10, "news", "(III)I"⟩
abbrev cX10_hole : ByteArray := prog_1_method_24_code
def yX10_hole : MethodName := ⟨RX10, "hole", "(I)I"⟩
abbrev cX10_whole : ByteArray := prog_1_method_25_code
def yX10_whole : MethodName := ⟨RX10, "whole", "()I"⟩
abbrev cX10_meant : ByteArray := prog_1_method_26_code
def yX10_meant : MethodName := ⟨RX10, "meant", "(I)I"⟩
abbrev cX10_ways : ByteArray := prog_1_method_27_code
def yX10_ways : MethodName := ⟨RX10, "ways", "()I"⟩
abbrev cX10_odds : ByteArray := prog_1_method_28_code
def yX10_odds : MethodName := ⟨RX10, "odds", "(II)I"⟩
abbrev cX10_block : ByteArray := prog_1_method_29_code
def yX10_block : MethodName := ⟨RX10, "block", "(II)I"⟩
abbrev cX10_swing : ByteArray := prog_1_method_30_code
def yX10_swing : MethodName := ⟨RX10, "swing", "(III)I"⟩
abbrev cX10_song : ByteArray := prog_1_method_31_code
def yX10_song : MethodName := ⟨RX10, "song", "(III)I"⟩
abbrev cX10_couple : ByteArray := prog_1_method_32_code
def yX10_couple : MethodName := ⟨RX10, "couple", "(I)I"⟩
abbrev cX10_part : ByteArray := prog_1_method_33_code
def yX10_part : MethodName := ⟨RX10, "part", "(I)J"⟩
abbrev cX10_image : ByteArray := prog_1_method_34_code
def yX10_image : MethodName := ⟨RX10, "image", "(I)I"⟩
abbrev cX10_from : ByteArray := prog_1_method_35_code
def yX10_from : MethodName := ⟨RX10, "from", "(I)I"⟩
abbrev cX10_status : ByteArray := prog_1_method_36_code
def yX10_status : MethodName := ⟨RX10, "status", "(I)I"⟩
abbrev cX10_count : ByteArray := prog_1_method_37_code
def yX10_count : MethodName := ⟨RX10, "count", "(I)I"⟩
abbrev cX10_digest : ByteArray := prog_1_method_38_code
def yX10_digest : MethodName := ⟨RX10, "digest", "()J"⟩
abbrev cX10_told : ByteArray := prog_1_method_39_code
def yX10_told : MethodName := ⟨RX10, "told", "(I)I"⟩
abbrev cX10_badForRows : ByteArray := prog_1_method_40_code
def yX10_badForRows : MethodName := ⟨RX10, "badForRows", "()I"⟩
abbrev cX10_amount : ByteArray := prog_1_method_41_code
def yX10_amount : MethodName := ⟨RX10, "amount", "(I)I"⟩
abbrev cX10_isRoom : ByteArray := prog_1_method_42_code
def yX10_isRoom : MethodName := ⟨RX10, "isRoom", "(I)Z"⟩
abbrev cX10_isFog : ByteArray := prog_1_method_43_code
def yX10_isFog : MethodName := ⟨RX10, "isFog", "(I)Z"⟩
abbrev cX10_isImage : ByteArray := prog_1_method_44_code
def yX10_isImage : MethodName := ⟨RX10, "isImage", "(I)Z"⟩
def RX11 : String := "OneNoteModel"
def TX11 : u_T := fun k => match k with
  | 0 => ("OneNoteModel", "w", "[I", true)
  | 1 => ("OneNoteModel", "isKept", "[Z", true)
  | 2 => ("OneNoteModel", "text", "[I", true)
  | 3 => ("OneNoteModel", "texted", "I", false)
  | 4 => ("OneNoteModel", "above", "J", false)
  | 5 => ("OneNoteModel", "below", "J", false)
  | 6 => ("OneNoteModel", "refused", "[I", true)
  | 7 => ("OneNoteModel", "itemWord", "[I", true)
  | 8 => ("OneNoteModel", "number", "[I", true)
  | 9 => ("OneNoteModel", "items", "I", false)
  | 10 => ("OneNoteModel", "at", "I", false)
  | 11 => ("OneNoteModel", "fault", "I", false)
  | 12 => ("OneNoteModel", "reach", "[I", true)
  | 13 => ("OneNoteModel", "far", "[I", true)
  | 14 => ("OneNoteModel", "fetchedSteps", "I", false)
  | 15 => ("OneNoteModel", "fetchedRoom", "I", false)
  | 16 => ("OneNoteModel", "fetchedSet", "I", false)
  | 17 => ("OneNoteModel", "takenFor", "[I", true)
  | 18 => ("OneNoteModel", "costs", "[I", true)
  | 19 => ("OneNoteModel", "ends", "[J", true)
  | 20 => ("OneNoteModel", "next", "[J", true)
  | 21 => ("OneNoteModel", "orders", "[I", true)
  | _ => ("OneNoteModel", "h", "J", false)
def tyX11 : Nat → FieldType := fun k => match k with
  | 0 => .array .int
  | 1 => .array .boolean
  | 2 => .array .int
  | 3 => .int
  | 4 => .long
  | 5 => .long
  | 6 => .array .int
  | 7 => .array .int
  | 8 => .array .int
  | 9 => .int
  | 10 => .int
  | 11 => .int
  | 12 => .array .int
  | 13 => .array .int
  | 14 => .int
  | 15 => .int
  | 16 => .int
  | 17 => .array .int
  | 18 => .array .int
  | 19 => .array .long
  | 20 => .array .long
  | 21 => .array .int
  | _ => .long
abbrev wsX110 : List Cond := u_ws RX11 TX11 23
theorem nmX11 : ∀ a, a < 23 → ∀ b, b < 23 → a ≠ b → (TX11 a).2.1 ≠ (TX11 b).2.1 := by decide +kernel
theorem tyX11_ok : ∀ k, k < 23 → parseFieldDescriptor (TX11 k).2.2.1 = some (tyX11 k) := by decide +kernel
abbrev cX11_init : ByteArray := prog_13_method_1_code
def yX11_init : MethodName := ⟨RX11, "<init>", "()V"⟩
abbrev cX11_in : ByteArray := prog_13_method_3_code
def yX11_in : MethodName := ⟨RX11, "in", "(JJJ)Z"⟩
abbrev cX11_told : ByteArray := prog_13_method_4_code
def yX11_told : MethodName := ⟨RX11, "told", "(I)I"⟩
abbrev cX11_isRoom : ByteArray := prog_13_method_5_code
def yX11_isRoom : MethodName := ⟨RX11, "isRoom", "(I)Z"⟩
abbrev cX11_isOne : ByteArray := prog_13_method_6_code
def yX11_isOne : MethodName := ⟨RX11, "isOne", "(II)Z"⟩
abbrev cX11_isChord : ByteArray := prog_13_method_7_code
def yX11_isChord : MethodName := ⟨RX11, "isChord", "(I)Z"⟩
abbrev cX11_isSet : ByteArray := prog_13_method_8_code
def yX11_isSet : MethodName := ⟨RX11, "isSet", "(I)Z"⟩
abbrev cX11_has : ByteArray := prog_13_method_9_code
def yX11_has : MethodName := ⟨RX11, "has", "(II)Z"⟩
abbrev cX11_ones : ByteArray := prog_13_method_10_code
def yX11_ones : MethodName := ⟨RX11, "ones", "(I)I"⟩
abbrev cX11_copy : ByteArray := prog_13_method_11_code
def yX11_copy : MethodName := ⟨RX11, "copy", "(II)V"⟩
abbrev cX11_tie : ByteArray := prog_13_method_12_code
def yX11_tie : MethodName := ⟨RX11, "tie", "(IIII)I"⟩
abbrev cX11_addOne : ByteArray := prog_13_method_13_code
def yX11_addOne : MethodName := ⟨RX11, "addOne", "(IIII)I"⟩
abbrev cX11_addMates : ByteArray := prog_13_method_14_code
def yX11_addMates : MethodName := ⟨RX11, "addMates", "(III)I"⟩
abbrev cX11_addChord : ByteArray := prog_13_method_15_code
def yX11_addChord : MethodName := ⟨RX11, "addChord", "(IIIII)I"⟩
abbrev cX11_setSlack : ByteArray := prog_13_method_16_code
def yX11_setSlack : MethodName := ⟨RX11, "setSlack", "(II)I"⟩
abbrev cX11_door : ByteArray := prog_13_method_17_code
def yX11_door : MethodName := ⟨RX11, "door", "(II)I"⟩
abbrev cX11_hears : ByteArray := prog_13_method_18_code
def yX11_hears : MethodName := ⟨RX11, "hears", "(II)I"⟩
abbrev cX11_one : ByteArray := prog_13_method_19_code
def yX11_one : MethodName := ⟨RX11, "one", "(III)I"⟩
abbrev cX11_mates : ByteArray := prog_13_method_20_code
def yX11_mates : MethodName := ⟨RX11, "mates", "(II)I"⟩
abbrev cX11_goes : ByteArray := prog_13_method_21_code
def yX11_goes : MethodName := ⟨RX11, "goes", "(II)I"⟩
abbrev cX11_chord : ByteArray := prog_13_method_22_code
def yX11_chord : MethodName := ⟨RX11, "chord", "(IIII)I"⟩
abbrev cX11_slack : ByteArray := prog_13_method_23_code
def yX11_slack : MethodName := ⟨RX11, "slack", "(I)I"⟩
abbrev cX11_turned : ByteArray := prog_13_method_24_code
def yX11_turned : MethodName := ⟨RX11, "turned", "(II)I"⟩
abbrev cX11_soundsOf : ByteArray := prog_13_method_25_code
def yX11_soundsOf : MethodName := ⟨RX11, "soundsOf", "(III)I"⟩
abbrev cX11_sounds : ByteArray := prog_13_method_26_code
def yX11_sounds : MethodName := ⟨RX11, "sounds", "(II)I"⟩
abbrev cX11_type : ByteArray := prog_13_method_27_code
def yX11_type : MethodName := ⟨RX11, "type", "(JI)I"⟩
abbrev cX11_clear : ByteArray := prog_13_method_28_code
def yX11_clear : MethodName := ⟨RX11, "clear", "()I"⟩
abbrev cX11_isEnd : ByteArray := prog_13_method_29_code
def yX11_isEnd : MethodName := ⟨RX11, "isEnd", "()Z"⟩
abbrev cX11_wordOf : ByteArray := prog_13_method_30_code
def yX11_wordOf : MethodName := ⟨RX11, "wordOf", "(J)I"⟩
abbrev cX11_numbersOf : ByteArray := prog_13_method_31_code
def yX11_numbersOf : MethodName := ⟨RX11, "numbersOf", "(I)I"⟩
abbrev cX11_takeWord : ByteArray := prog_13_method_32_code
def yX11_takeWord : MethodName := ⟨RX11, "takeWord", "()I"⟩
abbrev cX11_takeNumber : ByteArray := prog_13_method_33_code
def yX11_takeNumber : MethodName := ⟨RX11, "takeNumber", "()I"⟩
abbrev cX11_takeItem : ByteArray := prog_13_method_34_code
def yX11_takeItem : MethodName := ⟨RX11, "takeItem", "()V"⟩
abbrev cX11_tellItem : ByteArray := prog_13_method_35_code
def yX11_tellItem : MethodName := ⟨RX11, "tellItem", "(I)I"⟩
abbrev cX11_read : ByteArray := prog_13_method_36_code
def yX11_read : MethodName := ⟨RX11, "read", "()I"⟩
abbrev cX11_reachOf : ByteArray := prog_13_method_37_code
def yX11_reachOf : MethodName := ⟨RX11, "reachOf", "(IIII)I"⟩
abbrev cX11_doesSay : ByteArray := prog_13_method_38_code
def yX11_doesSay : MethodName := ⟨RX11, "doesSay", "(III)Z"⟩
abbrev cX11_saidBy : ByteArray := prog_13_method_39_code
def yX11_saidBy : MethodName := ⟨RX11, "saidBy", "(II)I"⟩
abbrev cX11_setIn : ByteArray := prog_13_method_40_code
def yX11_setIn : MethodName := ⟨RX11, "setIn", "(I)I"⟩
abbrev cX11_says : ByteArray := prog_13_method_41_code
def yX11_says : MethodName := ⟨RX11, "says", "(II)I"⟩
abbrev cX11_said : ByteArray := prog_13_method_42_code
def yX11_said : MethodName := ⟨RX11, "said", "(I)I"⟩
abbrev cX11_byDoor : ByteArray := prog_13_method_43_code
def yX11_byDoor : MethodName := ⟨RX11, "byDoor", "(II)I"⟩
abbrev cX11_fewest : ByteArray := prog_13_method_44_code
def yX11_fewest : MethodName := ⟨RX11, "fewest", "(II)I"⟩
abbrev cX11_speak : ByteArray := prog_13_method_45_code
def yX11_speak : MethodName := ⟨RX11, "speak", "(I)I"⟩
abbrev cX11_hush : ByteArray := prog_13_method_46_code
def yX11_hush : MethodName := ⟨RX11, "hush", "()I"⟩
abbrev cX11_measure : ByteArray := prog_13_method_47_code
def yX11_measure : MethodName := ⟨RX11, "measure", "()V"⟩
abbrev cX11_stepsOf : ByteArray := prog_13_method_48_code
def yX11_stepsOf : MethodName := ⟨RX11, "stepsOf", "(III)I"⟩
abbrev cX11_fetchBy : ByteArray := prog_13_method_49_code
def yX11_fetchBy : MethodName := ⟨RX11, "fetchBy", "(I)V"⟩
abbrev cX11_fetch : ByteArray := prog_13_method_50_code
def yX11_fetch : MethodName := ⟨RX11, "fetch", "(I)I"⟩
abbrev cX11_inTime : ByteArray := prog_13_method_51_code
def yX11_inTime : MethodName := ⟨RX11, "inTime", "(I)I"⟩
abbrev cX11_noteOf : ByteArray := prog_13_method_52_code
def yX11_noteOf : MethodName := ⟨RX11, "noteOf", "(II)I"⟩
abbrev cX11_areNear : ByteArray := prog_13_method_53_code
def yX11_areNear : MethodName := ⟨RX11, "areNear", "(III)Z"⟩
abbrev cX11_areTaken : ByteArray := prog_13_method_54_code
def yX11_areTaken : MethodName := ⟨RX11, "areTaken", "(III)Z"⟩
abbrev cX11_taken : ByteArray := prog_13_method_55_code
def yX11_taken : MethodName := ⟨RX11, "taken", "(III)I"⟩
abbrev cX11_drop : ByteArray := prog_13_method_56_code
def yX11_drop : MethodName := ⟨RX11, "drop", "(I)I"⟩
abbrev cX11_costOn : ByteArray := prog_13_method_57_code
def yX11_costOn : MethodName := ⟨RX11, "costOn", "(III)I"⟩
abbrev cX11_findCosts : ByteArray := prog_13_method_58_code
def yX11_findCosts : MethodName := ⟨RX11, "findCosts", "(I)V"⟩
abbrev cX11_news : ByteArray := prog_13_method_59_code
def yX11_news : MethodName := ⟨RX11, "news", "(III)I"⟩
abbrev cX11_isHole : ByteArray := prog_13_method_60_code
def yX11_isHole : MethodName := ⟨RX11, "isHole", "(I)Z"⟩
abbrev cX11_hole : ByteArray := prog_13_method_61_code
def yX11_hole : MethodName := ⟨RX11, "hole", "(I)I"⟩
abbrev cX11_whole : ByteArray := prog_13_method_62_code
def yX11_whole : MethodName := ⟨RX11, "whole", "()I"⟩
abbrev cX11_meantBy : ByteArray := prog_13_method_63_code
def yX11_meantBy : MethodName := ⟨RX11, "meantBy", "(I)I"⟩
abbrev cX11_meant : ByteArray := prog_13_method_64_code
def yX11_meant : MethodName := ⟨RX11, "meant", "(I)I"⟩
abbrev cX11_rows : ByteArray := prog_13_method_65_code
def yX11_rows : MethodName := ⟨RX11, "rows", "(ZII)J"⟩
abbrev cX11_ways : ByteArray := prog_13_method_66_code
def yX11_ways : MethodName := ⟨RX11, "ways", "()I"⟩
abbrev cX11_share : ByteArray := prog_13_method_67_code
def yX11_share : MethodName := ⟨RX11, "share", "(JJ)I"⟩
abbrev cX11_odds : ByteArray := prog_13_method_68_code
def yX11_odds : MethodName := ⟨RX11, "odds", "(II)I"⟩
abbrev cX11_block : ByteArray := prog_13_method_69_code
def yX11_block : MethodName := ⟨RX11, "block", "(II)I"⟩
abbrev cX11_swing : ByteArray := prog_13_method_70_code
def yX11_swing : MethodName := ⟨RX11, "swing", "(III)I"⟩
abbrev cX11_findOrders : ByteArray := prog_13_method_71_code
def yX11_findOrders : MethodName := ⟨RX11, "findOrders", "(II)V"⟩
abbrev cX11_song : ByteArray := prog_13_method_72_code
def yX11_song : MethodName := ⟨RX11, "song", "(III)I"⟩
abbrev cX11_divorce : ByteArray := prog_13_method_73_code
def yX11_divorce : MethodName := ⟨RX11, "divorce", "(II)V"⟩
abbrev cX11_couple : ByteArray := prog_13_method_74_code
def yX11_couple : MethodName := ⟨RX11, "couple", "(I)I"⟩
abbrev cX11_part : ByteArray := prog_13_method_75_code
def yX11_part : MethodName := ⟨RX11, "part", "(I)J"⟩
abbrev cX11_image : ByteArray := prog_13_method_76_code
def yX11_image : MethodName := ⟨RX11, "image", "(I)I"⟩
abbrev cX11_from : ByteArray := prog_13_method_77_code
def yX11_from : MethodName := ⟨RX11, "from", "(I)I"⟩
abbrev cX11_status : ByteArray := prog_13_method_78_code
def yX11_status : MethodName := ⟨RX11, "status", "(I)I"⟩
abbrev cX11_countOf : ByteArray := prog_13_method_79_code
def yX11_countOf : MethodName := ⟨RX11, "countOf", "(I)I"⟩
abbrev cX11_count : ByteArray := prog_13_method_80_code
def yX11_count : MethodName := ⟨RX11, "count", "(I)I"⟩
abbrev cX11_mix : ByteArray := prog_13_method_81_code
def yX11_mix : MethodName := ⟨RX11, "mix", "(J)V"⟩
abbrev cX11_mixAll : ByteArray := prog_13_method_82_code
def yX11_mixAll : MethodName := ⟨RX11, "mixAll", "(II)V"⟩
abbrev cX11_digest : ByteArray := prog_13_method_83_code
def yX11_digest : MethodName := ⟨RX11, "digest", "()J"⟩
def RJx145de : String := "java/io/Serializable"
def TJx145de : u_T := fun k => match k with
  | _ => ("", "", "", false)
def tyJx145de : Nat → FieldType := fun k => match k with
  | _ => .int
abbrev wsJx145de0 : List Cond := u_ws RJx145de TJx145de 0
theorem nmJx145de : ∀ a, a < 0 → ∀ b, b < 0 → a ≠ b → (TJx145de a).2.1 ≠ (TJx145de b).2.1 := by decide +kernel
theorem tyJx145de_ok : ∀ k, k < 0 → parseFieldDescriptor (TJx145de k).2.2.1 = some (tyJx145de k) := by decide +kernel
def RJx9f9b0 : String := "java/lang/CharSequence"
def TJx9f9b0 : u_T := fun k => match k with
  | _ => ("", "", "", false)
def tyJx9f9b0 : Nat → FieldType := fun k => match k with
  | _ => .int
abbrev wsJx9f9b00 : List Cond := u_ws RJx9f9b0 TJx9f9b0 0
theorem nmJx9f9b0 : ∀ a, a < 0 → ∀ b, b < 0 → a ≠ b → (TJx9f9b0 a).2.1 ≠ (TJx9f9b0 b).2.1 := by decide +kernel
theorem tyJx9f9b0_ok : ∀ k, k < 0 → parseFieldDescriptor (TJx9f9b0 k).2.2.1 = some (tyJx9f9b0 k) := by decide +kernel
def RJxb160c : String := "java/lang/Comparable"
def TJxb160c : u_T := fun k => match k with
  | _ => ("", "", "", false)
def tyJxb160c : Nat → FieldType := fun k => match k with
  | _ => .int
abbrev wsJxb160c0 : List Cond := u_ws RJxb160c TJxb160c 0
theorem nmJxb160c : ∀ a, a < 0 → ∀ b, b < 0 → a ≠ b → (TJxb160c a).2.1 ≠ (TJxb160c b).2.1 := by decide +kernel
theorem tyJxb160c_ok : ∀ k, k < 0 → parseFieldDescriptor (TJxb160c k).2.2.1 = some (tyJxb160c k) := by decide +kernel
def RJ6 : String := "java/lang/Integer"
def TJ6 : u_T := fun k => match k with
  | _ => ("", "", "", false)
def tyJ6 : Nat → FieldType := fun k => match k with
  | _ => .int
abbrev wsJ60 : List Cond := u_ws RJ6 TJ6 0
theorem nmJ6 : ∀ a, a < 0 → ∀ b, b < 0 → a ≠ b → (TJ6 a).2.1 ≠ (TJ6 b).2.1 := by decide +kernel
theorem tyJ6_ok : ∀ k, k < 0 → parseFieldDescriptor (TJ6 k).2.2.1 = some (tyJ6 k) := by decide +kernel
abbrev cJ6_bitCount_0f7a4 : ByteArray := prog_14_method_49_code
def yJ6_bitCount_0f7a4 : MethodName := ⟨RJ6, "bitCount", "(I)I"⟩
def RJ9 : String := "java/lang/Math"
def TJ9 : u_T := fun k => match k with
  | _ => ("", "", "", false)
def tyJ9 : Nat → FieldType := fun k => match k with
  | _ => .int
abbrev wsJ90 : List Cond := u_ws RJ9 TJ9 0
theorem nmJ9 : ∀ a, a < 0 → ∀ b, b < 0 → a ≠ b → (TJ9 a).2.1 ≠ (TJ9 b).2.1 := by decide +kernel
theorem tyJ9_ok : ∀ k, k < 0 → parseFieldDescriptor (TJ9 k).2.2.1 = some (tyJ9 k) := by decide +kernel
abbrev cJ9_min_7cf53 : ByteArray := prog_15_method_69_code
def yJ9_min_7cf53 : MethodName := ⟨RJ9, "min", "(II)I"⟩
def RJ0 : String := "java/lang/String"
def TJ0 : u_T := fun k => match k with
  | _ => ("", "", "", false)
def tyJ0 : Nat → FieldType := fun k => match k with
  | _ => .int
abbrev wsJ00 : List Cond := u_ws RJ0 TJ0 0
theorem nmJ0 : ∀ a, a < 0 → ∀ b, b < 0 → a ≠ b → (TJ0 a).2.1 ≠ (TJ0 b).2.1 := by decide +kernel
theorem tyJ0_ok : ∀ k, k < 0 → parseFieldDescriptor (TJ0 k).2.2.1 = some (tyJ0 k) := by decide +kernel
abbrev cJ0_length_8abf5 : ByteArray := prog_16_method_54_code
def yJ0_length_8abf5 : MethodName := ⟨RJ0, "length", "()I"⟩
abbrev cJ0_charAt_5068e : ByteArray := prog_16_method_56_code
def yJ0_charAt_5068e : MethodName := ⟨RJ0, "charAt", "(I)C"⟩
abbrev cJ0_coder_7d493 : ByteArray := prog_16_method_152_code
def yJ0_coder_7d493 : MethodName := ⟨RJ0, "coder", "()B"⟩
abbrev cJ0_isLatin1_aae02 : ByteArray := prog_16_method_154_code
def yJ0_isLatin1_aae02 : MethodName := ⟨RJ0, "isLatin1", "()Z"⟩
abbrev cJ0_checkIndex_df160 : ByteArray := prog_16_method_155_code
def yJ0_checkIndex_df160 : MethodName := ⟨RJ0, "checkIndex", "(II)V"⟩
def RJ1 : String := "java/lang/StringLatin1"
def TJ1 : u_T := fun k => match k with
  | _ => ("", "", "", false)
def tyJ1 : Nat → FieldType := fun k => match k with
  | _ => .int
abbrev wsJ10 : List Cond := u_ws RJ1 TJ1 0
theorem nmJ1 : ∀ a, a < 0 → ∀ b, b < 0 → a ≠ b → (TJ1 a).2.1 ≠ (TJ1 b).2.1 := by decide +kernel
theorem tyJ1_ok : ∀ k, k < 0 → parseFieldDescriptor (TJ1 k).2.2.1 = some (tyJ1 k) := by decide +kernel
abbrev cJ1_charAt_3b067 : ByteArray := prog_17_method_2_code
def yJ1_charAt_3b067 : MethodName := ⟨RJ1, "charAt", "([BI)C"⟩
def RJ2 : String := "java/lang/StringUTF16"
def TJ2 : u_T := fun k => match k with
  | _ => ("", "", "", false)
def tyJ2 : Nat → FieldType := fun k => match k with
  | _ => .int
abbrev wsJ20 : List Cond := u_ws RJ2 TJ2 0
theorem nmJ2 : ∀ a, a < 0 → ∀ b, b < 0 → a ≠ b → (TJ2 a).2.1 ≠ (TJ2 b).2.1 := by decide +kernel
theorem tyJ2_ok : ∀ k, k < 0 → parseFieldDescriptor (TJ2 k).2.2.1 = some (tyJ2 k) := by decide +kernel
abbrev cJ2_getChar_3b067 : ByteArray := prog_18_method_5_code
def yJ2_getChar_3b067 : MethodName := ⟨RJ2, "getChar", "([BI)C"⟩
abbrev cJ2_length_9d52b : ByteArray := prog_18_method_6_code
def yJ2_length_9d52b : MethodName := ⟨RJ2, "length", "([B)I"⟩
abbrev cJ2_charAt_3b067 : ByteArray := prog_18_method_83_code
def yJ2_charAt_3b067 : MethodName := ⟨RJ2, "charAt", "([BI)C"⟩
abbrev cJ2_checkIndex_2214a : ByteArray := prog_18_method_91_code
def yJ2_checkIndex_2214a : MethodName := ⟨RJ2, "checkIndex", "(I[B)V"⟩
def RJ10 : String := "java/lang/System"
def TJ10 : u_T := fun k => match k with
  | _ => ("", "", "", false)
def tyJ10 : Nat → FieldType := fun k => match k with
  | _ => .int
abbrev wsJ100 : List Cond := u_ws RJ10 TJ10 0
theorem nmJ10 : ∀ a, a < 0 → ∀ b, b < 0 → a ≠ b → (TJ10 a).2.1 ≠ (TJ10 b).2.1 := by decide +kernel
theorem tyJ10_ok : ∀ k, k < 0 → parseFieldDescriptor (TJ10 k).2.2.1 = some (tyJ10 k) := by decide +kernel
def RJxfd54e : String := "java/lang/constant/Constable"
def TJxfd54e : u_T := fun k => match k with
  | _ => ("", "", "", false)
def tyJxfd54e : Nat → FieldType := fun k => match k with
  | _ => .int
abbrev wsJxfd54e0 : List Cond := u_ws RJxfd54e TJxfd54e 0
theorem nmJxfd54e : ∀ a, a < 0 → ∀ b, b < 0 → a ≠ b → (TJxfd54e a).2.1 ≠ (TJxfd54e b).2.1 := by decide +kernel
theorem tyJxfd54e_ok : ∀ k, k < 0 → parseFieldDescriptor (TJxfd54e k).2.2.1 = some (tyJxfd54e k) := by decide +kernel
def RJx3cf43 : String := "java/lang/constant/ConstantDesc"
def TJx3cf43 : u_T := fun k => match k with
  | _ => ("", "", "", false)
def tyJx3cf43 : Nat → FieldType := fun k => match k with
  | _ => .int
abbrev wsJx3cf430 : List Cond := u_ws RJx3cf43 TJx3cf43 0
theorem nmJx3cf43 : ∀ a, a < 0 → ∀ b, b < 0 → a ≠ b → (TJx3cf43 a).2.1 ≠ (TJx3cf43 b).2.1 := by decide +kernel
theorem tyJx3cf43_ok : ∀ k, k < 0 → parseFieldDescriptor (TJx3cf43 k).2.2.1 = some (tyJx3cf43 k) := by decide +kernel
def RJ7 : String := "java/util/Arrays"
def TJ7 : u_T := fun k => match k with
  | _ => ("", "", "", false)
def tyJ7 : Nat → FieldType := fun k => match k with
  | _ => .int
abbrev wsJ70 : List Cond := u_ws RJ7 TJ7 0
theorem nmJ7 : ∀ a, a < 0 → ∀ b, b < 0 → a ≠ b → (TJ7 a).2.1 ≠ (TJ7 b).2.1 := by decide +kernel
theorem tyJ7_ok : ∀ k, k < 0 → parseFieldDescriptor (TJ7 k).2.2.1 = some (tyJ7 k) := by decide +kernel
abbrev cJ7_fill_d0a16 : ByteArray := prog_20_method_101_code
def yJ7_fill_d0a16 : MethodName := ⟨RJ7, "fill", "([JJ)V"⟩
abbrev cJ7_fill_53178 : ByteArray := prog_20_method_103_code
def yJ7_fill_53178 : MethodName := ⟨RJ7, "fill", "([II)V"⟩
def RJ3 : String := "jdk/internal/util/Preconditions"
def TJ3 : u_T := fun k => match k with
  | _ => ("", "", "", false)
def tyJ3 : Nat → FieldType := fun k => match k with
  | _ => .int
abbrev wsJ30 : List Cond := u_ws RJ3 TJ3 0
theorem nmJ3 : ∀ a, a < 0 → ∀ b, b < 0 → a ≠ b → (TJ3 a).2.1 ≠ (TJ3 b).2.1 := by decide +kernel
theorem tyJ3_ok : ∀ k, k < 0 → parseFieldDescriptor (TJ3 k).2.2.1 = some (tyJ3 k) := by decide +kernel
abbrev cJ3_checkIndex_8e157 : ByteArray := prog_21_method_11_code
def yJ3_checkIndex_8e157 : MethodName := ⟨RJ3, "checkIndex", "(IILjava/util/function/BiFunction;)I"⟩
def RL : String := "OneNoteLaw"
abbrev cL_law : ByteArray := code
def yL_law : MethodName := ⟨RL, "law", "([I)Z"⟩
abbrev vwCl : List vw_C := [(RX0, TX0, 3), (RX1, TX1, 2), (RX2, TX2, 4), (RX3, TX3, 1), (RX4, TX4, 2), (RX5, TX5, 1), (RX7, TX7, 3), (RX8, TX8, 8), (RX9, TX9, 15), (RX10, TX10, 15), (RX11, TX11, 23)]
end
section
/-! FACTS of the program: words, tables of its methods, what is checked of each entry -/
def ws0 : List Cond := lw_tbl.filter goodWord
theorem w0m (i : Nat) {w : Cond} (h : lw_tbl[i]? = some w) (hg : goodWord w = true) : w ∈ ws0 := List.mem_filter.mpr ⟨List.mem_of_getElem? h, hg⟩
def nws : List Cond := [.fieldLinkNest "OneNote$Errand" 59 "OneNote$Valley" "doors" "[I" "OneNote", .fieldLinkNest "OneNote$Rumour" 44 "OneNote$Valley" "hearing" "[I" "OneNote", .fieldLinkNest "OneNote$Choir" 23 "OneNote$Valley" "kinds" "[I" "OneNote", .fieldLinkNest "OneNote$Choir" 18 "OneNote$Valley" "births" "[I" "OneNote", .fieldLinkNest "OneNote$Chant" 35 "OneNote$Valley" "births" "[I" "OneNote", .fieldLinkNest "OneNote$Rumour" 27 "OneNote$Valley" "places" "[I" "OneNote", .fieldLinkNest "OneNote$Errand" 62 "OneNote$Valley" "places" "[I" "OneNote", .fieldLinkNest "OneNote$Choir" 32 "OneNote$Valley" "spouses" "[I" "OneNote", .fieldLinkNest "OneNote$Rumour" 22 "OneNote$Valley" "people" "I" "OneNote", .fieldLinkNest "OneNote$Errand" 29 "OneNote$Valley" "people" "I" "OneNote", .fieldLinkNest "OneNote$Chant" 30 "OneNote$Valley" "people" "I" "OneNote", .fieldLinkNest "OneNote" 290 "OneNote$Valley" "people" "I" "OneNote", .fieldLinkNest "OneNote$Fog" 48 "OneNote$Valley" "chordNotes" "[I" "OneNote", .fieldLinkNest "OneNote$Choir" 68 "OneNote$Valley" "chordNotes" "[I" "OneNote", .fieldLinkNest "OneNote" 181 "OneNote$Valley" "chordNotes" "[I" "OneNote", .fieldLinkNest "OneNote$Guess" 42 "OneNote$Valley" "uses" "[I" "OneNote", .fieldLinkNest "OneNote$Fog" 33 "OneNote$Valley" "chords" "I" "OneNote", .fieldLinkNest "OneNote$Guess" 39 "OneNote$Valley" "chords" "I" "OneNote", .fieldLinkNest "OneNote$Choir" 74 "OneNote$Valley" "chords" "I" "OneNote", .fieldLinkNest "OneNote" 293 "OneNote$Valley" "chords" "I" "OneNote", .fieldLinkNest "OneNote$Choir" 46 "OneNote$Valley" "looseness" "I" "OneNote", .fieldLinkNest "OneNote" 296 "OneNote$Valley" "speechLength" "I" "OneNote", .fieldLinkNest "OneNote$Guess" 31 "OneNote$Valley" "holes" "[I" "OneNote", .fieldLinkNest "OneNote" 214 "OneNote$Valley" "holes" "[I" "OneNote", .fieldLinkNest "OneNote$Guess" 25 "OneNote$Valley" "holeCount" "I" "OneNote", .fieldLinkNest "OneNote" 299 "OneNote$Valley" "holeCount" "I" "OneNote", .fieldLinkNest "OneNote" 302 "OneNote$Text" "length" "I" "OneNote", .fieldLinkNest "OneNote" 257 "OneNote$Fraction" "above" "J" "OneNote", .fieldLinkNest "OneNote" 261 "OneNote$Fraction" "below" "J" "OneNote", .fieldLinkNest "OneNote" 168 "OneNote$Errand" "steps" "I" "OneNote", .fieldLinkNest "OneNote" 172 "OneNote$Errand" "room" "I" "OneNote", .fieldLinkNest "OneNote" 175 "OneNote$Errand" "set" "I" "OneNote", .methodLinkNest "OneNote$Valley" 63 ⟨"OneNote", "isRoom", "(I)Z"⟩ "OneNote"]
def YT : List MethodName := [yJ6_bitCount_0f7a4, yJ7_fill_53178, yJ7_fill_d0a16, yJ3_checkIndex_8e157, yJ0_length_8abf5, yJ0_coder_7d493, yJ0_charAt_5068e, yJ0_isLatin1_aae02, yJ0_checkIndex_df160, yJ1_charAt_3b067, yX6_isNote, yX6_raised, yX6_near, yX6_filledByOneMore, yX6_isWholeChord, yX9_addDoor, yX9_join, yX9_addHearing, yX9_addPerson, yX9_addMates, yX9_isPerson, yX9_move, yX9_addChord, yX9_hasChordOf, yX9_changeSlack, yX9_isMember, yX9_isSet, yX9_becomeEmpty, yX9_copyAll, yX9_copyPeople, yX9_isChord, yX9_peopleIn, yX9_hasDoor, yX9_addToSpeech, yX9_endSpeech, yX9_chordsOfSpeech, yX9_addHole, yX9_endHoles, yX9_isHole, yX9_chordsWith, yX9_wed, yX9_freeSpouseOf, yX9_digestOn, yX9_digestOfRooms, yX4_become, yX4_commonDivisor, yX1_notesOf, yX1_isMateIn, yX1_canSay, yX1_gather, yX1_fillsAll, yX1_chordsOf, yX1_smallestSet, yX1_canSayAll, yX1_blockers, yX1_setsSwungBy, yX1_bestCouple, yX2_seek, yX2_measure, yX2_spreadOnce, yX2_nearestRoom, yX2_stepsTo, yX2_isBetter, yX3_confuses, yX3_leastToGo, yX3_findRivals, yX3_isClear, yX7_spread, yX7_nextRoom, yX7_costBy, yX7_sentFrom, yX7_roomOfRow, yX5_countRows, yX5_sumRows, yX5_weighRows, yX0_learn, yX0_findNeighbours, yX0_ordersFrom, yX0_ordersAmong, yX0_orders, yX0_placeInFirst, yX0_leastBeginning, yX8_append, yX8_erase, yX8_tellTo, yX8_readToken, yX8_isLetter, yX8_readWord, yX8_wordOf, yX8_isTokenWord, yX8_isFigure, yX8_readNumber, yX8_readItem, yX8_tellItem, yX10_door, yX10_isRoom, yX10_told, yX10_hears, yX10_one, yX10_mates, yX10_goes, yX10_chord, yX10_slack, yX10_sounds, yX10_type, yX10_clear, yX10_read, yX10_says, yX10_said, yX10_byDoor, yX10_fewest, yX10_speak, yX10_hush, yX10_fetch, yX10_inTime, yX10_taken, yX10_isFog, yX10_drop, yX10_news, yX10_badForRows, yX10_hole, yX10_whole, yX10_meant, yX10_ways, yX10_odds, yX10_block, yX10_swing, yX10_song, yX10_couple, yX10_part, yX10_image, yX10_isImage, yX10_from, yX10_status, yX10_count, yX10_amount, yX10_digest, yX11_door, yX11_tie, yX11_isRoom, yX11_in, yX11_told, yX11_hears, yX11_one, yX11_addOne, yX11_mates, yX11_addMates, yX11_isOne, yX11_goes, yX11_chord, yX11_addChord, yX11_slack, yX11_setSlack, yX11_sounds, yX11_isSet, yX11_has, yX11_soundsOf, yX11_turned, yX11_type, yX11_clear, yX11_read, yX11_isEnd, yX11_takeItem, yX11_takeWord, yX11_wordOf, yX11_numbersOf, yX11_takeNumber, yX11_tellItem, yX11_copy, yX11_says, yX11_isChord, yX11_doesSay, yX11_reachOf, yX11_ones, yX11_said, yX11_setIn, yX11_saidBy, yX11_byDoor, yX11_fewest, yX11_speak, yX11_hush, yX11_fetch, yX11_fetchBy, yX11_measure, yX11_stepsOf, yX11_inTime, yX11_taken, yX11_areTaken, yX11_noteOf, yX11_areNear, yX11_drop, yX11_news, yX11_findCosts, yX11_costOn, yX11_hole, yX11_whole, yX11_meant, yX11_isHole, yX11_meantBy, yX11_ways, yX11_rows, yX11_odds, yX11_share, yX11_block, yX11_swing, yX11_song, yX11_findOrders, yX11_couple, yX11_divorce, yX11_part, yX11_image, yX11_from, yX11_status, yX11_count, yX11_countOf, yX11_digest, yX11_mix, yX11_mixAll, yL_law]
def BT : List ByteArray := [cJ6_bitCount_0f7a4, cJ7_fill_53178, cJ7_fill_d0a16, cJ3_checkIndex_8e157, cJ0_length_8abf5, cJ0_coder_7d493, cJ0_charAt_5068e, cJ0_isLatin1_aae02, cJ0_checkIndex_df160, cJ1_charAt_3b067, cX6_isNote, cX6_raised, cX6_near, cX6_filledByOneMore, cX6_isWholeChord, cX9_addDoor, cX9_join, cX9_addHearing, cX9_addPerson, cX9_addMates, cX9_isPerson, cX9_move, cX9_addChord, cX9_hasChordOf, cX9_changeSlack, cX9_isMember, cX9_isSet, cX9_becomeEmpty, cX9_copyAll, cX9_copyPeople, cX9_isChord, cX9_peopleIn, cX9_hasDoor, cX9_addToSpeech, cX9_endSpeech, cX9_chordsOfSpeech, cX9_addHole, cX9_endHoles, cX9_isHole, cX9_chordsWith, cX9_wed, cX9_freeSpouseOf, cX9_digestOn, cX9_digestOfRooms, cX4_become, cX4_commonDivisor, cX1_notesOf, cX1_isMateIn, cX1_canSay, cX1_gather, cX1_fillsAll, cX1_chordsOf, cX1_smallestSet, cX1_canSayAll, cX1_blockers, cX1_setsSwungBy, cX1_bestCouple, cX2_seek, cX2_measure, cX2_spreadOnce, cX2_nearestRoom, cX2_stepsTo, cX2_isBetter, cX3_confuses, cX3_leastToGo, cX3_findRivals, cX3_isClear, cX7_spread, cX7_nextRoom, cX7_costBy, cX7_sentFrom, cX7_roomOfRow, cX5_countRows, cX5_sumRows, cX5_weighRows, cX0_learn, cX0_findNeighbours, cX0_ordersFrom, cX0_ordersAmong, cX0_orders, cX0_placeInFirst, cX0_leastBeginning, cX8_append, cX8_erase, cX8_tellTo, cX8_readToken, cX8_isLetter, cX8_readWord, cX8_wordOf, cX8_isTokenWord, cX8_isFigure, cX8_readNumber, cX8_readItem, cX8_tellItem, cX10_door, cX10_isRoom, cX10_told, cX10_hears, cX10_one, cX10_mates, cX10_goes, cX10_chord, cX10_slack, cX10_sounds, cX10_type, cX10_clear, cX10_read, cX10_says, cX10_said, cX10_byDoor, cX10_fewest, cX10_speak, cX10_hush, cX10_fetch, cX10_inTime, cX10_taken, cX10_isFog, cX10_drop, cX10_news, cX10_badForRows, cX10_hole, cX10_whole, cX10_meant, cX10_ways, cX10_odds, cX10_block, cX10_swing, cX10_song, cX10_couple, cX10_part, cX10_image, cX10_isImage, cX10_from, cX10_status, cX10_count, cX10_amount, cX10_digest, cX11_door, cX11_tie, cX11_isRoom, cX11_in, cX11_told, cX11_hears, cX11_one, cX11_addOne, cX11_mates, cX11_addMates, cX11_isOne, cX11_goes, cX11_chord, cX11_addChord, cX11_slack, cX11_setSlack, cX11_sounds, cX11_isSet, cX11_has, cX11_soundsOf, cX11_turned, cX11_type, cX11_clear, cX11_read, cX11_isEnd, cX11_takeItem, cX11_takeWord, cX11_wordOf, cX11_numbersOf, cX11_takeNumber, cX11_tellItem, cX11_copy, cX11_says, cX11_isChord, cX11_doesSay, cX11_reachOf, cX11_ones, cX11_said, cX11_setIn, cX11_saidBy, cX11_byDoor, cX11_fewest, cX11_speak, cX11_hush, cX11_fetch, cX11_fetchBy, cX11_measure, cX11_stepsOf, cX11_inTime, cX11_taken, cX11_areTaken, cX11_noteOf, cX11_areNear, cX11_drop, cX11_news, cX11_findCosts, cX11_costOn, cX11_hole, cX11_whole, cX11_meant, cX11_isHole, cX11_meantBy, cX11_ways, cX11_rows, cX11_odds, cX11_share, cX11_block, cX11_swing, cX11_song, cX11_findOrders, cX11_couple, cX11_divorce, cX11_part, cX11_image, cX11_from, cX11_status, cX11_count, cX11_countOf, cX11_digest, cX11_mix, cX11_mixAll, cL_law]
def RT : List (Option FieldType) := [(some .int), none, none, (some .int), (some .int), (some .byte), (some .char), (some .boolean), none, (some .char), (some .boolean), (some .int), (some .int), (some .int), (some .boolean), (some .int), (some .int), (some .int), (some .int), (some .int), (some .boolean), (some .int), (some .int), (some .boolean), (some .int), (some .boolean), (some .boolean), none, none, none, (some .boolean), (some .int), (some .boolean), (some .int), (some .int), (some .int), (some .int), (some .int), (some .boolean), (some .int), none, none, (some .long), (some .long), none, (some .long), (some .int), (some .boolean), (some .boolean), none, (some .boolean), (some .int), (some .int), (some .boolean), (some .int), (some .int), (some .int), (some .boolean), none, (some .int), (some .int), (some .int), (some .boolean), (some .boolean), (some .int), none, (some .boolean), none, (some .int), (some .int), (some .int), (some .int), (some .int), (some .long), (some .long), none, none, (some .int), (some .int), (some .int), (some .int), (some .int), (some .int), (some .int), (some .int), none, (some .boolean), none, (some (.object "java/lang/String")), (some .boolean), (some .boolean), none, (some .boolean), (some .int), (some .int), (some .boolean), (some .int), (some .int), (some .int), (some .int), (some .int), (some .int), (some .int), (some .int), (some .int), (some .int), (some .int), (some .int), (some .int), (some .int), (some .int), (some .int), (some .int), (some .int), (some .int), (some .int), (some .boolean), (some .int), (some .int), (some .int), (some .int), (some .int), (some .int), (some .int), (some .int), (some .int), (some .int), (some .int), (some .int), (some .long), (some .int), (some .boolean), (some .int), (some .int), (some .int), (some .int), (some .long), (some .int), (some .int), (some .boolean), (some .boolean), (some .int), (some .int), (some .int), (some .int), (some .int), (some .int), (some .boolean), (some .int), (some .int), (some .int), (some .int), (some .int), (some .int), (some .boolean), (some .boolean), (some .int), (some .int), (some .int), (some .int), (some .int), (some .boolean), none, (some .int), (some .int), (some .int), (some .int), (some .int), none, (some .int), (some .boolean), (some .boolean), (some .int), (some .int), (some .int), (some .int), (some .int), (some .int), (some .int), (some .int), (some .int), (some .int), none, none, (some .int), (some .int), (some .int), (some .boolean), (some .int), (some .boolean), (some .int), (some .int), none, (some .int), (some .int), (some .int), (some .int), (some .boolean), (some .int), (some .int), (some .long), (some .int), (some .int), (some .int), (some .int), (some .int), none, (some .int), none, (some .long), (some .int), (some .int), (some .int), (some .int), (some .int), (some .long), none, none, (some .boolean)]
def FT : List Nat := [0, 0, 0, 0, 1, 0, 3, 0, 1, 2, 0, 0, 1, 0, 0, 2, 1, 2, 1, 1, 0, 1, 1, 0, 0, 1, 0, 1, 2, 1, 0, 0, 0, 1, 0, 0, 1, 0, 0, 0, 2, 1, 1, 0, 1, 0, 1, 0, 3, 2, 1, 3, 4, 3, 4, 4, 4, 4, 1, 0, 1, 0, 1, 2, 4, 3, 0, 2, 1, 0, 0, 2, 2, 1, 2, 3, 2, 1, 0, 1, 2, 0, 0, 0, 8, 6, 0, 5, 0, 4, 0, 1, 7, 3, 3, 0, 0, 3, 2, 2, 2, 2, 1, 2, 1, 1, 9, 4, 4, 4, 5, 2, 1, 5, 5, 3, 0, 5, 3, 0, 2, 1, 1, 3, 3, 5, 5, 4, 5, 1, 3, 0, 3, 0, 1, 0, 2, 3, 2, 1, 0, 0, 3, 3, 2, 3, 2, 1, 2, 2, 1, 2, 1, 2, 1, 0, 1, 0, 1, 0, 4, 0, 2, 1, 0, 0, 1, 3, 0, 4, 1, 3, 2, 0, 5, 0, 4, 5, 4, 2, 0, 6, 5, 0, 1, 6, 3, 2, 1, 0, 3, 3, 2, 1, 1, 0, 2, 1, 0, 2, 1, 2, 0, 4, 4, 2, 1, 5, 0, 1, 1, 1, 1, 1, 0, 2, 0, 1, 10]
def LT : List Nat := [0, 0, 0, 0, 20, 0, 64, 0, 22, 43, 0, 0, 21, 0, 0, 42, 20, 42, 20, 21, 0, 21, 22, 0, 0, 21, 0, 23, 47, 26, 0, 0, 0, 21, 0, 0, 20, 0, 0, 0, 43, 21, 26, 0, 30, 0, 21, 0, 67, 44, 27, 67, 90, 67, 90, 90, 91, 91, 27, 0, 27, 0, 20, 44, 93, 69, 0, 47, 22, 0, 0, 47, 57, 24, 57, 69, 44, 24, 0, 24, 44, 0, 0, 0, 169, 128, 0, 107, 0, 85, 0, 20, 148, 64, 64, 0, 0, 64, 43, 43, 44, 48, 22, 44, 24, 21, 192, 90, 91, 91, 117, 42, 21, 119, 119, 69, 0, 118, 72, 0, 41, 21, 23, 78, 80, 116, 119, 94, 120, 21, 68, 0, 68, 0, 21, 0, 51, 69, 45, 25, 0, 0, 69, 70, 45, 70, 47, 25, 47, 53, 25, 48, 25, 48, 25, 0, 22, 0, 25, 0, 94, 0, 49, 25, 0, 0, 25, 70, 0, 103, 25, 77, 48, 0, 127, 0, 103, 127, 103, 46, 0, 153, 127, 0, 21, 153, 72, 45, 21, 0, 72, 71, 46, 23, 25, 0, 46, 25, 0, 54, 23, 54, 0, 103, 103, 50, 23, 127, 0, 21, 25, 25, 25, 25, 0, 45, 0, 22, 213]
def NT : List Nat := [1, 2, 2, 3, 0, 0, 1, 0, 2, 2, 1, 2, 2, 3, 1, 2, 3, 2, 3, 2, 1, 2, 4, 1, 1, 2, 1, 0, 1, 1, 1, 1, 2, 1, 0, 0, 1, 0, 1, 1, 2, 1, 1, 1, 2, 2, 3, 2, 3, 2, 1, 2, 3, 3, 3, 4, 3, 3, 1, 4, 3, 4, 3, 3, 2, 2, 1, 2, 2, 1, 1, 3, 1, 4, 3, 3, 2, 2, 2, 0, 1, 2, 2, 0, 1, 0, 1, 0, 1, 1, 1, 0, 0, 1, 2, 1, 1, 2, 3, 2, 2, 4, 1, 2, 2, 0, 0, 2, 1, 2, 2, 1, 0, 1, 1, 3, 1, 1, 3, 0, 1, 0, 1, 0, 2, 2, 3, 3, 1, 1, 1, 1, 1, 1, 1, 1, 0, 2, 4, 1, 3, 1, 2, 3, 4, 2, 3, 2, 2, 4, 5, 1, 2, 2, 1, 2, 3, 2, 2, 0, 0, 0, 0, 0, 1, 1, 0, 1, 2, 2, 1, 3, 4, 1, 1, 1, 2, 2, 2, 1, 0, 1, 1, 0, 3, 1, 3, 3, 2, 3, 1, 3, 1, 3, 1, 0, 1, 1, 1, 0, 3, 2, 2, 2, 3, 3, 2, 1, 2, 1, 1, 1, 1, 1, 1, 0, 1, 2, 1]
/-- the class of the receiver, 200: a static method -/
def GT : List Nat := [200, 200, 200, 200, 98, 98, 98, 98, 200, 200, 200, 200, 200, 200, 200, 8, 200, 8, 8, 8, 8, 8, 8, 8, 8, 8, 8, 8, 8, 8, 8, 8, 8, 8, 8, 8, 8, 8, 8, 8, 8, 8, 8, 8, 4, 200, 200, 200, 1, 1, 1, 1, 1, 1, 1, 1, 1, 2, 2, 2, 2, 2, 2, 200, 3, 3, 3, 6, 6, 6, 6, 6, 5, 5, 5, 0, 0, 0, 0, 0, 0, 0, 7, 7, 7, 7, 200, 7, 200, 7, 200, 7, 7, 7, 9, 200, 9, 9, 9, 9, 9, 9, 9, 9, 9, 9, 9, 9, 9, 9, 9, 9, 9, 9, 9, 9, 200, 9, 9, 9, 9, 9, 9, 9, 9, 9, 9, 9, 9, 9, 9, 200, 9, 9, 9, 9, 9, 10, 10, 200, 200, 10, 10, 10, 10, 10, 10, 10, 10, 10, 10, 10, 10, 10, 10, 200, 10, 200, 10, 10, 10, 10, 10, 10, 200, 200, 10, 10, 10, 10, 10, 10, 10, 200, 10, 10, 10, 10, 10, 10, 10, 10, 10, 10, 10, 10, 10, 10, 10, 200, 10, 10, 10, 10, 10, 10, 10, 10, 10, 10, 10, 10, 10, 10, 10, 10, 10, 10, 10, 10, 10, 10, 10, 10, 10, 10, 10, 10, 200]
def yT (j : Nat) : MethodName := YT.getD j yL_law
def bT (j : Nat) : ByteArray := BT.getD j code
def rT (j : Nat) : Option FieldType := RT.getD j none
def rmT (j : Nat) : Room := { frames := FT.getD j 0, cells := 0, slots := 0, locals := LT.getD j 0 }
def wsT (j : Nat) : List Cond := .code (yT j) (bT j) (mxT j) (rT j) :: ws0
/-- the cells by number: a class, or 1000 and more an array (ints, longs, bytes, booleans, references) and its length -/
def shl : List Nat := [9, 8, 1006, 1006, 1007, 1007, 1007, 1007, 1008, 1008, 1006, 1006, 8, 1006, 1006, 1007, 1007, 1007, 1007, 1008, 1008, 1006, 1006, 5002, 8, 1006, 1006, 1007, 1007, 1007, 1007, 1008, 1008, 1006, 1006, 8, 1006, 1006, 1007, 1007, 1007, 1007, 1008, 1008, 1006, 1006, 7, 3200, 1004, 4, 1, 1007, 1007, 2, 1036, 3, 1008, 6, 1006, 5, 2008, 0, 1896, 1007, 10, 1560, 4002, 1200, 1003, 1040, 1160, 1007, 1036, 1008, 1006, 2008, 2008, 1896]
/-- the fields of a class: what (an int, a long, a reference), to which shape, how many cells on -/
def fdl (c : Nat) : List (Nat × Nat × Nat) := match c with
  | 0 => [(2, 1896, 1), (2, 1007, 2), (0, 0, 0)]
  | 1 => [(2, 1007, 1), (2, 1007, 2)]
  | 2 => [(2, 1036, 1), (0, 0, 0), (0, 0, 0), (0, 0, 0)]
  | 3 => [(2, 1008, 1)]
  | 4 => [(1, 0, 0), (1, 0, 0)]
  | 5 => [(2, 2008, 1)]
  | 6 => [(2, 1006, 1), (0, 0, 0), (0, 0, 0)]
  | 7 => [(2, 3200, 1), (0, 0, 0), (0, 0, 0), (0, 0, 0), (0, 0, 0), (0, 0, 0), (0, 0, 0), (2, 1004, 2)]
  | 8 => [(2, 1006, 1), (2, 1006, 2), (2, 1007, 3), (2, 1007, 4), (2, 1007, 5), (2, 1007, 6), (0, 0, 0), (2, 1008, 7), (2, 1008, 8), (0, 0, 0), (0, 0, 0), (2, 1006, 9), (0, 0, 0), (2, 1006, 10), (0, 0, 0)]
  | 9 => [(2, 8, 1), (2, 8, 12), (2, 5002, 23), (0, 0, 0), (2, 7, 46), (2, 4, 49), (0, 0, 0), (0, 0, 0), (0, 0, 0), (2, 1, 50), (2, 2, 53), (2, 3, 55), (2, 6, 57), (2, 5, 59), (2, 0, 61)]
  | _ => [(2, 1560, 1), (2, 4002, 2), (2, 1200, 3), (0, 0, 0), (1, 0, 0), (1, 0, 0), (2, 1003, 4), (2, 1040, 5), (2, 1160, 6), (0, 0, 0), (0, 0, 0), (0, 0, 0), (2, 1007, 7), (2, 1036, 8), (0, 0, 0), (0, 0, 0), (0, 0, 0), (2, 1008, 9), (2, 1006, 10), (2, 2008, 11), (2, 2008, 12), (2, 1896, 13), (1, 0, 0)]
def jsx (k : Nat) : Nat := [109, 111, 113, 115, 117, 119].getD k 0
def jtx (k : Nat) : String := ["door", "hears", "one", "mates", "chord", "slack"].getD k ""
def jkn (q : je) : Nat := q.2.2.2.1.headD 0
/-- what is checked of an entry by computing: its bytes, its constants, its places -/
def jck2 (mx : Nat) (rt : Option FieldType) (fr lo : Nat) (q : je) : Bool := match q.2.2.1 with
  | .iconst n => decide (Int32.ofInt n = q.2.2.2.2.1)
  | .bipush n => decide ((Int8.ofInt n).toInt32 = q.2.2.2.2.1)
  | .sipush n => decide ((Int16.ofInt n).toInt32 = q.2.2.2.2.1)
  | .lconst n => decide (Int64.ofNat (n : Nat) = q.2.2.2.2.2.1)
  | .istore i => decide (i < mx)
  | .istore_n i => decide ((i : Nat) < mx)
  | .lstore i => decide (i + 1 < mx)
  | .lstore_n i => decide ((i : Nat) + 1 < mx)
  | .iinc i n => decide (i < mx ∧ Int32.ofInt n = q.2.2.2.2.1)
  | .ldc _ => decide (jtg q.2.2.2.1 < 6)
  | .goto o => decide ((q.1 : Int) + o = (jtg q.2.2.2.1 : Int))
  | .ifCond _ o => decide ((q.1 : Int) + o = (jtg q.2.2.2.1 : Int))
  | .if_icmp _ o => decide ((q.1 : Int) + o = (jtg q.2.2.2.1 : Int))
  | .tableswitch d l h o => decide ((q.1 : Int) + d = (jtg q.2.2.2.1 : Int) ∧ h = l + (o.size : Int) - 1 ∧ -2147483648 ≤ l ∧ h < 2147483648 ∧ q.2.2.2.2.2.2 = (o.toList.zipIdx.map (fun x => (Int32.ofInt (l + (x.2 : Int)), ((q.1 : Int) + x.1).toNat))) ∧ o.toList.all (fun x => decide (0 ≤ (q.1 : Int) + x)) = true)
  | .getfield _ => (match q.2.2.2.1 with
    | [_, ci, sl, kd, tg, of] => if ci = 98 then decide ((kd = 3 ∧ tg = 95) ∨ (kd = 4 ∧ q.2.2.2.2.1 = 0)) else decide (ci < 11 ∧ kd < 3 ∧ (fdl ci)[sl]? = some (kd, tg, of))
    | _ => true)
  | .putfield _ => (match q.2.2.2.1 with
    | [_, ci, sl, kd] => decide (ci < 11 ∧ kd < 2 ∧ (fdl ci)[sl]? = some (kd, 0, 0))
    | _ => true)
  | .getstatic _ => (match q.2.2.2.1 with
    | [_, 0] => decide (q.2.2.2.2.1 = 1)
    | _ => true)
  | .invokevirtual _ => (match q.2.2.2.1 with
    | [_, j, n, rk, m2, tg] => decide (j < 218 ∧ m2 = mxT j ∧ FT.getD j 0 + 1 ≤ fr ∧ 8 + (mxT j + 11) + LT.getD j 0 ≤ lo ∧ n = NT.getD j 0 + 1 ∧ tg = GT.getD j 0 ∧ tg ≠ 200)
    | _ => false)
  | .invokestatic _ => (match q.2.2.2.1 with
    | [_, j, n, rk, m2, tg] => decide (j < 218 ∧ m2 = mxT j ∧ FT.getD j 0 + 1 ≤ fr ∧ 8 + (mxT j + 11) + LT.getD j 0 ≤ lo ∧ n = NT.getD j 0 ∧ tg = GT.getD j 0 ∧ tg = 200)
    | [_, _] => decide (1 ≤ fr ∧ 26 ≤ lo)
    | [_, _, _] => decide (1 ≤ fr ∧ 26 ≤ lo)
    | _ => true)
  | .ireturn => (match q.2.2.2.1, rt with
    | [_, 0], some .int => true
    | [_, 1], some .boolean => true
    | [_, 2], some .byte => true
    | [_, 3], some .char => true
    | _, _ => false)
  | .lreturn => decide (rt = some .long)
  | .areturn => decide (rt = some (.object "java/lang/String"))
  | .return_ => decide (rt = none)
  | _ => true
/-- an instruction's length, as the rows have it -/
def jln : Instr → Nat
  | .bipush _ | .iload _ | .lload _ | .aload _ | .istore _ | .lstore _ | .ldc _ => 2
  | .sipush _ | .ldc_w _ | .ldc2_w _ | .iinc _ _ | .goto _ | .ifCond _ _ | .if_icmp _ _ | .getfield _ | .putfield _ | .getstatic _ | .invokevirtual _ | .invokestatic _ => 3
  | _ => 1
def jisT : Instr → Bool
  | .tableswitch _ _ _ _ => true
  | _ => false
def jck (b : ByteArray) (mx : Nat) (rt : Option FieldType) (fr lo : Nat) (q : je) : Bool := decide (decode b q.1 = .ok (q.2.2.1, jkn q)) && ((jisT q.2.2.1 || decide (jkn q = jln q.2.2.1)) && jck2 mx rt fr lo q)
/-- the words of an entry -/
def jwf (own : String) (i ci sl : Nat) : Prop := ∃ (C : String) (T : u_T) (N : Nat), vwCl[ci]? = some (C, T, N) ∧ sl < N ∧ (T sl).1 = C ∧ (Cond.fieldLink own i C (T sl).2.1 (T sl).2.2.1 ∈ ws0 ∨ ∃ h, Cond.fieldLinkNest own i C (T sl).2.1 (T sl).2.2.1 h ∈ nws)
def jwp (own : String) (i ci sl kd : Nat) : Prop := ∃ (C : String) (T : u_T) (N : Nat), vwCl[ci]? = some (C, T, N) ∧ sl < N ∧ (T sl).1 = C ∧ (T sl).2.2.2 = false ∧ parseFieldDescriptor (T sl).2.2.1 = some (if kd = 0 then .int else .long) ∧ Cond.fieldLink own i C (T sl).2.1 (T sl).2.2.1 ∈ ws0
def jwo (own : String) (q : je) : Prop := match q.2.2.1 with
  | .getfield i => (match q.2.2.2.1 with
    | [_, 98, _, 3, _, _] => Cond.fieldLink own i "java/lang/String" "value" "[B" ∈ ws0
    | [_, 98, _, 4, _, _] => Cond.fieldLink own i "java/lang/String" "coder" "B" ∈ ws0
    | [_, ci, sl, _, _, _] => jwf own i ci sl
    | _ => True)
  | .putfield i => (match q.2.2.2.1 with
    | [_, ci, sl, kd] => jwp own i ci sl kd
    | _ => True)
  | .getstatic i => (match q.2.2.2.1 with
    | [_, 0] => Cond.fieldLink own i "java/lang/String" "COMPACT_STRINGS" "Z" ∈ ws0
    | [_, 1] => Cond.fieldLink own i "jdk/internal/util/Preconditions" "SIOOBE_FORMATTER" "Ljava/util/function/BiFunction;" ∈ ws0
    | [_, 2] => Cond.fieldLink own i "OneNote$Text" "NUMBERS_OF" "[I" ∈ ws0
    | _ => True)
  | .invokevirtual i => (match q.2.2.2.1 with
    | [_, j, _, _, _, _] => Cond.methodLink own i (yT j) ∈ ws0 ∨ ∃ h, Cond.methodLinkNest own i (yT j) h ∈ nws
    | _ => True)
  | .invokestatic i => (match q.2.2.2.1 with
    | [_, j, _, _, _, _] => Cond.methodLink own i (yT j) ∈ ws0 ∨ ∃ h, Cond.methodLinkNest own i (yT j) h ∈ nws
    | [_, _] => Cond.methodLink own i arraycopyName ∈ ws0
    | [_, _, _] => Cond.methodLink own i Lib.Math.min.name ∈ ws0
    | _ => True)
  | .ldc i => own = "OneNote$Text" ∧ i = jsx (jtg q.2.2.2.1)
  | .ldc_w i => Cond.constant own i q.2.2.2.2.1 ∈ ws0
  | .ldc2_w i => Cond.constantLong own i q.2.2.2.2.2.1 ∈ ws0
  | _ => True
theorem jwo_app {own : String} {a b : List je} (ha : ∀ q ∈ a, jwo own q) (hb : ∀ q ∈ b, jwo own q) : ∀ q ∈ a ++ b, jwo own q := fun q h => (List.mem_append.mp h).elim (ha q) (hb q)
/-- a method's own words -/
def jmo (j : Nat) : Prop := Cond.code (yT j) (bT j) (mxT j) (rT j) ∈ ws0 ∧ Cond.initialized (yT j).cls ∈ ws0 ∧ (yT j).cls ≠ "java/lang/invoke/MethodHandle" ∧ (yT j).cls ≠ "java/lang/invoke/VarHandle" ∧ plainName (yT j).cls = true ∧ (parseMethodDescriptor (yT j).desc).map (fun d => d.parameters.length) = some (NT.getD j 0) ∧ ((GT.getD j 0 = 200 ∧ Cond.static (yT j) ∈ ws0) ∨ (((GT.getD j 0 = 98 ∧ (yT j).cls = "java/lang/String") ∨ ∃ q : vw_C, vwCl[GT.getD j 0]? = some q ∧ q.1 = (yT j).cls ∧ GT.getD j 0 < 11) ∧ Cond.instanceMethod (yT j) ∈ ws0 ∧ Cond.selects (yT j).cls (yT j) (yT j) ∈ ws0))
def jfa (j : Nat) : Prop := jmo j ∧ ∀ q ∈ pfT j, jck (bT j) (mxT j) (rT j) (FT.getD j 0) (LT.getD j 0) q = true ∧ jwo (yT j).cls q

theorem wmin : Cond.methodLink "OneNote$Rumour" 38 Lib.Math.min.name ∈ ws0 ∧ Cond.static Lib.Math.min.name ∈ ws0 ∧ Cond.initialized "java/lang/Math" ∈ ws0 ∧ Cond.code Lib.Math.min.name Lib.Math.min.code 2 (some .int) ∈ ws0 := ⟨w0m 769 (by decide +kernel) rfl, w0m 770 (by decide +kernel) rfl, w0m 84 (by decide +kernel) rfl, w0m 771 (by decide +kernel) rfl⟩
theorem wcpy : Cond.native arraycopyName ∈ ws0 ∧ Cond.static arraycopyName ∈ ws0 ∧ Cond.initialized "java/lang/System" ∈ ws0 := ⟨w0m 585 (by decide +kernel) rfl, w0m 584 (by decide +kernel) rfl, w0m 82 (by decide +kernel) rfl⟩
end
section
/-! THE PLAIN MACHINE IS SOUND: what it answers, the machine does -/
abbrev jenv : Type := (Nat → Nat) × (Nat → Nat) × (Nat → Nat) × Value × Nat × Nat × Nat × (Nat → Int32) × (Nat → ClassId) × (Nat → Nat → Nat) × (Nat → ClassId)
def eA (ε : jenv) : Nat → Nat := ε.1
def eB (ε : jenv) : Nat → Nat := ε.2.1
def eO (ε : jenv) : Nat → Nat := ε.2.2.1
def eF (ε : jenv) : Value := ε.2.2.2.1
def eS (ε : jenv) : Nat := ε.2.2.2.2.1
def eN (ε : jenv) : Nat := ε.2.2.2.2.2.1
def eL (ε : jenv) : Nat := ε.2.2.2.2.2.2.1
def eX (ε : jenv) : Nat → Int32 := ε.2.2.2.2.2.2.2.1
def eD (ε : jenv) : va_G := (ε.2.2.2.2.2.2.2.2.1, ε.2.2.2.2.2.2.2.2.2.1)
def eT (ε : jenv) : Nat → ClassId := ε.2.2.2.2.2.2.2.2.2.2
/-- the arrays' classes, cell by cell -/
def jty (t : Nat) : Option FieldType := match t / 1000 with
  | 1 => some .int
  | 2 => some .long
  | 3 => some .byte
  | 4 => some .boolean
  | 5 => some (.object "OneNote$Valley")
  | _ => none
def tysJ (ε : jenv) : List (ClassId × FieldType) := (List.range 78).filterMap (fun k => (jty (shl.getD k 0)).map (fun ty => (eT ε k, ty)))
theorem tys_at {ε : jenv} {k : Nat} (hk : k < 78) {ty : FieldType} (h : jty (shl.getD k 0) = some ty) : ∃ t0 : Nat, (tysJ ε)[t0]? = some (eT ε k, ty) := List.getElem?_of_mem (List.mem_filterMap.mpr ⟨k, List.mem_range.mpr hk, by rw [h]; rfl⟩)
/-- a plain value as the machine has it -/
def jtr (ε : jenv) : jv → Value
  | .inl x => .int x
  | .inr (.inl x) => .long x
  | .inr (.inr (.inl (t, k))) => if t = 94 then eF ε else if t = 95 then .ref (eB ε k) else if t = 96 then .ref (eS ε) else if t = 97 then .ref (eN ε) else if t = 98 then .ref (eO ε k) else .ref (eA ε k)
  | .inr (.inr (.inr _)) => .null
/-- a reference is to a cell of its shape -/
def jrk (ε : jenv) (t k : Nat) : Prop := t = 94 ∨ (t = 95 ∧ k < 6) ∨ (t = 96 ∧ k = eL ε) ∨ t = 97 ∨ (t = 98 ∧ k < 6) ∨ (k < 78 ∧ shl.getD k 0 = t)
def jok (ε : jenv) : jv → Prop
  | .inl _ => True
  | .inr (.inl _) => True
  | .inr (.inr (.inl (t, k))) => jrk ε t k
  | .inr (.inr (.inr _)) => False
/-- an object's fields -/
def jfs (ε : jenv) (μ : jm) (k : Nat) : Nat → List (Nat × Nat × Nat) → List Value
  | _, [] => []
  | s, (kd, _, of) :: r => (if kd = 0 then .int (μ.1 k s) else if kd = 1 then .long (μ.2 k s) else .ref (eA ε (k + of))) :: jfs ε μ k (s + 1) r
def jce (ε : jenv) (μ : jm) (k t : Nat) : va_E := match t / 1000 with
  | 0 => .inr (t, jfs ε μ k 0 (fdl t))
  | 1 => .inl (eT ε k, t - 1000, .inl (μ.1 k))
  | 2 => .inl (eT ε k, t - 2000, .inr (.inl (μ.2 k)))
  | 3 => .inl (eT ε k, t - 3000, .inl (μ.1 k))
  | 4 => .inl (eT ε k, t - 4000, .inl (μ.1 k))
  | _ => .inl (eT ε k, 2, .inr (.inr (.inr (.inr (fun i => some (eA ε (k + 1 + 11 * i)))))))
def jpic (ε : jenv) (μ : jm) : va_W := (List.range 78).map (fun k => (eA ε k, jce ε μ k (shl.getD k 0)))
theorem jpic_at (ε : jenv) (μ : jm) {k : Nat} (h : k < 78) : (jpic ε μ)[k]? = some (eA ε k, jce ε μ k (shl.getD k 0)) := by
  simp [jpic, h]
theorem jpic_out (ε : jenv) (μ : jm) {k : Nat} (h : ¬ k < 78) : (jpic ε μ)[k]? = none := by
  simp [jpic]; omega
theorem jpic_len (ε : jenv) (μ : jm) : (jpic ε μ).length = 78 := by simp [jpic]
/-- the same cells but one -/
theorem jpic_set (ε : jenv) (μ μ' : jm) {k : Nat} (h : k < 78) (h1 : ∀ a b, a ≠ k → μ'.1 a b = μ.1 a b) (h2 : ∀ a b, a ≠ k → μ'.2 a b = μ.2 a b) : (jpic ε μ).set k (eA ε k, jce ε μ' k (shl.getD k 0)) = jpic ε μ' := by
  apply List.ext_getElem?
  intro i
  by_cases hi : i < 78
  · by_cases hk : i = k
    · subst hk
      rw [List.getElem?_set_self (by rw [jpic_len]; exact h), jpic_at ε μ' h]
    · rw [List.getElem?_set_ne (fun e => hk e.symm), jpic_at ε μ hi, jpic_at ε μ' hi]
      have e1 : μ'.1 i = μ.1 i := funext fun b => h1 i b hk
      have e2 : μ'.2 i = μ.2 i := funext fun b => h2 i b hk
      have e3 : ∀ (l : List (Nat × Nat × Nat)) (s : Nat), jfs ε μ' i s l = jfs ε μ i s l := by
        intro l
        induction l with
        | nil => intro s; rfl
        | cons a l ih =>
          intro s
          obtain ⟨kd, tg, of⟩ := a
          simp only [jfs, e1, e2, ih]
      simp only [jce, e1, e2, e3]
  · rw [jpic_out ε μ' hi]
    have : ((jpic ε μ).set k (eA ε k, jce ε μ' k (shl.getD k 0)))[i]? = none := by
      apply List.getElem?_eq_none
      rw [List.length_set, jpic_len]
      omega
    exact this
theorem jpic_D {ε : jenv} {μ μ' : jm} {A : Nat → Prop} (h : va_D A (jpic ε μ)) : va_D A (jpic ε μ') := by
  refine ⟨?_, ?_⟩
  · intro i j p q hi hj e
    have hi' : i < 78 := by
      rcases Nat.lt_or_ge i 78 with h | h
      · exact h
      · rw [jpic_out ε μ' (by omega)] at hi; cases hi
    have hj' : j < 78 := by
      rcases Nat.lt_or_ge j 78 with h | h
      · exact h
      · rw [jpic_out ε μ' (by omega)] at hj; cases hj
    rw [jpic_at ε μ' hi'] at hi
    rw [jpic_at ε μ' hj'] at hj
    cases hi; cases hj
    exact h.1 i j _ _ (jpic_at ε μ hi') (jpic_at ε μ hj') e
  · intro k q hk
    have hk' : k < 78 := by
      rcases Nat.lt_or_ge k 78 with h | h
      · exact h
      · rw [jpic_out ε μ' (by omega)] at hk; cases hk
    rw [jpic_at ε μ' hk'] at hk
    cases hk
    have h9 := h.2 k _ (jpic_at ε μ hk')
    exact h9
theorem jpic_A {ε : jenv} {μ μ' : jm} {sz q : Nat} (h : va_A (jpic ε μ) sz q) : va_A (jpic ε μ') sz q := by
  rcases h with ⟨k, e, h⟩ | h
  · have hk : k < 78 := by
      rcases Nat.lt_or_ge k 78 with h' | h'
      · exact h'
      · rw [jpic_out ε μ (by omega)] at h; cases h
    rw [jpic_at ε μ hk] at h
    cases h
    exact Or.inl ⟨k, _, jpic_at ε μ' hk⟩
  · exact Or.inr h
/-- what stands outside the cells -/
def jsf (ε : jenv) (A : Nat → Prop) (U : State) : Prop :=
  va_Z "java/lang/String" "COMPACT_STRINGS" "Z" (.int 1) A U U.heap ∧
  va_Z "jdk/internal/util/Preconditions" "SIOOBE_FORMATTER" "Ljava/util/function/BiFunction;" (eF ε) A U U.heap ∧
  (eF ε = .null ∨ ∃ a, eF ε = .ref a) ∧
  va_Z "OneNote$Text" "NUMBERS_OF" "[I" (.ref (eN ε)) A U U.heap ∧
  va_T .int (eN ε) 6 (fun i => .int (jnum i)) A U U.heap ∧
  (∀ k, k < 6 → vk_R "OneNote$Text" (jsx k) (jtx k) (eO ε k) U) ∧
  vk_S 6 (jwords.map List.length) jwords (eO ε) (eB ε) A U U.heap ∧
  (va_X (eS ε) (eL ε) (eX ε) U U.heap ∧ eS ε < U.heap.size ∧ ¬ A (eS ε)) ∧
  va_K (eD ε) vwCl (tysJ ε) U ∧
  (∀ w ∈ nws, va_Nw w U)
theorem jnw_on : ∀ w ∈ nws, w.onTables = true := by decide +kernel
theorem jnw_warm {s U : State} (hW : s.WarmedH U.vm) {w : Cond} (hw : w ∈ nws) (h : va_Nw w s) : va_Nw w U := by
  have hk : (∃ a i b n d h, w = .fieldLinkNest a i b n d h) ∨ ∃ a i x h, w = .methodLinkNest a i x h := by
    simp only [nws, List.mem_cons, List.not_mem_nil, or_false] at hw
    rcases hw with rfl | rfl | rfl | rfl | rfl | rfl | rfl | rfl | rfl | rfl | rfl | rfl | rfl | rfl | rfl | rfl | rfl | rfl | rfl | rfl | rfl | rfl | rfl | rfl | rfl | rfl | rfl | rfl | rfl | rfl | rfl | rfl | rfl <;> first | exact Or.inl ⟨_, _, _, _, _, _, rfl⟩ | exact Or.inr ⟨_, _, _, _, rfl⟩
  rcases hk with ⟨a, i, b, n, d, h', rfl⟩ | ⟨a, i, x, h', rfl⟩
  · exact va_Nw.warmF hW h
  · exact va_Nw.warmM hW h
/-- carried over to a callee's start -/
theorem jsf_to {ε : jenv} {A B : Nat → Prop} {s U : State} {H : Heap} {locs : List Loc} (h : jsf ε A s) (hS : va_S A s.heap H locs) (hU : U.heap = H) (hW : s.WarmedH U.vm) (hB : ∀ q, B q → A q) : jsf ε B U := by
  obtain ⟨h1, h2, h3, h4, h5, h6, h7, ⟨h8, h9, h10⟩, h11, h12⟩ := h
  have hk : ∀ a : Nat, a < s.heap.size → ¬ A a → H[a]? = s.heap[a]? := hS.2.1
  have al := hW.alike
  rw [jsf, hU]
  exact ⟨((h1.kept hk).moved al).narrow hB, ((h2.kept hk).moved al).narrow hB, h3, ((h4.kept hk).moved al).narrow hB, ((h5.kept hk).moved al).narrow hB, fun k hk => (h6 k hk).warm hW, ((h7.kept hk).moved al).narrow hB, ⟨(h8.kept (hk _ h9 h10)).moved al, Nat.lt_of_lt_of_le h9 hS.1, fun z => h10 (hB _ z)⟩, h11.moved al, fun w hw => jnw_warm hW hw (h12 w hw)⟩
theorem jsf_same {ε : jenv} {A : Nat → Prop} {U V : State} (hh : V.heap = U.heap) (hv : V.vm = U.vm) (h : jsf ε A U) : jsf ε A V := by
  obtain ⟨h1, h2, h3, h4, h5, h6, h7, ⟨h8, h9, h10⟩, h11, h12⟩ := h
  have al : U.vm.Alike V.vm := by rw [hv]; exact Vm.Alike.refl U.vm
  rw [jsf, hh]
  exact ⟨h1.moved al, h2.moved al, h3, h4.moved al, h5.moved al, fun k hk => (h6 k hk).same hv, h7.moved al, ⟨h8.moved al, h9, h10⟩, h11.moved al, fun w hw => va_Nw.same (jnw_on w hw) hv.symm (h12 w hw)⟩
theorem jcalling_heap (U : State) (g : JFrame) (mk : MethodId) (a : Array Value) : (U.calling g mk a).heap = U.heap := rfl
theorem jcalling_vm (U : State) (g : JFrame) (mk : MethodId) (a : Array Value) : (U.calling g mk a).vm = U.vm := rfl
theorem jsf_calling {ε : jenv} {A : Nat → Prop} {U : State} {g : JFrame} {mk : MethodId} {a : Array Value} (h : jsf ε A U) : jsf ε A (U.calling g mk a) := jsf_same (jcalling_heap U g mk a) (jcalling_vm U g mk a) h
/-- the script in the memory -/
def jscr (ε : jenv) (μ : jm) : Prop := ∀ i, i < eL ε → μ.1 99 i = eX ε i
/-- a method's contract, out of an answer of the plain machine -/
def jPc (ε : jenv) (as : List jv) (μ : jm) (sz : Nat) : Array Value → State → Prop := va_Pc (as.map (jtr ε)) (fun U => U.heap.size = sz ∧ jsf ε (va_A (jpic ε μ) sz) U ∧ va_P (eD ε) vwCl (jpic ε μ) U.heap ∧ va_D (fun _ => True) (jpic ε μ) ∧ jscr ε μ)
def jQc (ε : jenv) (μ : jm) (sz : Nat) (v : Option jv) (μ2 : jm) : Array Value → State → Outcome → State → Prop := fun _ st oc t => oc = .returned (v.map (jtr ε)) ∧ (va_P (eD ε) vwCl (jpic ε μ2) t.heap ∧ (∀ w, v = some w → jok ε w) ∧ jscr ε μ2) ∧ va_F (va_A (jpic ε μ) sz) st t
def jCT (l : Launch) (ε : jenv) (j : Nat) (as : List jv) (μ : jm) (v : Option jv) (μ2 : jm) : Prop := ∀ sz, Met l (yT j) (wsT j) (rmT j) (jPc ε as μ sz) (jQc ε μ sz v μ2) 0 0 (va_A (jpic ε μ) sz)
/-- locals -/
def jlv (ε : jenv) (arr : Array Slot) (n : Nat) (ls : List jv) : Prop := arr.size = n ∧ lv_wf arr ∧ ls.length = n ∧ ∀ (i : Nat) (v : jv), ls[i]? = some v → v = jU ∨ (jok ε v ∧ arr[i]? = some (.val (jtr ε v)))
theorem jcl_len (m : List Nat) : ∀ ls : List jv, (jcl m ls).length = ls.length := by
  induction m with
  | nil => intro ls; rfl
  | cons a r ih => intro ls; show (jcl r (ls.set a jU)).length = _; rw [ih, List.length_set]
theorem jcl_get (m : List Nat) : ∀ (ls : List jv) (i : Nat) (v : jv), (jcl m ls)[i]? = some v → v = jU ∨ ls[i]? = some v := by
  induction m with
  | nil => intro ls i v h; exact Or.inr h
  | cons a r ih =>
    intro ls i v h
    rcases ih (ls.set a jU) i v h with h | h
    · exact Or.inl h
    · rw [List.getElem?_set] at h
      split at h
      · split at h
        · exact Or.inl (Option.some.inj h).symm
        · cases h
      · exact Or.inr h
theorem jlv_cl {ε : jenv} {arr : Array Slot} {n : Nat} {ls : List jv} (m : List Nat) (h : jlv ε arr n ls) : jlv ε arr n (jcl m ls) := by
  refine ⟨h.1, h.2.1, by rw [jcl_len]; exact h.2.2.1, fun i v hv => ?_⟩
  rcases jcl_get m ls i v hv with e | e
  · exact Or.inl e
  · exact h.2.2.2 i v e
/-- the listed values, as the kit lists them -/
def jopt (ε : jenv) : jv → Option Value
  | .inr (.inr (.inr _)) => none
  | v => some (jtr ε v)
def jpl (ε : jenv) (ls : List jv) : List (Nat × Value) := (List.range ls.length).filterMap (fun i => (ls[i]?.bind (jopt ε)).map (fun v => (i, v)))
theorem jopt_some {ε : jenv} {v : jv} (h : v ≠ jU) : jopt ε v = some (jtr ε v) := by
  match v, h with
  | .inl _, _ => rfl
  | .inr (.inl _), _ => rfl
  | .inr (.inr (.inl _)), _ => rfl
  | .inr (.inr (.inr ())), h => exact absurd rfl h
theorem jpl_mem {ε : jenv} {ls : List jv} {i : Nat} {v : jv} (h : ls[i]? = some v) (hv : v ≠ jU) : (i, jtr ε v) ∈ jpl ε ls := by
  have hi : i < ls.length := (List.getElem?_eq_some_iff.mp h).1
  exact List.mem_filterMap.mpr ⟨i, List.mem_range.mpr hi, by rw [h]; show ((jopt ε v).map fun w => (i, w)) = _; rw [jopt_some hv]; rfl⟩
theorem jpl_has {ε : jenv} {arr : Array Slot} {n : Nat} {ls : List jv} (h : jlv ε arr n ls) : lv_has arr n (jpl ε ls) := by
  refine ⟨h.1, h.2.1, fun q hq => ?_⟩
  obtain ⟨i, -, hi⟩ := List.mem_filterMap.mp hq
  cases hv : ls[i]? with
  | none => rw [hv] at hi; cases hi
  | some v =>
    rw [hv] at hi
    by_cases hu : v = jU
    · subst hu; cases hi
    · rw [show ((some v).bind (jopt ε)) = jopt ε v from rfl, jopt_some hu] at hi
      cases hi
      rcases h.2.2.2 i v hv with e | e
      · exact absurd e hu
      · exact e.2
theorem jcat {ε : jenv} {v : jv} (hF : eF ε = .null ∨ ∃ a, eF ε = .ref a) : (jtr ε v).category = jwd v := by
  match v with
  | .inl _ => rfl
  | .inr (.inl _) => rfl
  | .inr (.inr (.inl (t, k))) =>
    show (jtr ε (.inr (.inr (.inl (t, k))))).category = 1
    rw [jtr]
    split
    · rcases hF with e | ⟨a, e⟩ <;> rw [e] <;> rfl
    · split
      · rfl
      · split
        · rfl
        · split
          · rfl
          · split <;> rfl
  | .inr (.inr (.inr _)) => rfl
theorem jst_len : ∀ (ls : List jv) (i : Nat) (v : jv), (jst ls i v).length = ls.length
  | [], _, _ => rfl
  | _ :: r, 0, v => rfl
  | a :: r, i + 1, v => by show ((_ :: jst r i v)).length = _; simp [jst_len r i v]
theorem jst2_len : ∀ (ls : List jv) (i : Nat) (v : jv), (jst2 ls i v).length = ls.length
  | [], _, _ => rfl
  | _ :: [], 0, v => rfl
  | _ :: _ :: r, 0, v => rfl
  | a :: r, i + 1, v => by show ((_ :: jst2 r i v)).length = _; simp [jst2_len r i v]
/-- what a store leaves: the value, or a local that was there and is no long cut in two -/
theorem jst_get : ∀ (ls : List jv) (i : Nat) (v : jv) (p : Nat) (w : jv), (jst ls i v)[p]? = some w → (p = i ∧ w = v) ∨ w = jU ∨ (p ≠ i ∧ ls[p]? = some w ∧ (p + 1 = i → jwd w = 1))
  | [], _, _, p, w, h => by simp [jst] at h
  | a :: r, 0, v, 0, w, h => Or.inl ⟨rfl, (Option.some.inj h).symm⟩
  | a :: r, 0, v, p + 1, w, h => Or.inr (Or.inr ⟨by omega, h, by omega⟩)
  | a :: r, 1, v, 0, w, h => by
    have h : some (jkl a) = some w := h
    match a, h with
    | .inl x, h => exact Or.inr (Or.inr ⟨by omega, h, fun _ => by rw [← Option.some.inj h]; rfl⟩)
    | .inr (.inl x), h => exact Or.inr (Or.inl (Option.some.inj h).symm)
    | .inr (.inr x), h => exact Or.inr (Or.inr ⟨by omega, h, fun _ => by rw [← Option.some.inj h]; rfl⟩)
  | a :: r, i + 2, v, 0, w, h => Or.inr (Or.inr ⟨by omega, h, by omega⟩)
  | a :: r, i + 1, v, p + 1, w, h => by
    have h : (jst r i v)[p]? = some w := by
      cases i <;> exact h
    rcases jst_get r i v p w h with e | e | e
    · exact Or.inl ⟨by omega, e.2⟩
    · exact Or.inr (Or.inl e)
    · exact Or.inr (Or.inr ⟨by omega, e.2.1, fun z => e.2.2 (by omega)⟩)
theorem jst2_get : ∀ (ls : List jv) (i : Nat) (v : jv) (p : Nat) (w : jv), (jst2 ls i v)[p]? = some w → (p = i ∧ w = v) ∨ w = jU ∨ (p ≠ i ∧ p ≠ i + 1 ∧ ls[p]? = some w ∧ (p + 1 = i → jwd w = 1))
  | [], _, _, p, w, h => by simp [jst2] at h
  | a :: r, 0, v, 0, w, h => Or.inl ⟨rfl, (Option.some.inj h).symm⟩
  | a :: [], 0, v, p + 1, w, h => by
    have h : ([] : List jv)[p]? = some w := h
    simp at h
  | a :: b :: r, 0, v, 1, w, h => Or.inr (Or.inl (Option.some.inj h).symm)
  | a :: b :: r, 0, v, p + 2, w, h => Or.inr (Or.inr ⟨by omega, by omega, h, by omega⟩)
  | a :: r, 1, v, 0, w, h => by
    have h : some (jkl a) = some w := h
    match a, h with
    | .inl x, h => exact Or.inr (Or.inr ⟨by omega, by omega, h, fun _ => by rw [← Option.some.inj h]; rfl⟩)
    | .inr (.inl x), h => exact Or.inr (Or.inl (Option.some.inj h).symm)
    | .inr (.inr x), h => exact Or.inr (Or.inr ⟨by omega, by omega, h, fun _ => by rw [← Option.some.inj h]; rfl⟩)
  | a :: r, i + 2, v, 0, w, h => Or.inr (Or.inr ⟨by omega, by omega, h, by omega⟩)
  | a :: r, i + 1, v, p + 1, w, h => by
    have h : (jst2 r i v)[p]? = some w := by
      cases i <;> exact h
    rcases jst2_get r i v p w h with e | e | e
    · exact Or.inl ⟨by omega, e.2⟩
    · exact Or.inr (Or.inl e)
    · exact Or.inr (Or.inr ⟨by omega, by omega, e.2.2.1, fun z => e.2.2.2 (by omega)⟩)
theorem jok_nU {ε : jenv} {v : jv} (h : jok ε v) : v ≠ jU := fun e => by subst e; exact h
theorem jlv_st {ε : jenv} {arr arr' : Array Slot} {n i : Nat} {ls : List jv} {v : jv} (hF : eF ε = .null ∨ ∃ a, eF ε = .ref a) (h : jlv ε arr n ls) (hv : jok ε v) (h' : lv_has arr' n ((i, jtr ε v) :: (jpl ε ls).filter (fun q => !(q.1 == i) && !(q.1 + 1 == i && q.2.category == 2)))) : jlv ε arr' n (jst ls i v) := by
  refine ⟨h'.1, h'.2.1, by rw [jst_len]; exact h.2.2.1, fun p w hw => ?_⟩
  rcases jst_get ls i v p w hw with ⟨rfl, rfl⟩ | e | ⟨e1, e2, e3⟩
  · exact Or.inr ⟨hv, h'.2.2 (p, jtr ε w) List.mem_cons_self⟩
  · exact Or.inl e
  · rcases h.2.2.2 p w e2 with e | ⟨e, -⟩
    · exact Or.inl e
    · refine Or.inr ⟨e, h'.2.2 (p, jtr ε w) (List.mem_cons_of_mem _ (List.mem_filter.mpr ⟨jpl_mem e2 (jok_nU e), ?_⟩))⟩
      have e4 : (jtr ε w).category = jwd w := jcat hF
      by_cases hp : p + 1 = i
      · simp [e1, e4, e3 hp]
      · simp [e1, hp]
theorem jlv_st2 {ε : jenv} {arr arr' : Array Slot} {n i : Nat} {ls : List jv} {v : jv} (hF : eF ε = .null ∨ ∃ a, eF ε = .ref a) (h : jlv ε arr n ls) (hv : jok ε v) (h' : lv_has arr' n ((i, jtr ε v) :: (jpl ε ls).filter (fun q => !(q.1 == i) && (!(q.1 == i + 1) && !(q.1 + 1 == i && q.2.category == 2))))) : jlv ε arr' n (jst2 ls i v) := by
  refine ⟨h'.1, h'.2.1, by rw [jst2_len]; exact h.2.2.1, fun p w hw => ?_⟩
  rcases jst2_get ls i v p w hw with ⟨rfl, rfl⟩ | e | ⟨e1, e2, e3, e5⟩
  · exact Or.inr ⟨hv, h'.2.2 (p, jtr ε w) List.mem_cons_self⟩
  · exact Or.inl e
  · rcases h.2.2.2 p w e3 with e | ⟨e, -⟩
    · exact Or.inl e
    · refine Or.inr ⟨e, h'.2.2 (p, jtr ε w) (List.mem_cons_of_mem _ (List.mem_filter.mpr ⟨jpl_mem e3 (jok_nU e), ?_⟩))⟩
      have e4 : (jtr ε w).category = jwd w := jcat hF
      by_cases hp : p + 1 = i
      · simp [e1, e2, e4, e5 hp]
      · simp [e1, e2, hp]
end
section
/-! what an action of the plain machine says of its stack -/
theorem jop2_some {f : Int32 → Int32 → Int32} {ls st : List jv} {μ : jm} {a : ja} (h : jop2 f ls st μ = some a) : ∃ x y r, st = .inl y :: .inl x :: r ∧ a = .inl (none, ls, .inl (f x y) :: r, μ) := by
  unfold jop2 at h
  split at h
  · exact ⟨_, _, _, rfl, (Option.some.inj h).symm⟩
  · cases h
theorem jop2g_some {f : Int32 → Int32 → Int32} {ls st : List jv} {μ : jm} {a : ja} (h : jop2g f ls st μ = some a) : ∃ x y r, st = .inl y :: .inl x :: r ∧ a = .inl (some (decide (¬ y = 0)), ls, .inl (f x y) :: r, μ) := by
  unfold jop2g at h
  split at h
  · exact ⟨_, _, _, rfl, (Option.some.inj h).symm⟩
  · cases h
theorem jop1_some {f : Int32 → Int32} {ls st : List jv} {μ : jm} {a : ja} (h : jop1 f ls st μ = some a) : ∃ x r, st = .inl x :: r ∧ a = .inl (none, ls, .inl (f x) :: r, μ) := by
  unfold jop1 at h
  split at h
  · exact ⟨_, _, rfl, (Option.some.inj h).symm⟩
  · cases h
theorem jlp2_some {f : Int64 → Int64 → Int64} {ls st : List jv} {μ : jm} {a : ja} (h : jlp2 f ls st μ = some a) : ∃ x y r, st = .inr (.inl y) :: .inr (.inl x) :: r ∧ a = .inl (none, ls, .inr (.inl (f x y)) :: r, μ) := by
  unfold jlp2 at h
  split at h
  · exact ⟨_, _, _, rfl, (Option.some.inj h).symm⟩
  · cases h
theorem jlp2g_some {f : Int64 → Int64 → Int64} {ls st : List jv} {μ : jm} {a : ja} (h : jlp2g f ls st μ = some a) : ∃ x y r, st = .inr (.inl y) :: .inr (.inl x) :: r ∧ a = .inl (some (decide (¬ y = 0)), ls, .inr (.inl (f x y)) :: r, μ) := by
  unfold jlp2g at h
  split at h
  · exact ⟨_, _, _, rfl, (Option.some.inj h).symm⟩
  · cases h
theorem jlsh_some {f : Int64 → Int32 → Int64} {ls st : List jv} {μ : jm} {a : ja} (h : jlsh f ls st μ = some a) : ∃ x y r, st = .inl y :: .inr (.inl x) :: r ∧ a = .inl (none, ls, .inr (.inl (f x y)) :: r, μ) := by
  unfold jlsh at h
  split at h
  · exact ⟨_, _, _, rfl, (Option.some.inj h).symm⟩
  · cases h
theorem jif_some {f : Int32 → Bool} {t : Nat} {ls st : List jv} {μ : jm} {a : ja} (h : jif f t ls st μ = some a) : ∃ x r, st = .inl x :: r ∧ a = .inr (.inl (some (f x), t, ls, r, μ)) := by
  unfold jif at h
  split at h
  · exact ⟨_, _, rfl, (Option.some.inj h).symm⟩
  · cases h
theorem jif2_some {f : Int32 → Int32 → Bool} {t : Nat} {ls st : List jv} {μ : jm} {a : ja} (h : jif2 f t ls st μ = some a) : ∃ x y r, st = .inl y :: .inl x :: r ∧ a = .inr (.inl (some (f x y), t, ls, r, μ)) := by
  unfold jif2 at h
  split at h
  · exact ⟨_, _, _, rfl, (Option.some.inj h).symm⟩
  · cases h
theorem jld_0 {ls : List jv} {i : Nat} {st : List jv} {μ : jm} {a : ja} (h : jld ls i st μ 0 = some a) : ∃ x, ls[i]? = some (.inl x) ∧ a = .inl (none, ls, .inl x :: st, μ) := by
  unfold jld at h
  split at h
  · rename_i x hx; exact ⟨x, hx, (Option.some.inj h).symm⟩
  · simp at h
  · simp at h
  · cases h
theorem jld_1 {ls : List jv} {i : Nat} {st : List jv} {μ : jm} {a : ja} (h : jld ls i st μ 1 = some a) : ∃ x, ls[i]? = some (.inr (.inl x)) ∧ a = .inl (none, ls, .inr (.inl x) :: st, μ) := by
  unfold jld at h
  split at h
  · simp at h
  · rename_i x hx; exact ⟨x, hx, (Option.some.inj h).symm⟩
  · simp at h
  · cases h
theorem jld_2 {ls : List jv} {i : Nat} {st : List jv} {μ : jm} {a : ja} (h : jld ls i st μ 2 = some a) : ∃ x, ls[i]? = some (.inr (.inr (.inl x))) ∧ a = .inl (none, ls, .inr (.inr (.inl x)) :: st, μ) := by
  unfold jld at h
  split at h
  · simp at h
  · simp at h
  · rename_i x hx; exact ⟨x, hx, (Option.some.inj h).symm⟩
  · cases h
theorem jsv_0 {ls : List jv} {i : Nat} {st : List jv} {μ : jm} {a : ja} (h : jsv ls i st μ 0 = some a) : ∃ x r, st = .inl x :: r ∧ a = .inl (none, jst ls i (.inl x), r, μ) := by
  unfold jsv at h
  split at h
  · exact ⟨_, _, rfl, (Option.some.inj h).symm⟩
  · simp at h
  · cases h
theorem jsv_1 {ls : List jv} {i : Nat} {st : List jv} {μ : jm} {a : ja} (h : jsv ls i st μ 1 = some a) : ∃ x r, st = .inr (.inl x) :: r ∧ a = .inl (none, jst2 ls i (.inr (.inl x)), r, μ) := by
  unfold jsv at h
  split at h
  · simp at h
  · exact ⟨_, _, rfl, (Option.some.inj h).symm⟩
  · cases h
/-! the worlds, the frame -/
def jinv (ε : jenv) (s : State) (A : Nat → Prop) (H : Heap) (locs : List Loc) (μ : jm) : Prop := va_P (eD ε) vwCl (jpic ε μ) H ∧ va_D A (jpic ε μ) ∧ va_S A s.heap H locs ∧ jscr ε μ
def jctx (p : Program) (s : State) (m : MethodId) (args : Array Value) (c : Code) (ε : jenv) (A : Nat → Prop) (own : String) (b : ByteArray) (mx : Nat) : Prop := p.tables.exec = Jvm.exec ∧ c.code = b ∧ c.maxLocals = mx ∧ s.vm.findClass own = some m.cls ∧ (∀ w ∈ ws0, w.before args s = true) ∧ jsf ε A s ∧ ∀ q, s.heap.size ≤ q → A q
def KW (p : Program) (l : Launch) (e : Env) (R : Room) (s : State) (m : MethodId) (args : Array Value) (below : List Frame) (meth : Method) (c : Code) (cells slots : Nat) (Q : State → Prop) (ε : jenv) (A : Nat → Prop) (mx pc : Nat) (ls st : List jv) (μ : jm) : Prop := ∀ (arr : Array Slot) (H : Heap) (locs : List Loc), jlv ε arr mx ls → (∀ v ∈ st, jok ε v) → jinv ε s A H locs μ → W p l e R s m args below meth c H locs cells slots Q (F0 m pc arr (st.map (jtr ε)))
theorem ok_c {ε : jenv} {v : jv} {st : List jv} (hv : jok ε v) (h : ∀ w ∈ st, jok ε w) : ∀ w ∈ v :: st, jok ε w := fun w hw => (List.mem_cons.mp hw).elim (fun e => e ▸ hv) (h w)
theorem ok_t {ε : jenv} {v : jv} {st : List jv} (h : ∀ w ∈ v :: st, jok ε w) : ∀ w ∈ st, jok ε w := fun w hw => h w (List.mem_cons_of_mem _ hw)
theorem ok_h {ε : jenv} {v : jv} {st : List jv} (h : ∀ w ∈ v :: st, jok ε w) : jok ε v := h v List.mem_cons_self
theorem jin_iff {i : Int32} {n : Nat} : inB i n = true ↔ vp_in i n := by rw [inB, decide_eq_true_iff, vp_in_iff]
/-- a reference to one of the cells -/
theorem jrk_cell {ε : jenv} {t k : Nat} (h : jrk ε t k) (h1 : t ≠ 94) (h2 : t ≠ 95) (h3 : t ≠ 96) (h4 : t ≠ 97) (h5 : t ≠ 98) : k < 78 ∧ shl.getD k 0 = t ∧ jtr ε (.inr (.inr (.inl (t, k)))) = .ref (eA ε k) := by
  have e : k < 78 ∧ shl.getD k 0 = t := by
    rcases h with h | ⟨h, -⟩ | ⟨h, -⟩ | h | ⟨h, -⟩ | h
    · exact absurd h h1
    · exact absurd h h2
    · exact absurd h h3
    · exact absurd h h4
    · exact absurd h h5
    · exact h
  exact ⟨e.1, e.2, by rw [jtr, if_neg h1, if_neg h2, if_neg h3, if_neg h4, if_neg h5]⟩
theorem jdiv {t n : Nat} (h : t / 1000 = n) (hn : 1 ≤ n) : t ≠ 94 ∧ t ≠ 95 ∧ t ≠ 96 ∧ t ≠ 97 ∧ t ≠ 98 := by
  refine ⟨?_, ?_, ?_, ?_, ?_⟩ <;> (intro e; subst e; simp at h; omega)
theorem jce_0 {ε : jenv} {μ : jm} {k t : Nat} (h : t < 1000) : jce ε μ k t = .inr (t, jfs ε μ k 0 (fdl t)) := by
  have e : t / 1000 = 0 := Nat.div_eq_of_lt h
  simp only [jce, e]
theorem jce_1 {ε : jenv} {μ : jm} {k t : Nat} (h : t / 1000 = 1) : jce ε μ k t = .inl (eT ε k, t - 1000, .inl (μ.1 k)) := by simp only [jce, h]
theorem jce_2 {ε : jenv} {μ : jm} {k t : Nat} (h : t / 1000 = 2) : jce ε μ k t = .inl (eT ε k, t - 2000, .inr (.inl (μ.2 k))) := by simp only [jce, h]
theorem jce_3 {ε : jenv} {μ : jm} {k t : Nat} (h : t / 1000 = 3) : jce ε μ k t = .inl (eT ε k, t - 3000, .inl (μ.1 k)) := by simp only [jce, h]
theorem jce_4 {ε : jenv} {μ : jm} {k t : Nat} (h : t / 1000 = 4) : jce ε μ k t = .inl (eT ε k, t - 4000, .inl (μ.1 k)) := by simp only [jce, h]
theorem jfs_at {ε : jenv} {μ : jm} {k : Nat} : ∀ (l : List (Nat × Nat × Nat)) (s i : Nat) (kd tg of : Nat), l[i]? = some (kd, tg, of) → (jfs ε μ k s l)[i]? = some (if kd = 0 then .int (μ.1 k (s + i)) else if kd = 1 then .long (μ.2 k (s + i)) else .ref (eA ε (k + of)))
  | [], s, i, kd, tg, of, h => by simp at h
  | (kd', tg', of') :: r, s, 0, kd, tg, of, h => by
    have e := Option.some.inj (show some (kd', tg', of') = some (kd, tg, of) from h)
    cases e
    rfl
  | (kd', tg', of') :: r, s, i + 1, kd, tg, of, h => by
    have h2 := jfs_at (ε := ε) (μ := μ) (k := k) r (s + 1) i kd tg of h
    have e : s + 1 + i = s + (i + 1) := by omega
    rw [e] at h2
    exact h2
theorem jfs_len {ε : jenv} {μ : jm} {k : Nat} : ∀ (l : List (Nat × Nat × Nat)) (s : Nat), (jfs ε μ k s l).length = l.length
  | [], s => rfl
  | (_, _, _) :: r, s => by show (_ :: jfs ε μ k (s + 1) r).length = _; simp [jfs_len r (s + 1)]
/-- a field written -/
theorem jfs_setI {ε : jenv} {μ : jm} {k sl : Nat} {v : Int32} : ∀ (l : List (Nat × Nat × Nat)) (s i : Nat), sl = s + i → l[i]? = some (0, 0, 0) → (∀ j, j < i → True) → (jfs ε μ k s l).set i (.int v) = jfs ε (sI μ k sl v) k s l
  | [], s, i, _, h, _ => by simp at h
  | (kd, tg, of) :: r, s, 0, hs, h, _ => by
    cases (Option.some.inj (show some (kd, tg, of) = some (0, 0, 0) from h))
    have hs : s = sl := by omega
    subst hs
    have e : ∀ (l : List (Nat × Nat × Nat)) (s2 : Nat), s < s2 → jfs ε (sI μ k s v) k s2 l = jfs ε μ k s2 l := by
      intro l
      induction l with
      | nil => intro s2 _; rfl
      | cons a l ih =>
        intro s2 h2
        obtain ⟨kd, tg, of⟩ := a
        have e1 : (sI μ k s v).1 k s2 = μ.1 k s2 := by
          show (if k = k ∧ s2 = s then v else μ.1 k s2) = _
          rw [if_neg (by omega)]
        have e2 : (sI μ k s v).2 k s2 = μ.2 k s2 := rfl
        simp only [jfs, e1, e2, ih (s2 + 1) (by omega)]
    show Value.int v :: jfs ε μ k (s + 1) r = _
    have e0 : (sI μ k s v).1 k s = v := by
      show (if k = k ∧ s = s then v else μ.1 k s) = v
      rw [if_pos ⟨rfl, rfl⟩]
    simp only [jfs, if_pos, e0, e r (s + 1) (by omega)]
  | (kd, tg, of) :: r, s, i + 1, hs, h, _ => by
    have h2 := jfs_setI (ε := ε) (μ := μ) (k := k) (sl := sl) (v := v) r (s + 1) i (by omega) h (fun _ _ => trivial)
    have e1 : (sI μ k sl v).1 k s = μ.1 k s := by
      show (if k = k ∧ s = sl then v else μ.1 k s) = _
      rw [if_neg (by omega)]
    have e2 : (sI μ k sl v).2 k s = μ.2 k s := rfl
    show _ :: (jfs ε μ k (s + 1) r).set i (.int v) = _
    rw [h2]
    simp only [jfs, e1, e2]
theorem jfs_setL {ε : jenv} {μ : jm} {k sl : Nat} {v : Int64} : ∀ (l : List (Nat × Nat × Nat)) (s i : Nat), sl = s + i → l[i]? = some (1, 0, 0) → (jfs ε μ k s l).set i (.long v) = jfs ε (sL μ k sl v) k s l
  | [], s, i, _, h => by simp at h
  | (kd, tg, of) :: r, s, 0, hs, h => by
    cases (Option.some.inj (show some (kd, tg, of) = some (1, 0, 0) from h))
    have hs : s = sl := by omega
    subst hs
    have e : ∀ (l : List (Nat × Nat × Nat)) (s2 : Nat), s < s2 → jfs ε (sL μ k s v) k s2 l = jfs ε μ k s2 l := by
      intro l
      induction l with
      | nil => intro s2 _; rfl
      | cons a l ih =>
        intro s2 h2
        obtain ⟨kd, tg, of⟩ := a
        have e1 : (sL μ k s v).2 k s2 = μ.2 k s2 := by
          show (if k = k ∧ s2 = s then v else μ.2 k s2) = _
          rw [if_neg (by omega)]
        have e2 : (sL μ k s v).1 k s2 = μ.1 k s2 := rfl
        simp only [jfs, e1, e2, ih (s2 + 1) (by omega)]
    show Value.long v :: jfs ε μ k (s + 1) r = _
    have e0 : (sL μ k s v).2 k s = v := by
      show (if k = k ∧ s = s then v else μ.2 k s) = v
      rw [if_pos ⟨rfl, rfl⟩]
    simp only [jfs, e0, e r (s + 1) (by omega)]
    simp
  | (kd, tg, of) :: r, s, i + 1, hs, h => by
    have h2 := jfs_setL (ε := ε) (μ := μ) (k := k) (sl := sl) (v := v) r (s + 1) i (by omega) h
    have e1 : (sL μ k sl v).2 k s = μ.2 k s := by
      show (if k = k ∧ s = sl then v else μ.2 k s) = _
      rw [if_neg (by omega)]
    have e2 : (sL μ k sl v).1 k s = μ.1 k s := rfl
    show _ :: (jfs ε μ k (s + 1) r).set i (.long v) = _
    rw [h2]
    simp only [jfs, e1, e2]
theorem jscr_sI {ε : jenv} {μ : jm} {k i : Nat} {v : Int32} (h : jscr ε μ) (hk : k < 78) : jscr ε (sI μ k i v) := fun j hj => by
  show (if 99 = k ∧ j = i then v else μ.1 99 j) = _
  rw [if_neg (by omega)]
  exact h j hj
/-- writing: the worlds behind it -/
theorem jinv_I {ε : jenv} {s : State} {A : Nat → Prop} {H H1 : Heap} {locs locs1 : List Loc} {μ : jm} {k i : Nat} {v : Int32} (h : jinv ε s A H locs μ) (hk : k < 78) (e : (jpic ε μ).set k (eA ε k, jce ε (sI μ k i v) k (shl.getD k 0)) = jpic ε (sI μ k i v) := by exact jpic_set ε _ _ (by assumption) (fun a b h => by show (if a = _ ∧ b = _ then _ else _) = _; rw [if_neg (fun z => h z.1)]) (fun _ _ _ => rfl)) (hP : va_P (eD ε) vwCl ((jpic ε μ).set k (eA ε k, jce ε (sI μ k i v) k (shl.getD k 0))) H1) (hS : va_S A s.heap H1 locs1) : jinv ε s A H1 locs1 (sI μ k i v) := ⟨e ▸ hP, jpic_D h.2.1, hS, jscr_sI h.2.2.2 hk⟩
theorem jinv_L {ε : jenv} {s : State} {A : Nat → Prop} {H H1 : Heap} {locs locs1 : List Loc} {μ : jm} {k i : Nat} {v : Int64} (h : jinv ε s A H locs μ) (hk : k < 78) (hP : va_P (eD ε) vwCl ((jpic ε μ).set k (eA ε k, jce ε (sL μ k i v) k (shl.getD k 0))) H1) (hS : va_S A s.heap H1 locs1) : jinv ε s A H1 locs1 (sL μ k i v) := ⟨(jpic_set ε μ (sL μ k i v) hk (fun _ _ _ => rfl) (fun a b h => by show (if a = k ∧ b = i then v else μ.2 a b) = _; rw [if_neg (fun z => h z.1)])) ▸ hP, jpic_D h.2.1, hS, h.2.2.2⟩
theorem jty_n {ε : jenv} {k t n : Nat} {ty : FieldType} (hk : k < 78) (hsh : shl.getD k 0 = t) (ht : t / 1000 = n) (h : jty (1000 * n) = some ty) (hn : n < 6) : ∃ t0 : Nat, (tysJ ε)[t0]? = some (eT ε k, ty) := tys_at hk (by rw [hsh, ← h, jty, jty, ht, Nat.mul_div_cancel_left n (by omega)])
end
section
/-! one instruction of the plain machine, as the machine does it -/
section SND
variable {p : Program} {l : Launch} {e : Env} {R : Room} {s : State} {m : MethodId} {args : Array Value} {below : List Frame} {meth : Method} {c : Code} {cells slots : Nat} {Q : State → Prop} {ε : jenv} {A : Nat → Prop} {mx : Nat} {own : String} {b : ByteArray}
/-- clearing locals loses nothing -/
theorem k_clear {pc : Nat} {ls st : List jv} {μ : jm} (mk : List Nat) (k : KW p l e R s m args below meth c cells slots Q ε A mx pc (jcl mk ls) st μ) : KW p l e R s m args below meth c cells slots Q ε A mx pc ls st μ := fun arr H locs hl hs hi => k arr H locs (jlv_cl mk hl) hs hi
theorem k_lget {arr : Array Slot} {ls : List jv} {i : Nat} {v : jv} (hl : jlv ε arr mx ls) (h : ls[i]? = some v) (hv : v ≠ jU) : jok ε v ∧ arr[i]? = some (.val (jtr ε v)) := (hl.2.2.2 i v h).resolve_left hv
theorem k_istore {pc i : Nat} {ls r : List jv} {x : Int32} {μ : jm} (C : jctx p s m args c ε A own b mx) (hn : i < mx) (hd : decode b pc = .ok (.istore i, 2)) (k : KW p l e R s m args below meth c cells slots Q ε A mx (pc + 2) (jst ls i (.inl x)) r μ) : KW p l e R s m args below meth c cells slots Q ε A mx pc ls (.inl x :: r) μ := fun arr H locs hl hs hi =>
  lv_istore C.1 C.2.1 hd (jpl_has hl) hn rfl (fun arr' h' => k arr' H locs (jlv_st (v := .inl x) C.2.2.2.2.2.1.2.2.1 hl trivial h') (ok_t hs) hi)
theorem k_istore_n {pc : Nat} {i : Fin 4} {ls r : List jv} {x : Int32} {μ : jm} (C : jctx p s m args c ε A own b mx) (hn : i.val < mx) (hd : decode b pc = .ok (.istore_n i, 1)) (k : KW p l e R s m args below meth c cells slots Q ε A mx (pc + 1) (jst ls i.val (.inl x)) r μ) : KW p l e R s m args below meth c cells slots Q ε A mx pc ls (.inl x :: r) μ := fun arr H locs hl hs hi =>
  lv_istore_n C.1 C.2.1 hd rfl (jpl_has hl) hn rfl (fun arr' h' => k arr' H locs (jlv_st (v := .inl x) C.2.2.2.2.2.1.2.2.1 hl trivial h') (ok_t hs) hi)
theorem k_lstore {pc i : Nat} {ls r : List jv} {x : Int64} {μ : jm} (C : jctx p s m args c ε A own b mx) (hn : i + 1 < mx) (hd : decode b pc = .ok (.lstore i, 2)) (k : KW p l e R s m args below meth c cells slots Q ε A mx (pc + 2) (jst2 ls i (.inr (.inl x))) r μ) : KW p l e R s m args below meth c cells slots Q ε A mx pc ls (.inr (.inl x) :: r) μ := fun arr H locs hl hs hi =>
  lv_lstore C.1 C.2.1 hd (jpl_has hl) hn rfl (fun arr' h' => k arr' H locs (jlv_st2 (v := .inr (.inl x)) C.2.2.2.2.2.1.2.2.1 hl trivial h') (ok_t hs) hi)
theorem k_lstore_n {pc : Nat} {i : Fin 4} {ls r : List jv} {x : Int64} {μ : jm} (C : jctx p s m args c ε A own b mx) (hn : i.val + 1 < mx) (hd : decode b pc = .ok (.lstore_n i, 1)) (k : KW p l e R s m args below meth c cells slots Q ε A mx (pc + 1) (jst2 ls i.val (.inr (.inl x))) r μ) : KW p l e R s m args below meth c cells slots Q ε A mx pc ls (.inr (.inl x) :: r) μ := fun arr H locs hl hs hi =>
  lv_lstore_n C.1 C.2.1 hd rfl (jpl_has hl) hn rfl (fun arr' h' => k arr' H locs (jlv_st2 (v := .inr (.inl x)) C.2.2.2.2.2.1.2.2.1 hl trivial h') (ok_t hs) hi)
theorem k_iinc {pc i : Nat} {n : Int} {ls st : List jv} {x v : Int32} {μ : jm} (C : jctx p s m args c ε A own b mx) (hn : i < mx) (hx : ls[i]? = some (.inl x)) (hv : Int32.ofInt n = v) (hd : decode b pc = .ok (.iinc i n, 3)) (k : KW p l e R s m args below meth c cells slots Q ε A mx (pc + 3) (jst ls i (.inl (x + v))) st μ) : KW p l e R s m args below meth c cells slots Q ε A mx pc ls st μ := fun arr H locs hl hs hi => by
  have h0 := jpl_has hl
  have hx2 := (k_lget hl hx (by intro z; cases z)).2
  have h1 : lv_has arr mx ((i, .int x) :: jpl ε ls) := ⟨h0.1, h0.2.1, fun q hq => (List.mem_cons.mp hq).elim (fun z => by rw [z]; exact hx2) (h0.2.2 q)⟩
  refine lv_iinc (k := 0) C.1 C.2.1 hd h1 rfl (by rw [hv]) hn rfl (fun arr' h' => k arr' H locs (jlv_st (v := .inl (x + v)) C.2.2.2.2.2.1.2.2.1 hl trivial ?_) hs hi)
  refine ⟨h'.1, h'.2.1, fun q hq => h'.2.2 q ?_⟩
  rcases List.mem_cons.mp hq with z | z
  · rw [z]; exact List.mem_cons_self
  · refine List.mem_cons_of_mem _ ?_
    obtain ⟨z1, z2⟩ := List.mem_filter.mp z
    exact List.mem_filter.mpr ⟨List.mem_cons_of_mem _ z1, z2⟩
/-! fields -/
theorem jcls {ci : Nat} (h : ci < 11) : ∃ q : vw_C, vwCl[ci]? = some q ∧ ∀ w ∈ u_ws q.1 q.2.1 q.2.2, w ∈ ws0 := by
  match ci, h with
  | 0, _ => exact ⟨_, rfl, by decide +kernel⟩
  | 1, _ => exact ⟨_, rfl, by decide +kernel⟩
  | 2, _ => exact ⟨_, rfl, by decide +kernel⟩
  | 3, _ => exact ⟨_, rfl, by decide +kernel⟩
  | 4, _ => exact ⟨_, rfl, by decide +kernel⟩
  | 5, _ => exact ⟨_, rfl, by decide +kernel⟩
  | 6, _ => exact ⟨_, rfl, by decide +kernel⟩
  | 7, _ => exact ⟨_, rfl, by decide +kernel⟩
  | 8, _ => exact ⟨_, rfl, by decide +kernel⟩
  | 9, _ => exact ⟨_, rfl, by decide +kernel⟩
  | 10, _ => exact ⟨_, rfl, by decide +kernel⟩
/-- the types of the fields, their names apart -/
theorem jtys {ci : Nat} (h : ci < 11) : ∃ (C : String) (T : u_T) (N : Nat) (ty : Nat → FieldType), vwCl[ci]? = some (C, T, N) ∧ (∀ k, k < N → parseFieldDescriptor (T k).2.2.1 = some (ty k)) ∧ (∀ a, a < N → ∀ b, b < N → a ≠ b → (T a).2.1 ≠ (T b).2.1) := by
  match ci, h with
  | 0, _ => exact ⟨_, _, _, tyX0, rfl, tyX0_ok, nmX0⟩
  | 1, _ => exact ⟨_, _, _, tyX1, rfl, tyX1_ok, nmX1⟩
  | 2, _ => exact ⟨_, _, _, tyX2, rfl, tyX2_ok, nmX2⟩
  | 3, _ => exact ⟨_, _, _, tyX3, rfl, tyX3_ok, nmX3⟩
  | 4, _ => exact ⟨_, _, _, tyX4, rfl, tyX4_ok, nmX4⟩
  | 5, _ => exact ⟨_, _, _, tyX5, rfl, tyX5_ok, nmX5⟩
  | 6, _ => exact ⟨_, _, _, tyX7, rfl, tyX7_ok, nmX7⟩
  | 7, _ => exact ⟨_, _, _, tyX8, rfl, tyX8_ok, nmX8⟩
  | 8, _ => exact ⟨_, _, _, tyX9, rfl, tyX9_ok, nmX9⟩
  | 9, _ => exact ⟨_, _, _, tyX10, rfl, tyX10_ok, nmX10⟩
  | 10, _ => exact ⟨_, _, _, tyX11, rfl, tyX11_ok, nmX11⟩
theorem jsh_ok : ∀ k, k < 78 → ∀ f ∈ fdl (shl.getD k 0), (shl.getD k 0) < 11 → f.1 = 2 → k + f.2.2 < 78 ∧ shl.getD (k + f.2.2) 0 = f.2.1 := by decide +kernel
theorem k_get {pc i ci sl kd tg of : Nat} {ls r : List jv} {k0 : Nat} {v : jv} {μ : jm} (C : jctx p s m args c ε A own b mx) (hci : ci < 11) (hf : (fdl ci)[sl]? = some (kd, tg, of)) (hw : jwf own i ci sl) (hv : (kd = 0 ∧ v = .inl (gI μ k0 sl)) ∨ (kd = 1 ∧ v = .inr (.inl (gL μ k0 sl))) ∨ (kd = 2 ∧ v = .inr (.inr (.inl (tg, k0 + of))))) (hd : decode b pc = .ok (.getfield i, 3)) (k : KW p l e R s m args below meth c cells slots Q ε A mx (pc + 3) ls (v :: r) μ) : KW p l e R s m args below meth c cells slots Q ε A mx pc ls (.inr (.inr (.inl (ci, k0))) :: r) μ := fun arr H locs hl hs hi => by
  obtain ⟨hx, hb, hml, hown, hts, hsf, hA⟩ := C
  obtain ⟨h1, h2, h3, h4, h5, h6, h7, h8, hK, hN⟩ := hsf
  obtain ⟨hk, hsh, htr⟩ := jrk_cell (ok_h hs) (by omega) (by omega) (by omega) (by omega) (by omega)
  obtain ⟨q, hq, hin⟩ := jcls hci
  obtain ⟨Cn, T, N, hw1, hw2, hw3, hw4⟩ := hw
  rw [hw1] at hq
  cases hq
  have he : (jpic ε μ)[k0]? = some (eA ε k0, .inr (ci, jfs ε μ k0 0 (fdl ci))) := by rw [jpic_at ε μ hk, hsh, jce_0 (by omega)]
  have hat := jfs_at (ε := ε) (μ := μ) (k := k0) (fdl ci) 0 sl kd tg of hf
  have hval : (jfs ε μ k0 0 (fdl ci))[sl]? = some (jtr ε v) ∧ jok ε v := by
    rcases hv with ⟨rfl, rfl⟩ | ⟨rfl, rfl⟩ | ⟨rfl, rfl⟩
    · refine ⟨?_, trivial⟩
      rw [hat]
      show some (Value.int (μ.1 k0 (0 + sl))) = some (Value.int (gI μ k0 sl))
      rw [Nat.zero_add]
      rfl
    · refine ⟨?_, trivial⟩
      rw [hat]
      show some (Value.long (μ.2 k0 (0 + sl))) = some (Value.long (gL μ k0 sl))
      rw [Nat.zero_add]
      rfl
    · have ho := jsh_ok k0 hk (2, tg, of) (by rw [hsh]; exact List.mem_of_getElem? hf) (by rw [hsh]; exact hci) rfl
      have hr : jrk ε tg (k0 + of) := Or.inr (Or.inr (Or.inr (Or.inr (Or.inr ⟨ho.1, ho.2⟩))))
      refine ⟨?_, hr⟩
      rw [hat]
      have htg : tg ≠ 94 ∧ tg ≠ 95 ∧ tg ≠ 96 ∧ tg ≠ 97 ∧ tg ≠ 98 := by
        have : ∀ k, k < 78 → shl.getD k 0 ≠ 94 ∧ shl.getD k 0 ≠ 95 ∧ shl.getD k 0 ≠ 96 ∧ shl.getD k 0 ≠ 97 ∧ shl.getD k 0 ≠ 98 := by decide +kernel
        have := this _ ho.1
        rw [ho.2] at this
        exact this
      rw [(jrk_cell hr htg.1 htg.2.1 htg.2.2.1 htg.2.2.2.1 htg.2.2.2.2).2.2]
      rfl
  have K := k arr H locs hl (ok_c hval.2 (ok_t hs)) hi
  show W p l e R s m args below meth c H locs cells slots Q (F0 m pc arr (jtr ε (.inr (.inr (.inl (ci, k0)))) :: r.map (jtr ε)))
  rw [htr]
  rcases hw4 with hlk | ⟨h, hlk⟩
  · exact va_get (D := eD ε) hx hb hts hin hown hK hi.1 k0 he hw1 sl hw2 (hts _ hlk) (fun x hx => by rw [hw3] at hx; exact hx) hval.1 hd K
  · exact va_getN (D := eD ε) hx hb hts hin hown hK hi.1 k0 he hw1 sl hw2 (va_Nw.use rfl (hN _ hlk)) (fun x hx => by rw [hw3] at hx; exact hx) hval.1 hd K
theorem k_putI {pc i ci sl : Nat} {ls r : List jv} {k0 : Nat} {v : Int32} {μ : jm} (C : jctx p s m args c ε A own b mx) (hci : ci < 11) (hf : (fdl ci)[sl]? = some (0, 0, 0)) (hw : jwp own i ci sl 0) (hd : decode b pc = .ok (.putfield i, 3)) (k : KW p l e R s m args below meth c cells slots Q ε A mx (pc + 3) ls r (sI μ k0 sl v)) : KW p l e R s m args below meth c cells slots Q ε A mx pc ls (.inl v :: .inr (.inr (.inl (ci, k0))) :: r) μ := fun arr H locs hl hs hi => by
  obtain ⟨hx, hb, hml, hown, hts, hsf, hA⟩ := C
  obtain ⟨h1, h2, h3, h4, h5, h6, h7, h8, hK, hN⟩ := hsf
  obtain ⟨hk, hsh, htr⟩ := jrk_cell (ok_h (ok_t hs)) (by omega) (by omega) (by omega) (by omega) (by omega)
  obtain ⟨q, hq, hin⟩ := jcls hci
  obtain ⟨Cn, T, N, hw1, hw2, hw3, hw4, hw5, hw6⟩ := hw
  obtain ⟨Cn', T', N', ty, hq', hty, hnm⟩ := jtys hci
  rw [hw1] at hq hq'
  cases hq
  cases hq'
  have he : (jpic ε μ)[k0]? = some (eA ε k0, .inr (ci, jfs ε μ k0 0 (fdl ci))) := by rw [jpic_at ε μ hk, hsh, jce_0 (by omega)]
  have hln : sl < (fdl ci).length := (List.getElem?_eq_some_iff.mp hf).1
  show W p l e R s m args below meth c H locs cells slots Q (F0 m pc arr (.int v :: jtr ε (.inr (.inr (.inl (ci, k0)))) :: r.map (jtr ε)))
  rw [htr]
  have hset : (jfs ε μ k0 0 (fdl ci)).set sl (.int v) = jfs ε (sI μ k0 sl v) k0 0 (fdl ci) := jfs_setI (fdl ci) 0 sl (by omega) hf (fun _ _ => trivial)
  refine va_put (D := eD ε) (A := A) (ty := .int) hx hb hts hin ty hty hnm hown hK hi.1 hi.2.1 hi.2.2.1 k0 he hw1 sl hw2 (hts _ hw6) (fun x hx => by rw [hw3] at hx; exact hx) hw4 hw5 rfl rfl (by rw [jfs_len]; exact hln) hd (fun H1 locs1 hP hD hS => ?_)
  rw [hset] at hP
  have e2 : jce ε (sI μ k0 sl v) k0 (shl.getD k0 0) = .inr (ci, jfs ε (sI μ k0 sl v) k0 0 (fdl ci)) := by rw [hsh, jce_0 (by omega)]
  exact k arr H1 locs1 hl (ok_t (ok_t hs)) (jinv_I hi hk (hP := by rw [e2]; exact hP) (hS := hS))
theorem k_putL {pc i ci sl : Nat} {ls r : List jv} {k0 : Nat} {v : Int64} {μ : jm} (C : jctx p s m args c ε A own b mx) (hci : ci < 11) (hf : (fdl ci)[sl]? = some (1, 0, 0)) (hw : jwp own i ci sl 1) (hd : decode b pc = .ok (.putfield i, 3)) (k : KW p l e R s m args below meth c cells slots Q ε A mx (pc + 3) ls r (sL μ k0 sl v)) : KW p l e R s m args below meth c cells slots Q ε A mx pc ls (.inr (.inl v) :: .inr (.inr (.inl (ci, k0))) :: r) μ := fun arr H locs hl hs hi => by
  obtain ⟨hx, hb, hml, hown, hts, hsf, hA⟩ := C
  obtain ⟨h1, h2, h3, h4, h5, h6, h7, h8, hK, hN⟩ := hsf
  obtain ⟨hk, hsh, htr⟩ := jrk_cell (ok_h (ok_t hs)) (by omega) (by omega) (by omega) (by omega) (by omega)
  obtain ⟨q, hq, hin⟩ := jcls hci
  obtain ⟨Cn, T, N, hw1, hw2, hw3, hw4, hw5, hw6⟩ := hw
  obtain ⟨Cn', T', N', ty, hq', hty, hnm⟩ := jtys hci
  rw [hw1] at hq hq'
  cases hq
  cases hq'
  have he : (jpic ε μ)[k0]? = some (eA ε k0, .inr (ci, jfs ε μ k0 0 (fdl ci))) := by rw [jpic_at ε μ hk, hsh, jce_0 (by omega)]
  have hln : sl < (fdl ci).length := (List.getElem?_eq_some_iff.mp hf).1
  show W p l e R s m args below meth c H locs cells slots Q (F0 m pc arr (.long v :: jtr ε (.inr (.inr (.inl (ci, k0)))) :: r.map (jtr ε)))
  rw [htr]
  have hset : (jfs ε μ k0 0 (fdl ci)).set sl (.long v) = jfs ε (sL μ k0 sl v) k0 0 (fdl ci) := jfs_setL (fdl ci) 0 sl (by omega) hf
  refine va_put (D := eD ε) (A := A) (ty := .long) hx hb hts hin ty hty hnm hown hK hi.1 hi.2.1 hi.2.2.1 k0 he hw1 sl hw2 (hts _ hw6) (fun x hx => by rw [hw3] at hx; exact hx) hw4 hw5 rfl rfl (by rw [jfs_len]; exact hln) hd (fun H1 locs1 hP hD hS => ?_)
  rw [hset] at hP
  have e2 : jce ε (sL μ k0 sl v) k0 (shl.getD k0 0) = .inr (ci, jfs ε (sL μ k0 sl v) k0 0 (fdl ci)) := by rw [hsh, jce_0 (by omega)]
  exact k arr H1 locs1 hl (ok_t (ok_t hs)) (jinv_L hi hk (by rw [e2]; exact hP) hS)
/-! arrays -/
theorem k_iald {pc t k0 : Nat} {ls r : List jv} {x : Int32} {μ : jm} (C : jctx p s m args c ε A own b mx) (ht : t / 1000 = 1) (hin : inB x (t - 1000) = true) (hd : decode b pc = .ok (.iaload, 1)) (k : KW p l e R s m args below meth c cells slots Q ε A mx (pc + 1) ls (.inl (gI μ k0 (ix x)) :: r) μ) : KW p l e R s m args below meth c cells slots Q ε A mx pc ls (.inl x :: .inr (.inr (.inl (t, k0))) :: r) μ := fun arr H locs hl hs hi => by
  obtain ⟨t1, t2, t3, t4, t5⟩ := jdiv ht (Nat.le_refl 1)
  obtain ⟨hk, hsh, htr⟩ := jrk_cell (ok_h (ok_t hs)) t1 t2 t3 t4 t5
  show W p l e R s m args below meth c H locs cells slots Q (F0 m pc arr (.int x :: jtr ε (.inr (.inr (.inl (t, k0)))) :: r.map (jtr ε)))
  rw [htr]
  obtain ⟨t0, ht0⟩ := jty_n (ε := ε) (ty := .int) hk hsh ht rfl (by omega)
  exact va_iald (D := eD ε) C.1 C.2.1 C.2.2.2.2.2.1.2.2.2.2.2.2.2.2.1 hi.1 k0 t0 (by rw [jpic_at ε μ hk, hsh, jce_1 ht]; rfl) ht0 (jin_iff.mp hin) hd (k arr H locs hl (ok_c trivial (ok_t (ok_t hs))) hi)
theorem k_bald {pc t k0 : Nat} {ls r : List jv} {x : Int32} {μ : jm} (C : jctx p s m args c ε A own b mx) (ht : t / 1000 = 3) (hin : inB x (t - 3000) = true) (hd : decode b pc = .ok (.baload, 1)) (k : KW p l e R s m args below meth c cells slots Q ε A mx (pc + 1) ls (.inl (gI μ k0 (ix x)) :: r) μ) : KW p l e R s m args below meth c cells slots Q ε A mx pc ls (.inl x :: .inr (.inr (.inl (t, k0))) :: r) μ := fun arr H locs hl hs hi => by
  obtain ⟨t1, t2, t3, t4, t5⟩ := jdiv ht (by omega)
  obtain ⟨hk, hsh, htr⟩ := jrk_cell (ok_h (ok_t hs)) t1 t2 t3 t4 t5
  show W p l e R s m args below meth c H locs cells slots Q (F0 m pc arr (.int x :: jtr ε (.inr (.inr (.inl (t, k0)))) :: r.map (jtr ε)))
  rw [htr]
  obtain ⟨t0, ht0⟩ := jty_n (ε := ε) (ty := .byte) hk hsh ht rfl (by omega)
  exact va_bald (D := eD ε) C.1 C.2.1 C.2.2.2.2.2.1.2.2.2.2.2.2.2.2.1 hi.1 k0 t0 (by rw [jpic_at ε μ hk, hsh, jce_3 ht]; rfl) ht0 (jin_iff.mp hin) hd (k arr H locs hl (ok_c trivial (ok_t (ok_t hs))) hi)
theorem k_zald {pc t k0 : Nat} {ls r : List jv} {x : Int32} {μ : jm} (C : jctx p s m args c ε A own b mx) (ht : t / 1000 = 4) (hin : inB x (t - 4000) = true) (hd : decode b pc = .ok (.baload, 1)) (k : KW p l e R s m args below meth c cells slots Q ε A mx (pc + 1) ls (.inl (gI μ k0 (ix x)) :: r) μ) : KW p l e R s m args below meth c cells slots Q ε A mx pc ls (.inl x :: .inr (.inr (.inl (t, k0))) :: r) μ := fun arr H locs hl hs hi => by
  obtain ⟨t1, t2, t3, t4, t5⟩ := jdiv ht (by omega)
  obtain ⟨hk, hsh, htr⟩ := jrk_cell (ok_h (ok_t hs)) t1 t2 t3 t4 t5
  show W p l e R s m args below meth c H locs cells slots Q (F0 m pc arr (.int x :: jtr ε (.inr (.inr (.inl (t, k0)))) :: r.map (jtr ε)))
  rw [htr]
  obtain ⟨t0, ht0⟩ := jty_n (ε := ε) (ty := .boolean) hk hsh ht rfl (by omega)
  exact va_zald (D := eD ε) C.1 C.2.1 C.2.2.2.2.2.1.2.2.2.2.2.2.2.2.1 hi.1 k0 t0 (by rw [jpic_at ε μ hk, hsh, jce_4 ht]; rfl) ht0 (jin_iff.mp hin) hd (k arr H locs hl (ok_c trivial (ok_t (ok_t hs))) hi)
theorem k_lald {pc t k0 : Nat} {ls r : List jv} {x : Int32} {μ : jm} (C : jctx p s m args c ε A own b mx) (ht : t / 1000 = 2) (hin : inB x (t - 2000) = true) (hd : decode b pc = .ok (.laload, 1)) (k : KW p l e R s m args below meth c cells slots Q ε A mx (pc + 1) ls (.inr (.inl (gL μ k0 (ix x))) :: r) μ) : KW p l e R s m args below meth c cells slots Q ε A mx pc ls (.inl x :: .inr (.inr (.inl (t, k0))) :: r) μ := fun arr H locs hl hs hi => by
  obtain ⟨t1, t2, t3, t4, t5⟩ := jdiv ht (by omega)
  obtain ⟨hk, hsh, htr⟩ := jrk_cell (ok_h (ok_t hs)) t1 t2 t3 t4 t5
  show W p l e R s m args below meth c H locs cells slots Q (F0 m pc arr (.int x :: jtr ε (.inr (.inr (.inl (t, k0)))) :: r.map (jtr ε)))
  rw [htr]
  obtain ⟨t0, ht0⟩ := jty_n (ε := ε) (ty := .long) hk hsh ht rfl (by omega)
  exact va_lald (D := eD ε) C.1 C.2.1 C.2.2.2.2.2.1.2.2.2.2.2.2.2.2.1 hi.1 k0 t0 (by rw [jpic_at ε μ hk, hsh, jce_2 ht]; rfl) ht0 (jin_iff.mp hin) hd (k arr H locs hl (ok_c trivial (ok_t (ok_t hs))) hi)
theorem jsh_5002 : ∀ k, k < 78 → shl.getD k 0 = 5002 → ∀ i, i < 2 → k + 1 + 11 * i < 78 ∧ shl.getD (k + 1 + 11 * i) 0 = 8 := by decide +kernel
theorem k_aald {pc k0 : Nat} {ls r : List jv} {x : Int32} {μ : jm} (C : jctx p s m args c ε A own b mx) (hin : inB x 2 = true) (hd : decode b pc = .ok (.aaload, 1)) (k : KW p l e R s m args below meth c cells slots Q ε A mx (pc + 1) ls (.inr (.inr (.inl (8, k0 + 1 + 11 * ix x))) :: r) μ) : KW p l e R s m args below meth c cells slots Q ε A mx pc ls (.inl x :: .inr (.inr (.inl (5002, k0))) :: r) μ := fun arr H locs hl hs hi => by
  obtain ⟨hk, hsh, htr⟩ := jrk_cell (ok_h (ok_t hs)) (by decide) (by decide) (by decide) (by decide) (by decide)
  show W p l e R s m args below meth c H locs cells slots Q (F0 m pc arr (.int x :: jtr ε (.inr (.inr (.inl (5002, k0)))) :: r.map (jtr ε)))
  rw [htr]
  have hi2 : ix x < 2 := by
    obtain ⟨j, hj, e⟩ := vp_in_of (jin_iff.mp hin) (by decide)
    rw [ix, e, nI_clamp (by omega)]
    exact hj
  have ho := jsh_5002 k0 hk hsh (ix x) hi2
  have hr : jrk ε 8 (k0 + 1 + 11 * ix x) := Or.inr (Or.inr (Or.inr (Or.inr (Or.inr ho))))
  have K := k arr H locs hl (ok_c hr (ok_t (ok_t hs))) hi
  have e3 : jtr ε (.inr (.inr (.inl (8, k0 + 1 + 11 * ix x)))) = .ref (eA ε (k0 + 1 + 11 * ix x)) := rfl
  obtain ⟨t0, ht0⟩ := jty_n (ε := ε) (ty := .object "OneNote$Valley") (n := 5) hk hsh rfl rfl (by omega)
  exact va_aldq (D := eD ε) (C := "OneNote$Valley") C.1 C.2.1 C.2.2.2.2.2.1.2.2.2.2.2.2.2.2.1 hi.1 k0 t0 (f := fun i => some (eA ε (k0 + 1 + 11 * i))) (n := 2) (cA := eT ε k0) (by rw [jpic_at ε μ hk, hsh]; rfl) ht0 (jin_iff.mp hin) hd K
theorem k_alen {pc t k0 : Nat} {ls r : List jv} {μ : jm} {v : Int32} (C : jctx p s m args c ε A own b mx) (ht : (t / 1000 = 1 ∧ v = nI (t - 1000)) ∨ (t / 1000 = 2 ∧ v = nI (t - 2000))) (hd : decode b pc = .ok (.arraylength, 1)) (k : KW p l e R s m args below meth c cells slots Q ε A mx (pc + 1) ls (.inl v :: r) μ) : KW p l e R s m args below meth c cells slots Q ε A mx pc ls (.inr (.inr (.inl (t, k0))) :: r) μ := fun arr H locs hl hs hi => by
  have K := k arr H locs hl (ok_c trivial (ok_t hs)) hi
  rcases ht with ⟨ht, rfl⟩ | ⟨ht, rfl⟩
  · obtain ⟨t1, t2, t3, t4, t5⟩ := jdiv ht (by omega)
    obtain ⟨hk, hsh, htr⟩ := jrk_cell (ok_h hs) t1 t2 t3 t4 t5
    show W p l e R s m args below meth c H locs cells slots Q (F0 m pc arr (jtr ε (.inr (.inr (.inl (t, k0)))) :: r.map (jtr ε)))
    rw [htr]
    obtain ⟨t0, ht0⟩ := jty_n (ε := ε) (ty := .int) hk hsh ht rfl (by omega)
    exact va_alen (D := eD ε) (ty := .int) (x := (t - 1000, .inl (μ.1 k0))) (v := nI (t - 1000)) (cA := eT ε k0) C.1 C.2.1 C.2.2.2.2.2.1.2.2.2.2.2.2.2.2.1 hi.1 k0 t0 (by rw [jpic_at ε μ hk, hsh, jce_1 ht]) ht0 rfl hd K
  · obtain ⟨t1, t2, t3, t4, t5⟩ := jdiv ht (by omega)
    obtain ⟨hk, hsh, htr⟩ := jrk_cell (ok_h hs) t1 t2 t3 t4 t5
    show W p l e R s m args below meth c H locs cells slots Q (F0 m pc arr (jtr ε (.inr (.inr (.inl (t, k0)))) :: r.map (jtr ε)))
    rw [htr]
    obtain ⟨t0, ht0⟩ := jty_n (ε := ε) (ty := .long) hk hsh ht rfl (by omega)
    exact va_alen (D := eD ε) (ty := .long) (x := (t - 2000, .inr (.inl (μ.2 k0)))) (v := nI (t - 2000)) (cA := eT ε k0) C.1 C.2.1 C.2.2.2.2.2.1.2.2.2.2.2.2.2.2.1 hi.1 k0 t0 (by rw [jpic_at ε μ hk, hsh, jce_2 ht]) ht0 rfl hd K
theorem sI_upd (μ : jm) (k i : Nat) (v : Int32) : (sI μ k i v).1 k = upd (μ.1 k) i v := by
  funext j
  show (if k = k ∧ j = i then v else μ.1 k j) = (if j = i then v else μ.1 k j)
  by_cases h : j = i <;> simp [h]
theorem sL_upd (μ : jm) (k i : Nat) (v : Int64) : (sL μ k i v).2 k = vp_updL (μ.2 k) i v := by
  funext j
  show (if k = k ∧ j = i then v else μ.2 k j) = (if j = i then v else μ.2 k j)
  by_cases h : j = i <;> simp [h]
theorem k_iast {pc t k0 : Nat} {ls r : List jv} {x v : Int32} {μ : jm} (C : jctx p s m args c ε A own b mx) (ht : t / 1000 = 1) (hin : inB x (t - 1000) = true) (hd : decode b pc = .ok (.iastore, 1)) (k : KW p l e R s m args below meth c cells slots Q ε A mx (pc + 1) ls r (sI μ k0 (ix x) v)) : KW p l e R s m args below meth c cells slots Q ε A mx pc ls (.inl v :: .inl x :: .inr (.inr (.inl (t, k0))) :: r) μ := fun arr H locs hl hs hi => by
  obtain ⟨t1, t2, t3, t4, t5⟩ := jdiv ht (by omega)
  obtain ⟨hk, hsh, htr⟩ := jrk_cell (ok_h (ok_t (ok_t hs))) t1 t2 t3 t4 t5
  show W p l e R s m args below meth c H locs cells slots Q (F0 m pc arr (.int v :: .int x :: jtr ε (.inr (.inr (.inl (t, k0)))) :: r.map (jtr ε)))
  rw [htr]
  obtain ⟨t0, ht0⟩ := jty_n (ε := ε) (ty := .int) hk hsh ht rfl (by omega)
  refine va_iast (D := eD ε) (A := A) C.1 C.2.1 C.2.2.2.2.2.1.2.2.2.2.2.2.2.2.1 hi.1 hi.2.1 hi.2.2.1 k0 t0 (by rw [jpic_at ε μ hk, hsh, jce_1 ht]) ht0 (jin_iff.mp hin) hd (fun H1 locs1 hP hD hS => ?_)
  have e2 : jce ε (sI μ k0 (ix x) v) k0 (shl.getD k0 0) = .inl (eT ε k0, t - 1000, .inl (upd (μ.1 k0) (ix x) v)) := by rw [hsh, jce_1 ht, sI_upd]
  exact k arr H1 locs1 hl (ok_t (ok_t (ok_t hs))) (jinv_I hi hk (hP := by rw [e2]; exact hP) (hS := hS))
theorem k_bast {pc t k0 : Nat} {ls r : List jv} {x v : Int32} {μ : jm} (C : jctx p s m args c ε A own b mx) (ht : t / 1000 = 3) (hin : inB x (t - 3000) = true) (hd : decode b pc = .ok (.bastore, 1)) (k : KW p l e R s m args below meth c cells slots Q ε A mx (pc + 1) ls r (sI μ k0 (ix x) v.toInt8.toInt32)) : KW p l e R s m args below meth c cells slots Q ε A mx pc ls (.inl v :: .inl x :: .inr (.inr (.inl (t, k0))) :: r) μ := fun arr H locs hl hs hi => by
  obtain ⟨t1, t2, t3, t4, t5⟩ := jdiv ht (by omega)
  obtain ⟨hk, hsh, htr⟩ := jrk_cell (ok_h (ok_t (ok_t hs))) t1 t2 t3 t4 t5
  show W p l e R s m args below meth c H locs cells slots Q (F0 m pc arr (.int v :: .int x :: jtr ε (.inr (.inr (.inl (t, k0)))) :: r.map (jtr ε)))
  rw [htr]
  obtain ⟨t0, ht0⟩ := jty_n (ε := ε) (ty := .byte) hk hsh ht rfl (by omega)
  refine va_bast (D := eD ε) (A := A) C.1 C.2.1 C.2.2.2.2.2.1.2.2.2.2.2.2.2.2.1 hi.1 hi.2.1 hi.2.2.1 k0 t0 (by rw [jpic_at ε μ hk, hsh, jce_3 ht]) ht0 (jin_iff.mp hin) hd (fun H1 locs1 hP hD hS => ?_)
  have e2 : jce ε (sI μ k0 (ix x) v.toInt8.toInt32) k0 (shl.getD k0 0) = .inl (eT ε k0, t - 3000, .inl (upd (μ.1 k0) (ix x) v.toInt8.toInt32)) := by rw [hsh, jce_3 ht, sI_upd]
  exact k arr H1 locs1 hl (ok_t (ok_t (ok_t hs))) (jinv_I hi hk (hP := by rw [e2]; exact hP) (hS := hS))
theorem k_zast {pc t k0 : Nat} {ls r : List jv} {x v : Int32} {μ : jm} (C : jctx p s m args c ε A own b mx) (ht : t / 1000 = 4) (hin : inB x (t - 4000) = true) (hd : decode b pc = .ok (.bastore, 1)) (k : KW p l e R s m args below meth c cells slots Q ε A mx (pc + 1) ls r (sI μ k0 (ix x) (v &&& 1))) : KW p l e R s m args below meth c cells slots Q ε A mx pc ls (.inl v :: .inl x :: .inr (.inr (.inl (t, k0))) :: r) μ := fun arr H locs hl hs hi => by
  obtain ⟨t1, t2, t3, t4, t5⟩ := jdiv ht (by omega)
  obtain ⟨hk, hsh, htr⟩ := jrk_cell (ok_h (ok_t (ok_t hs))) t1 t2 t3 t4 t5
  show W p l e R s m args below meth c H locs cells slots Q (F0 m pc arr (.int v :: .int x :: jtr ε (.inr (.inr (.inl (t, k0)))) :: r.map (jtr ε)))
  rw [htr]
  obtain ⟨t0, ht0⟩ := jty_n (ε := ε) (ty := .boolean) hk hsh ht rfl (by omega)
  refine va_zast (D := eD ε) (A := A) C.1 C.2.1 C.2.2.2.2.2.1.2.2.2.2.2.2.2.2.1 hi.1 hi.2.1 hi.2.2.1 k0 t0 (by rw [jpic_at ε μ hk, hsh, jce_4 ht]) ht0 (jin_iff.mp hin) hd (fun H1 locs1 hP hD hS => ?_)
  have e2 : jce ε (sI μ k0 (ix x) (v &&& 1)) k0 (shl.getD k0 0) = .inl (eT ε k0, t - 4000, .inl (upd (μ.1 k0) (ix x) (v &&& 1))) := by rw [hsh, jce_4 ht, sI_upd]
  exact k arr H1 locs1 hl (ok_t (ok_t (ok_t hs))) (jinv_I hi hk (hP := by rw [e2]; exact hP) (hS := hS))
theorem k_last {pc t k0 : Nat} {ls r : List jv} {x : Int32} {v : Int64} {μ : jm} (C : jctx p s m args c ε A own b mx) (ht : t / 1000 = 2) (hin : inB x (t - 2000) = true) (hd : decode b pc = .ok (.lastore, 1)) (k : KW p l e R s m args below meth c cells slots Q ε A mx (pc + 1) ls r (sL μ k0 (ix x) v)) : KW p l e R s m args below meth c cells slots Q ε A mx pc ls (.inr (.inl v) :: .inl x :: .inr (.inr (.inl (t, k0))) :: r) μ := fun arr H locs hl hs hi => by
  obtain ⟨t1, t2, t3, t4, t5⟩ := jdiv ht (by omega)
  obtain ⟨hk, hsh, htr⟩ := jrk_cell (ok_h (ok_t (ok_t hs))) t1 t2 t3 t4 t5
  show W p l e R s m args below meth c H locs cells slots Q (F0 m pc arr (.long v :: .int x :: jtr ε (.inr (.inr (.inl (t, k0)))) :: r.map (jtr ε)))
  rw [htr]
  obtain ⟨t0, ht0⟩ := jty_n (ε := ε) (ty := .long) hk hsh ht rfl (by omega)
  refine va_last (D := eD ε) (A := A) C.1 C.2.1 C.2.2.2.2.2.1.2.2.2.2.2.2.2.2.1 hi.1 hi.2.1 hi.2.2.1 k0 t0 (by rw [jpic_at ε μ hk, hsh, jce_2 ht]) ht0 (jin_iff.mp hin) hd (fun H1 locs1 hP hD hS => ?_)
  have e2 : jce ε (sL μ k0 (ix x) v) k0 (shl.getD k0 0) = .inl (eT ε k0, t - 2000, .inr (.inl (vp_updL (μ.2 k0) (ix x) v))) := by rw [hsh, jce_2 ht, sL_upd]
  exact k arr H1 locs1 hl (ok_t (ok_t (ok_t hs))) (jinv_L hi hk (by rw [e2]; exact hP) hS)
end SND
end
section
/-! the rest of the instructions: copies, constants outside the cells, calls, ends -/
section SND4
variable {p : Program} {l : Launch} {e : Env} {R : Room} {s : State} {m : MethodId} {args : Array Value} {below : List Frame} {meth : Method} {c : Code} {cells slots : Nat} {Q : State → Prop} {ε : jenv} {A : Nat → Prop} {mx : Nat} {own : String} {b : ByteArray}
theorem jws_eq (hF : eF ε = .null ∨ ∃ a, eF ε = .ref a) (r : List jv) : ((r.map (jtr ε)).map fun v => v.category).sum = jws r := by
  induction r with
  | nil => rfl
  | cons a r ih =>
    show (jtr ε a).category + ((r.map (jtr ε)).map fun v => v.category).sum = jwd a + jws r
    rw [ih, jcat hF]
theorem k_cpy {pc i t0 k0 t1 k1 : Nat} {ls r : List jv} {n dp sp : Int32} {μ : jm} (C : jctx p s m args c ε A own b mx) (hw : Cond.methodLink own i arraycopyName ∈ ws0) (hR : 1 ≤ R.frames ∧ 26 ≤ R.locals) (ht0 : t0 / 1000 = 1) (ht1 : t1 / 1000 = 1) (hr : jws r ≤ 8) (hg : jcg sp dp n (t0 - 1000) (t1 - 1000) = true) (hd : decode b pc = .ok (.invokestatic i, 3)) (k : KW p l e R s m args below meth c cells slots Q ε A mx (pc + 3) ls r (cpI μ k0 (ix sp) k1 (ix dp) (ix n))) : KW p l e R s m args below meth c cells slots Q ε A mx pc ls (.inl n :: .inl dp :: .inr (.inr (.inl (t1, k1))) :: .inl sp :: .inr (.inr (.inl (t0, k0))) :: r) μ := fun arr H locs hl hs hi => by
  obtain ⟨a1, a2, a3, a4, a5⟩ := jdiv ht0 (by omega)
  obtain ⟨b1, b2, b3, b4, b5⟩ := jdiv ht1 (by omega)
  obtain ⟨hk0, hsh0, htr0⟩ := jrk_cell (ok_h (ok_t (ok_t (ok_t (ok_t hs))))) a1 a2 a3 a4 a5
  obtain ⟨hk1, hsh1, htr1⟩ := jrk_cell (ok_h (ok_t (ok_t hs))) b1 b2 b3 b4 b5
  have hF := C.2.2.2.2.2.1.2.2.1
  rw [jcg, decide_eq_true_iff] at hg
  obtain ⟨g1, g2, g3, g4, g5⟩ := hg
  have nn : ∀ x : Int32, 0 ≤ x.toInt → ¬ x < 0 := fun x h z => by
    rw [Int32.lt_iff_toInt_lt, Int32.toInt_zero] at z
    omega
  obtain ⟨u0, hu0⟩ := jty_n (ε := ε) (ty := .int) hk0 hsh0 ht0 rfl (by omega)
  obtain ⟨u1, hu1⟩ := jty_n (ε := ε) (ty := .int) hk1 hsh1 ht1 rfl (by omega)
  have hnf : nativeFrameWords "java/lang/System" "arraycopy" 5 = 7 := by decide +kernel
  show W p l e R s m args below meth c H locs cells slots Q (F0 m pc arr (.int n :: .int dp :: jtr ε (.inr (.inr (.inl (t1, k1)))) :: .int sp :: jtr ε (.inr (.inr (.inl (t0, k0)))) :: r.map (jtr ε)))
  rw [htr0, htr1]
  refine va_copyi (D := eD ε) (A := A) (ty := .int) C.1 C.2.1 (by rw [C.2.2.1, hl.1]) C.2.2.2.1 (C.2.2.2.2.1 _ hw) (C.2.2.2.2.1 _ wcpy.1) (C.2.2.2.2.1 _ wcpy.2.1) (C.2.2.2.2.1 _ wcpy.2.2) C.2.2.2.2.2.1.2.2.2.2.2.2.2.2.1 hi.1 hi.2.1 hi.2.2.1 k0 k1 u0 u1 (by rw [jpic_at ε μ hk0, hsh0, jce_1 ht0]) (by rw [jpic_at ε μ hk1, hsh1, jce_1 ht1]) hu0 hu1 rfl (nn sp g1) (nn dp g2) (nn n g3) g4 g5 (fun _ _ => rfl) hR.1 (by rw [jws_eq hF, hnf]; omega) hd (fun H1 locs1 hP hD hS => ?_)
  have e2 : jce ε (cpI μ k0 (ix sp) k1 (ix dp) (ix n)) k1 (shl.getD k1 0) = .inl (eT ε k1, t1 - 1000, .inl (va_cpy (μ.1 k0) (μ.1 k1) (ix sp) (ix dp) (ix n))) := by
    rw [hsh1, jce_1 ht1]
    have : (cpI μ k0 (ix sp) k1 (ix dp) (ix n)).1 k1 = va_cpy (μ.1 k0) (μ.1 k1) (ix sp) (ix dp) (ix n) := by
      funext j
      show (if k1 = k1 then va_cpy (μ.1 k0) (μ.1 k1) (ix sp) (ix dp) (ix n) j else μ.1 k1 j) = _
      rw [if_pos rfl]
    rw [this]
  have e3 := jpic_set ε μ (cpI μ k0 (ix sp) k1 (ix dp) (ix n)) hk1 (fun a b h => by
    show (if a = k1 then va_cpy (μ.1 k0) (μ.1 k1) (ix sp) (ix dp) (ix n) b else μ.1 a b) = μ.1 a b
    rw [if_neg h]) (fun _ _ _ => rfl)
  rw [e2] at e3
  refine k arr H1 locs1 hl (ok_t (ok_t (ok_t (ok_t (ok_t hs))))) ⟨e3 ▸ hP, jpic_D hi.2.1, hS, fun j hj => ?_⟩
  show (if 99 = k1 then va_cpy (μ.1 k0) (μ.1 k1) (ix sp) (ix dp) (ix n) j else μ.1 99 j) = _
  rw [if_neg (by omega)]
  exact hi.2.2.2 j hj
theorem k_min {pc i : Nat} {ls r : List jv} {x y : Int32} {μ : jm} (C : jctx p s m args c ε A own b mx) (hw : Cond.methodLink own i Lib.Math.min.name ∈ ws0) (hR : 1 ≤ R.frames ∧ 26 ≤ R.locals) (hcs : cells ≤ R.cells ∧ slots ≤ R.slots) (hr : jws r ≤ 8) (hd : decode b pc = .ok (.invokestatic i, 3)) (k : KW p l e R s m args below meth c cells slots Q ε A mx (pc + 3) ls (.inl (if y < x then y else x) :: r) μ) : KW p l e R s m args below meth c cells slots Q ε A mx pc ls (.inl y :: .inl x :: r) μ := fun arr H locs hl hs hi => by
  have hF := C.2.2.2.2.2.1.2.2.1
  exact va_mmin C.1 C.2.1 (by rw [C.2.2.1, hl.1]) C.2.2.2.1 (C.2.2.2.2.1 _ hw) (C.2.2.2.2.1 _ wmin.2.1) (C.2.2.2.2.1 _ wmin.2.2.1) (C.2.2.2.2.1 _ wmin.2.2.2) hR.1 (by rw [jws_eq hF]; omega) hcs.1 hcs.2 hd (k arr H locs hl (ok_c trivial (ok_t (ok_t hs))) hi)
/-! the words, the numbers, the script -/
theorem k_wval {pc i k0 : Nat} {ls r : List jv} {μ : jm} (C : jctx p s m args c ε A own b mx) (hw : Cond.fieldLink own i "java/lang/String" "value" "[B" ∈ ws0) (hd : decode b pc = .ok (.getfield i, 3)) (k : KW p l e R s m args below meth c cells slots Q ε A mx (pc + 3) ls (.inr (.inr (.inl (95, k0))) :: r) μ) : KW p l e R s m args below meth c cells slots Q ε A mx pc ls (.inr (.inr (.inl (98, k0))) :: r) μ := fun arr H locs hl hs hi => by
  have hk : k0 < 6 := by
    rcases ok_h hs with h | ⟨h, h'⟩ | ⟨h, -⟩ | h | ⟨-, h'⟩ | ⟨h1, h2⟩
    · omega
    · exact h'
    · omega
    · omega
    · exact h'
    · have : ∀ k, k < 78 → shl.getD k 0 ≠ 98 := by decide +kernel
      exact absurd h2 (this k0 h1)
  have K := k arr H locs hl (ok_c (show jrk ε 95 k0 from Or.inr (Or.inl ⟨rfl, hk⟩)) (ok_t hs)) hi
  exact vk_getf C.1 C.2.1 ((C.2.2.2.2.2.1.2.2.2.2.2.2.1.1 k0 hk).2.2.1) hi.2.2.1 C.2.2.2.1 (C.2.2.2.2.1 _ hw) (fun _ h => h) hd K
theorem k_wcod {pc i k0 : Nat} {ls r : List jv} {μ : jm} (C : jctx p s m args c ε A own b mx) (hw : Cond.fieldLink own i "java/lang/String" "coder" "B" ∈ ws0) (hd : decode b pc = .ok (.getfield i, 3)) (k : KW p l e R s m args below meth c cells slots Q ε A mx (pc + 3) ls (.inl 0 :: r) μ) : KW p l e R s m args below meth c cells slots Q ε A mx pc ls (.inr (.inr (.inl (98, k0))) :: r) μ := fun arr H locs hl hs hi => by
  have hk : k0 < 6 := by
    rcases ok_h hs with h | ⟨h, h'⟩ | ⟨h, -⟩ | h | ⟨-, h'⟩ | ⟨h1, h2⟩
    · omega
    · exact h'
    · omega
    · omega
    · exact h'
    · have : ∀ k, k < 78 → shl.getD k 0 ≠ 98 := by decide +kernel
      exact absurd h2 (this k0 h1)
  have K := k arr H locs hl (ok_c trivial (ok_t hs)) hi
  exact vk_getf C.1 C.2.1 ((C.2.2.2.2.2.1.2.2.2.2.2.2.1.1 k0 hk).2.1) hi.2.2.1 C.2.2.2.1 (C.2.2.2.2.1 _ hw) (fun _ h => h) hd K
theorem j95 {k0 : Nat} (h : jrk ε 95 k0) : k0 < 6 := by
  rcases h with h | ⟨h, h'⟩ | ⟨h, -⟩ | h | ⟨h, h'⟩ | ⟨h1, h2⟩
  · omega
  · exact h'
  · omega
  · omega
  · omega
  · have : ∀ k, k < 78 → shl.getD k 0 ≠ 95 := by decide +kernel
    exact absurd h2 (this k0 h1)
theorem jwl_eq : ∀ k, k < 6 → (jwords.map List.length).getD k 0 = jwl k := by decide +kernel
theorem k_wbyt {pc k0 : Nat} {ls r : List jv} {x : Int32} {μ : jm} (C : jctx p s m args c ε A own b mx) (hin : inB x (jwl k0) = true) (hd : decode b pc = .ok (.baload, 1)) (k : KW p l e R s m args below meth c cells slots Q ε A mx (pc + 1) ls (.inl (jwb k0 (ix x)) :: r) μ) : KW p l e R s m args below meth c cells slots Q ε A mx pc ls (.inl x :: .inr (.inr (.inl (95, k0))) :: r) μ := fun arr H locs hl hs hi => by
  have hk := j95 (ok_h (ok_t hs))
  have K := k arr H locs hl (ok_c trivial (ok_t (ok_t hs))) hi
  exact va_tb C.1 C.2.1 ((C.2.2.2.2.2.1.2.2.2.2.2.2.1.1 k0 hk).2.2.2) hi.2.2.1 (by rw [jwl_eq k0 hk]; exact jin_iff.mp hin) rfl hd K
theorem k_wlen {pc k0 : Nat} {ls r : List jv} {μ : jm} (C : jctx p s m args c ε A own b mx) (hd : decode b pc = .ok (.arraylength, 1)) (k : KW p l e R s m args below meth c cells slots Q ε A mx (pc + 1) ls (.inl (nI (jwl k0)) :: r) μ) : KW p l e R s m args below meth c cells slots Q ε A mx pc ls (.inr (.inr (.inl (95, k0))) :: r) μ := fun arr H locs hl hs hi => by
  have hk := j95 (ok_h hs)
  have K := k arr H locs hl (ok_c trivial (ok_t hs)) hi
  exact va_tlen C.1 C.2.1 ((C.2.2.2.2.2.1.2.2.2.2.2.2.1.1 k0 hk).2.2.2) hi.2.2.1 (by rw [jwl_eq k0 hk]; rfl) hd K
theorem k_ldc {pc i k0 : Nat} {ls st : List jv} {μ : jm} (C : jctx p s m args c ε A own b mx) (hw : own = "OneNote$Text" ∧ i = jsx k0) (hk : k0 < 6) (hd : decode b pc = .ok (.ldc i, 2)) (k : KW p l e R s m args below meth c cells slots Q ε A mx (pc + 2) ls (.inr (.inr (.inl (98, k0))) :: st) μ) : KW p l e R s m args below meth c cells slots Q ε A mx pc ls st μ := fun arr H locs hl hs hi => by
  obtain ⟨rfl, rfl⟩ := hw
  have K := k arr H locs hl (ok_c (show jrk ε 98 k0 from Or.inr (Or.inr (Or.inr (Or.inr (Or.inl ⟨rfl, hk⟩))))) hs) hi
  exact va_ldcS C.1 C.2.1 C.2.2.2.1 (C.2.2.2.2.2.1.2.2.2.2.2.1 k0 hk) hd K
theorem k_gs0 {pc i : Nat} {ls st : List jv} {μ : jm} (C : jctx p s m args c ε A own b mx) (hw : Cond.fieldLink own i "java/lang/String" "COMPACT_STRINGS" "Z" ∈ ws0) (hd : decode b pc = .ok (.getstatic i, 3)) (k : KW p l e R s m args below meth c cells slots Q ε A mx (pc + 3) ls (.inl 1 :: st) μ) : KW p l e R s m args below meth c cells slots Q ε A mx pc ls st μ := fun arr H locs hl hs hi => by
  have K := k arr H locs hl (ok_c trivial hs) hi
  exact va_gets C.1 C.2.1 C.2.2.2.2.2.1.1 hi.2.2.1 C.2.2.2.1 (C.2.2.2.2.1 _ hw) (fun _ h => h) hd K
theorem k_gs1 {pc i : Nat} {ls st : List jv} {μ : jm} (C : jctx p s m args c ε A own b mx) (hw : Cond.fieldLink own i "jdk/internal/util/Preconditions" "SIOOBE_FORMATTER" "Ljava/util/function/BiFunction;" ∈ ws0) (hd : decode b pc = .ok (.getstatic i, 3)) (k : KW p l e R s m args below meth c cells slots Q ε A mx (pc + 3) ls (.inr (.inr (.inl (94, 0))) :: st) μ) : KW p l e R s m args below meth c cells slots Q ε A mx pc ls st μ := fun arr H locs hl hs hi => by
  have K := k arr H locs hl (ok_c (show jrk ε 94 0 from Or.inl rfl) hs) hi
  exact va_gets C.1 C.2.1 C.2.2.2.2.2.1.2.1 hi.2.2.1 C.2.2.2.1 (C.2.2.2.2.1 _ hw) (fun _ h => h) hd K
theorem k_gs2 {pc i : Nat} {ls st : List jv} {μ : jm} (C : jctx p s m args c ε A own b mx) (hw : Cond.fieldLink own i "OneNote$Text" "NUMBERS_OF" "[I" ∈ ws0) (hd : decode b pc = .ok (.getstatic i, 3)) (k : KW p l e R s m args below meth c cells slots Q ε A mx (pc + 3) ls (.inr (.inr (.inl (97, 0))) :: st) μ) : KW p l e R s m args below meth c cells slots Q ε A mx pc ls st μ := fun arr H locs hl hs hi => by
  have K := k arr H locs hl (ok_c (show jrk ε 97 0 from Or.inr (Or.inr (Or.inr (Or.inl rfl)))) hs) hi
  exact va_gets C.1 C.2.1 C.2.2.2.2.2.1.2.2.2.1 hi.2.2.1 C.2.2.2.1 (C.2.2.2.2.1 _ hw) (fun _ h => h) hd K
theorem k_num {pc k0 : Nat} {ls r : List jv} {x : Int32} {μ : jm} (C : jctx p s m args c ε A own b mx) (hin : inB x 6 = true) (hd : decode b pc = .ok (.iaload, 1)) (k : KW p l e R s m args below meth c cells slots Q ε A mx (pc + 1) ls (.inl (jnum (ix x)) :: r) μ) : KW p l e R s m args below meth c cells slots Q ε A mx pc ls (.inl x :: .inr (.inr (.inl (97, k0))) :: r) μ := fun arr H locs hl hs hi => by
  have K := k arr H locs hl (ok_c trivial (ok_t (ok_t hs))) hi
  exact va_ti C.1 C.2.1 C.2.2.2.2.2.1.2.2.2.2.1 hi.2.2.1 (jin_iff.mp hin) rfl hd K
theorem j96 {k0 : Nat} (h : jrk ε 96 k0) : k0 = eL ε := by
  rcases h with h | ⟨h, h'⟩ | ⟨h, h'⟩ | h | ⟨h, h'⟩ | ⟨h1, h2⟩
  · omega
  · omega
  · exact h'
  · omega
  · omega
  · have : ∀ k, k < 78 → shl.getD k 0 ≠ 96 := by decide +kernel
    exact absurd h2 (this k0 h1)
theorem k_scr {pc k0 : Nat} {ls r : List jv} {x : Int32} {μ : jm} (C : jctx p s m args c ε A own b mx) (hin : inB x k0 = true) (hd : decode b pc = .ok (.iaload, 1)) (k : KW p l e R s m args below meth c cells slots Q ε A mx (pc + 1) ls (.inl (gI μ 99 (ix x)) :: r) μ) : KW p l e R s m args below meth c cells slots Q ε A mx pc ls (.inl x :: .inr (.inr (.inl (96, k0))) :: r) μ := fun arr H locs hl hs hi => by
  have hk := j96 (ok_h (ok_t hs))
  have K := k arr H locs hl (ok_c trivial (ok_t (ok_t hs))) hi
  obtain ⟨hX, hb1, hb2⟩ := C.2.2.2.2.2.1.2.2.2.2.2.2.2.1
  have hv := jin_iff.mp hin
  rw [hk] at hv
  have e1 : eX ε x.toNatClampNeg = gI μ 99 (ix x) := by
    have hlt : ix x < eL ε := by
      have := hv
      rw [vp_in] at this
      exact Nat.lt_of_not_le (fun z => this (Or.inr z))
    exact (hi.2.2.2 (ix x) hlt).symm
  refine va_sld C.1 C.2.1 hX hb1 hb2 hi.2.2.1 hv hd ?_
  rw [e1]
  exact K
theorem k_slen {pc k0 : Nat} {ls r : List jv} {μ : jm} (C : jctx p s m args c ε A own b mx) (hd : decode b pc = .ok (.arraylength, 1)) (k : KW p l e R s m args below meth c cells slots Q ε A mx (pc + 1) ls (.inl (nI k0) :: r) μ) : KW p l e R s m args below meth c cells slots Q ε A mx pc ls (.inr (.inr (.inl (96, k0))) :: r) μ := fun arr H locs hl hs hi => by
  have hk := j96 (ok_h hs)
  subst hk
  have K := k arr H locs hl (ok_c trivial (ok_t hs)) hi
  obtain ⟨hX, hb1, hb2⟩ := C.2.2.2.2.2.1.2.2.2.2.2.2.2.1
  exact va_slen C.1 C.2.1 hX hb1 hb2 hi.2.2.1 hd K
/-! calls -/
theorem j_call {H : Heap} {locs : List Loc} {pc : Nat} {arr : Array Slot} {st0 rest : List Value} {v : Option Value} {B : State → Prop} {A0 A1 : Nat → Prop} {free : Addr → Prop} {H0 : Heap} (hr : va_Run p l e R s m args below meth c H locs cells slots 0 0 (F0 m pc arr st0) rest (fun st oc t => oc = .returned v ∧ B t ∧ va_F A1 st t) free) (hS : va_S A0 H0 H locs) (hA : ∀ q, q < H.size → A1 q → A0 q) (hf : ∀ q, free q → A0 q)
    (kk : ∀ (t : State) (H1 : Heap) (locs1 : List Loc), t.heap = H1 → B t → va_S A0 H0 H1 locs1 → W p l e R s m args below meth c H1 locs1 cells slots Q (F0 m (pc + 3) arr (v.toList ++ rest))) : W p l e R s m args below meth c H locs cells slots Q (F0 m pc arr st0) := by
  intro T hT X
  obtain ⟨v', st₀, t, T', L, h0, X', hL, e1, e2, ⟨hv, hb, hz, hk⟩, st⟩ := hr T hT X
  cases hv
  rw [h0] at hz hk
  obtain ⟨t2, a1, b1⟩ := kk t T'.heap (locs ++ L) e1.symm hb
    ⟨Nat.le_trans hS.1 (by rw [e1]; exact hz), fun q h1 h2 => by rw [e1, hk q (Nat.lt_of_lt_of_le h1 hS.1) (fun z => h2 (hA q (Nat.lt_of_lt_of_le h1 hS.1) z))]; exact hS.2.1 q h1 h2, fun q hq => by
      rcases List.mem_append.mp hq with h | h
      · exact hS.2.2 q h
      · exact hf _ (hL q h)⟩ T' rfl X'
  exact ⟨t2, st t2 a1, b1⟩
theorem ws0_good : ∀ w ∈ ws0, (w.onTables && w.keeps) = true ∨ ∃ ty, w = .arrayClass ty := fun w h => good_of_word (List.mem_filter.mp h).2
theorem jPc_blind (as : List jv) (μ : jm) (sz : Nat) : FrameBlind (jPc ε as μ sz) := fun a U g mk h => ⟨h.1, h.2.1, jsf_calling h.2.2.1, h.2.2.2.1, h.2.2.2.2.1, h.2.2.2.2.2⟩
theorem jfree {μ : jm} {H : Heap} {locs : List Loc} (hA : ∀ q, s.heap.size ≤ q → A q) (hi : jinv ε s A H locs μ) : ∀ q, va_A (jpic ε μ) H.size q → A q := fun q h => by
  rcases h with ⟨k, x, h⟩ | h
  · exact hi.2.1.2 k _ h
  · exact hA q (Nat.le_trans hi.2.2.1.1 h)
theorem jPc_at {as : List jv} {μ : jm} {H : Heap} {locs : List Loc} (C : jctx p s m args c ε A own b mx) (hi : jinv ε s A H locs μ) (U : State) (hU : U.heap = H) (hW : s.WarmedH U.vm) : jPc ε as μ H.size (as.map (jtr ε)).toArray U := by
  refine ⟨rfl, by rw [hU], jsf_to C.2.2.2.2.2.1 hi.2.2.1 hU hW (jfree C.2.2.2.2.2.2 hi), by rw [hU]; exact hi.1, hi.2.1.weaken (fun _ _ _ _ => trivial), hi.2.2.2⟩
theorem jcallB {j i n : Nat} (C : jctx p s m args c ε A own b mx) (hm : jmo j) (hl : (Cond.methodLink own i (yT j)).before args s = true) (hn : n = NT.getD j 0) (hR : FT.getD j 0 + 1 ≤ R.frames ∧ 8 + (mxT j + 11) + LT.getD j 0 ≤ R.locals) : CallB R s args own i (yT j) (bT j) (mxT j) (rT j) (wsT j) (rmT j) 0 0 n := by
  obtain ⟨m1, m2, m3, m4, m5, m6, m7⟩ := hm
  refine ⟨rfl, rfl, hR.1, hR.2, ?_, List.mem_cons_self, C.2.2.2.2.1 _ m1, C.2.2.2.2.1 _ m2, ⟨m3, m4⟩, fun sig h => ?_, hl⟩
  · refine pay_in (big := ws0) C.2.2.2.2.1 (fun w hw => ?_)
    rcases List.mem_cons.mp hw with e | e
    · rw [e]; exact ⟨m1, ws0_good _ m1⟩
    · exact ⟨e, ws0_good _ e⟩
  · rw [h] at m6
    rw [hn]
    exact (Option.some.inj m6).symm
theorem jcallN {j i n : Nat} {h : String} (C : jctx p s m args c ε A own b mx) (hm : jmo j) (hl : Cond.methodLinkNest own i (yT j) h ∈ nws) (hn : n = NT.getD j 0) (hR : FT.getD j 0 + 1 ≤ R.frames ∧ 8 + (mxT j + 11) + LT.getD j 0 ≤ R.locals) : va_CN R s args own i (yT j) h (bT j) (mxT j) (rT j) (wsT j) (rmT j) 0 0 n := by
  obtain ⟨m1, m2, m3, m4, m5, m6, m7⟩ := hm
  refine ⟨⟨rfl, rfl, hR.1, hR.2, ?_, List.mem_cons_self⟩, C.2.2.2.2.1 _ m1, C.2.2.2.2.1 _ m2, ⟨m3, m4⟩, fun sig h => ?_, va_Nw.use (jnw_on _ hl) (C.2.2.2.2.2.1.2.2.2.2.2.2.2.2.2 _ hl)⟩
  · refine pay_in (big := ws0) C.2.2.2.2.1 (fun w hw => ?_)
    rcases List.mem_cons.mp hw with e | e
    · rw [e]; exact ⟨m1, ws0_good _ m1⟩
    · exact ⟨e, ws0_good _ e⟩
  · rw [h] at m6
    rw [hn]
    exact (Option.some.inj m6).symm
/-- behind a call: the callee's world is the whole one -/
theorem j_behind {pc : Nat} {ls rest : List jv} {μ μ2 : jm} {v : Option jv} {arr : Array Slot} {H : Heap} {locs : List Loc} {st0 : List Value} {av : Array Value} (C : jctx p s m args c ε A own b mx) (hl : jlv ε arr mx ls) (hs : ∀ w ∈ rest, jok ε w) (hi : jinv ε s A H locs μ) (hr : va_Run p l e R s m args below meth c H locs cells slots 0 0 (F0 m pc arr st0) (rest.map (jtr ε)) (jQc ε μ H.size v μ2 av) (va_A (jpic ε μ) H.size)) (k : KW p l e R s m args below meth c cells slots Q ε A mx (pc + 3) ls (v.toList ++ rest) μ2) : W p l e R s m args below meth c H locs cells slots Q (F0 m pc arr st0) := by
  have hF := jfree C.2.2.2.2.2.2 hi
  refine j_call (v := v.map (jtr ε)) (B := fun t => va_P (eD ε) vwCl (jpic ε μ2) t.heap ∧ (∀ w, v = some w → jok ε w) ∧ jscr ε μ2) (A0 := A) (A1 := va_A (jpic ε μ) H.size) (H0 := s.heap) hr hi.2.2.1 (fun q _ h => hF q h) hF (fun t H1 locs1 ht hB hS => ?_)
  have K := k arr H1 locs1 hl (fun w hw => by
    rcases List.mem_append.mp hw with h | h
    · cases v with
      | none => cases h
      | some x => rw [List.mem_singleton.mp h]; exact hB.2.1 x rfl
    · exact hs w h) ⟨by rw [← ht]; exact hB.1, jpic_D hi.2.1, hS, hB.2.2⟩
  cases v with
  | none => exact K
  | some x => exact K
theorem k_callS {pc i j n : Nat} {ls st : List jv} {μ μ2 : jm} {v : Option jv} (C : jctx p s m args c ε A own b mx) (hm : jmo j) (hlk : Cond.methodLink own i (yT j) ∈ ws0 ∨ ∃ h, Cond.methodLinkNest own i (yT j) h ∈ nws) (hg : GT.getD j 0 = 200) (hn : n = NT.getD j 0) (hR : FT.getD j 0 + 1 ≤ R.frames ∧ 8 + (mxT j + 11) + LT.getD j 0 ≤ R.locals) (hcs : cells ≤ R.cells ∧ slots ≤ R.slots) (hw : jws (st.drop n) ≤ 8) (hln : n ≤ st.length) (hd : decode b pc = .ok (.invokestatic i, 3)) (hM : jCT l ε j (st.take n).reverse μ v μ2) (k : KW p l e R s m args below meth c cells slots Q ε A mx (pc + 3) ls (v.toList ++ st.drop n) μ2) : KW p l e R s m args below meth c cells slots Q ε A mx pc ls st μ := fun arr H locs hl hs hi => by
  have hF := C.2.2.2.2.2.1.2.2.1
  have hst : (Cond.static (yT j)).before args s = true := by
    rcases hm.2.2.2.2.2.2 with ⟨-, h⟩ | ⟨h, -⟩
    · exact C.2.2.2.2.1 _ h
    · exfalso
      rcases h with ⟨h, -⟩ | ⟨q, -, -, h⟩ <;> omega
  have hstk : (st.map (jtr ε)) = (((st.take n).reverse).map (jtr ε)).reverse ++ (st.drop n).map (jtr ε) := by
    rw [List.map_reverse, List.reverse_reverse, ← List.map_append, List.take_append_drop]
  have hlen : (((st.take n).reverse).map (jtr ε)).length = n := by simp; omega
  refine j_behind (av := (((st.take n).reverse).map (jtr ε)).toArray) C hl (fun w h => hs w (List.mem_of_mem_drop h)) hi ?_ k
  rcases hlk with h | ⟨h, hh⟩
  · exact va_runS ⟨C.1, C.2.1, C.2.2.1, C.2.2.2.1, C.2.2.2.2.1⟩ (hM H.size) ⟨jcallB C hm (C.2.2.2.2.1 _ h) hn hR, hst⟩ ⟨jPc_blind _ _ _, fun U hU hW => jPc_at C hi U hU hW⟩ rfl hlen hl.1 hstk (lv_room (by rw [jws_eq hF]; exact hw)) hd ⟨hcs.1, hcs.2⟩
  · exact va_runSN ⟨C.1, C.2.1, C.2.2.1, C.2.2.2.1, C.2.2.2.2.1⟩ (hM H.size) ⟨jcallN C hm hh hn hR, hst, trivial⟩ ⟨jPc_blind _ _ _, fun U hU hW => jPc_at C hi U hU hW⟩ rfl hlen hl.1 hstk (lv_room (by rw [jws_eq hF]; exact hw)) hd ⟨hcs.1, hcs.2⟩
theorem k_callV {pc i j n : Nat} {ls st as : List jv} {t k0 : Nat} {μ μ2 : jm} {v : Option jv} (C : jctx p s m args c ε A own b mx) (hm : jmo j) (hlk : Cond.methodLink own i (yT j) ∈ ws0) (hg : GT.getD j 0 ≠ 200) (htg : t = GT.getD j 0) (hn : n = NT.getD j 0 + 1) (hR : FT.getD j 0 + 1 ≤ R.frames ∧ 8 + (mxT j + 11) + LT.getD j 0 ≤ R.locals) (hcs : cells ≤ R.cells ∧ slots ≤ R.slots) (hw : jws (st.drop n) ≤ 8) (hln : n ≤ st.length) (has : (st.take n).reverse = .inr (.inr (.inl (t, k0))) :: as) (hd : decode b pc = .ok (.invokevirtual i, 3)) (hM : jCT l ε j (st.take n).reverse μ v μ2) (k : KW p l e R s m args below meth c cells slots Q ε A mx (pc + 3) ls (v.toList ++ st.drop n) μ2) : KW p l e R s m args below meth c cells slots Q ε A mx pc ls st μ := fun arr H locs hl hs hi => by
  have hM : jCT l ε j (.inr (.inr (.inl (t, k0))) :: as) μ v μ2 := has ▸ hM
  have hF := C.2.2.2.2.2.1.2.2.1
  have hok : jok ε (.inr (.inr (.inl (t, k0)))) := hs _ (List.mem_of_mem_take (i := n) (List.mem_reverse.mp (by rw [has]; exact List.mem_cons_self)))
  have hall : (Cond.instanceMethod (yT j)).before args s = true ∧ (Cond.selects (yT j).cls (yT j) (yT j)).before args s = true ∧ ((t = 98 ∧ (yT j).cls = "java/lang/String") ∨ ∃ q : vw_C, vwCl[t]? = some q ∧ q.1 = (yT j).cls ∧ t < 11) := by
    rcases hm.2.2.2.2.2.2 with ⟨h, -⟩ | ⟨h, h1, h2⟩
    · exact absurd h hg
    · refine ⟨C.2.2.2.2.1 _ h1, C.2.2.2.2.1 _ h2, ?_⟩
      rw [htg]
      exact h
  obtain ⟨hin, hsel, hcls⟩ := hall
  have hrecv : ∃ (b0 : Nat) (cellB : Cell), jtr ε (.inr (.inr (.inl (t, k0)))) = .ref b0 ∧ H[b0]? = some cellB ∧ cellB.vm.isStatics = false ∧ s.vm.findClass (yT j).cls = some cellB.cls := by
    rcases hcls with ⟨rfl, hc⟩ | ⟨q, hq1, hq2, hq3⟩
    · have hk : k0 < 6 := by
        rcases hok with h | ⟨h, h'⟩ | ⟨h, -⟩ | h | ⟨-, h'⟩ | ⟨h1, h2⟩
        · omega
        · exact h'
        · omega
        · omega
        · exact h'
        · have : ∀ k, k < 78 → shl.getD k 0 ≠ 98 := by decide +kernel
          exact absurd h2 (this k0 h1)
      obtain ⟨cell, e1, e2, e3⟩ := vk_recv C.2.2.2.2.2.1.2.2.2.2.2.2.1 hk hi.2.2.1
      exact ⟨eO ε k0, cell, rfl, e1, e2, by rw [hc]; exact e3⟩
    · obtain ⟨hk, hsh, htr⟩ := jrk_cell hok (by omega) (by omega) (by omega) (by omega) (by omega)
      obtain ⟨cell, e1, e2, e3⟩ := va_recv (D := eD ε) (ci := t) (q0 := k0) (a := eA ε k0) (fs := jfs ε μ k0 0 (fdl t)) C.2.2.2.2.2.1.2.2.2.2.2.2.2.2.1 hi.1 hq1 (by rw [jpic_at ε μ hk, hsh, jce_0 (by omega)])
      exact ⟨eA ε k0, cell, htr, e1, e2, by rw [← hq2]; exact e3⟩
  obtain ⟨b0, cellB, r1, r2, r3, r4⟩ := hrecv
  have hstk : (st.map (jtr ε)) = ((as.map (jtr ε)).reverse) ++ .ref b0 :: (st.drop n).map (jtr ε) := by
    have h0 : (((st.take n).reverse).map (jtr ε)).reverse ++ (st.drop n).map (jtr ε) = st.map (jtr ε) := by
      rw [List.map_reverse, List.reverse_reverse, ← List.map_append, List.take_append_drop]
    rw [← h0, has, List.map_cons, List.reverse_cons, r1, List.append_assoc]
    rfl
  have hlen : (as.map (jtr ε)).length = NT.getD j 0 := by
    have h0 : ((st.take n).reverse).length = n := by rw [List.length_reverse, List.length_take]; omega
    rw [has] at h0
    have h1 : as.length + 1 = n := h0
    rw [List.length_map]
    omega
  refine j_behind (av := (Value.ref b0 :: as.map (jtr ε)).toArray) C hl (fun w h => hs w (List.mem_of_mem_drop h)) hi ?_ k
  have hpc : ∀ U : State, U.heap = H → s.WarmedH U.vm → jPc ε (.inr (.inr (.inl (t, k0))) :: as) μ H.size (Value.ref b0 :: as.map (jtr ε)).toArray U := fun U hU hW => by
    have := jPc_at (as := .inr (.inr (.inl (t, k0))) :: as) C hi U hU hW
    rw [List.map_cons, r1] at this
    exact this
  exact va_runV (C := (yT j).cls) ⟨C.1, C.2.1, C.2.2.1, C.2.2.2.1, C.2.2.2.2.1⟩ (hM H.size) ⟨jcallB C hm (C.2.2.2.2.1 _ hlk) rfl hR, hin, hsel⟩ ⟨jPc_blind _ _ _, ⟨cellB, r2, r3, r4⟩, hpc⟩ rfl hlen hl.1 hstk (lv_room (by rw [jws_eq hF]; exact hw)) hd ⟨hcs.1, hcs.2⟩
end SND4
end
section
/-! ONE STEP, ALL STEPS, A METHOD'S CONTRACT -/
/-- the end of a method: its instruction, its stack, its answer -/
def jrt (i : Instr) (rt : Option FieldType) (st : List Value) (rv : Option Value) : Prop :=
  (i = .ireturn ∧ ∃ (x : Int32) (ty : FieldType), rt = some ty ∧ (ty = .int ∨ ty = .boolean ∨ ty = .byte ∨ ty = .char) ∧ st = [.int x] ∧ rv = some (narrow ty (.int x))) ∨
  (i = .lreturn ∧ ∃ x : Int64, rt = some .long ∧ st = [.long x] ∧ rv = some (.long x)) ∨
  (i = .areturn ∧ ∃ w : Value, rt = some (.object "java/lang/String") ∧ (w = .null ∨ ∃ a, w = .ref a) ∧ st = [w] ∧ rv = some w) ∨
  (i = .return_ ∧ rt = none ∧ st = [] ∧ rv = none)
def jKA (K : Nat → List jv → List jv → jm → Prop) (KC : Nat → List jv → Nat → List jv → List jv → jm → Prop) (KR : jr → Prop) (p2 : Nat) (a : ja) : Prop := match a with
  | .inl (none, ls, st, μ) => K p2 ls st μ
  | .inl (some g, ls, st, μ) => g = true ∧ K p2 ls st μ
  | .inr (.inl (none, t, ls, st, μ)) => K t ls st μ
  | .inr (.inl (some b, t, ls, st, μ)) => (b = true → K t ls st μ) ∧ (b = false → K p2 ls st μ)
  | .inr (.inr (.inl (j, as, rk, ls, st, μ))) => KC j as rk ls st μ
  | .inr (.inr (.inr (.inl (x, tb, d, ls, st, μ)))) => ∀ t, (∀ k : Nat → Option jr, jsw x tb d k = k t) → K t ls st μ
  | .inr (.inr (.inr (.inr r))) => KR r
def jtab (l : Int) (pc : Nat) (o : List Int) (a : Nat) : List (Int32 × Nat) := (o.zipIdx a).map (fun x => (Int32.ofInt (l + (x.2 : Int)), ((pc : Int) + x.1).toNat))
theorem jofI {z : Int} (h1 : -2147483648 ≤ z) (h2 : z < 2147483648) : (Int32.ofInt z).toInt = z := by
  have e : Int32.size = 4294967296 := rfl
  rw [Int32.toInt_ofInt, e]
  exact Int.bmod_eq_of_le (by omega) (by omega)
/-- a switch's table: outside it, and in it -/
theorem jsw_tab (x : Int32) (l : Int) (pc d : Nat) (hl : -2147483648 ≤ l) : ∀ (o : List Int) (a : Nat), l + (a : Int) + (o.length : Int) ≤ 2147483648 → ((x.toInt < l + (a : Int) ∨ l + (a : Int) + (o.length : Int) ≤ x.toInt) → ∀ k : Nat → Option jr, jsw x (jtab l pc o a) d k = k d) ∧ (∀ (n : Nat) (off : Int), o[n]? = some off → x.toInt = l + (a : Int) + (n : Int) → ∀ k : Nat → Option jr, jsw x (jtab l pc o a) d k = k ((pc : Int) + off).toNat)
  | [], a, h => ⟨fun _ k => rfl, fun n off h => by simp at h⟩
  | z :: o, a, h => by
    have hlen : ((z :: o).length : Int) = (o.length : Int) + 1 := by simp
    rw [hlen] at h ⊢
    obtain ⟨i1, i2⟩ := jsw_tab x l pc d hl o (a + 1) (by push_cast; omega)
    have hv : (Int32.ofInt (l + (a : Int))).toInt = l + (a : Int) := jofI (by omega) (by omega)
    have e0 : ∀ k : Nat → Option jr, jsw x (jtab l pc (z :: o) a) d k = jbr (decide (x = Int32.ofInt (l + (a : Int)))) (k ((pc : Int) + z).toNat) (jsw x (jtab l pc o (a + 1)) d k) := fun k => rfl
    refine ⟨fun hx k => ?_, fun n off hn hx k => ?_⟩
    · have hne : ¬ x = Int32.ofInt (l + (a : Int)) := fun e => by rw [e, hv] at hx; omega
      rw [e0, decide_eq_false hne]
      exact i1 (by push_cast; omega) k
    · cases n with
      | zero =>
        have he : x = Int32.ofInt (l + (a : Int)) := Int32.toInt_inj.mp (by rw [hv]; omega)
        rw [e0, decide_eq_true he]
        cases (Option.some.inj (show some z = some off from hn))
        rfl
      | succ n =>
        have hne : ¬ x = Int32.ofInt (l + (a : Int)) := fun e => by rw [e, hv] at hx; omega
        rw [e0, decide_eq_false hne]
        exact i2 n off hn (by push_cast at hx ⊢; omega) k
section SND5
variable {p : Program} {l : Launch} {e : Env} {R : Room} {s : State} {m : MethodId} {args : Array Value} {below : List Frame} {meth : Method} {c : Code} {cells slots : Nat} {Q : State → Prop} {ε : jenv} {A : Nat → Prop} {mx : Nat} {own : String} {b : ByteArray}
theorem k_table {pc len dt : Nat} {d lo hi : Int} {o : Array Int} {ls r : List jv} {x : Int32} {μ : jm} {sw : List (Int32 × Nat)} (C : jctx p s m args c ε A own b mx) (hd : decode b pc = .ok (.tableswitch d lo hi o, len)) (h1 : (pc : Int) + d = (dt : Int)) (h2 : hi = lo + (o.size : Int) - 1) (h3 : -2147483648 ≤ lo) (h4 : hi < 2147483648) (h5 : sw = jtab lo pc o.toList 0) (h6 : ∀ z ∈ o.toList, 0 ≤ (pc : Int) + z) (k : ∀ t, (∀ k : Nat → Option jr, jsw x sw dt k = k t) → KW p l e R s m args below meth c cells slots Q ε A mx t ls r μ) : KW p l e R s m args below meth c cells slots Q ε A mx pc ls (.inl x :: r) μ := fun arr H locs hl hs hi' => by
  obtain ⟨t1, t2⟩ := jsw_tab x lo pc dt h3 o.toList 0 (by simp; omega)
  rw [← h5] at t1 t2
  by_cases hx : x.toInt < lo ∨ hi < x.toInt
  · refine lv_tableOut C.1 C.2.1 hd hx h1 ?_
    exact k dt (t1 (by simp; omega)) arr H locs hl (ok_t hs) hi'
  · have hx1 : ¬ x.toInt < lo := fun z => hx (Or.inl z)
    have hx2 : ¬ hi < x.toInt := fun z => hx (Or.inr z)
    have hlt : (x.toInt - lo).toNat < o.size := by omega
    have ho : o[(x.toInt - lo).toNat]? = some (o[(x.toInt - lo).toNat]) := by simp [hlt]
    have ho2 : o.toList[(x.toInt - lo).toNat]? = some (o[(x.toInt - lo).toNat]) := by rw [Array.getElem?_toList]; exact ho
    have hpos : 0 ≤ (pc : Int) + o[(x.toInt - lo).toNat] := h6 _ (List.mem_of_getElem? ho2)
    refine lv_tableIn (tgt := ((pc : Int) + o[(x.toInt - lo).toNat]).toNat) C.1 C.2.1 hd hx1 hx2 ho (by omega) ?_
    exact k _ (t2 _ _ ho2 (by simp; omega)) arr H locs hl (ok_t hs) hi'
theorem jgf_some {ns : List Nat} {v : Int32} {ls st : List jv} {μ : jm} {a : ja} (h : jgf ns v ls st μ = some a) : ∃ z ci sl kd tg of k0 r w, ns = [z, ci, sl, kd, tg, of] ∧ st = .inr (.inr (.inl (ci, k0))) :: r ∧ a = .inl (none, ls, w :: r, μ) ∧ ((kd = 0 ∧ w = .inl (gI μ k0 sl)) ∨ (kd = 1 ∧ w = .inr (.inl (gL μ k0 sl))) ∨ (kd = 2 ∧ w = .inr (.inr (.inl (tg, k0 + of)))) ∨ (kd = 3 ∧ w = .inr (.inr (.inl (tg, k0)))) ∨ (4 ≤ kd ∧ w = .inl v)) := by
  unfold jgf at h
  split at h
  · rename_i z ci sl kd tg of cc k0 r
    split at h
    · rename_i hc
      have hc : cc = ci := Nat.eq_of_beq_eq_true hc
      subst hc
      match kd, h with
      | 0, h => exact ⟨z, cc, sl, 0, tg, of, k0, r, _, rfl, rfl, (Option.some.inj h).symm, Or.inl ⟨rfl, rfl⟩⟩
      | 1, h => exact ⟨z, cc, sl, 1, tg, of, k0, r, _, rfl, rfl, (Option.some.inj h).symm, Or.inr (Or.inl ⟨rfl, rfl⟩)⟩
      | 2, h => exact ⟨z, cc, sl, 2, tg, of, k0, r, _, rfl, rfl, (Option.some.inj h).symm, Or.inr (Or.inr (Or.inl ⟨rfl, rfl⟩))⟩
      | 3, h => exact ⟨z, cc, sl, 3, tg, of, k0, r, _, rfl, rfl, (Option.some.inj h).symm, Or.inr (Or.inr (Or.inr (Or.inl ⟨rfl, rfl⟩)))⟩
      | n + 4, h => exact ⟨z, cc, sl, n + 4, tg, of, k0, r, _, rfl, rfl, (Option.some.inj h).symm, Or.inr (Or.inr (Or.inr (Or.inr ⟨by omega, rfl⟩)))⟩
    · cases h
  · cases h
theorem jpf_some {ns : List Nat} {ls st : List jv} {μ : jm} {a : ja} (h : jpf ns ls st μ = some a) : ∃ z ci sl k0 r, (∃ x, ns = [z, ci, sl, 0] ∧ st = .inl x :: .inr (.inr (.inl (ci, k0))) :: r ∧ a = .inl (none, ls, r, sI μ k0 sl x)) ∨ (∃ x, ns = [z, ci, sl, 1] ∧ st = .inr (.inl x) :: .inr (.inr (.inl (ci, k0))) :: r ∧ a = .inl (none, ls, r, sL μ k0 sl x)) := by
  unfold jpf at h
  split at h
  · rename_i z ci sl kd x cc k0 r
    split at h
    · rename_i hc
      rw [Bool.and_eq_true] at hc
      have h1 : cc = ci := Nat.eq_of_beq_eq_true hc.1
      have h2 : kd = 0 := Nat.eq_of_beq_eq_true hc.2
      subst h1; subst h2
      exact ⟨z, cc, sl, k0, r, Or.inl ⟨x, rfl, rfl, (Option.some.inj h).symm⟩⟩
    · cases h
  · rename_i z ci sl kd x cc k0 r
    split at h
    · rename_i hc
      rw [Bool.and_eq_true] at hc
      have h1 : cc = ci := Nat.eq_of_beq_eq_true hc.1
      have h2 : kd = 1 := Nat.eq_of_beq_eq_true hc.2
      subst h1; subst h2
      exact ⟨z, cc, sl, k0, r, Or.inr ⟨x, rfl, rfl, (Option.some.inj h).symm⟩⟩
    · cases h
  · cases h
theorem jiald_some {ls st : List jv} {μ : jm} {a : ja} (h : jiald ls st μ = some a) : ∃ x t k0 r, st = .inl x :: .inr (.inr (.inl (t, k0))) :: r ∧ ((t = 96 ∧ a = .inl (some (inB x k0), ls, .inl (gI μ 99 (ix x)) :: r, μ)) ∨ (t = 97 ∧ a = .inl (some (inB x 6), ls, .inl (jnum (ix x)) :: r, μ)) ∨ (t / 1000 = 1 ∧ a = .inl (some (inB x (t - 1000)), ls, .inl (gI μ k0 (ix x)) :: r, μ))) := by
  unfold jiald at h
  split at h
  · rename_i x t k0 r
    refine ⟨x, t, k0, r, rfl, ?_⟩
    split at h
    · rename_i hc; exact Or.inl ⟨Nat.eq_of_beq_eq_true hc, (Option.some.inj h).symm⟩
    · split at h
      · rename_i hc; exact Or.inr (Or.inl ⟨Nat.eq_of_beq_eq_true hc, (Option.some.inj h).symm⟩)
      · split at h
        · rename_i hc; exact Or.inr (Or.inr ⟨Nat.eq_of_beq_eq_true hc, (Option.some.inj h).symm⟩)
        · cases h
  · cases h
theorem jbald_some {ls st : List jv} {μ : jm} {a : ja} (h : jbald ls st μ = some a) : ∃ x t k0 r, st = .inl x :: .inr (.inr (.inl (t, k0))) :: r ∧ ((t = 95 ∧ a = .inl (some (inB x (jwl k0)), ls, .inl (jwb k0 (ix x)) :: r, μ)) ∨ (t / 1000 = 3 ∧ a = .inl (some (inB x (t - 3000)), ls, .inl (gI μ k0 (ix x)) :: r, μ)) ∨ (t / 1000 = 4 ∧ a = .inl (some (inB x (t - 4000)), ls, .inl (gI μ k0 (ix x)) :: r, μ))) := by
  unfold jbald at h
  split at h
  · rename_i x t k0 r
    refine ⟨x, t, k0, r, rfl, ?_⟩
    split at h
    · rename_i hc; exact Or.inl ⟨Nat.eq_of_beq_eq_true hc, (Option.some.inj h).symm⟩
    · split at h
      · rename_i hc; exact Or.inr (Or.inl ⟨Nat.eq_of_beq_eq_true hc, (Option.some.inj h).symm⟩)
      · split at h
        · rename_i hc; exact Or.inr (Or.inr ⟨Nat.eq_of_beq_eq_true hc, (Option.some.inj h).symm⟩)
        · cases h
  · cases h
theorem jlald_some {ls st : List jv} {μ : jm} {a : ja} (h : jlald ls st μ = some a) : ∃ x t k0 r, st = .inl x :: .inr (.inr (.inl (t, k0))) :: r ∧ t / 1000 = 2 ∧ a = .inl (some (inB x (t - 2000)), ls, .inr (.inl (gL μ k0 (ix x))) :: r, μ) := by
  unfold jlald at h
  split at h
  · rename_i x t k0 r
    split at h
    · rename_i hc; exact ⟨x, t, k0, r, rfl, Nat.eq_of_beq_eq_true hc, (Option.some.inj h).symm⟩
    · cases h
  · cases h
theorem jaald_some {ls st : List jv} {μ : jm} {a : ja} (h : jaald ls st μ = some a) : ∃ x k0 r, st = .inl x :: .inr (.inr (.inl (5002, k0))) :: r ∧ a = .inl (some (inB x 2), ls, .inr (.inr (.inl (8, k0 + 1 + 11 * ix x))) :: r, μ) := by
  unfold jaald at h
  split at h
  · rename_i x t k0 r
    split at h
    · rename_i hc
      have e : t = 5002 := Nat.eq_of_beq_eq_true hc
      subst e
      exact ⟨x, k0, r, rfl, (Option.some.inj h).symm⟩
    · cases h
  · cases h
theorem jalen_some {ls st : List jv} {μ : jm} {a : ja} (h : jalen ls st μ = some a) : ∃ t k0 r v, st = .inr (.inr (.inl (t, k0))) :: r ∧ a = .inl (none, ls, .inl v :: r, μ) ∧ ((t = 96 ∧ v = nI k0) ∨ (t = 95 ∧ v = nI (jwl k0)) ∨ (t / 1000 = 1 ∧ v = nI (t - 1000)) ∨ (t / 1000 = 2 ∧ v = nI (t - 2000))) := by
  unfold jalen at h
  split at h
  · rename_i t k0 r
    split at h
    · rename_i hc; exact ⟨t, k0, r, _, rfl, (Option.some.inj h).symm, Or.inl ⟨Nat.eq_of_beq_eq_true hc, rfl⟩⟩
    · split at h
      · rename_i hc; exact ⟨t, k0, r, _, rfl, (Option.some.inj h).symm, Or.inr (Or.inl ⟨Nat.eq_of_beq_eq_true hc, rfl⟩)⟩
      · split at h
        · rename_i hc; exact ⟨t, k0, r, _, rfl, (Option.some.inj h).symm, Or.inr (Or.inr (Or.inl ⟨Nat.eq_of_beq_eq_true hc, rfl⟩))⟩
        · split at h
          · rename_i hc; exact ⟨t, k0, r, _, rfl, (Option.some.inj h).symm, Or.inr (Or.inr (Or.inr ⟨Nat.eq_of_beq_eq_true hc, rfl⟩))⟩
          · cases h
  · cases h
theorem jiast_some {ls st : List jv} {μ : jm} {a : ja} (h : jiast ls st μ = some a) : ∃ v x t k0 r, st = .inl v :: .inl x :: .inr (.inr (.inl (t, k0))) :: r ∧ t / 1000 = 1 ∧ a = .inl (some (inB x (t - 1000)), ls, r, sI μ k0 (ix x) v) := by
  unfold jiast at h
  split at h
  · rename_i v x t k0 r
    split at h
    · rename_i hc; exact ⟨v, x, t, k0, r, rfl, Nat.eq_of_beq_eq_true hc, (Option.some.inj h).symm⟩
    · cases h
  · cases h
theorem jbast_some {ls st : List jv} {μ : jm} {a : ja} (h : jbast ls st μ = some a) : ∃ v x t k0 r, st = .inl v :: .inl x :: .inr (.inr (.inl (t, k0))) :: r ∧ ((t / 1000 = 3 ∧ a = .inl (some (inB x (t - 3000)), ls, r, sI μ k0 (ix x) v.toInt8.toInt32)) ∨ (t / 1000 = 4 ∧ a = .inl (some (inB x (t - 4000)), ls, r, sI μ k0 (ix x) (v &&& 1)))) := by
  unfold jbast at h
  split at h
  · rename_i v x t k0 r
    split at h
    · rename_i hc; exact ⟨v, x, t, k0, r, rfl, Or.inl ⟨Nat.eq_of_beq_eq_true hc, (Option.some.inj h).symm⟩⟩
    · split at h
      · rename_i hc; exact ⟨v, x, t, k0, r, rfl, Or.inr ⟨Nat.eq_of_beq_eq_true hc, (Option.some.inj h).symm⟩⟩
      · cases h
  · cases h
theorem jlast_some {ls st : List jv} {μ : jm} {a : ja} (h : jlast ls st μ = some a) : ∃ v x t k0 r, st = .inr (.inl v) :: .inl x :: .inr (.inr (.inl (t, k0))) :: r ∧ t / 1000 = 2 ∧ a = .inl (some (inB x (t - 2000)), ls, r, sL μ k0 (ix x) v) := by
  unfold jlast at h
  split at h
  · rename_i v x t k0 r
    split at h
    · rename_i hc; exact ⟨v, x, t, k0, r, rfl, Nat.eq_of_beq_eq_true hc, (Option.some.inj h).symm⟩
    · cases h
  · cases h
theorem jcpy_some {ls st : List jv} {μ : jm} {a : ja} (h : jcpy ls st μ = some a) : ∃ n dp t1 k1 sp t0 k0 r, st = .inl n :: .inl dp :: .inr (.inr (.inl (t1, k1))) :: .inl sp :: .inr (.inr (.inl (t0, k0))) :: r ∧ t0 / 1000 = 1 ∧ t1 / 1000 = 1 ∧ jws r ≤ 8 ∧ a = .inl (some (jcg sp dp n (t0 - 1000) (t1 - 1000)), ls, r, cpI μ k0 (ix sp) k1 (ix dp) (ix n)) := by
  unfold jcpy at h
  split at h
  · rename_i n dp t1 k1 sp t0 k0 r
    split at h
    · rename_i hc
      rw [Bool.and_eq_true, Bool.and_eq_true] at hc
      exact ⟨n, dp, t1, k1, sp, t0, k0, r, rfl, Nat.eq_of_beq_eq_true hc.1.1, Nat.eq_of_beq_eq_true hc.1.2, Nat.le_of_ble_eq_true hc.2, (Option.some.inj h).symm⟩
    · cases h
  · cases h
theorem jmin_some {ls st : List jv} {μ : jm} {a : ja} (h : jmin ls st μ = some a) : ∃ x y r, st = .inl y :: .inl x :: r ∧ jws r ≤ 8 ∧ a = .inl (none, ls, .inl (if y < x then y else x) :: r, μ) := by
  unfold jmin at h
  split at h
  · rename_i y x r
    split at h
    · rename_i hc; exact ⟨x, y, r, rfl, Nat.le_of_ble_eq_true hc, (Option.some.inj h).symm⟩
    · cases h
  · cases h
theorem jcal_some {j n rk m2 tg : Nat} {ls st : List jv} {μ : jm} {a : ja} (h : jcal j n rk m2 tg ls st μ = some a) : jws (st.drop n) ≤ 8 ∧ n ≤ st.length ∧ (jex (st.take n).reverse).length ≤ m2 ∧ jrv tg (st.take n).reverse = true ∧ a = .inr (.inr (.inl (j, (st.take n).reverse, rk, ls, st.drop n, μ))) := by
  unfold jcal at h
  split at h
  · rename_i hc
    rw [Bool.and_eq_true, Bool.and_eq_true, Bool.and_eq_true] at hc
    exact ⟨Nat.le_of_ble_eq_true hc.1, Nat.le_of_ble_eq_true hc.2.1, Nat.le_of_ble_eq_true hc.2.2.1, hc.2.2.2, (Option.some.inj h).symm⟩
  · cases h
end SND5
end
section
/-! inversions of the single instructions -/
theorem jn_s {a : ja} (h : (none : Option ja) = some a) : False := by cases h
section INV
variable {pc : Nat} {mk : List Nat} {ns : List Nat} {v : Int32} {w : Int64} {sw : List (Int32 × Nat)} {ls st : List jv} {μ : jm} {a : ja}
theorem ja_i2l (h : jact (pc, mk, .i2l, ns, v, w, sw) ls st μ = some a) : ∃ x r, st = .inl x :: r ∧ a = .inl (none, ls, .inr (.inl x.toInt64) :: r, μ) := by
  match st, h with
  | .inl x :: r, h => exact ⟨x, r, rfl, (Option.some.inj h).symm⟩
  | [], h => exact (jn_s h).elim
  | .inr x :: r, h => exact (jn_s h).elim
theorem ja_l2i (h : jact (pc, mk, .l2i, ns, v, w, sw) ls st μ = some a) : ∃ x r, st = .inr (.inl x) :: r ∧ a = .inl (none, ls, .inl x.toInt32 :: r, μ) := by
  match st, h with
  | .inr (.inl x) :: r, h => exact ⟨x, r, rfl, (Option.some.inj h).symm⟩
  | [], h => exact (jn_s h).elim
  | .inl x :: r, h => exact (jn_s h).elim
  | .inr (.inr x) :: r, h => exact (jn_s h).elim
theorem ja_lcmp (h : jact (pc, mk, .lcmp, ns, v, w, sw) ls st μ = some a) : ∃ x y r, st = .inr (.inl y) :: .inr (.inl x) :: r ∧ a = .inl (none, ls, .inl (lg_cmp x y) :: r, μ) := by
  match st, h with
  | .inr (.inl y) :: .inr (.inl x) :: r, h => exact ⟨x, y, r, rfl, (Option.some.inj h).symm⟩
  | [], h => exact (jn_s h).elim
  | .inl x :: r, h => exact (jn_s h).elim
  | .inr (.inr x) :: r, h => exact (jn_s h).elim
  | .inr (.inl y) :: [], h => exact (jn_s h).elim
  | .inr (.inl y) :: .inl x :: r, h => exact (jn_s h).elim
  | .inr (.inl y) :: .inr (.inr x) :: r, h => exact (jn_s h).elim
theorem ja_dup (h : jact (pc, mk, .dup, ns, v, w, sw) ls st μ = some a) : (∃ x r, st = .inl x :: r ∧ a = .inl (none, ls, .inl x :: .inl x :: r, μ)) ∨ ∃ x r, st = .inr (.inr (.inl x)) :: r ∧ a = .inl (none, ls, .inr (.inr (.inl x)) :: .inr (.inr (.inl x)) :: r, μ) := by
  match st, h with
  | .inl x :: r, h => exact Or.inl ⟨x, r, rfl, (Option.some.inj h).symm⟩
  | .inr (.inr (.inl x)) :: r, h => exact Or.inr ⟨x, r, rfl, (Option.some.inj h).symm⟩
  | [], h => exact (jn_s h).elim
  | .inr (.inl x) :: r, h => exact (jn_s h).elim
  | .inr (.inr (.inr x)) :: r, h => exact (jn_s h).elim
theorem ja_dup2 (h : jact (pc, mk, .dup2, ns, v, w, sw) ls st μ = some a) : ∃ x y r, st = .inl y :: .inr (.inr (.inl x)) :: r ∧ a = .inl (none, ls, .inl y :: .inr (.inr (.inl x)) :: .inl y :: .inr (.inr (.inl x)) :: r, μ) := by
  match st, h with
  | .inl y :: .inr (.inr (.inl x)) :: r, h => exact ⟨x, y, r, rfl, (Option.some.inj h).symm⟩
  | [], h => exact (jn_s h).elim
  | .inr x :: r, h => exact (jn_s h).elim
  | .inl y :: [], h => exact (jn_s h).elim
  | .inl y :: .inl x :: r, h => exact (jn_s h).elim
  | .inl y :: .inr (.inl x) :: r, h => exact (jn_s h).elim
  | .inl y :: .inr (.inr (.inr x)) :: r, h => exact (jn_s h).elim
theorem ja_pop (h : jact (pc, mk, .pop, ns, v, w, sw) ls st μ = some a) : ∃ x r, st = .inl x :: r ∧ a = .inl (none, ls, r, μ) := by
  match st, h with
  | .inl x :: r, h => exact ⟨x, r, rfl, (Option.some.inj h).symm⟩
  | [], h => exact (jn_s h).elim
  | .inr x :: r, h => exact (jn_s h).elim
theorem ja_table {d0 lo hi : Int} {o : Array Int} (h : jact (pc, mk, .tableswitch d0 lo hi o, ns, v, w, sw) ls st μ = some a) : ∃ x r, st = .inl x :: r ∧ a = .inr (.inr (.inr (.inl (x, sw, jtg ns, ls, r, μ)))) := by
  match st, h with
  | .inl x :: r, h => exact ⟨x, r, rfl, (Option.some.inj h).symm⟩
  | [], h => exact (jn_s h).elim
  | .inr x :: r, h => exact (jn_s h).elim
theorem ja_lret (h : jact (pc, mk, .lreturn, ns, v, w, sw) ls st μ = some a) : ∃ x, st = [.inr (.inl x)] ∧ a = .inr (.inr (.inr (.inr (some (.inr (.inl x)), μ)))) := by
  match st, h with
  | [.inr (.inl x)], h => exact ⟨x, rfl, (Option.some.inj h).symm⟩
  | [], h => exact (jn_s h).elim
  | [.inl x], h => exact (jn_s h).elim
  | [.inr (.inr x)], h => exact (jn_s h).elim
  | .inl x :: y :: r, h => exact (jn_s h).elim
  | .inr (.inl x) :: y :: r, h => exact (jn_s h).elim
  | .inr (.inr x) :: y :: r, h => exact (jn_s h).elim
theorem ja_aret (h : jact (pc, mk, .areturn, ns, v, w, sw) ls st μ = some a) : ∃ x, st = [.inr (.inr (.inl x))] ∧ a = .inr (.inr (.inr (.inr (some (.inr (.inr (.inl x))), μ)))) := by
  match st, h with
  | [.inr (.inr (.inl x))], h => exact ⟨x, rfl, (Option.some.inj h).symm⟩
  | [], h => exact (jn_s h).elim
  | [.inl x], h => exact (jn_s h).elim
  | [.inr (.inl x)], h => exact (jn_s h).elim
  | [.inr (.inr (.inr x))], h => exact (jn_s h).elim
  | .inl x :: y :: r, h => exact (jn_s h).elim
  | .inr (.inl x) :: y :: r, h => exact (jn_s h).elim
  | .inr (.inr (.inl x)) :: y :: r, h => exact (jn_s h).elim
  | .inr (.inr (.inr x)) :: y :: r, h => exact (jn_s h).elim
theorem ja_vret (h : jact (pc, mk, .return_, ns, v, w, sw) ls st μ = some a) : st = [] ∧ a = .inr (.inr (.inr (.inr (none, μ)))) := by
  match st, h with
  | [], h => exact ⟨rfl, (Option.some.inj h).symm⟩
  | x :: r, h => exact (jn_s h).elim
theorem ja_iinc {i : Nat} {n : Int} (h : jact (pc, mk, .iinc i n, ns, v, w, sw) ls st μ = some a) : ∃ x, ls[i]? = some (.inl x) ∧ a = .inl (none, jst ls i (.inl (x + v)), st, μ) := by
  simp only [jact] at h
  split at h
  · rename_i x hx
    exact ⟨x, hx, (Option.some.inj h).symm⟩
  · exact (jn_s h).elim
theorem jwo_get {own : String} {i z ci sl kd tg of : Nat} (h98 : ¬ ci = 98) (h : jwo own (pc, mk, .getfield i, [z, ci, sl, kd, tg, of], v, w, sw)) : jwf own i ci sl := by
  simp only [jwo] at h
  split at h
  · rename_i he; simp at he; exact absurd he.2.1 h98
  · rename_i he; simp at he; exact absurd he.2.1 h98
  · rename_i he; simp at he; obtain ⟨-, rfl, rfl, -⟩ := he; exact h
  · rename_i he; exact absurd rfl (he _ _ _ _ _ _)
variable {mx fr lo : Nat} {rt : Option FieldType}
theorem jb_f {P : Prop} (h : false = true) : P := Bool.noConfusion h
theorem jr_0 {z : Nat} (h : jck2 mx rt fr lo (pc, mk, .ireturn, [z, 0], v, w, sw) = true) : rt = some .int := by
  cases rt with
  | none => exact jb_f h
  | some ty => cases ty <;> first | rfl | exact jb_f h
theorem jr_1 {z : Nat} (h : jck2 mx rt fr lo (pc, mk, .ireturn, [z, 1], v, w, sw) = true) : rt = some .boolean := by
  cases rt with
  | none => exact jb_f h
  | some ty => cases ty <;> first | rfl | exact jb_f h
theorem jr_2 {z : Nat} (h : jck2 mx rt fr lo (pc, mk, .ireturn, [z, 2], v, w, sw) = true) : rt = some .byte := by
  cases rt with
  | none => exact jb_f h
  | some ty => cases ty <;> first | rfl | exact jb_f h
theorem jr_3 {z : Nat} (h : jck2 mx rt fr lo (pc, mk, .ireturn, [z, 3], v, w, sw) = true) : rt = some .char := by
  cases rt with
  | none => exact jb_f h
  | some ty => cases ty <;> first | rfl | exact jb_f h
theorem ja_iret (h : jact (pc, mk, .ireturn, ns, v, w, sw) ls st μ = some a) : ∃ z x, st = [.inl x] ∧ ((ns = [z, 0] ∧ a = .inr (.inr (.inr (.inr (some (.inl x), μ))))) ∨ (ns = [z, 1] ∧ a = .inr (.inr (.inr (.inr (some (.inl (x &&& 1)), μ))))) ∨ (ns = [z, 2] ∧ a = .inr (.inr (.inr (.inr (some (.inl x.toInt8.toInt32), μ))))) ∨ (ns = [z, 3] ∧ a = .inr (.inr (.inr (.inr (some (.inl (x.toUInt32 % 65536).toInt32), μ)))))) := by
  have h : jret ns st μ = some a := h
  unfold jret at h
  split at h
  · exact ⟨_, _, rfl, Or.inl ⟨rfl, (Option.some.inj h).symm⟩⟩
  · exact ⟨_, _, rfl, Or.inr (Or.inl ⟨rfl, (Option.some.inj h).symm⟩)⟩
  · exact ⟨_, _, rfl, Or.inr (Or.inr (Or.inl ⟨rfl, (Option.some.inj h).symm⟩))⟩
  · exact ⟨_, _, rfl, Or.inr (Or.inr (Or.inr ⟨rfl, (Option.some.inj h).symm⟩))⟩
  · cases h
theorem ja_inv (h : jiv ns ls st μ = some a) : (∃ z j n rk m2 tg, ns = [z, j, n, rk, m2, tg] ∧ jcal j n rk m2 tg ls st μ = some a) ∨ (∃ z y, ns = [z, y] ∧ jcpy ls st μ = some a) ∨ ∃ z y x, ns = [z, y, x] ∧ jmin ls st μ = some a := by
  unfold jiv at h
  split at h
  · exact Or.inl ⟨_, _, _, _, _, _, rfl, h⟩
  · exact Or.inr (Or.inl ⟨_, _, rfl, h⟩)
  · exact Or.inr (Or.inr ⟨_, _, _, rfl, h⟩)
  · cases h
theorem ja_gs (h : jgs ns v ls st μ = some a) : ∃ z, (ns = [z, 0] ∧ a = .inl (none, ls, .inl v :: st, μ)) ∨ (ns = [z, 1] ∧ a = .inl (none, ls, .inr (.inr (.inl (94, 0))) :: st, μ)) ∨ (ns = [z, 2] ∧ a = .inl (none, ls, .inr (.inr (.inl (97, 0))) :: st, μ)) := by
  unfold jgs at h
  split at h
  · exact ⟨_, Or.inl ⟨rfl, (Option.some.inj h).symm⟩⟩
  · exact ⟨_, Or.inr (Or.inl ⟨rfl, (Option.some.inj h).symm⟩)⟩
  · exact ⟨_, Or.inr (Or.inr ⟨rfl, (Option.some.inj h).symm⟩)⟩
  · cases h
end INV
end
section
/-! ONE INSTRUCTION, by program: a row an instruction -/
section SND6
variable {p : Program} {l : Launch} {e : Env} {R : Room} {s : State} {m : MethodId} {args : Array Value} {below : List Frame} {meth : Method} {c : Code} {cells slots : Nat} {Q : State → Prop} {ε : jenv} {A : Nat → Prop} {mx : Nat} {own : String} {b : ByteArray}
theorem jchar (x : Int32) : (x.toUInt32 % 65536).toInt32 = x.toUInt32.toUInt16.toUInt32.toInt32 := by
  congr 1
theorem jtr_ref {x : Nat × Nat} (hF : eF ε = .null ∨ ∃ a, eF ε = .ref a) : jtr ε (.inr (.inr (.inl x))) = .null ∨ ∃ a, jtr ε (.inr (.inr (.inl x))) = .ref a := by
  obtain ⟨t, k0⟩ := x
  rw [jtr]
  split
  · exact hF
  · right
    split
    · exact ⟨_, rfl⟩
    · split
      · exact ⟨_, rfl⟩
      · split
        · exact ⟨_, rfl⟩
        · split <;> exact ⟨_, rfl⟩
def NJ : Nat := 218
theorem hnv0 : ∀ j, j < NJ → yT j = ⟨"OneNote", "isRoom", "(I)Z"⟩ → GT.getD j 0 = 200 := by decide +kernel
theorem hnv (i j : Nat) (h : String) (hj : j < NJ) (hh : Cond.methodLinkNest own i (yT j) h ∈ nws) : GT.getD j 0 = 200 := by
  simp only [nws, List.mem_cons, List.not_mem_nil, or_false, false_or, reduceCtorEq, Cond.methodLinkNest.injEq] at hh
  exact hnv0 j hj hh.2.2.1
set_option maxHeartbeats 4000000 in
/-- what follows the action gives what stands ahead of it -/
theorem jone {rt : Option FieldType} {fr lo : Nat} (C : jctx p s m args c ε A own b mx) (hmo : ∀ j, j < NJ → jmo j) (hR : fr ≤ R.frames ∧ lo ≤ R.locals) (hcs : cells ≤ R.cells ∧ slots ≤ R.slots) {q : je} (hck : jck b mx rt fr lo q = true) (hwo : jwo own q) {ls st : List jv} {μ : jm} {a : ja} (ha : jact q ls st μ = some a)
    (hK : jKA (KW p l e R s m args below meth c cells slots Q ε A mx) (fun j as rk ls st μ => (jex as).length ≤ mxT j → j < NJ → (∀ w ∈ as, jok ε w) → ∃ v μ2, jCT l ε j as μ v μ2 ∧ KW p l e R s m args below meth c cells slots Q ε A mx (q.1 + jkn q) ls (v.toList ++ st) μ2) (fun r => ∀ (arr : Array Slot) (H : Heap) (locs : List Loc) (pc : Nat) (i : Instr) (st' : List Value), decode b pc = .ok (i, 1) → jrt i rt st' (r.1.map (jtr ε)) → (∀ w, r.1 = some w → jok ε w) → jinv ε s A H locs r.2 → W p l e R s m args below meth c H locs cells slots Q (F0 m pc arr st')) (q.1 + jkn q) a) : KW p l e R s m args below meth c cells slots Q ε A mx q.1 ls st μ := by
  obtain ⟨pc, mk, i, ns, v, w, sw⟩ := q
  rw [jck, Bool.and_eq_true, Bool.and_eq_true] at hck
  obtain ⟨hd0, hln, h2⟩ := hck
  have hd0 : decode b pc = .ok (i, jkn (pc, mk, i, ns, v, w, sw)) := of_decide_eq_true hd0
  by_cases hT : jisT i = true
  · cases i with
    | tableswitch d0 lo hi o =>
      obtain ⟨x, r, rfl, rfl⟩ := ja_table ha
      obtain ⟨q1, q2, q3, q4, q5, q6⟩ := of_decide_eq_true h2
      exact k_table C hd0 q1 q2 q3 q4 q5 (fun z hz => of_decide_eq_true (List.all_eq_true.mp q6 z hz)) hK
    | _ => cases hT
  have hln : jkn (pc, mk, i, ns, v, w, sw) = jln i := by
    rw [Bool.or_eq_true] at hln
    rcases hln with h | h
    · exact absurd h hT
    · exact of_decide_eq_true h
  have hd := hd0
  rw [hln] at hd hK
  clear hln hd0
  cases i with
  | iconst n =>
    obtain rfl : Sum.inl (none, ls, .inl v :: st, μ) = a := Option.some.inj ha
    exact fun arr H locs hl hs hi => lv_iconst C.1 C.2.1 hd (of_decide_eq_true h2) (hK arr H locs hl (ok_c trivial hs) hi)
  | bipush n =>
    obtain rfl : Sum.inl (none, ls, .inl v :: st, μ) = a := Option.some.inj ha
    exact fun arr H locs hl hs hi => lv_bipush C.1 C.2.1 hd (of_decide_eq_true h2) (hK arr H locs hl (ok_c trivial hs) hi)
  | sipush n =>
    obtain rfl : Sum.inl (none, ls, .inl v :: st, μ) = a := Option.some.inj ha
    exact fun arr H locs hl hs hi => lv_sipush C.1 C.2.1 hd (of_decide_eq_true h2) (hK arr H locs hl (ok_c trivial hs) hi)
  | ldc_w n =>
    obtain rfl : Sum.inl (none, ls, .inl v :: st, μ) = a := Option.some.inj ha
    exact fun arr H locs hl hs hi => lv_ldcw C.1 C.2.1 C.2.2.2.1 (C.2.2.2.2.1 _ hwo) hd (hK arr H locs hl (ok_c trivial hs) hi)
  | ldc n =>
    obtain rfl : Sum.inl (none, ls, .inr (.inr (.inl (98, jtg ns))) :: st, μ) = a := Option.some.inj ha
    exact k_ldc C hwo (of_decide_eq_true h2) hd hK
  | lconst n =>
    obtain rfl : Sum.inl (none, ls, .inr (.inl w) :: st, μ) = a := Option.some.inj ha
    exact fun arr H locs hl hs hi => lv_lconst C.1 C.2.1 hd (of_decide_eq_true h2) (hK arr H locs hl (ok_c trivial hs) hi)
  | ldc2_w n =>
    obtain rfl : Sum.inl (none, ls, .inr (.inl w) :: st, μ) = a := Option.some.inj ha
    exact fun arr H locs hl hs hi => lv_ldc2 C.1 C.2.1 C.2.2.2.1 (C.2.2.2.2.1 _ hwo) hd (hK arr H locs hl (ok_c trivial hs) hi)
  | iload i =>
    obtain ⟨x, hx, rfl⟩ := jld_0 ha
    exact fun arr H locs hl hs hi => lv_iload C.1 C.2.1 hd (k_lget hl hx (by intro z; cases z)).2 (hK arr H locs hl (ok_c trivial hs) hi)
  | iload_n i =>
    obtain ⟨x, hx, rfl⟩ := jld_0 ha
    exact fun arr H locs hl hs hi => lv_iload_n C.1 C.2.1 hd rfl (k_lget hl hx (by intro z; cases z)).2 (hK arr H locs hl (ok_c trivial hs) hi)
  | lload i =>
    obtain ⟨x, hx, rfl⟩ := jld_1 ha
    exact fun arr H locs hl hs hi => lv_lload C.1 C.2.1 hd (k_lget hl hx (by intro z; cases z)).2 (hK arr H locs hl (ok_c trivial hs) hi)
  | lload_n i =>
    obtain ⟨x, hx, rfl⟩ := jld_1 ha
    exact fun arr H locs hl hs hi => lv_lload_n C.1 C.2.1 hd rfl (k_lget hl hx (by intro z; cases z)).2 (hK arr H locs hl (ok_c trivial hs) hi)
  | aload i =>
    obtain ⟨x, hx, rfl⟩ := jld_2 ha
    refine fun arr H locs hl hs hi => ?_
    obtain ⟨g1, g2⟩ := k_lget hl hx (by intro z; cases z)
    have K := hK arr H locs hl (ok_c g1 hs) hi
    obtain ⟨t, k0⟩ := x
    by_cases h94 : t = 94
    · subst h94
      rcases C.2.2.2.2.2.1.2.2.1 with hN | ⟨a0, hN⟩
      · have e1 : jtr ε (.inr (.inr (.inl (94, k0)))) = .null := hN
        rw [e1] at g2
        have K : W p l e R s m args below meth c H locs cells slots Q (F0 m (pc + jln (.aload i)) arr (jtr ε (.inr (.inr (.inl (94, k0)))) :: st.map (jtr ε))) := K
        rw [e1] at K
        exact lv_aloadN C.1 C.2.1 hd g2 K
      · have e1 : jtr ε (.inr (.inr (.inl (94, k0)))) = .ref a0 := hN
        rw [e1] at g2
        have K : W p l e R s m args below meth c H locs cells slots Q (F0 m (pc + jln (.aload i)) arr (jtr ε (.inr (.inr (.inl (94, k0)))) :: st.map (jtr ε))) := K
        rw [e1] at K
        exact lv_aload C.1 C.2.1 hd g2 K
    · obtain ⟨a0, e1⟩ : ∃ a0, jtr ε (.inr (.inr (.inl (t, k0)))) = .ref a0 := by
        rw [jtr, if_neg h94]
        split
        · exact ⟨_, rfl⟩
        · split
          · exact ⟨_, rfl⟩
          · split
            · exact ⟨_, rfl⟩
            · split <;> exact ⟨_, rfl⟩
      rw [e1] at g2
      have K : W p l e R s m args below meth c H locs cells slots Q (F0 m (pc + jln (.aload i)) arr (jtr ε (.inr (.inr (.inl (t, k0)))) :: st.map (jtr ε))) := K
      rw [e1] at K
      exact lv_aload C.1 C.2.1 hd g2 K
  | aload_n i =>
    obtain ⟨x, hx, rfl⟩ := jld_2 ha
    refine fun arr H locs hl hs hi => ?_
    obtain ⟨g1, g2⟩ := k_lget hl hx (by intro z; cases z)
    have K := hK arr H locs hl (ok_c g1 hs) hi
    obtain ⟨t, k0⟩ := x
    by_cases h94 : t = 94
    · subst h94
      rcases C.2.2.2.2.2.1.2.2.1 with hN | ⟨a0, hN⟩
      · have e1 : jtr ε (.inr (.inr (.inl (94, k0)))) = .null := hN
        rw [e1] at g2
        have K : W p l e R s m args below meth c H locs cells slots Q (F0 m (pc + jln (.aload_n i)) arr (jtr ε (.inr (.inr (.inl (94, k0)))) :: st.map (jtr ε))) := K
        rw [e1] at K
        exact lv_aload_nN C.1 C.2.1 hd rfl g2 K
      · have e1 : jtr ε (.inr (.inr (.inl (94, k0)))) = .ref a0 := hN
        rw [e1] at g2
        have K : W p l e R s m args below meth c H locs cells slots Q (F0 m (pc + jln (.aload_n i)) arr (jtr ε (.inr (.inr (.inl (94, k0)))) :: st.map (jtr ε))) := K
        rw [e1] at K
        exact lv_aload_n C.1 C.2.1 hd rfl g2 K
    · obtain ⟨a0, e1⟩ : ∃ a0, jtr ε (.inr (.inr (.inl (t, k0)))) = .ref a0 := by
        rw [jtr, if_neg h94]
        split
        · exact ⟨_, rfl⟩
        · split
          · exact ⟨_, rfl⟩
          · split
            · exact ⟨_, rfl⟩
            · split <;> exact ⟨_, rfl⟩
      rw [e1] at g2
      have K : W p l e R s m args below meth c H locs cells slots Q (F0 m (pc + jln (.aload_n i)) arr (jtr ε (.inr (.inr (.inl (t, k0)))) :: st.map (jtr ε))) := K
      rw [e1] at K
      exact lv_aload_n C.1 C.2.1 hd rfl g2 K
  | istore i =>
    obtain ⟨x, r, rfl, rfl⟩ := jsv_0 ha
    exact k_istore C (of_decide_eq_true h2) hd hK
  | istore_n i =>
    obtain ⟨x, r, rfl, rfl⟩ := jsv_0 ha
    exact k_istore_n C (of_decide_eq_true h2) hd hK
  | lstore i =>
    obtain ⟨x, r, rfl, rfl⟩ := jsv_1 ha
    exact k_lstore C (of_decide_eq_true h2) hd hK
  | lstore_n i =>
    obtain ⟨x, r, rfl, rfl⟩ := jsv_1 ha
    exact k_lstore_n C (of_decide_eq_true h2) hd hK
  | iinc i n =>
    have h2 := of_decide_eq_true h2
    obtain ⟨x, hx, rfl⟩ := ja_iinc ha
    exact k_iinc C h2.1 hx h2.2 hd hK
  | iadd =>
    obtain ⟨x, y, r, rfl, rfl⟩ := jop2_some ha
    exact fun arr H locs hl hs hi => lv_iadd C.1 C.2.1 hd (hK arr H locs hl (ok_c trivial (ok_t (ok_t hs))) hi)
  | isub =>
    obtain ⟨x, y, r, rfl, rfl⟩ := jop2_some ha
    exact fun arr H locs hl hs hi => lv_isub C.1 C.2.1 hd (hK arr H locs hl (ok_c trivial (ok_t (ok_t hs))) hi)
  | imul =>
    obtain ⟨x, y, r, rfl, rfl⟩ := jop2_some ha
    exact fun arr H locs hl hs hi => lv_imul C.1 C.2.1 hd (hK arr H locs hl (ok_c trivial (ok_t (ok_t hs))) hi)
  | iand =>
    obtain ⟨x, y, r, rfl, rfl⟩ := jop2_some ha
    exact fun arr H locs hl hs hi => lv_iand C.1 C.2.1 hd (hK arr H locs hl (ok_c trivial (ok_t (ok_t hs))) hi)
  | ior =>
    obtain ⟨x, y, r, rfl, rfl⟩ := jop2_some ha
    exact fun arr H locs hl hs hi => lv_ior C.1 C.2.1 hd (hK arr H locs hl (ok_c trivial (ok_t (ok_t hs))) hi)
  | ixor =>
    obtain ⟨x, y, r, rfl, rfl⟩ := jop2_some ha
    exact fun arr H locs hl hs hi => lv_ixor C.1 C.2.1 hd (hK arr H locs hl (ok_c trivial (ok_t (ok_t hs))) hi)
  | ishl =>
    obtain ⟨x, y, r, rfl, rfl⟩ := jop2_some ha
    exact fun arr H locs hl hs hi => lv_ishl C.1 C.2.1 hd (hK arr H locs hl (ok_c trivial (ok_t (ok_t hs))) hi)
  | ishr =>
    obtain ⟨x, y, r, rfl, rfl⟩ := jop2_some ha
    exact fun arr H locs hl hs hi => lv_ishr C.1 C.2.1 hd (hK arr H locs hl (ok_c trivial (ok_t (ok_t hs))) hi)
  | iushr =>
    obtain ⟨x, y, r, rfl, rfl⟩ := jop2_some ha
    exact fun arr H locs hl hs hi => lv_iushr C.1 C.2.1 hd rfl (hK arr H locs hl (ok_c trivial (ok_t (ok_t hs))) hi)
  | idiv =>
    obtain ⟨x, y, r, rfl, rfl⟩ := jop2g_some ha
    exact fun arr H locs hl hs hi => lv_idiv C.1 C.2.1 hd (of_decide_eq_true hK.1) (hK.2 arr H locs hl (ok_c trivial (ok_t (ok_t hs))) hi)
  | irem =>
    obtain ⟨x, y, r, rfl, rfl⟩ := jop2g_some ha
    exact fun arr H locs hl hs hi => lv_irem C.1 C.2.1 hd (of_decide_eq_true hK.1) (hK.2 arr H locs hl (ok_c trivial (ok_t (ok_t hs))) hi)
  | ineg =>
    obtain ⟨x, r, rfl, rfl⟩ := jop1_some ha
    exact fun arr H locs hl hs hi => lv_ineg C.1 C.2.1 hd (hK arr H locs hl (ok_c trivial (ok_t hs)) hi)
  | i2b =>
    obtain ⟨x, r, rfl, rfl⟩ := jop1_some ha
    exact fun arr H locs hl hs hi => lv_i2b C.1 C.2.1 hd rfl (hK arr H locs hl (ok_c trivial (ok_t hs)) hi)
  | i2c =>
    obtain ⟨x, r, rfl, rfl⟩ := jop1_some ha
    exact fun arr H locs hl hs hi => lv_i2c C.1 C.2.1 hd rfl (hK arr H locs hl (ok_c trivial (ok_t hs)) hi)
  | ladd =>
    obtain ⟨x, y, r, rfl, rfl⟩ := jlp2_some ha
    exact fun arr H locs hl hs hi => lv_ladd C.1 C.2.1 hd (hK arr H locs hl (ok_c trivial (ok_t (ok_t hs))) hi)
  | lsub =>
    obtain ⟨x, y, r, rfl, rfl⟩ := jlp2_some ha
    exact fun arr H locs hl hs hi => lv_lsub C.1 C.2.1 hd (hK arr H locs hl (ok_c trivial (ok_t (ok_t hs))) hi)
  | lmul =>
    obtain ⟨x, y, r, rfl, rfl⟩ := jlp2_some ha
    exact fun arr H locs hl hs hi => lv_lmul C.1 C.2.1 hd (hK arr H locs hl (ok_c trivial (ok_t (ok_t hs))) hi)
  | land =>
    obtain ⟨x, y, r, rfl, rfl⟩ := jlp2_some ha
    exact fun arr H locs hl hs hi => lv_land C.1 C.2.1 hd (hK arr H locs hl (ok_c trivial (ok_t (ok_t hs))) hi)
  | lor =>
    obtain ⟨x, y, r, rfl, rfl⟩ := jlp2_some ha
    exact fun arr H locs hl hs hi => lv_lor C.1 C.2.1 hd (hK arr H locs hl (ok_c trivial (ok_t (ok_t hs))) hi)
  | ldiv =>
    obtain ⟨x, y, r, rfl, rfl⟩ := jlp2g_some ha
    exact fun arr H locs hl hs hi => lv_ldiv C.1 C.2.1 hd (of_decide_eq_true hK.1) (hK.2 arr H locs hl (ok_c trivial (ok_t (ok_t hs))) hi)
  | lrem =>
    obtain ⟨x, y, r, rfl, rfl⟩ := jlp2g_some ha
    exact fun arr H locs hl hs hi => lv_lrem C.1 C.2.1 hd (of_decide_eq_true hK.1) (hK.2 arr H locs hl (ok_c trivial (ok_t (ok_t hs))) hi)
  | lshl =>
    obtain ⟨x, y, r, rfl, rfl⟩ := jlsh_some ha
    exact fun arr H locs hl hs hi => lv_lshl C.1 C.2.1 hd rfl (hK arr H locs hl (ok_c trivial (ok_t (ok_t hs))) hi)
  | lshr =>
    obtain ⟨x, y, r, rfl, rfl⟩ := jlsh_some ha
    exact fun arr H locs hl hs hi => lv_lshr C.1 C.2.1 hd rfl (hK arr H locs hl (ok_c trivial (ok_t (ok_t hs))) hi)
  | i2l =>
    obtain ⟨x, r, rfl, rfl⟩ := ja_i2l ha
    exact fun arr H locs hl hs hi => lv_i2l C.1 C.2.1 hd rfl (hK arr H locs hl (ok_c trivial (ok_t hs)) hi)
  | l2i =>
    obtain ⟨x, r, rfl, rfl⟩ := ja_l2i ha
    exact fun arr H locs hl hs hi => lv_l2i C.1 C.2.1 hd rfl (hK arr H locs hl (ok_c trivial (ok_t hs)) hi)
  | lcmp =>
    obtain ⟨x, y, r, rfl, rfl⟩ := ja_lcmp ha
    exact fun arr H locs hl hs hi => W.lcmp C.1 C.2.1 hd (hK arr H locs hl (ok_c trivial (ok_t (ok_t hs))) hi)
  | dup =>
    rcases ja_dup ha with ⟨x, r, rfl, rfl⟩ | ⟨x, r, rfl, rfl⟩
    · exact fun arr H locs hl hs hi => lv_dup C.1 C.2.1 hd rfl (hK arr H locs hl (ok_c trivial hs) hi)
    · exact fun arr H locs hl hs hi => lv_dup C.1 C.2.1 hd (jcat C.2.2.2.2.2.1.2.2.1) (hK arr H locs hl (ok_c (ok_h hs) hs) hi)
  | dup2 =>
    obtain ⟨x, y, r, rfl, rfl⟩ := ja_dup2 ha
    exact fun arr H locs hl hs hi => lv_dup2_11 C.1 C.2.1 hd rfl (jcat C.2.2.2.2.2.1.2.2.1) (hK arr H locs hl (ok_c trivial (ok_c (ok_h (ok_t hs)) hs)) hi)
  | pop =>
    obtain ⟨x, r, rfl, rfl⟩ := ja_pop ha
    exact fun arr H locs hl hs hi => lv_pop C.1 C.2.1 hd rfl (hK arr H locs hl (ok_t hs) hi)
  | goto o =>
    obtain rfl : Sum.inr (Sum.inl (none, jtg ns, ls, st, μ)) = a := Option.some.inj ha
    exact fun arr H locs hl hs hi => lv_goto C.1 C.2.1 hd (of_decide_eq_true h2) (hK arr H locs hl hs hi)
  | ifCond cd o =>
    have h2 := of_decide_eq_true h2
    cases cd with
    | eq =>
      obtain ⟨x, r, rfl, rfl⟩ := jif_some ha
      exact fun arr H locs hl hs hi => lv_if_eq C.1 C.2.1 hd h2 (fun hc => hK.1 (decide_eq_true hc) arr H locs hl (ok_t hs) hi) (fun hc => hK.2 (decide_eq_false hc) arr H locs hl (ok_t hs) hi)
    | ne =>
      obtain ⟨x, r, rfl, rfl⟩ := jif_some ha
      exact fun arr H locs hl hs hi => lv_if_ne C.1 C.2.1 hd h2 (fun hc => hK.1 (decide_eq_true hc) arr H locs hl (ok_t hs) hi) (fun hc => hK.2 (decide_eq_false (fun z => z hc)) arr H locs hl (ok_t hs) hi)
    | lt =>
      obtain ⟨x, r, rfl, rfl⟩ := jif_some ha
      exact fun arr H locs hl hs hi => lv_if_lt C.1 C.2.1 hd h2 (fun hc => hK.1 (decide_eq_true hc) arr H locs hl (ok_t hs) hi) (fun hc => hK.2 (decide_eq_false hc) arr H locs hl (ok_t hs) hi)
    | ge =>
      obtain ⟨x, r, rfl, rfl⟩ := jif_some ha
      exact fun arr H locs hl hs hi => lv_if_ge C.1 C.2.1 hd h2 (fun hc => hK.1 (decide_eq_true hc) arr H locs hl (ok_t hs) hi) (fun hc => hK.2 (decide_eq_false hc) arr H locs hl (ok_t hs) hi)
    | gt =>
      obtain ⟨x, r, rfl, rfl⟩ := jif_some ha
      exact fun arr H locs hl hs hi => lv_if_gt C.1 C.2.1 hd h2 (fun hc => hK.1 (decide_eq_true hc) arr H locs hl (ok_t hs) hi) (fun hc => hK.2 (decide_eq_false hc) arr H locs hl (ok_t hs) hi)
    | le =>
      obtain ⟨x, r, rfl, rfl⟩ := jif_some ha
      exact fun arr H locs hl hs hi => lv_if_le C.1 C.2.1 hd h2 (fun hc => hK.1 (decide_eq_true hc) arr H locs hl (ok_t hs) hi) (fun hc => hK.2 (decide_eq_false hc) arr H locs hl (ok_t hs) hi)
  | if_icmp cd o =>
    have h2 := of_decide_eq_true h2
    cases cd with
    | eq =>
      obtain ⟨x, y, r, rfl, rfl⟩ := jif2_some ha
      exact fun arr H locs hl hs hi => lv_icmp_eq C.1 C.2.1 hd h2 (fun hc => hK.1 (decide_eq_true hc) arr H locs hl (ok_t (ok_t hs)) hi) (fun hc => hK.2 (decide_eq_false hc) arr H locs hl (ok_t (ok_t hs)) hi)
    | ne =>
      obtain ⟨x, y, r, rfl, rfl⟩ := jif2_some ha
      exact fun arr H locs hl hs hi => lv_icmp_ne C.1 C.2.1 hd h2 (fun hc => hK.1 (decide_eq_true hc) arr H locs hl (ok_t (ok_t hs)) hi) (fun hc => hK.2 (decide_eq_false (fun z => z hc)) arr H locs hl (ok_t (ok_t hs)) hi)
    | lt =>
      obtain ⟨x, y, r, rfl, rfl⟩ := jif2_some ha
      exact fun arr H locs hl hs hi => lv_icmp_lt C.1 C.2.1 hd h2 (fun hc => hK.1 (decide_eq_true hc) arr H locs hl (ok_t (ok_t hs)) hi) (fun hc => hK.2 (decide_eq_false hc) arr H locs hl (ok_t (ok_t hs)) hi)
    | ge =>
      obtain ⟨x, y, r, rfl, rfl⟩ := jif2_some ha
      exact fun arr H locs hl hs hi => lv_icmp_ge C.1 C.2.1 hd h2 (fun hc => hK.1 (decide_eq_true hc) arr H locs hl (ok_t (ok_t hs)) hi) (fun hc => hK.2 (decide_eq_false hc) arr H locs hl (ok_t (ok_t hs)) hi)
    | gt =>
      obtain ⟨x, y, r, rfl, rfl⟩ := jif2_some ha
      exact fun arr H locs hl hs hi => lv_icmp_gt C.1 C.2.1 hd h2 (fun hc => hK.1 (decide_eq_true hc) arr H locs hl (ok_t (ok_t hs)) hi) (fun hc => hK.2 (decide_eq_false hc) arr H locs hl (ok_t (ok_t hs)) hi)
    | le =>
      obtain ⟨x, y, r, rfl, rfl⟩ := jif2_some ha
      exact fun arr H locs hl hs hi => lv_icmp_le C.1 C.2.1 hd h2 (fun hc => hK.1 (decide_eq_true hc) arr H locs hl (ok_t (ok_t hs)) hi) (fun hc => hK.2 (decide_eq_false hc) arr H locs hl (ok_t (ok_t hs)) hi)
  | getfield i =>
    obtain ⟨z, ci, sl, kd, tg, of, k0, r, w', rfl, rfl, rfl, hw'⟩ := jgf_some ha
    by_cases h98 : ci = 98
    · subst h98
      have h2 := of_decide_eq_true (show decide ((kd = 3 ∧ tg = 95) ∨ (kd = 4 ∧ v = 0)) = true from h2)
      rcases h2 with ⟨rfl, rfl⟩ | ⟨rfl, rfl⟩
      · rcases hw' with ⟨hh, -⟩ | ⟨hh, -⟩ | ⟨hh, -⟩ | ⟨-, rfl⟩ | ⟨hh, -⟩
        · omega
        · omega
        · omega
        · exact k_wval C hwo hd hK
        · omega
      · rcases hw' with ⟨hh, -⟩ | ⟨hh, -⟩ | ⟨hh, -⟩ | ⟨hh, -⟩ | ⟨-, rfl⟩
        · omega
        · omega
        · omega
        · omega
        · exact k_wcod C hwo hd hK
    · have h2 : decide (ci < 11 ∧ kd < 3 ∧ (fdl ci)[sl]? = some (kd, tg, of)) = true := by
        have h2 : (if ci = 98 then decide ((kd = 3 ∧ tg = 95) ∨ (kd = 4 ∧ v = 0)) else decide (ci < 11 ∧ kd < 3 ∧ (fdl ci)[sl]? = some (kd, tg, of))) = true := h2
        rw [if_neg h98] at h2
        exact h2
      obtain ⟨q1, q2, q3⟩ := of_decide_eq_true h2
      have hwf : jwf own i ci sl := jwo_get h98 hwo
      refine k_get C q1 q3 hwf ?_ hd hK
      rcases hw' with hh | hh | hh | ⟨hh, -⟩ | ⟨hh, -⟩
      · exact Or.inl hh
      · exact Or.inr (Or.inl hh)
      · exact Or.inr (Or.inr hh)
      · omega
      · omega
  | putfield i =>
    obtain ⟨z, ci, sl, k0, r, ⟨x, rfl, rfl, rfl⟩ | ⟨x, rfl, rfl, rfl⟩⟩ := jpf_some ha
    · obtain ⟨q1, q2, q3⟩ := of_decide_eq_true (show decide (ci < 11 ∧ 0 < 2 ∧ (fdl ci)[sl]? = some (0, 0, 0)) = true from h2)
      exact k_putI C q1 q3 hwo hd hK
    · obtain ⟨q1, q2, q3⟩ := of_decide_eq_true (show decide (ci < 11 ∧ 1 < 2 ∧ (fdl ci)[sl]? = some (1, 0, 0)) = true from h2)
      exact k_putL C q1 q3 hwo hd hK
  | getstatic i =>
    obtain ⟨z, ⟨rfl, rfl⟩ | ⟨rfl, rfl⟩ | ⟨rfl, rfl⟩⟩ := ja_gs ha
    · have e1 : v = 1 := of_decide_eq_true h2
      subst e1
      exact k_gs0 C hwo hd hK
    · exact k_gs1 C hwo hd hK
    · exact k_gs2 C hwo hd hK
  | iaload =>
    obtain ⟨x, t, k0, r, rfl, ⟨rfl, rfl⟩ | ⟨rfl, rfl⟩ | ⟨ht, rfl⟩⟩ := jiald_some ha
    · exact k_scr C hK.1 hd hK.2
    · exact k_num C hK.1 hd hK.2
    · exact k_iald C ht hK.1 hd hK.2
  | baload =>
    obtain ⟨x, t, k0, r, rfl, ⟨rfl, rfl⟩ | ⟨ht, rfl⟩ | ⟨ht, rfl⟩⟩ := jbald_some ha
    · exact k_wbyt C hK.1 hd hK.2
    · exact k_bald C ht hK.1 hd hK.2
    · exact k_zald C ht hK.1 hd hK.2
  | laload =>
    obtain ⟨x, t, k0, r, rfl, ht, rfl⟩ := jlald_some ha
    exact k_lald C ht hK.1 hd hK.2
  | aaload =>
    obtain ⟨x, k0, r, rfl, rfl⟩ := jaald_some ha
    exact k_aald C hK.1 hd hK.2
  | arraylength =>
    obtain ⟨t, k0, r, x, rfl, rfl, ⟨rfl, rfl⟩ | ⟨rfl, rfl⟩ | hh | hh⟩ := jalen_some ha
    · exact k_slen C hd hK
    · exact k_wlen C hd hK
    · exact k_alen C (Or.inl hh) hd hK
    · exact k_alen C (Or.inr hh) hd hK
  | iastore =>
    obtain ⟨x, y, t, k0, r, rfl, ht, rfl⟩ := jiast_some ha
    exact k_iast C ht hK.1 hd hK.2
  | bastore =>
    obtain ⟨x, y, t, k0, r, rfl, ⟨ht, rfl⟩ | ⟨ht, rfl⟩⟩ := jbast_some ha
    · exact k_bast C ht hK.1 hd hK.2
    · exact k_zast C ht hK.1 hd hK.2
  | lastore =>
    obtain ⟨x, y, t, k0, r, rfl, ht, rfl⟩ := jlast_some ha
    exact k_last C ht hK.1 hd hK.2
  | tableswitch d0 lo hi o => exact absurd rfl hT
  | invokevirtual i =>
    rcases ja_inv ha with ⟨z, j, n, rk, m2, tg, rfl, ha⟩ | ⟨z, y, rfl, ha⟩ | ⟨z, y, x, rfl, ha⟩
    · obtain ⟨q1, q2, q3, q4, q5⟩ := jcal_some ha
      subst q5
      obtain ⟨d1, d2, d3, d4, d5, d6, d7⟩ := of_decide_eq_true (show decide (j < NJ ∧ m2 = mxT j ∧ FT.getD j 0 + 1 ≤ fr ∧ 8 + (mxT j + 11) + LT.getD j 0 ≤ lo ∧ n = NT.getD j 0 + 1 ∧ tg = GT.getD j 0 ∧ tg ≠ 200) = true from h2)
      intro arr H locs hl hs hi
      obtain ⟨v', μ2, hM, hK2⟩ := hK (by omega) d1 (fun w hw => hs w (List.mem_of_mem_take (List.mem_reverse.mp hw)))
      have hwo : Cond.methodLink own i (yT j) ∈ ws0 ∨ ∃ h, Cond.methodLinkNest own i (yT j) h ∈ nws := hwo
      have hwo2 : Cond.methodLink own i (yT j) ∈ ws0 := by
        rcases hwo with h | ⟨h, hh⟩
        · exact h
        · exact absurd (hnv i j h d1 hh) (fun e => d7 (d6.trans e))
      have hrv : ∃ k0 as, (st.take n).reverse = .inr (.inr (.inl (tg, k0))) :: as := by
        unfold jrv at q4
        rw [Bool.or_eq_true] at q4
        rcases q4 with h | h
        · exact absurd (Nat.eq_of_beq_eq_true h) d7
        · split at h
          · rename_i t k0 as he
            have e1 : t = tg := Nat.eq_of_beq_eq_true h
            subst e1
            exact ⟨k0, as, he⟩
          · cases h
      obtain ⟨k0, as, has⟩ := hrv
      exact k_callV C (hmo j d1) hwo2 (fun e => d7 (d6.trans e)) d6 d5 ⟨Nat.le_trans d3 hR.1, Nat.le_trans d4 hR.2⟩ hcs q1 q2 has hd hM hK2 arr H locs hl hs hi
    · exact jb_f h2
    · exact jb_f h2
  | invokestatic i =>
    rcases ja_inv ha with ⟨z, j, n, rk, m2, tg, rfl, ha⟩ | ⟨z, y, rfl, ha⟩ | ⟨z, y, x, rfl, ha⟩
    · obtain ⟨q1, q2, q3, q4, q5⟩ := jcal_some ha
      subst q5
      obtain ⟨d1, d2, d3, d4, d5, d6, d7⟩ := of_decide_eq_true (show decide (j < NJ ∧ m2 = mxT j ∧ FT.getD j 0 + 1 ≤ fr ∧ 8 + (mxT j + 11) + LT.getD j 0 ≤ lo ∧ n = NT.getD j 0 ∧ tg = GT.getD j 0 ∧ tg = 200) = true from h2)
      intro arr H locs hl hs hi
      obtain ⟨v', μ2, hM, hK2⟩ := hK (by omega) d1 (fun w hw => hs w (List.mem_of_mem_take (List.mem_reverse.mp hw)))
      exact k_callS C (hmo j d1) hwo (d6.symm.trans d7) d5 ⟨Nat.le_trans d3 hR.1, Nat.le_trans d4 hR.2⟩ hcs q1 q2 hd hM hK2 arr H locs hl hs hi
    · obtain ⟨n, dp, t1, k1, sp, t0, k0, r, rfl, e1, e2, e3, rfl⟩ := jcpy_some ha
      obtain ⟨d1, d2⟩ := of_decide_eq_true h2
      exact k_cpy C hwo ⟨Nat.le_trans d1 hR.1, Nat.le_trans d2 hR.2⟩ e1 e2 e3 hK.1 hd hK.2
    · obtain ⟨x, y, r, rfl, e3, rfl⟩ := jmin_some ha
      obtain ⟨d1, d2⟩ := of_decide_eq_true h2
      exact k_min C hwo ⟨Nat.le_trans d1 hR.1, Nat.le_trans d2 hR.2⟩ hcs e3 hd hK
  | ireturn =>
    obtain ⟨z, x, rfl, ⟨rfl, rfl⟩ | ⟨rfl, rfl⟩ | ⟨rfl, rfl⟩ | ⟨rfl, rfl⟩⟩ := ja_iret ha
    · exact fun arr H locs hl hs hi => hK arr H locs pc .ireturn _ hd (Or.inl ⟨rfl, x, .int, jr_0 h2, Or.inl rfl, rfl, rfl⟩) (fun w hw => by cases hw; trivial) hi
    · exact fun arr H locs hl hs hi => hK arr H locs pc .ireturn _ hd (Or.inl ⟨rfl, x, .boolean, jr_1 h2, Or.inr (Or.inl rfl), rfl, rfl⟩) (fun w hw => by cases hw; trivial) hi
    · exact fun arr H locs hl hs hi => hK arr H locs pc .ireturn _ hd (Or.inl ⟨rfl, x, .byte, jr_2 h2, Or.inr (Or.inr (Or.inl rfl)), rfl, rfl⟩) (fun w hw => by cases hw; trivial) hi
    · exact fun arr H locs hl hs hi => hK arr H locs pc .ireturn _ hd (Or.inl ⟨rfl, x, .char, jr_3 h2, Or.inr (Or.inr (Or.inr rfl)), rfl, congrArg (fun y => some (Value.int y)) (jchar x)⟩) (fun w hw => by cases hw; trivial) hi
  | lreturn =>
    obtain ⟨x, rfl, rfl⟩ := ja_lret ha
    exact fun arr H locs hl hs hi => hK arr H locs pc .lreturn _ hd (Or.inr (Or.inl ⟨rfl, x, of_decide_eq_true h2, rfl, rfl⟩)) (fun w hw => by cases hw; trivial) hi
  | areturn =>
    obtain ⟨x, rfl, rfl⟩ := ja_aret ha
    exact fun arr H locs hl hs hi => hK arr H locs pc .areturn _ hd (Or.inr (Or.inr (Or.inl ⟨rfl, jtr ε (.inr (.inr (.inl x))), of_decide_eq_true h2, jtr_ref C.2.2.2.2.2.1.2.2.1, rfl, rfl⟩))) (fun w hw => by cases hw; exact ok_h hs) hi
  | return_ =>
    obtain ⟨rfl, rfl⟩ := ja_vret ha
    exact fun arr H locs hl hs hi => hK arr H locs pc .return_ _ hd (Or.inr (Or.inr (Or.inr ⟨rfl, of_decide_eq_true h2, rfl, rfl⟩))) (fun w hw => by cases hw) hi
  | _ => exact absurd ha (by intro z; cases z)
end SND6
end
section
/-! ALL STEPS, and a method's contract -/
theorem jfd_mem {pc : Nat} {q : je} : ∀ {F : List je}, jfd pc F = some q → q ∈ F ∧ q.1 = pc
  | [], h => by cases h
  | x :: F, h => by
    unfold jfd at h
    split at h
    · rename_i hb
      cases h
      exact ⟨List.mem_cons_self, Nat.eq_of_beq_eq_true hb⟩
    · obtain ⟨h1, h2⟩ := jfd_mem h
      exact ⟨List.mem_cons_of_mem _ h1, h2⟩
/-- soundness of runs of n steps -/
def jP (l : Launch) (n : Nat) : Prop := ∀ (p : Program) (e : Env) (R : Room) (s : State) (m : MethodId) (args : Array Value) (below : List Frame) (meth : Method) (c : Code) (cells slots : Nat) (Q : State → Prop) (ε : jenv) (A : Nat → Prop) (mx : Nat) (own : String) (b : ByteArray) (rt : Option FieldType) (fr lo j pc : Nat) (ls st : List jv) (μ : jm) (r : jr),
  jctx p s m args c ε A own b mx → fr ≤ R.frames ∧ lo ≤ R.locals → cells ≤ R.cells ∧ slots ≤ R.slots → (∀ q ∈ pfT j, jck b mx rt fr lo q = true ∧ jwo own q) → jexe n j pc ls st μ = some r →
  (∀ (arr : Array Slot) (H : Heap) (locs : List Loc) (pc : Nat) (i : Instr) (st' : List Value), decode b pc = .ok (i, 1) → jrt i rt st' (r.1.map (jtr ε)) → (∀ w, r.1 = some w → jok ε w) → jinv ε s A H locs r.2 → W p l e R s m args below meth c H locs cells slots Q (F0 m pc arr st')) →
  KW p l e R s m args below meth c cells slots Q ε A mx pc ls st μ
/-- the end of a method by contract -/
theorem j_end {p : Program} {l : Launch} {e : Env} {R : Room} {s : State} {m : MethodId} {args : Array Value} {below : List Frame} {meth : Method} {c : Code} {H : Heap} {locs : List Loc} {Qc : Array Value → State → Outcome → State → Prop} {free : Addr → Prop} {b : ByteArray} {rt : Option FieldType} {pc : Nat} {arr : Array Slot} {i : Instr} {st : List Value} {rv : Option Value} (hx : p.tables.exec = Jvm.exec) (hb : c.code = b) (hr : meth.sig.returnType = rt) (hlocks : meth.locks = false) (hd : decode b pc = .ok (i, 1)) (h : jrt i rt st rv)
    (hq : ∀ t : State, t.heap = H → s.WarmedH t.vm → Qc args s (.returned rv) t) (hf : ∀ q ∈ locs, free q.base) : W p l e R s m args below meth c H locs 0 0 (MQ below Qc args s 0 0 free) (F0 m pc arr st) := by
  rcases h with ⟨rfl, x, ty, rfl, hty, rfl, rfl⟩ | ⟨rfl, x, rfl, rfl, rfl⟩ | ⟨rfl, w, rfl, hw, rfl, rfl⟩ | ⟨rfl, rfl, rfl, rfl⟩
  · obtain ⟨v, hv⟩ : ∃ v, narrow ty (.int x) = v := ⟨_, rfl⟩
    rw [hv] at hq
    intro T hT X
    obtain ⟨fs, hret, hrun, hended, hW, hframe⟩ := X.leave (v := some v) (hlocks := hlocks) (fun h => by rw [hr] at h; cases h)
    have hmeth' : T.vm.method? m = some meth := X.method'
    refine ⟨T.setFrames fs, ?_, .returned (some v), hrun, hended, hq _ hT hW, locs, ⟨⟨_, rfl⟩, hW, hframe⟩, hf⟩
    jvm_step X.here [X.here.top, hx, hb, hd, hmeth', hr, hv]
    (try refine ⟨rfl, ?_⟩); (try refine ⟨rfl, ?_⟩)
    first | (intro acts; rw [hret _ acts rfl rfl rfl]) | rw [hret _ _ rfl rfl rfl]
    exact Steps.refl _
  · exact W.lret hx hb hr hq hf hd hlocks
  · exact W.aret hx hb hr (Or.inl ⟨_, rfl⟩) hw hq hf hd hlocks
  · exact W.vret hx hb hr hq hf hd hlocks
/-- the locals at a method's entry -/
theorem jargs1 {ε : jenv} (hF : eF ε = .null ∨ ∃ a, eF ε = .ref a) {v : jv} (h : jwd v = 1) (o : Nat) (r : List Value) : lv_args o (jtr ε v :: r) = (o, jtr ε v) :: lv_args (o + 1) r := by
  rw [lv_args, jcat hF, h]
  rfl
theorem jargs2 {ε : jenv} {x : Int64} (o : Nat) (r : List Value) : lv_args o (jtr ε (.inr (.inl x)) :: r) = (o, jtr ε (.inr (.inl x))) :: lv_args (o + 2) r := rfl
theorem jex_1 {v : jv} (h : jwd v = 1) (r : List jv) : jex (v :: r) = v :: jex r := by
  match v, h with
  | .inl x, _ => rfl
  | .inr (.inr x), _ => rfl
theorem jex_arg {ε : jenv} (hF : eF ε = .null ∨ ∃ a, eF ε = .ref a) : ∀ (as : List jv) (o i : Nat) (v : jv), (jex as)[i]? = some v → v = jU ∨ (v ∈ as ∧ (o + i, jtr ε v) ∈ lv_args o (as.map (jtr ε)))
  | [], o, i, v, h => by simp [jex] at h
  | a :: r, o, i, v, h => by
    by_cases ha : jwd a = 1
    · rw [jex_1 ha] at h
      rw [List.map_cons, jargs1 hF ha]
      cases i with
      | zero =>
        have e := Option.some.inj (show some a = some v from h)
        subst e
        exact Or.inr ⟨List.mem_cons_self, List.mem_cons_self⟩
      | succ i =>
        rcases jex_arg hF r (o + 1) i v h with h | ⟨h1, h2⟩
        · exact Or.inl h
        · have e : o + (i + 1) = o + 1 + i := by omega
          rw [e]
          exact Or.inr ⟨List.mem_cons_of_mem _ h1, List.mem_cons_of_mem _ h2⟩
    · obtain ⟨x, rfl⟩ : ∃ x, a = .inr (.inl x) := by
        match a, ha with
        | .inl x, ha => exact absurd rfl ha
        | .inr (.inl x), _ => exact ⟨x, rfl⟩
        | .inr (.inr x), ha => exact absurd rfl ha
      rw [List.map_cons, jargs2]
      match i, h with
      | 0, h =>
        have e := Option.some.inj (show some (.inr (.inl x)) = some v from h)
        subst e
        exact Or.inr ⟨List.mem_cons_self, List.mem_cons_self⟩
      | 1, h => exact Or.inl (Option.some.inj (show some jU = some v from h)).symm
      | i + 2, h =>
        rcases jex_arg hF r (o + 2) i v h with h | ⟨h1, h2⟩
        · exact Or.inl h
        · have e : o + (i + 2) = o + 2 + i := by omega
          rw [e]
          exact Or.inr ⟨List.mem_cons_of_mem _ h1, List.mem_cons_of_mem _ h2⟩
theorem jsl_len {ε : jenv} (hF : eF ε = .null ∨ ∃ a, eF ε = .ref a) : ∀ as : List jv, (lg_sl (as.map (jtr ε))).length = (jex as).length
  | [] => rfl
  | a :: r => by
    have ih := jsl_len hF r
    by_cases ha : jwd a = 1
    · rw [jex_1 ha]
      have e : lg_sl ((a :: r).map (jtr ε)) = [.val (jtr ε a)] ++ lg_sl (r.map (jtr ε)) := by
        simp only [lg_sl, List.map_cons, List.flatMap_cons, jcat hF, ha]
        rfl
      rw [e]
      simp [ih]
    · obtain ⟨x, rfl⟩ : ∃ x, a = .inr (.inl x) := by
        match a, ha with
        | .inl x, ha => exact absurd rfl ha
        | .inr (.inl x), _ => exact ⟨x, rfl⟩
        | .inr (.inr x), ha => exact absurd rfl ha
      have e : lg_sl ((.inr (.inl x) :: r).map (jtr ε)) = [.val (.long x), .second] ++ lg_sl (r.map (jtr ε)) := rfl
      have e2 : jex (.inr (.inl x) :: r) = .inr (.inl x) :: jU :: jex r := rfl
      rw [e, e2]
      simp [ih]
theorem jlv_entry {ε : jenv} (hF : eF ε = .null ∨ ∃ a, eF ε = .ref a) {as : List jv} {n : Nat} (hn : (jex as).length ≤ n) (hok : ∀ w ∈ as, jok ε w) : jlv ε (lg_sl (as.map (jtr ε)) ++ List.replicate (n - (lg_sl (as.map (jtr ε))).length) Slot.unset).toArray n (jen n as) := by
  have h := lv_entry (as.map (jtr ε)) (n := n) (by rw [jsl_len hF]; exact hn)
  refine ⟨h.1, h.2.1, ?_, fun i v hv => ?_⟩
  · simp [jen]; omega
  · rw [jen] at hv
    rcases Nat.lt_or_ge i (jex as).length with hi | hi
    · rw [List.getElem?_append_left hi] at hv
      rcases jex_arg hF as 0 i v hv with e | ⟨e1, e2⟩
      · exact Or.inl e
      · rw [Nat.zero_add] at e2
        exact Or.inr ⟨hok v e1, h.2.2 _ e2⟩
    · rw [List.getElem?_append_right hi] at hv
      exact Or.inl (List.eq_of_mem_replicate (List.mem_of_getElem? hv))
/-- a method's contract out of the soundness of its runs -/
theorem jmet {l : Launch} {n : Nat} (hP : jP l n) (hfa : ∀ j, j < NJ → jfa j) {ε : jenv} {j : Nat} (hj : j < NJ) {as : List jv} (hok : ∀ w ∈ as, jok ε w) (hn : (jex as).length ≤ mxT j) {μ : jm} {v : Option jv} {μ2 : jm} (h : jexe n j 0 (jen (mxT j) as) [] μ = some (v, μ2)) : jCT l ε j as μ v μ2 := by
  intro sz
  obtain ⟨hmo, hq⟩ := hfa j hj
  refine Met.ofW (cc := bT j) (maxL := mxT j) (ret := rT j) hmo.2.2.2.2.1 rfl ?_
  intro p e s m args below meth c s₁ B hml hv
  obtain ⟨rfl, hsz, hsf, hPc, hD0, hscr⟩ := hv
  have hF := hsf.2.2.1
  have hts := atoms_spec (ws := wsT j) B.pre
  subst hsz
  have hD := hD0.self (sz := s.heap.size)
  have hA : ∀ q : Nat, s.heap.size ≤ q → va_A (jpic ε μ) s.heap.size q := fun q h => Or.inr h
  have C : jctx p s m (as.map (jtr ε)).toArray c ε (va_A (jpic ε μ) s.heap.size) (yT j).cls (bT j) (mxT j) := ⟨B.exec, B.bytes, hml, findClass_of_methodNamed B.named, fun w hw => hts w (List.mem_cons_of_mem _ hw), hsf, hA⟩
  have K := hP p e (headSpec (wsT j) (rmT j)).room s m (as.map (jtr ε)).toArray below meth c 0 0 (MQ below (jQc ε μ s.heap.size v μ2) (as.map (jtr ε)).toArray s 0 0 (va_A (jpic ε μ) s.heap.size)) ε (va_A (jpic ε μ) s.heap.size) (mxT j) (yT j).cls (bT j) (rT j) (FT.getD j 0) (LT.getD j 0) j 0 (jen (mxT j) as) [] μ (v, μ2) C ⟨Nat.le_refl _, Nat.le_refl _⟩ ⟨Nat.le_refl _, Nat.le_refl _⟩ hq h (fun arr H locs pc i st' hd hrt hw hi => j_end B.exec B.bytes B.returns B.notSynchronized hd hrt (fun t ht hW => ⟨rfl, ⟨by rw [ht]; exact hi.1, hw, hi.2.2.2⟩, hi.2.2.1.F ht⟩) hi.2.2.1.2.2)
  rw [lg_entry_eq]
  exact K _ s.heap [] (jlv_entry hF hn hok) (fun _ h => by cases h) ⟨hPc, hD, va_S.rf, hscr⟩
theorem jgd_some {g : Bool} {x : Option jr} {r : jr} (h : jgd g x = some r) : g = true ∧ x = some r := by
  cases g with
  | true => exact ⟨rfl, h⟩
  | false => cases h
theorem jP_all (l : Launch) (hfa : ∀ j, j < NJ → jfa j) : ∀ n, jP l n
  | 0 => fun p e R s m args below meth c cells slots Q ε A mx own b rt fr lo j pc ls st μ r C hR hcs hq h hfin => by
    simp [jexe] at h
  | n + 1 => fun p e R s m args below meth c cells slots Q ε A mx own b rt fr lo j pc ls st μ r C hR hcs hq h hfin => by
    have ih := jP_all l hfa n
    rw [jexe_succ] at h
    unfold jstep at h
    cases hf : jfd pc (pfT j) with
    | none => rw [hf] at h; cases h
    | some q =>
      rw [hf] at h
      obtain ⟨hm, hpc⟩ := jfd_mem hf
      obtain ⟨hck, hwo⟩ := hq q hm
      subst hpc
      have h : jgo (fun j2 as μ => jexe n j2 0 (jen (mxT j2) as) [] μ) (jexe n j) (q.1 + jkn q) (jact q (jcl q.2.1 ls) st μ) = some r := h
      have next : ∀ (pc' : Nat) (ls' st' : List jv) (μ' : jm), jexe n j pc' ls' st' μ' = some r → KW p l e R s m args below meth c cells slots Q ε A mx pc' ls' st' μ' := fun pc' ls' st' μ' h' => ih p e R s m args below meth c cells slots Q ε A mx own b rt fr lo j pc' ls' st' μ' r C hR hcs hq h' hfin
      refine k_clear q.2.1 ?_
      cases ha : jact q (jcl q.2.1 ls) st μ with
      | none => rw [ha] at h; cases h
      | some a =>
        rw [ha] at h
        refine jone C (fun j hj => (hfa j hj).1) hR hcs hck hwo ha ?_
        match a, h with
        | .inl (none, ls', st', μ'), h => exact next _ _ _ _ h
        | .inl (some g, ls', st', μ'), h =>
          obtain ⟨h1, h2⟩ := jgd_some h
          exact ⟨h1, next _ _ _ _ h2⟩
        | .inr (.inl (none, t, ls', st', μ')), h => exact next _ _ _ _ h
        | .inr (.inl (some bb, t, ls', st', μ')), h =>
          refine ⟨fun hb => ?_, fun hb => ?_⟩
          · subst hb; exact next _ _ _ _ h
          · subst hb; exact next _ _ _ _ h
        | .inr (.inr (.inl (j2, as, rk, ls', st', μ'))), h =>
          intro hln hj2 hok
          have h : jbd rk (jexe n j2 0 (jen (mxT j2) as) [] μ') (fun vs μ2 => jexe n j (q.1 + jkn q) ls' (vs ++ st') μ2) = some r := h
          obtain ⟨v, μ2, h1, h2, -⟩ := jbd_some h
          exact ⟨v, μ2, jmet ih hfa hj2 hok hln h1, next _ _ _ _ h2⟩
        | .inr (.inr (.inr (.inl (x, tb, d, ls', st', μ')))), h =>
          intro t ht
          have h : jsw x tb d (fun t => jexe n j t ls' st' μ') = some r := h
          rw [ht] at h
          exact next _ _ _ _ h
        | .inr (.inr (.inr (.inr r'))), h =>
          have e1 : r' = r := Option.some.inj h
          subst e1
          exact hfin
end
section
/-! THE CONSTRUCTORS, by program with the kit's rows -/
theorem dX9_init_0 : decode cX9_init 0 = .ok (.aload_n 0, 1) := by decide +kernel
theorem dX9_init_1 : decode cX9_init 1 = .ok (.invokespecial 3, 3) := by decide +kernel
theorem dX9_init_4 : decode cX9_init 4 = .ok (.aload_n 0, 1) := by decide +kernel
theorem dX9_init_5 : decode cX9_init 5 = .ok (.bipush 6, 2) := by decide +kernel
theorem dX9_init_7 : decode cX9_init 7 = .ok (.newarray .int, 2) := by decide +kernel
theorem dX9_init_9 : decode cX9_init 9 = .ok (.putfield 9, 3) := by decide +kernel
theorem dX9_init_12 : decode cX9_init 12 = .ok (.aload_n 0, 1) := by decide +kernel
theorem dX9_init_13 : decode cX9_init 13 = .ok (.bipush 6, 2) := by decide +kernel
theorem dX9_init_15 : decode cX9_init 15 = .ok (.newarray .int, 2) := by decide +kernel
theorem dX9_init_17 : decode cX9_init 17 = .ok (.putfield 15, 3) := by decide +kernel
theorem dX9_init_20 : decode cX9_init 20 = .ok (.aload_n 0, 1) := by decide +kernel
theorem dX9_init_21 : decode cX9_init 21 = .ok (.bipush 7, 2) := by decide +kernel
theorem dX9_init_23 : decode cX9_init 23 = .ok (.newarray .int, 2) := by decide +kernel
theorem dX9_init_25 : decode cX9_init 25 = .ok (.putfield 18, 3) := by decide +kernel
theorem dX9_init_28 : decode cX9_init 28 = .ok (.aload_n 0, 1) := by decide +kernel
theorem dX9_init_29 : decode cX9_init 29 = .ok (.bipush 7, 2) := by decide +kernel
theorem dX9_init_31 : decode cX9_init 31 = .ok (.newarray .int, 2) := by decide +kernel
theorem dX9_init_33 : decode cX9_init 33 = .ok (.putfield 21, 3) := by decide +kernel
theorem dX9_init_36 : decode cX9_init 36 = .ok (.aload_n 0, 1) := by decide +kernel
theorem dX9_init_37 : decode cX9_init 37 = .ok (.bipush 7, 2) := by decide +kernel
theorem dX9_init_39 : decode cX9_init 39 = .ok (.newarray .int, 2) := by decide +kernel
theorem dX9_init_41 : decode cX9_init 41 = .ok (.putfield 24, 3) := by decide +kernel
theorem dX9_init_44 : decode cX9_init 44 = .ok (.aload_n 0, 1) := by decide +kernel
theorem dX9_init_45 : decode cX9_init 45 = .ok (.bipush 7, 2) := by decide +kernel
theorem dX9_init_47 : decode cX9_init 47 = .ok (.newarray .int, 2) := by decide +kernel
theorem dX9_init_49 : decode cX9_init 49 = .ok (.putfield 27, 3) := by decide +kernel
theorem dX9_init_52 : decode cX9_init 52 = .ok (.aload_n 0, 1) := by decide +kernel
theorem dX9_init_53 : decode cX9_init 53 = .ok (.bipush 8, 2) := by decide +kernel
theorem dX9_init_55 : decode cX9_init 55 = .ok (.newarray .int, 2) := by decide +kernel
theorem dX9_init_57 : decode cX9_init 57 = .ok (.putfield 30, 3) := by decide +kernel
theorem dX9_init_60 : decode cX9_init 60 = .ok (.aload_n 0, 1) := by decide +kernel
theorem dX9_init_61 : decode cX9_init 61 = .ok (.bipush 8, 2) := by decide +kernel
theorem dX9_init_63 : decode cX9_init 63 = .ok (.newarray .int, 2) := by decide +kernel
theorem dX9_init_65 : decode cX9_init 65 = .ok (.putfield 33, 3) := by decide +kernel
theorem dX9_init_68 : decode cX9_init 68 = .ok (.aload_n 0, 1) := by decide +kernel
theorem dX9_init_69 : decode cX9_init 69 = .ok (.bipush 6, 2) := by decide +kernel
theorem dX9_init_71 : decode cX9_init 71 = .ok (.newarray .int, 2) := by decide +kernel
theorem dX9_init_73 : decode cX9_init 73 = .ok (.putfield 36, 3) := by decide +kernel
theorem dX9_init_76 : decode cX9_init 76 = .ok (.aload_n 0, 1) := by decide +kernel
theorem dX9_init_77 : decode cX9_init 77 = .ok (.bipush 6, 2) := by decide +kernel
theorem dX9_init_79 : decode cX9_init 79 = .ok (.newarray .int, 2) := by decide +kernel
theorem dX9_init_81 : decode cX9_init 81 = .ok (.putfield 39, 3) := by decide +kernel
theorem dX9_init_84 : decode cX9_init 84 = .ok (.return_, 1) := by decide +kernel
abbrev at_Valley (dC : Nat → ClassId) (dI : Nat → Nat → Nat) (A : Nat → Prop) (h0 : Nat) (_ : Unit) (t : State) : Prop := ∃ (q1 : Nat) (q2 : Nat) (q3 : Nat) (q4 : Nat) (q5 : Nat) (q6 : Nat) (q7 : Nat) (q8 : Nat) (q9 : Nat) (q10 : Nat) (c1 : ClassId) (c2 : ClassId) (c3 : ClassId) (c4 : ClassId) (c5 : ClassId) (c6 : ClassId) (c7 : ClassId) (c8 : ClassId) (c9 : ClassId) (c10 : ClassId), va_P (dC, dI) vwCl [(h0, .inr (8, [.ref q1, .ref q2, .ref q3, .ref q4, .ref q5, .ref q6, .int 0, .ref q7, .ref q8, .int 0, .int 0, .ref q9, .int 0, .ref q10, .int 0])), (q1, .inl (c1, 6, .inl (fun _ => 0))), (q2, .inl (c2, 6, .inl (fun _ => 0))), (q3, .inl (c3, 7, .inl (fun _ => 0))), (q4, .inl (c4, 7, .inl (fun _ => 0))), (q5, .inl (c5, 7, .inl (fun _ => 0))), (q6, .inl (c6, 7, .inl (fun _ => 0))), (q7, .inl (c7, 8, .inl (fun _ => 0))), (q8, .inl (c8, 8, .inl (fun _ => 0))), (q9, .inl (c9, 6, .inl (fun _ => 0))), (q10, .inl (c10, 6, .inl (fun _ => 0)))] t.heap ∧ va_K (dC, dI) vwCl [(c1, .int), (c2, .int), (c3, .int), (c4, .int), (c5, .int), (c6, .int), (c7, .int), (c8, .int), (c9, .int), (c10, .int)] t ∧ va_D A [(h0, .inr (8, [.ref q1, .ref q2, .ref q3, .ref q4, .ref q5, .ref q6, .int 0, .ref q7, .ref q8, .int 0, .int 0, .ref q9, .int 0, .ref q10, .int 0])), (q1, .inl (c1, 6, .inl (fun _ => 0))), (q2, .inl (c2, 6, .inl (fun _ => 0))), (q3, .inl (c3, 7, .inl (fun _ => 0))), (q4, .inl (c4, 7, .inl (fun _ => 0))), (q5, .inl (c5, 7, .inl (fun _ => 0))), (q6, .inl (c6, 7, .inl (fun _ => 0))), (q7, .inl (c7, 8, .inl (fun _ => 0))), (q8, .inl (c8, 8, .inl (fun _ => 0))), (q9, .inl (c9, 6, .inl (fun _ => 0))), (q10, .inl (c10, 6, .inl (fun _ => 0)))]
set_option maxHeartbeats 4000000 in
set_option maxRecDepth 100000 in
theorem c_Valley (l : Launch) (dC : Nat → ClassId) (dI : Nat → Nat → Nat) (h0 sz : Nat) : Met l yX9_init (Cond.code yX9_init cX9_init 1 none :: ws0) ({ frames := 1, cells := 10, slots := 68, locals := 12 }) (va_Pc [.ref h0] (fun U => U.heap.size = sz ∧ va_P (dC, dI) vwCl [(h0, .inr (8, [.null, .null, .null, .null, .null, .null, .int 0, .null, .null, .int 0, .int 0, .null, .int 0, .null, .int 0]))] U.heap ∧ va_K (dC, dI) vwCl [] U ∧ va_D (fun _ => True) [(h0, .inr (8, [.null, .null, .null, .null, .null, .null, .int 0, .null, .null, .int 0, .int 0, .null, .int 0, .null, .int 0]))])) (va_Qv (fun _ : Unit => True) (at_Valley dC dI (va_A [(h0, .inr (8, [.null, .null, .null, .null, .null, .null, .int 0, .null, .null, .int 0, .int 0, .null, .int 0, .null, .int 0]))] sz) h0) (va_A [(h0, .inr (8, [.null, .null, .null, .null, .null, .null, .int 0, .null, .null, .int 0, .int 0, .null, .int 0, .null, .int 0]))] sz)) 10 68 (va_A [(h0, .inr (8, [.null, .null, .null, .null, .null, .null, .int 0, .null, .null, .int 0, .int 0, .null, .int 0, .null, .int 0]))] sz) := by
  refine Met.ofW (cc := cX9_init) (maxL := 1) (ret := none) (by decide +kernel) rfl ?_
  intro p e s m args below meth c s₁ B hml hv
  obtain ⟨rfl, hsz, hP, hK, hD0⟩ := hv
  have hx := B.exec
  have hb := B.bytes
  have hr := B.returns
  have hts0 := atoms_spec (ws := Cond.code yX9_init cX9_init 1 none :: ws0) B.pre
  have hts : ∀ w ∈ ws0, w.before #[Value.ref h0] s = true := fun w hw => hts0 w (List.mem_cons_of_mem _ hw)
  have hown : s.vm.findClass RX9 = some m.cls := findClass_of_methodNamed B.named
  have hlocks := B.notSynchronized
  have hin : meth.name = "<init>" := (name_of_methodNamed B.named B.method).1
  subst hsz
  have hD := hD0.self (sz := s.heap.size)
  generalize hAe : va_A [(h0, .inr (8, [.null, .null, .null, .null, .null, .null, .int 0, .null, .null, .int 0, .int 0, .null, .int 0, .null, .int 0]))] s.heap.size = A at hD ⊢
  have hA : ∀ q : Nat, s.heap.size ≤ q → A q := fun q h => by rw [← hAe]; exact Or.inr h
  have hS : va_S A s.heap s.heap [] := va_S.rf
  have hl := lv_entry ([.ref h0]) (n := 1) (Nat.le_of_ble_eq_true rfl)
  rw [lg_entry_eq]
  generalize (lg_sl ([.ref h0]) ++ List.replicate (1 - (lg_sl ([.ref h0])).length) Slot.unset).toArray = ls at hl ⊢
  have hl : lv_has ls 1 [(0, .ref h0)] := hl
  have hP : va_P (dC, dI) vwCl [(h0, .inr (8, [.null, .null, .null, .null, .null, .null, .int 0, .null, .null, .int 0, .int 0, .null, .int 0, .null, .int 0]))] s.heap := hP
  refine lv_aload_n hx hb dX9_init_0 rfl (lv_at hl 0 rfl) ?_
  refine W.objInit hx hb hown (hts _ (w0m 98 (by decide +kernel) rfl)) (hts _ (w0m 91 (by decide +kernel) rfl)) (hts _ (w0m 92 (by decide +kernel) rfl)) rfl (by rw [hml]; exact hl.1) rfl dX9_init_1 (Nat.le_of_ble_eq_true rfl) (Nat.le_of_ble_eq_true rfl) ?_
  refine W.eq (g2 := F0 m 4 ls []) rfl ?_
  refine lv_aload_n hx hb dX9_init_4 rfl (lv_at hl 0 rfl) ?_
  refine lv_bipush (v := 6) hx hb dX9_init_5 (by decide) ?_
  refine va_newa (D := (dC, dI)) (atype := .int) (a0 := (6, .inl (fun _ => 0))) (ty := .int) hx hb (hts _ (w0m 171 (by decide +kernel) rfl)) rfl hK hP hD hS hA (fun cA => rfl) (by decide) (by decide +kernel) (by decide +kernel) (Nat.le_of_ble_eq_true rfl) (Nat.le_of_ble_eq_true rfl) dX9_init_7 (fun q1 c1 H hK hP hD hS => ?_)
  refine W.cs (cells' := 1) (slots' := 6) rfl rfl ?_
  have hP : va_P (dC, dI) vwCl [(h0, .inr (8, [.null, .null, .null, .null, .null, .null, .int 0, .null, .null, .int 0, .int 0, .null, .int 0, .null, .int 0])), (q1, .inl (c1, 6, .inl (fun _ => 0)))] H := hP
  have hD : va_D A [(h0, .inr (8, [.null, .null, .null, .null, .null, .null, .int 0, .null, .null, .int 0, .int 0, .null, .int 0, .null, .int 0])), (q1, .inl (c1, 6, .inl (fun _ => 0)))] := hD
  have hK : va_K (dC, dI) vwCl [(c1, .int)] s := hK
  refine va_putF (D := (dC, dI)) (ci := 8) (v := .ref q1) (ty := .array .int) (C := RX9) (T := TX9) (N := 15) hx hb hts (by decide +kernel) tyX9 tyX9_ok nmX9 hown hK hP hD hS 0 rfl rfl 0 (by decide) (hts _ (w0m 99 (by decide +kernel) rfl)) (fun _ h9 => h9) rfl hin rfl (by decide +kernel) rfl rfl (Nat.le_of_ble_eq_true rfl) dX9_init_9 (fun H locs hP hD hS => ?_)
  have hP : va_P (dC, dI) vwCl [(h0, .inr (8, [.ref q1, .null, .null, .null, .null, .null, .int 0, .null, .null, .int 0, .int 0, .null, .int 0, .null, .int 0])), (q1, .inl (c1, 6, .inl (fun _ => 0)))] H := hP
  have hD : va_D A [(h0, .inr (8, [.ref q1, .null, .null, .null, .null, .null, .int 0, .null, .null, .int 0, .int 0, .null, .int 0, .null, .int 0])), (q1, .inl (c1, 6, .inl (fun _ => 0)))] := hD
  refine lv_aload_n hx hb dX9_init_12 rfl (lv_at hl 0 rfl) ?_
  refine lv_bipush (v := 6) hx hb dX9_init_13 (by decide) ?_
  refine va_newa (D := (dC, dI)) (atype := .int) (a0 := (6, .inl (fun _ => 0))) (ty := .int) hx hb (hts _ (w0m 171 (by decide +kernel) rfl)) rfl hK hP hD hS hA (fun cA => rfl) (by decide) (by decide +kernel) (by decide +kernel) (Nat.le_of_ble_eq_true rfl) (Nat.le_of_ble_eq_true rfl) dX9_init_15 (fun q2 c2 H hK hP hD hS => ?_)
  refine W.cs (cells' := 2) (slots' := 12) rfl rfl ?_
  have hP : va_P (dC, dI) vwCl [(h0, .inr (8, [.ref q1, .null, .null, .null, .null, .null, .int 0, .null, .null, .int 0, .int 0, .null, .int 0, .null, .int 0])), (q1, .inl (c1, 6, .inl (fun _ => 0))), (q2, .inl (c2, 6, .inl (fun _ => 0)))] H := hP
  have hD : va_D A [(h0, .inr (8, [.ref q1, .null, .null, .null, .null, .null, .int 0, .null, .null, .int 0, .int 0, .null, .int 0, .null, .int 0])), (q1, .inl (c1, 6, .inl (fun _ => 0))), (q2, .inl (c2, 6, .inl (fun _ => 0)))] := hD
  have hK : va_K (dC, dI) vwCl [(c1, .int), (c2, .int)] s := hK
  refine va_putF (D := (dC, dI)) (ci := 8) (v := .ref q2) (ty := .array .int) (C := RX9) (T := TX9) (N := 15) hx hb hts (by decide +kernel) tyX9 tyX9_ok nmX9 hown hK hP hD hS 0 rfl rfl 1 (by decide) (hts _ (w0m 101 (by decide +kernel) rfl)) (fun _ h9 => h9) rfl hin rfl (by decide +kernel) rfl rfl (Nat.le_of_ble_eq_true rfl) dX9_init_17 (fun H locs hP hD hS => ?_)
  have hP : va_P (dC, dI) vwCl [(h0, .inr (8, [.ref q1, .ref q2, .null, .null, .null, .null, .int 0, .null, .null, .int 0, .int 0, .null, .int 0, .null, .int 0])), (q1, .inl (c1, 6, .inl (fun _ => 0))), (q2, .inl (c2, 6, .inl (fun _ => 0)))] H := hP
  have hD : va_D A [(h0, .inr (8, [.ref q1, .ref q2, .null, .null, .null, .null, .int 0, .null, .null, .int 0, .int 0, .null, .int 0, .null, .int 0])), (q1, .inl (c1, 6, .inl (fun _ => 0))), (q2, .inl (c2, 6, .inl (fun _ => 0)))] := hD
  refine lv_aload_n hx hb dX9_init_20 rfl (lv_at hl 0 rfl) ?_
  refine lv_bipush (v := 7) hx hb dX9_init_21 (by decide) ?_
  refine va_newa (D := (dC, dI)) (atype := .int) (a0 := (7, .inl (fun _ => 0))) (ty := .int) hx hb (hts _ (w0m 171 (by decide +kernel) rfl)) rfl hK hP hD hS hA (fun cA => rfl) (by decide) (by decide +kernel) (by decide +kernel) (Nat.le_of_ble_eq_true rfl) (Nat.le_of_ble_eq_true rfl) dX9_init_23 (fun q3 c3 H hK hP hD hS => ?_)
  refine W.cs (cells' := 3) (slots' := 19) rfl rfl ?_
  have hP : va_P (dC, dI) vwCl [(h0, .inr (8, [.ref q1, .ref q2, .null, .null, .null, .null, .int 0, .null, .null, .int 0, .int 0, .null, .int 0, .null, .int 0])), (q1, .inl (c1, 6, .inl (fun _ => 0))), (q2, .inl (c2, 6, .inl (fun _ => 0))), (q3, .inl (c3, 7, .inl (fun _ => 0)))] H := hP
  have hD : va_D A [(h0, .inr (8, [.ref q1, .ref q2, .null, .null, .null, .null, .int 0, .null, .null, .int 0, .int 0, .null, .int 0, .null, .int 0])), (q1, .inl (c1, 6, .inl (fun _ => 0))), (q2, .inl (c2, 6, .inl (fun _ => 0))), (q3, .inl (c3, 7, .inl (fun _ => 0)))] := hD
  have hK : va_K (dC, dI) vwCl [(c1, .int), (c2, .int), (c3, .int)] s := hK
  refine va_putF (D := (dC, dI)) (ci := 8) (v := .ref q3) (ty := .array .int) (C := RX9) (T := TX9) (N := 15) hx hb hts (by decide +kernel) tyX9 tyX9_ok nmX9 hown hK hP hD hS 0 rfl rfl 2 (by decide) (hts _ (w0m 103 (by decide +kernel) rfl)) (fun _ h9 => h9) rfl hin rfl (by decide +kernel) rfl rfl (Nat.le_of_ble_eq_true rfl) dX9_init_25 (fun H locs hP hD hS => ?_)
  have hP : va_P (dC, dI) vwCl [(h0, .inr (8, [.ref q1, .ref q2, .ref q3, .null, .null, .null, .int 0, .null, .null, .int 0, .int 0, .null, .int 0, .null, .int 0])), (q1, .inl (c1, 6, .inl (fun _ => 0))), (q2, .inl (c2, 6, .inl (fun _ => 0))), (q3, .inl (c3, 7, .inl (fun _ => 0)))] H := hP
  have hD : va_D A [(h0, .inr (8, [.ref q1, .ref q2, .ref q3, .null, .null, .null, .int 0, .null, .null, .int 0, .int 0, .null, .int 0, .null, .int 0])), (q1, .inl (c1, 6, .inl (fun _ => 0))), (q2, .inl (c2, 6, .inl (fun _ => 0))), (q3, .inl (c3, 7, .inl (fun _ => 0)))] := hD
  refine lv_aload_n hx hb dX9_init_28 rfl (lv_at hl 0 rfl) ?_
  refine lv_bipush (v := 7) hx hb dX9_init_29 (by decide) ?_
  refine va_newa (D := (dC, dI)) (atype := .int) (a0 := (7, .inl (fun _ => 0))) (ty := .int) hx hb (hts _ (w0m 171 (by decide +kernel) rfl)) rfl hK hP hD hS hA (fun cA => rfl) (by decide) (by decide +kernel) (by decide +kernel) (Nat.le_of_ble_eq_true rfl) (Nat.le_of_ble_eq_true rfl) dX9_init_31 (fun q4 c4 H hK hP hD hS => ?_)
  refine W.cs (cells' := 4) (slots' := 26) rfl rfl ?_
  have hP : va_P (dC, dI) vwCl [(h0, .inr (8, [.ref q1, .ref q2, .ref q3, .null, .null, .null, .int 0, .null, .null, .int 0, .int 0, .null, .int 0, .null, .int 0])), (q1, .inl (c1, 6, .inl (fun _ => 0))), (q2, .inl (c2, 6, .inl (fun _ => 0))), (q3, .inl (c3, 7, .inl (fun _ => 0))), (q4, .inl (c4, 7, .inl (fun _ => 0)))] H := hP
  have hD : va_D A [(h0, .inr (8, [.ref q1, .ref q2, .ref q3, .null, .null, .null, .int 0, .null, .null, .int 0, .int 0, .null, .int 0, .null, .int 0])), (q1, .inl (c1, 6, .inl (fun _ => 0))), (q2, .inl (c2, 6, .inl (fun _ => 0))), (q3, .inl (c3, 7, .inl (fun _ => 0))), (q4, .inl (c4, 7, .inl (fun _ => 0)))] := hD
  have hK : va_K (dC, dI) vwCl [(c1, .int), (c2, .int), (c3, .int), (c4, .int)] s := hK
  refine va_putF (D := (dC, dI)) (ci := 8) (v := .ref q4) (ty := .array .int) (C := RX9) (T := TX9) (N := 15) hx hb hts (by decide +kernel) tyX9 tyX9_ok nmX9 hown hK hP hD hS 0 rfl rfl 3 (by decide) (hts _ (w0m 105 (by decide +kernel) rfl)) (fun _ h9 => h9) rfl hin rfl (by decide +kernel) rfl rfl (Nat.le_of_ble_eq_true rfl) dX9_init_33 (fun H locs hP hD hS => ?_)
  have hP : va_P (dC, dI) vwCl [(h0, .inr (8, [.ref q1, .ref q2, .ref q3, .ref q4, .null, .null, .int 0, .null, .null, .int 0, .int 0, .null, .int 0, .null, .int 0])), (q1, .inl (c1, 6, .inl (fun _ => 0))), (q2, .inl (c2, 6, .inl (fun _ => 0))), (q3, .inl (c3, 7, .inl (fun _ => 0))), (q4, .inl (c4, 7, .inl (fun _ => 0)))] H := hP
  have hD : va_D A [(h0, .inr (8, [.ref q1, .ref q2, .ref q3, .ref q4, .null, .null, .int 0, .null, .null, .int 0, .int 0, .null, .int 0, .null, .int 0])), (q1, .inl (c1, 6, .inl (fun _ => 0))), (q2, .inl (c2, 6, .inl (fun _ => 0))), (q3, .inl (c3, 7, .inl (fun _ => 0))), (q4, .inl (c4, 7, .inl (fun _ => 0)))] := hD
  refine lv_aload_n hx hb dX9_init_36 rfl (lv_at hl 0 rfl) ?_
  refine lv_bipush (v := 7) hx hb dX9_init_37 (by decide) ?_
  refine va_newa (D := (dC, dI)) (atype := .int) (a0 := (7, .inl (fun _ => 0))) (ty := .int) hx hb (hts _ (w0m 171 (by decide +kernel) rfl)) rfl hK hP hD hS hA (fun cA => rfl) (by decide) (by decide +kernel) (by decide +kernel) (Nat.le_of_ble_eq_true rfl) (Nat.le_of_ble_eq_true rfl) dX9_init_39 (fun q5 c5 H hK hP hD hS => ?_)
  refine W.cs (cells' := 5) (slots' := 33) rfl rfl ?_
  have hP : va_P (dC, dI) vwCl [(h0, .inr (8, [.ref q1, .ref q2, .ref q3, .ref q4, .null, .null, .int 0, .null, .null, .int 0, .int 0, .null, .int 0, .null, .int 0])), (q1, .inl (c1, 6, .inl (fun _ => 0))), (q2, .inl (c2, 6, .inl (fun _ => 0))), (q3, .inl (c3, 7, .inl (fun _ => 0))), (q4, .inl (c4, 7, .inl (fun _ => 0))), (q5, .inl (c5, 7, .inl (fun _ => 0)))] H := hP
  have hD : va_D A [(h0, .inr (8, [.ref q1, .ref q2, .ref q3, .ref q4, .null, .null, .int 0, .null, .null, .int 0, .int 0, .null, .int 0, .null, .int 0])), (q1, .inl (c1, 6, .inl (fun _ => 0))), (q2, .inl (c2, 6, .inl (fun _ => 0))), (q3, .inl (c3, 7, .inl (fun _ => 0))), (q4, .inl (c4, 7, .inl (fun _ => 0))), (q5, .inl (c5, 7, .inl (fun _ => 0)))] := hD
  have hK : va_K (dC, dI) vwCl [(c1, .int), (c2, .int), (c3, .int), (c4, .int), (c5, .int)] s := hK
  refine va_putF (D := (dC, dI)) (ci := 8) (v := .ref q5) (ty := .array .int) (C := RX9) (T := TX9) (N := 15) hx hb hts (by decide +kernel) tyX9 tyX9_ok nmX9 hown hK hP hD hS 0 rfl rfl 4 (by decide) (hts _ (w0m 108 (by decide +kernel) rfl)) (fun _ h9 => h9) rfl hin rfl (by decide +kernel) rfl rfl (Nat.le_of_ble_eq_true rfl) dX9_init_41 (fun H locs hP hD hS => ?_)
  have hP : va_P (dC, dI) vwCl [(h0, .inr (8, [.ref q1, .ref q2, .ref q3, .ref q4, .ref q5, .null, .int 0, .null, .null, .int 0, .int 0, .null, .int 0, .null, .int 0])), (q1, .inl (c1, 6, .inl (fun _ => 0))), (q2, .inl (c2, 6, .inl (fun _ => 0))), (q3, .inl (c3, 7, .inl (fun _ => 0))), (q4, .inl (c4, 7, .inl (fun _ => 0))), (q5, .inl (c5, 7, .inl (fun _ => 0)))] H := hP
  have hD : va_D A [(h0, .inr (8, [.ref q1, .ref q2, .ref q3, .ref q4, .ref q5, .null, .int 0, .null, .null, .int 0, .int 0, .null, .int 0, .null, .int 0])), (q1, .inl (c1, 6, .inl (fun _ => 0))), (q2, .inl (c2, 6, .inl (fun _ => 0))), (q3, .inl (c3, 7, .inl (fun _ => 0))), (q4, .inl (c4, 7, .inl (fun _ => 0))), (q5, .inl (c5, 7, .inl (fun _ => 0)))] := hD
  refine lv_aload_n hx hb dX9_init_44 rfl (lv_at hl 0 rfl) ?_
  refine lv_bipush (v := 7) hx hb dX9_init_45 (by decide) ?_
  refine va_newa (D := (dC, dI)) (atype := .int) (a0 := (7, .inl (fun _ => 0))) (ty := .int) hx hb (hts _ (w0m 171 (by decide +kernel) rfl)) rfl hK hP hD hS hA (fun cA => rfl) (by decide) (by decide +kernel) (by decide +kernel) (Nat.le_of_ble_eq_true rfl) (Nat.le_of_ble_eq_true rfl) dX9_init_47 (fun q6 c6 H hK hP hD hS => ?_)
  refine W.cs (cells' := 6) (slots' := 40) rfl rfl ?_
  have hP : va_P (dC, dI) vwCl [(h0, .inr (8, [.ref q1, .ref q2, .ref q3, .ref q4, .ref q5, .null, .int 0, .null, .null, .int 0, .int 0, .null, .int 0, .null, .int 0])), (q1, .inl (c1, 6, .inl (fun _ => 0))), (q2, .inl (c2, 6, .inl (fun _ => 0))), (q3, .inl (c3, 7, .inl (fun _ => 0))), (q4, .inl (c4, 7, .inl (fun _ => 0))), (q5, .inl (c5, 7, .inl (fun _ => 0))), (q6, .inl (c6, 7, .inl (fun _ => 0)))] H := hP
  have hD : va_D A [(h0, .inr (8, [.ref q1, .ref q2, .ref q3, .ref q4, .ref q5, .null, .int 0, .null, .null, .int 0, .int 0, .null, .int 0, .null, .int 0])), (q1, .inl (c1, 6, .inl (fun _ => 0))), (q2, .inl (c2, 6, .inl (fun _ => 0))), (q3, .inl (c3, 7, .inl (fun _ => 0))), (q4, .inl (c4, 7, .inl (fun _ => 0))), (q5, .inl (c5, 7, .inl (fun _ => 0))), (q6, .inl (c6, 7, .inl (fun _ => 0)))] := hD
  have hK : va_K (dC, dI) vwCl [(c1, .int), (c2, .int), (c3, .int), (c4, .int), (c5, .int), (c6, .int)] s := hK
  refine va_putF (D := (dC, dI)) (ci := 8) (v := .ref q6) (ty := .array .int) (C := RX9) (T := TX9) (N := 15) hx hb hts (by decide +kernel) tyX9 tyX9_ok nmX9 hown hK hP hD hS 0 rfl rfl 5 (by decide) (hts _ (w0m 111 (by decide +kernel) rfl)) (fun _ h9 => h9) rfl hin rfl (by decide +kernel) rfl rfl (Nat.le_of_ble_eq_true rfl) dX9_init_49 (fun H locs hP hD hS => ?_)
  have hP : va_P (dC, dI) vwCl [(h0, .inr (8, [.ref q1, .ref q2, .ref q3, .ref q4, .ref q5, .ref q6, .int 0, .null, .null, .int 0, .int 0, .null, .int 0, .null, .int 0])), (q1, .inl (c1, 6, .inl (fun _ => 0))), (q2, .inl (c2, 6, .inl (fun _ => 0))), (q3, .inl (c3, 7, .inl (fun _ => 0))), (q4, .inl (c4, 7, .inl (fun _ => 0))), (q5, .inl (c5, 7, .inl (fun _ => 0))), (q6, .inl (c6, 7, .inl (fun _ => 0)))] H := hP
  have hD : va_D A [(h0, .inr (8, [.ref q1, .ref q2, .ref q3, .ref q4, .ref q5, .ref q6, .int 0, .null, .null, .int 0, .int 0, .null, .int 0, .null, .int 0])), (q1, .inl (c1, 6, .inl (fun _ => 0))), (q2, .inl (c2, 6, .inl (fun _ => 0))), (q3, .inl (c3, 7, .inl (fun _ => 0))), (q4, .inl (c4, 7, .inl (fun _ => 0))), (q5, .inl (c5, 7, .inl (fun _ => 0))), (q6, .inl (c6, 7, .inl (fun _ => 0)))] := hD
  refine lv_aload_n hx hb dX9_init_52 rfl (lv_at hl 0 rfl) ?_
  refine lv_bipush (v := 8) hx hb dX9_init_53 (by decide) ?_
  refine va_newa (D := (dC, dI)) (atype := .int) (a0 := (8, .inl (fun _ => 0))) (ty := .int) hx hb (hts _ (w0m 171 (by decide +kernel) rfl)) rfl hK hP hD hS hA (fun cA => rfl) (by decide) (by decide +kernel) (by decide +kernel) (Nat.le_of_ble_eq_true rfl) (Nat.le_of_ble_eq_true rfl) dX9_init_55 (fun q7 c7 H hK hP hD hS => ?_)
  refine W.cs (cells' := 7) (slots' := 48) rfl rfl ?_
  have hP : va_P (dC, dI) vwCl [(h0, .inr (8, [.ref q1, .ref q2, .ref q3, .ref q4, .ref q5, .ref q6, .int 0, .null, .null, .int 0, .int 0, .null, .int 0, .null, .int 0])), (q1, .inl (c1, 6, .inl (fun _ => 0))), (q2, .inl (c2, 6, .inl (fun _ => 0))), (q3, .inl (c3, 7, .inl (fun _ => 0))), (q4, .inl (c4, 7, .inl (fun _ => 0))), (q5, .inl (c5, 7, .inl (fun _ => 0))), (q6, .inl (c6, 7, .inl (fun _ => 0))), (q7, .inl (c7, 8, .inl (fun _ => 0)))] H := hP
  have hD : va_D A [(h0, .inr (8, [.ref q1, .ref q2, .ref q3, .ref q4, .ref q5, .ref q6, .int 0, .null, .null, .int 0, .int 0, .null, .int 0, .null, .int 0])), (q1, .inl (c1, 6, .inl (fun _ => 0))), (q2, .inl (c2, 6, .inl (fun _ => 0))), (q3, .inl (c3, 7, .inl (fun _ => 0))), (q4, .inl (c4, 7, .inl (fun _ => 0))), (q5, .inl (c5, 7, .inl (fun _ => 0))), (q6, .inl (c6, 7, .inl (fun _ => 0))), (q7, .inl (c7, 8, .inl (fun _ => 0)))] := hD
  have hK : va_K (dC, dI) vwCl [(c1, .int), (c2, .int), (c3, .int), (c4, .int), (c5, .int), (c6, .int), (c7, .int)] s := hK
  refine va_putF (D := (dC, dI)) (ci := 8) (v := .ref q7) (ty := .array .int) (C := RX9) (T := TX9) (N := 15) hx hb hts (by decide +kernel) tyX9 tyX9_ok nmX9 hown hK hP hD hS 0 rfl rfl 7 (by decide) (hts _ (w0m 118 (by decide +kernel) rfl)) (fun _ h9 => h9) rfl hin rfl (by decide +kernel) rfl rfl (Nat.le_of_ble_eq_true rfl) dX9_init_57 (fun H locs hP hD hS => ?_)
  have hP : va_P (dC, dI) vwCl [(h0, .inr (8, [.ref q1, .ref q2, .ref q3, .ref q4, .ref q5, .ref q6, .int 0, .ref q7, .null, .int 0, .int 0, .null, .int 0, .null, .int 0])), (q1, .inl (c1, 6, .inl (fun _ => 0))), (q2, .inl (c2, 6, .inl (fun _ => 0))), (q3, .inl (c3, 7, .inl (fun _ => 0))), (q4, .inl (c4, 7, .inl (fun _ => 0))), (q5, .inl (c5, 7, .inl (fun _ => 0))), (q6, .inl (c6, 7, .inl (fun _ => 0))), (q7, .inl (c7, 8, .inl (fun _ => 0)))] H := hP
  have hD : va_D A [(h0, .inr (8, [.ref q1, .ref q2, .ref q3, .ref q4, .ref q5, .ref q6, .int 0, .ref q7, .null, .int 0, .int 0, .null, .int 0, .null, .int 0])), (q1, .inl (c1, 6, .inl (fun _ => 0))), (q2, .inl (c2, 6, .inl (fun _ => 0))), (q3, .inl (c3, 7, .inl (fun _ => 0))), (q4, .inl (c4, 7, .inl (fun _ => 0))), (q5, .inl (c5, 7, .inl (fun _ => 0))), (q6, .inl (c6, 7, .inl (fun _ => 0))), (q7, .inl (c7, 8, .inl (fun _ => 0)))] := hD
  refine lv_aload_n hx hb dX9_init_60 rfl (lv_at hl 0 rfl) ?_
  refine lv_bipush (v := 8) hx hb dX9_init_61 (by decide) ?_
  refine va_newa (D := (dC, dI)) (atype := .int) (a0 := (8, .inl (fun _ => 0))) (ty := .int) hx hb (hts _ (w0m 171 (by decide +kernel) rfl)) rfl hK hP hD hS hA (fun cA => rfl) (by decide) (by decide +kernel) (by decide +kernel) (Nat.le_of_ble_eq_true rfl) (Nat.le_of_ble_eq_true rfl) dX9_init_63 (fun q8 c8 H hK hP hD hS => ?_)
  refine W.cs (cells' := 8) (slots' := 56) rfl rfl ?_
  have hP : va_P (dC, dI) vwCl [(h0, .inr (8, [.ref q1, .ref q2, .ref q3, .ref q4, .ref q5, .ref q6, .int 0, .ref q7, .null, .int 0, .int 0, .null, .int 0, .null, .int 0])), (q1, .inl (c1, 6, .inl (fun _ => 0))), (q2, .inl (c2, 6, .inl (fun _ => 0))), (q3, .inl (c3, 7, .inl (fun _ => 0))), (q4, .inl (c4, 7, .inl (fun _ => 0))), (q5, .inl (c5, 7, .inl (fun _ => 0))), (q6, .inl (c6, 7, .inl (fun _ => 0))), (q7, .inl (c7, 8, .inl (fun _ => 0))), (q8, .inl (c8, 8, .inl (fun _ => 0)))] H := hP
  have hD : va_D A [(h0, .inr (8, [.ref q1, .ref q2, .ref q3, .ref q4, .ref q5, .ref q6, .int 0, .ref q7, .null, .int 0, .int 0, .null, .int 0, .null, .int 0])), (q1, .inl (c1, 6, .inl (fun _ => 0))), (q2, .inl (c2, 6, .inl (fun _ => 0))), (q3, .inl (c3, 7, .inl (fun _ => 0))), (q4, .inl (c4, 7, .inl (fun _ => 0))), (q5, .inl (c5, 7, .inl (fun _ => 0))), (q6, .inl (c6, 7, .inl (fun _ => 0))), (q7, .inl (c7, 8, .inl (fun _ => 0))), (q8, .inl (c8, 8, .inl (fun _ => 0)))] := hD
  have hK : va_K (dC, dI) vwCl [(c1, .int), (c2, .int), (c3, .int), (c4, .int), (c5, .int), (c6, .int), (c7, .int), (c8, .int)] s := hK
  refine va_putF (D := (dC, dI)) (ci := 8) (v := .ref q8) (ty := .array .int) (C := RX9) (T := TX9) (N := 15) hx hb hts (by decide +kernel) tyX9 tyX9_ok nmX9 hown hK hP hD hS 0 rfl rfl 8 (by decide) (hts _ (w0m 122 (by decide +kernel) rfl)) (fun _ h9 => h9) rfl hin rfl (by decide +kernel) rfl rfl (Nat.le_of_ble_eq_true rfl) dX9_init_65 (fun H locs hP hD hS => ?_)
  have hP : va_P (dC, dI) vwCl [(h0, .inr (8, [.ref q1, .ref q2, .ref q3, .ref q4, .ref q5, .ref q6, .int 0, .ref q7, .ref q8, .int 0, .int 0, .null, .int 0, .null, .int 0])), (q1, .inl (c1, 6, .inl (fun _ => 0))), (q2, .inl (c2, 6, .inl (fun _ => 0))), (q3, .inl (c3, 7, .inl (fun _ => 0))), (q4, .inl (c4, 7, .inl (fun _ => 0))), (q5, .inl (c5, 7, .inl (fun _ => 0))), (q6, .inl (c6, 7, .inl (fun _ => 0))), (q7, .inl (c7, 8, .inl (fun _ => 0))), (q8, .inl (c8, 8, .inl (fun _ => 0)))] H := hP
  have hD : va_D A [(h0, .inr (8, [.ref q1, .ref q2, .ref q3, .ref q4, .ref q5, .ref q6, .int 0, .ref q7, .ref q8, .int 0, .int 0, .null, .int 0, .null, .int 0])), (q1, .inl (c1, 6, .inl (fun _ => 0))), (q2, .inl (c2, 6, .inl (fun _ => 0))), (q3, .inl (c3, 7, .inl (fun _ => 0))), (q4, .inl (c4, 7, .inl (fun _ => 0))), (q5, .inl (c5, 7, .inl (fun _ => 0))), (q6, .inl (c6, 7, .inl (fun _ => 0))), (q7, .inl (c7, 8, .inl (fun _ => 0))), (q8, .inl (c8, 8, .inl (fun _ => 0)))] := hD
  refine lv_aload_n hx hb dX9_init_68 rfl (lv_at hl 0 rfl) ?_
  refine lv_bipush (v := 6) hx hb dX9_init_69 (by decide) ?_
  refine va_newa (D := (dC, dI)) (atype := .int) (a0 := (6, .inl (fun _ => 0))) (ty := .int) hx hb (hts _ (w0m 171 (by decide +kernel) rfl)) rfl hK hP hD hS hA (fun cA => rfl) (by decide) (by decide +kernel) (by decide +kernel) (Nat.le_of_ble_eq_true rfl) (Nat.le_of_ble_eq_true rfl) dX9_init_71 (fun q9 c9 H hK hP hD hS => ?_)
  refine W.cs (cells' := 9) (slots' := 62) rfl rfl ?_
  have hP : va_P (dC, dI) vwCl [(h0, .inr (8, [.ref q1, .ref q2, .ref q3, .ref q4, .ref q5, .ref q6, .int 0, .ref q7, .ref q8, .int 0, .int 0, .null, .int 0, .null, .int 0])), (q1, .inl (c1, 6, .inl (fun _ => 0))), (q2, .inl (c2, 6, .inl (fun _ => 0))), (q3, .inl (c3, 7, .inl (fun _ => 0))), (q4, .inl (c4, 7, .inl (fun _ => 0))), (q5, .inl (c5, 7, .inl (fun _ => 0))), (q6, .inl (c6, 7, .inl (fun _ => 0))), (q7, .inl (c7, 8, .inl (fun _ => 0))), (q8, .inl (c8, 8, .inl (fun _ => 0))), (q9, .inl (c9, 6, .inl (fun _ => 0)))] H := hP
  have hD : va_D A [(h0, .inr (8, [.ref q1, .ref q2, .ref q3, .ref q4, .ref q5, .ref q6, .int 0, .ref q7, .ref q8, .int 0, .int 0, .null, .int 0, .null, .int 0])), (q1, .inl (c1, 6, .inl (fun _ => 0))), (q2, .inl (c2, 6, .inl (fun _ => 0))), (q3, .inl (c3, 7, .inl (fun _ => 0))), (q4, .inl (c4, 7, .inl (fun _ => 0))), (q5, .inl (c5, 7, .inl (fun _ => 0))), (q6, .inl (c6, 7, .inl (fun _ => 0))), (q7, .inl (c7, 8, .inl (fun _ => 0))), (q8, .inl (c8, 8, .inl (fun _ => 0))), (q9, .inl (c9, 6, .inl (fun _ => 0)))] := hD
  have hK : va_K (dC, dI) vwCl [(c1, .int), (c2, .int), (c3, .int), (c4, .int), (c5, .int), (c6, .int), (c7, .int), (c8, .int), (c9, .int)] s := hK
  refine va_putF (D := (dC, dI)) (ci := 8) (v := .ref q9) (ty := .array .int) (C := RX9) (T := TX9) (N := 15) hx hb hts (by decide +kernel) tyX9 tyX9_ok nmX9 hown hK hP hD hS 0 rfl rfl 11 (by decide) (hts _ (w0m 131 (by decide +kernel) rfl)) (fun _ h9 => h9) rfl hin rfl (by decide +kernel) rfl rfl (Nat.le_of_ble_eq_true rfl) dX9_init_73 (fun H locs hP hD hS => ?_)
  have hP : va_P (dC, dI) vwCl [(h0, .inr (8, [.ref q1, .ref q2, .ref q3, .ref q4, .ref q5, .ref q6, .int 0, .ref q7, .ref q8, .int 0, .int 0, .ref q9, .int 0, .null, .int 0])), (q1, .inl (c1, 6, .inl (fun _ => 0))), (q2, .inl (c2, 6, .inl (fun _ => 0))), (q3, .inl (c3, 7, .inl (fun _ => 0))), (q4, .inl (c4, 7, .inl (fun _ => 0))), (q5, .inl (c5, 7, .inl (fun _ => 0))), (q6, .inl (c6, 7, .inl (fun _ => 0))), (q7, .inl (c7, 8, .inl (fun _ => 0))), (q8, .inl (c8, 8, .inl (fun _ => 0))), (q9, .inl (c9, 6, .inl (fun _ => 0)))] H := hP
  have hD : va_D A [(h0, .inr (8, [.ref q1, .ref q2, .ref q3, .ref q4, .ref q5, .ref q6, .int 0, .ref q7, .ref q8, .int 0, .int 0, .ref q9, .int 0, .null, .int 0])), (q1, .inl (c1, 6, .inl (fun _ => 0))), (q2, .inl (c2, 6, .inl (fun _ => 0))), (q3, .inl (c3, 7, .inl (fun _ => 0))), (q4, .inl (c4, 7, .inl (fun _ => 0))), (q5, .inl (c5, 7, .inl (fun _ => 0))), (q6, .inl (c6, 7, .inl (fun _ => 0))), (q7, .inl (c7, 8, .inl (fun _ => 0))), (q8, .inl (c8, 8, .inl (fun _ => 0))), (q9, .inl (c9, 6, .inl (fun _ => 0)))] := hD
  refine lv_aload_n hx hb dX9_init_76 rfl (lv_at hl 0 rfl) ?_
  refine lv_bipush (v := 6) hx hb dX9_init_77 (by decide) ?_
  refine va_newa (D := (dC, dI)) (atype := .int) (a0 := (6, .inl (fun _ => 0))) (ty := .int) hx hb (hts _ (w0m 171 (by decide +kernel) rfl)) rfl hK hP hD hS hA (fun cA => rfl) (by decide) (by decide +kernel) (by decide +kernel) (Nat.le_of_ble_eq_true rfl) (Nat.le_of_ble_eq_true rfl) dX9_init_79 (fun q10 c10 H hK hP hD hS => ?_)
  refine W.cs (cells' := 10) (slots' := 68) rfl rfl ?_
  have hP : va_P (dC, dI) vwCl [(h0, .inr (8, [.ref q1, .ref q2, .ref q3, .ref q4, .ref q5, .ref q6, .int 0, .ref q7, .ref q8, .int 0, .int 0, .ref q9, .int 0, .null, .int 0])), (q1, .inl (c1, 6, .inl (fun _ => 0))), (q2, .inl (c2, 6, .inl (fun _ => 0))), (q3, .inl (c3, 7, .inl (fun _ => 0))), (q4, .inl (c4, 7, .inl (fun _ => 0))), (q5, .inl (c5, 7, .inl (fun _ => 0))), (q6, .inl (c6, 7, .inl (fun _ => 0))), (q7, .inl (c7, 8, .inl (fun _ => 0))), (q8, .inl (c8, 8, .inl (fun _ => 0))), (q9, .inl (c9, 6, .inl (fun _ => 0))), (q10, .inl (c10, 6, .inl (fun _ => 0)))] H := hP
  have hD : va_D A [(h0, .inr (8, [.ref q1, .ref q2, .ref q3, .ref q4, .ref q5, .ref q6, .int 0, .ref q7, .ref q8, .int 0, .int 0, .ref q9, .int 0, .null, .int 0])), (q1, .inl (c1, 6, .inl (fun _ => 0))), (q2, .inl (c2, 6, .inl (fun _ => 0))), (q3, .inl (c3, 7, .inl (fun _ => 0))), (q4, .inl (c4, 7, .inl (fun _ => 0))), (q5, .inl (c5, 7, .inl (fun _ => 0))), (q6, .inl (c6, 7, .inl (fun _ => 0))), (q7, .inl (c7, 8, .inl (fun _ => 0))), (q8, .inl (c8, 8, .inl (fun _ => 0))), (q9, .inl (c9, 6, .inl (fun _ => 0))), (q10, .inl (c10, 6, .inl (fun _ => 0)))] := hD
  have hK : va_K (dC, dI) vwCl [(c1, .int), (c2, .int), (c3, .int), (c4, .int), (c5, .int), (c6, .int), (c7, .int), (c8, .int), (c9, .int), (c10, .int)] s := hK
  refine va_putF (D := (dC, dI)) (ci := 8) (v := .ref q10) (ty := .array .int) (C := RX9) (T := TX9) (N := 15) hx hb hts (by decide +kernel) tyX9 tyX9_ok nmX9 hown hK hP hD hS 0 rfl rfl 13 (by decide) (hts _ (w0m 134 (by decide +kernel) rfl)) (fun _ h9 => h9) rfl hin rfl (by decide +kernel) rfl rfl (Nat.le_of_ble_eq_true rfl) dX9_init_81 (fun H locs hP hD hS => ?_)
  have hP : va_P (dC, dI) vwCl [(h0, .inr (8, [.ref q1, .ref q2, .ref q3, .ref q4, .ref q5, .ref q6, .int 0, .ref q7, .ref q8, .int 0, .int 0, .ref q9, .int 0, .ref q10, .int 0])), (q1, .inl (c1, 6, .inl (fun _ => 0))), (q2, .inl (c2, 6, .inl (fun _ => 0))), (q3, .inl (c3, 7, .inl (fun _ => 0))), (q4, .inl (c4, 7, .inl (fun _ => 0))), (q5, .inl (c5, 7, .inl (fun _ => 0))), (q6, .inl (c6, 7, .inl (fun _ => 0))), (q7, .inl (c7, 8, .inl (fun _ => 0))), (q8, .inl (c8, 8, .inl (fun _ => 0))), (q9, .inl (c9, 6, .inl (fun _ => 0))), (q10, .inl (c10, 6, .inl (fun _ => 0)))] H := hP
  have hD : va_D A [(h0, .inr (8, [.ref q1, .ref q2, .ref q3, .ref q4, .ref q5, .ref q6, .int 0, .ref q7, .ref q8, .int 0, .int 0, .ref q9, .int 0, .ref q10, .int 0])), (q1, .inl (c1, 6, .inl (fun _ => 0))), (q2, .inl (c2, 6, .inl (fun _ => 0))), (q3, .inl (c3, 7, .inl (fun _ => 0))), (q4, .inl (c4, 7, .inl (fun _ => 0))), (q5, .inl (c5, 7, .inl (fun _ => 0))), (q6, .inl (c6, 7, .inl (fun _ => 0))), (q7, .inl (c7, 8, .inl (fun _ => 0))), (q8, .inl (c8, 8, .inl (fun _ => 0))), (q9, .inl (c9, 6, .inl (fun _ => 0))), (q10, .inl (c10, 6, .inl (fun _ => 0)))] := hD
  have hP9 := hP.sub (ws' := [(h0, .inr (8, [.ref q1, .ref q2, .ref q3, .ref q4, .ref q5, .ref q6, .int 0, .ref q7, .ref q8, .int 0, .int 0, .ref q9, .int 0, .ref q10, .int 0])), (q1, .inl (c1, 6, .inl (fun _ => 0))), (q2, .inl (c2, 6, .inl (fun _ => 0))), (q3, .inl (c3, 7, .inl (fun _ => 0))), (q4, .inl (c4, 7, .inl (fun _ => 0))), (q5, .inl (c5, 7, .inl (fun _ => 0))), (q6, .inl (c6, 7, .inl (fun _ => 0))), (q7, .inl (c7, 8, .inl (fun _ => 0))), (q8, .inl (c8, 8, .inl (fun _ => 0))), (q9, .inl (c9, 6, .inl (fun _ => 0))), (q10, .inl (c10, 6, .inl (fun _ => 0)))]) [0, 1, 2, 3, 4, 5, 6, 7, 8, 9, 10] rfl
  exact W.vret hx hb hr (fun t ht hW => ⟨⟨(), rfl, trivial, q1, q2, q3, q4, q5, q6, q7, q8, q9, q10, c1, c2, c3, c4, c5, c6, c7, c8, c9, c10, by rw [ht]; exact hP9, va_K.moved hW.alike hK, hD⟩, hS.F ht⟩) hS.2.2 dX9_init_84
theorem dX8_init_0 : decode cX8_init 0 = .ok (.aload_n 0, 1) := by decide +kernel
theorem dX8_init_1 : decode cX8_init 1 = .ok (.invokespecial 3, 3) := by decide +kernel
theorem dX8_init_4 : decode cX8_init 4 = .ok (.aload_n 0, 1) := by decide +kernel
theorem dX8_init_5 : decode cX8_init 5 = .ok (.sipush 200, 3) := by decide +kernel
theorem dX8_init_8 : decode cX8_init 8 = .ok (.newarray .byte, 2) := by decide +kernel
theorem dX8_init_10 : decode cX8_init 10 = .ok (.putfield 9, 3) := by decide +kernel
theorem dX8_init_13 : decode cX8_init 13 = .ok (.aload_n 0, 1) := by decide +kernel
theorem dX8_init_14 : decode cX8_init 14 = .ok (.iconst 4, 1) := by decide +kernel
theorem dX8_init_15 : decode cX8_init 15 = .ok (.newarray .int, 2) := by decide +kernel
theorem dX8_init_17 : decode cX8_init 17 = .ok (.putfield 15, 3) := by decide +kernel
theorem dX8_init_20 : decode cX8_init 20 = .ok (.return_, 1) := by decide +kernel
abbrev at_Text (dC : Nat → ClassId) (dI : Nat → Nat → Nat) (A : Nat → Prop) (h0 : Nat) (_ : Unit) (t : State) : Prop := ∃ (q1 : Nat) (q2 : Nat) (c1 : ClassId) (c2 : ClassId), va_P (dC, dI) vwCl [(h0, .inr (7, [.ref q1, .int 0, .int 0, .int 0, .int 0, .int 0, .int 0, .ref q2])), (q1, .inl (c1, 200, .inl (fun _ => 0))), (q2, .inl (c2, 4, .inl (fun _ => 0)))] t.heap ∧ va_K (dC, dI) vwCl [(c1, .byte), (c2, .int)] t ∧ va_D A [(h0, .inr (7, [.ref q1, .int 0, .int 0, .int 0, .int 0, .int 0, .int 0, .ref q2])), (q1, .inl (c1, 200, .inl (fun _ => 0))), (q2, .inl (c2, 4, .inl (fun _ => 0)))]
set_option maxHeartbeats 4000000 in
set_option maxRecDepth 100000 in
theorem c_Text (l : Launch) (dC : Nat → ClassId) (dI : Nat → Nat → Nat) (h0 sz : Nat) : Met l yX8_init (Cond.code yX8_init cX8_init 1 none :: ws0) ({ frames := 1, cells := 2, slots := 204, locals := 12 }) (va_Pc [.ref h0] (fun U => U.heap.size = sz ∧ va_P (dC, dI) vwCl [(h0, .inr (7, [.null, .int 0, .int 0, .int 0, .int 0, .int 0, .int 0, .null]))] U.heap ∧ va_K (dC, dI) vwCl [] U ∧ va_D (fun _ => True) [(h0, .inr (7, [.null, .int 0, .int 0, .int 0, .int 0, .int 0, .int 0, .null]))])) (va_Qv (fun _ : Unit => True) (at_Text dC dI (va_A [(h0, .inr (7, [.null, .int 0, .int 0, .int 0, .int 0, .int 0, .int 0, .null]))] sz) h0) (va_A [(h0, .inr (7, [.null, .int 0, .int 0, .int 0, .int 0, .int 0, .int 0, .null]))] sz)) 2 204 (va_A [(h0, .inr (7, [.null, .int 0, .int 0, .int 0, .int 0, .int 0, .int 0, .null]))] sz) := by
  refine Met.ofW (cc := cX8_init) (maxL := 1) (ret := none) (by decide +kernel) rfl ?_
  intro p e s m args below meth c s₁ B hml hv
  obtain ⟨rfl, hsz, hP, hK, hD0⟩ := hv
  have hx := B.exec
  have hb := B.bytes
  have hr := B.returns
  have hts0 := atoms_spec (ws := Cond.code yX8_init cX8_init 1 none :: ws0) B.pre
  have hts : ∀ w ∈ ws0, w.before #[Value.ref h0] s = true := fun w hw => hts0 w (List.mem_cons_of_mem _ hw)
  have hown : s.vm.findClass RX8 = some m.cls := findClass_of_methodNamed B.named
  have hlocks := B.notSynchronized
  have hin : meth.name = "<init>" := (name_of_methodNamed B.named B.method).1
  subst hsz
  have hD := hD0.self (sz := s.heap.size)
  generalize hAe : va_A [(h0, .inr (7, [.null, .int 0, .int 0, .int 0, .int 0, .int 0, .int 0, .null]))] s.heap.size = A at hD ⊢
  have hA : ∀ q : Nat, s.heap.size ≤ q → A q := fun q h => by rw [← hAe]; exact Or.inr h
  have hS : va_S A s.heap s.heap [] := va_S.rf
  have hl := lv_entry ([.ref h0]) (n := 1) (Nat.le_of_ble_eq_true rfl)
  rw [lg_entry_eq]
  generalize (lg_sl ([.ref h0]) ++ List.replicate (1 - (lg_sl ([.ref h0])).length) Slot.unset).toArray = ls at hl ⊢
  have hl : lv_has ls 1 [(0, .ref h0)] := hl
  have hP : va_P (dC, dI) vwCl [(h0, .inr (7, [.null, .int 0, .int 0, .int 0, .int 0, .int 0, .int 0, .null]))] s.heap := hP
  refine lv_aload_n hx hb dX8_init_0 rfl (lv_at hl 0 rfl) ?_
  refine W.objInit hx hb hown (hts _ (w0m 178 (by decide +kernel) rfl)) (hts _ (w0m 91 (by decide +kernel) rfl)) (hts _ (w0m 92 (by decide +kernel) rfl)) rfl (by rw [hml]; exact hl.1) rfl dX8_init_1 (Nat.le_of_ble_eq_true rfl) (Nat.le_of_ble_eq_true rfl) ?_
  refine W.eq (g2 := F0 m 4 ls []) rfl ?_
  refine lv_aload_n hx hb dX8_init_4 rfl (lv_at hl 0 rfl) ?_
  refine lv_sipush (v := 200) hx hb dX8_init_5 (by decide) ?_
  refine va_newa (D := (dC, dI)) (atype := .byte) (a0 := (200, .inl (fun _ => 0))) (ty := .byte) hx hb (hts _ (w0m 205 (by decide +kernel) rfl)) rfl hK hP hD hS hA (fun cA => rfl) (by decide) (by decide +kernel) (by decide +kernel) (Nat.le_of_ble_eq_true rfl) (Nat.le_of_ble_eq_true rfl) dX8_init_8 (fun q1 c1 H hK hP hD hS => ?_)
  refine W.cs (cells' := 1) (slots' := 200) rfl rfl ?_
  have hP : va_P (dC, dI) vwCl [(h0, .inr (7, [.null, .int 0, .int 0, .int 0, .int 0, .int 0, .int 0, .null])), (q1, .inl (c1, 200, .inl (fun _ => 0)))] H := hP
  have hD : va_D A [(h0, .inr (7, [.null, .int 0, .int 0, .int 0, .int 0, .int 0, .int 0, .null])), (q1, .inl (c1, 200, .inl (fun _ => 0)))] := hD
  have hK : va_K (dC, dI) vwCl [(c1, .byte)] s := hK
  refine va_putF (D := (dC, dI)) (ci := 7) (v := .ref q1) (ty := .array .byte) (C := RX8) (T := TX8) (N := 8) hx hb hts (by decide +kernel) tyX8 tyX8_ok nmX8 hown hK hP hD hS 0 rfl rfl 0 (by decide) (hts _ (w0m 179 (by decide +kernel) rfl)) (fun _ h9 => h9) rfl hin rfl (by decide +kernel) rfl rfl (Nat.le_of_ble_eq_true rfl) dX8_init_10 (fun H locs hP hD hS => ?_)
  have hP : va_P (dC, dI) vwCl [(h0, .inr (7, [.ref q1, .int 0, .int 0, .int 0, .int 0, .int 0, .int 0, .null])), (q1, .inl (c1, 200, .inl (fun _ => 0)))] H := hP
  have hD : va_D A [(h0, .inr (7, [.ref q1, .int 0, .int 0, .int 0, .int 0, .int 0, .int 0, .null])), (q1, .inl (c1, 200, .inl (fun _ => 0)))] := hD
  refine lv_aload_n hx hb dX8_init_13 rfl (lv_at hl 0 rfl) ?_
  refine lv_iconst (v := 4) hx hb dX8_init_14 (by decide) ?_
  refine va_newa (D := (dC, dI)) (atype := .int) (a0 := (4, .inl (fun _ => 0))) (ty := .int) hx hb (hts _ (w0m 171 (by decide +kernel) rfl)) rfl hK hP hD hS hA (fun cA => rfl) (by decide) (by decide +kernel) (by decide +kernel) (Nat.le_of_ble_eq_true rfl) (Nat.le_of_ble_eq_true rfl) dX8_init_15 (fun q2 c2 H hK hP hD hS => ?_)
  refine W.cs (cells' := 2) (slots' := 204) rfl rfl ?_
  have hP : va_P (dC, dI) vwCl [(h0, .inr (7, [.ref q1, .int 0, .int 0, .int 0, .int 0, .int 0, .int 0, .null])), (q1, .inl (c1, 200, .inl (fun _ => 0))), (q2, .inl (c2, 4, .inl (fun _ => 0)))] H := hP
  have hD : va_D A [(h0, .inr (7, [.ref q1, .int 0, .int 0, .int 0, .int 0, .int 0, .int 0, .null])), (q1, .inl (c1, 200, .inl (fun _ => 0))), (q2, .inl (c2, 4, .inl (fun _ => 0)))] := hD
  have hK : va_K (dC, dI) vwCl [(c1, .byte), (c2, .int)] s := hK
  refine va_putF (D := (dC, dI)) (ci := 7) (v := .ref q2) (ty := .array .int) (C := RX8) (T := TX8) (N := 8) hx hb hts (by decide +kernel) tyX8 tyX8_ok nmX8 hown hK hP hD hS 0 rfl rfl 7 (by decide) (hts _ (w0m 187 (by decide +kernel) rfl)) (fun _ h9 => h9) rfl hin rfl (by decide +kernel) rfl rfl (Nat.le_of_ble_eq_true rfl) dX8_init_17 (fun H locs hP hD hS => ?_)
  have hP : va_P (dC, dI) vwCl [(h0, .inr (7, [.ref q1, .int 0, .int 0, .int 0, .int 0, .int 0, .int 0, .ref q2])), (q1, .inl (c1, 200, .inl (fun _ => 0))), (q2, .inl (c2, 4, .inl (fun _ => 0)))] H := hP
  have hD : va_D A [(h0, .inr (7, [.ref q1, .int 0, .int 0, .int 0, .int 0, .int 0, .int 0, .ref q2])), (q1, .inl (c1, 200, .inl (fun _ => 0))), (q2, .inl (c2, 4, .inl (fun _ => 0)))] := hD
  have hP9 := hP.sub (ws' := [(h0, .inr (7, [.ref q1, .int 0, .int 0, .int 0, .int 0, .int 0, .int 0, .ref q2])), (q1, .inl (c1, 200, .inl (fun _ => 0))), (q2, .inl (c2, 4, .inl (fun _ => 0)))]) [0, 1, 2] rfl
  exact W.vret hx hb hr (fun t ht hW => ⟨⟨(), rfl, trivial, q1, q2, c1, c2, by rw [ht]; exact hP9, va_K.moved hW.alike hK, hD⟩, hS.F ht⟩) hS.2.2 dX8_init_20
theorem dX4_init_0 : decode cX4_init 0 = .ok (.aload_n 0, 1) := by decide +kernel
theorem dX4_init_1 : decode cX4_init 1 = .ok (.invokespecial 1, 3) := by decide +kernel
theorem dX4_init_4 : decode cX4_init 4 = .ok (.aload_n 0, 1) := by decide +kernel
theorem dX4_init_5 : decode cX4_init 5 = .ok (.lconst 0, 1) := by decide +kernel
theorem dX4_init_6 : decode cX4_init 6 = .ok (.putfield 7, 3) := by decide +kernel
theorem dX4_init_9 : decode cX4_init 9 = .ok (.aload_n 0, 1) := by decide +kernel
theorem dX4_init_10 : decode cX4_init 10 = .ok (.lconst 1, 1) := by decide +kernel
theorem dX4_init_11 : decode cX4_init 11 = .ok (.putfield 13, 3) := by decide +kernel
theorem dX4_init_14 : decode cX4_init 14 = .ok (.return_, 1) := by decide +kernel
abbrev at_Fraction (dC : Nat → ClassId) (dI : Nat → Nat → Nat) (A : Nat → Prop) (h0 : Nat) (_ : Unit) (t : State) : Prop := va_P (dC, dI) vwCl [(h0, .inr (4, [.long 0, .long 1]))] t.heap ∧ va_K (dC, dI) vwCl [] t ∧ va_D A [(h0, .inr (4, [.long 0, .long 1]))]
set_option maxHeartbeats 4000000 in
set_option maxRecDepth 100000 in
theorem c_Fraction (l : Launch) (dC : Nat → ClassId) (dI : Nat → Nat → Nat) (h0 sz : Nat) : Met l yX4_init (Cond.code yX4_init cX4_init 1 none :: ws0) ({ frames := 1, cells := 0, slots := 0, locals := 12 }) (va_Pc [.ref h0] (fun U => U.heap.size = sz ∧ va_P (dC, dI) vwCl [(h0, .inr (4, [.long 0, .long 0]))] U.heap ∧ va_K (dC, dI) vwCl [] U ∧ va_D (fun _ => True) [(h0, .inr (4, [.long 0, .long 0]))])) (va_Qv (fun _ : Unit => True) (at_Fraction dC dI (va_A [(h0, .inr (4, [.long 0, .long 0]))] sz) h0) (va_A [(h0, .inr (4, [.long 0, .long 0]))] sz)) 0 0 (va_A [(h0, .inr (4, [.long 0, .long 0]))] sz) := by
  refine Met.ofW (cc := cX4_init) (maxL := 1) (ret := none) (by decide +kernel) rfl ?_
  intro p e s m args below meth c s₁ B hml hv
  obtain ⟨rfl, hsz, hP, hK, hD0⟩ := hv
  have hx := B.exec
  have hb := B.bytes
  have hr := B.returns
  have hts0 := atoms_spec (ws := Cond.code yX4_init cX4_init 1 none :: ws0) B.pre
  have hts : ∀ w ∈ ws0, w.before #[Value.ref h0] s = true := fun w hw => hts0 w (List.mem_cons_of_mem _ hw)
  have hown : s.vm.findClass RX4 = some m.cls := findClass_of_methodNamed B.named
  have hlocks := B.notSynchronized
  have hin : meth.name = "<init>" := (name_of_methodNamed B.named B.method).1
  subst hsz
  have hD := hD0.self (sz := s.heap.size)
  generalize hAe : va_A [(h0, .inr (4, [.long 0, .long 0]))] s.heap.size = A at hD ⊢
  have hA : ∀ q : Nat, s.heap.size ≤ q → A q := fun q h => by rw [← hAe]; exact Or.inr h
  have hS : va_S A s.heap s.heap [] := va_S.rf
  have hl := lv_entry ([.ref h0]) (n := 1) (Nat.le_of_ble_eq_true rfl)
  rw [lg_entry_eq]
  generalize (lg_sl ([.ref h0]) ++ List.replicate (1 - (lg_sl ([.ref h0])).length) Slot.unset).toArray = ls at hl ⊢
  have hl : lv_has ls 1 [(0, .ref h0)] := hl
  have hP : va_P (dC, dI) vwCl [(h0, .inr (4, [.long 0, .long 0]))] s.heap := hP
  refine lv_aload_n hx hb dX4_init_0 rfl (lv_at hl 0 rfl) ?_
  refine W.objInit hx hb hown (hts _ (w0m 211 (by decide +kernel) rfl)) (hts _ (w0m 91 (by decide +kernel) rfl)) (hts _ (w0m 92 (by decide +kernel) rfl)) rfl (by rw [hml]; exact hl.1) rfl dX4_init_1 (Nat.le_of_ble_eq_true rfl) (Nat.le_of_ble_eq_true rfl) ?_
  refine W.eq (g2 := F0 m 4 ls []) rfl ?_
  refine lv_aload_n hx hb dX4_init_4 rfl (lv_at hl 0 rfl) ?_
  refine lv_lconst (v := 0) hx hb dX4_init_5 (by decide) ?_
  refine va_put (D := (dC, dI)) (ci := 4) (v := .long 0) (ty := .long) (C := RX4) (T := TX4) (N := 2) hx hb hts (by decide +kernel) tyX4 tyX4_ok nmX4 hown hK hP hD hS 0 rfl rfl 0 (by decide) (hts _ (w0m 212 (by decide +kernel) rfl)) (fun _ h9 => h9) rfl (by decide +kernel) rfl rfl (Nat.le_of_ble_eq_true rfl) dX4_init_6 (fun H locs hP hD hS => ?_)
  have hP : va_P (dC, dI) vwCl [(h0, .inr (4, [.long 0, .long 0]))] H := hP
  have hD : va_D A [(h0, .inr (4, [.long 0, .long 0]))] := hD
  refine lv_aload_n hx hb dX4_init_9 rfl (lv_at hl 0 rfl) ?_
  refine lv_lconst (v := 1) hx hb dX4_init_10 (by decide) ?_
  refine va_put (D := (dC, dI)) (ci := 4) (v := .long 1) (ty := .long) (C := RX4) (T := TX4) (N := 2) hx hb hts (by decide +kernel) tyX4 tyX4_ok nmX4 hown hK hP hD hS 0 rfl rfl 1 (by decide) (hts _ (w0m 214 (by decide +kernel) rfl)) (fun _ h9 => h9) rfl (by decide +kernel) rfl rfl (Nat.le_of_ble_eq_true rfl) dX4_init_11 (fun H locs hP hD hS => ?_)
  have hP : va_P (dC, dI) vwCl [(h0, .inr (4, [.long 0, .long 1]))] H := hP
  have hD : va_D A [(h0, .inr (4, [.long 0, .long 1]))] := hD
  have hP9 := hP.sub (ws' := [(h0, .inr (4, [.long 0, .long 1]))]) [0] rfl
  exact W.vret hx hb hr (fun t ht hW => ⟨⟨(), rfl, trivial, by rw [ht]; exact hP9, va_K.moved hW.alike hK, hD⟩, hS.F ht⟩) hS.2.2 dX4_init_14
theorem dX1_init_0 : decode cX1_init 0 = .ok (.aload_n 0, 1) := by decide +kernel
theorem dX1_init_1 : decode cX1_init 1 = .ok (.invokespecial 3, 3) := by decide +kernel
theorem dX1_init_4 : decode cX1_init 4 = .ok (.aload_n 0, 1) := by decide +kernel
theorem dX1_init_5 : decode cX1_init 5 = .ok (.bipush 7, 2) := by decide +kernel
theorem dX1_init_7 : decode cX1_init 7 = .ok (.newarray .int, 2) := by decide +kernel
theorem dX1_init_9 : decode cX1_init 9 = .ok (.putfield 9, 3) := by decide +kernel
theorem dX1_init_12 : decode cX1_init 12 = .ok (.aload_n 0, 1) := by decide +kernel
theorem dX1_init_13 : decode cX1_init 13 = .ok (.bipush 7, 2) := by decide +kernel
theorem dX1_init_15 : decode cX1_init 15 = .ok (.newarray .int, 2) := by decide +kernel
theorem dX1_init_17 : decode cX1_init 17 = .ok (.putfield 15, 3) := by decide +kernel
theorem dX1_init_20 : decode cX1_init 20 = .ok (.return_, 1) := by decide +kernel
abbrev at_Choir (dC : Nat → ClassId) (dI : Nat → Nat → Nat) (A : Nat → Prop) (h0 : Nat) (_ : Unit) (t : State) : Prop := ∃ (q1 : Nat) (q2 : Nat) (c1 : ClassId) (c2 : ClassId), va_P (dC, dI) vwCl [(h0, .inr (1, [.ref q1, .ref q2])), (q1, .inl (c1, 7, .inl (fun _ => 0))), (q2, .inl (c2, 7, .inl (fun _ => 0)))] t.heap ∧ va_K (dC, dI) vwCl [(c1, .int), (c2, .int)] t ∧ va_D A [(h0, .inr (1, [.ref q1, .ref q2])), (q1, .inl (c1, 7, .inl (fun _ => 0))), (q2, .inl (c2, 7, .inl (fun _ => 0)))]
set_option maxHeartbeats 4000000 in
set_option maxRecDepth 100000 in
theorem c_Choir (l : Launch) (dC : Nat → ClassId) (dI : Nat → Nat → Nat) (h0 sz : Nat) : Met l yX1_init (Cond.code yX1_init cX1_init 1 none :: ws0) ({ frames := 1, cells := 2, slots := 14, locals := 12 }) (va_Pc [.ref h0] (fun U => U.heap.size = sz ∧ va_P (dC, dI) vwCl [(h0, .inr (1, [.null, .null]))] U.heap ∧ va_K (dC, dI) vwCl [] U ∧ va_D (fun _ => True) [(h0, .inr (1, [.null, .null]))])) (va_Qv (fun _ : Unit => True) (at_Choir dC dI (va_A [(h0, .inr (1, [.null, .null]))] sz) h0) (va_A [(h0, .inr (1, [.null, .null]))] sz)) 2 14 (va_A [(h0, .inr (1, [.null, .null]))] sz) := by
  refine Met.ofW (cc := cX1_init) (maxL := 1) (ret := none) (by decide +kernel) rfl ?_
  intro p e s m args below meth c s₁ B hml hv
  obtain ⟨rfl, hsz, hP, hK, hD0⟩ := hv
  have hx := B.exec
  have hb := B.bytes
  have hr := B.returns
  have hts0 := atoms_spec (ws := Cond.code yX1_init cX1_init 1 none :: ws0) B.pre
  have hts : ∀ w ∈ ws0, w.before #[Value.ref h0] s = true := fun w hw => hts0 w (List.mem_cons_of_mem _ hw)
  have hown : s.vm.findClass RX1 = some m.cls := findClass_of_methodNamed B.named
  have hlocks := B.notSynchronized
  have hin : meth.name = "<init>" := (name_of_methodNamed B.named B.method).1
  subst hsz
  have hD := hD0.self (sz := s.heap.size)
  generalize hAe : va_A [(h0, .inr (1, [.null, .null]))] s.heap.size = A at hD ⊢
  have hA : ∀ q : Nat, s.heap.size ≤ q → A q := fun q h => by rw [← hAe]; exact Or.inr h
  have hS : va_S A s.heap s.heap [] := va_S.rf
  have hl := lv_entry ([.ref h0]) (n := 1) (Nat.le_of_ble_eq_true rfl)
  rw [lg_entry_eq]
  generalize (lg_sl ([.ref h0]) ++ List.replicate (1 - (lg_sl ([.ref h0])).length) Slot.unset).toArray = ls at hl ⊢
  have hl : lv_has ls 1 [(0, .ref h0)] := hl
  have hP : va_P (dC, dI) vwCl [(h0, .inr (1, [.null, .null]))] s.heap := hP
  refine lv_aload_n hx hb dX1_init_0 rfl (lv_at hl 0 rfl) ?_
  refine W.objInit hx hb hown (hts _ (w0m 226 (by decide +kernel) rfl)) (hts _ (w0m 91 (by decide +kernel) rfl)) (hts _ (w0m 92 (by decide +kernel) rfl)) rfl (by rw [hml]; exact hl.1) rfl dX1_init_1 (Nat.le_of_ble_eq_true rfl) (Nat.le_of_ble_eq_true rfl) ?_
  refine W.eq (g2 := F0 m 4 ls []) rfl ?_
  refine lv_aload_n hx hb dX1_init_4 rfl (lv_at hl 0 rfl) ?_
  refine lv_bipush (v := 7) hx hb dX1_init_5 (by decide) ?_
  refine va_newa (D := (dC, dI)) (atype := .int) (a0 := (7, .inl (fun _ => 0))) (ty := .int) hx hb (hts _ (w0m 171 (by decide +kernel) rfl)) rfl hK hP hD hS hA (fun cA => rfl) (by decide) (by decide +kernel) (by decide +kernel) (Nat.le_of_ble_eq_true rfl) (Nat.le_of_ble_eq_true rfl) dX1_init_7 (fun q1 c1 H hK hP hD hS => ?_)
  refine W.cs (cells' := 1) (slots' := 7) rfl rfl ?_
  have hP : va_P (dC, dI) vwCl [(h0, .inr (1, [.null, .null])), (q1, .inl (c1, 7, .inl (fun _ => 0)))] H := hP
  have hD : va_D A [(h0, .inr (1, [.null, .null])), (q1, .inl (c1, 7, .inl (fun _ => 0)))] := hD
  have hK : va_K (dC, dI) vwCl [(c1, .int)] s := hK
  refine va_putF (D := (dC, dI)) (ci := 1) (v := .ref q1) (ty := .array .int) (C := RX1) (T := TX1) (N := 2) hx hb hts (by decide +kernel) tyX1 tyX1_ok nmX1 hown hK hP hD hS 0 rfl rfl 0 (by decide) (hts _ (w0m 227 (by decide +kernel) rfl)) (fun _ h9 => h9) rfl hin rfl (by decide +kernel) rfl rfl (Nat.le_of_ble_eq_true rfl) dX1_init_9 (fun H locs hP hD hS => ?_)
  have hP : va_P (dC, dI) vwCl [(h0, .inr (1, [.ref q1, .null])), (q1, .inl (c1, 7, .inl (fun _ => 0)))] H := hP
  have hD : va_D A [(h0, .inr (1, [.ref q1, .null])), (q1, .inl (c1, 7, .inl (fun _ => 0)))] := hD
  refine lv_aload_n hx hb dX1_init_12 rfl (lv_at hl 0 rfl) ?_
  refine lv_bipush (v := 7) hx hb dX1_init_13 (by decide) ?_
  refine va_newa (D := (dC, dI)) (atype := .int) (a0 := (7, .inl (fun _ => 0))) (ty := .int) hx hb (hts _ (w0m 171 (by decide +kernel) rfl)) rfl hK hP hD hS hA (fun cA => rfl) (by decide) (by decide +kernel) (by decide +kernel) (Nat.le_of_ble_eq_true rfl) (Nat.le_of_ble_eq_true rfl) dX1_init_15 (fun q2 c2 H hK hP hD hS => ?_)
  refine W.cs (cells' := 2) (slots' := 14) rfl rfl ?_
  have hP : va_P (dC, dI) vwCl [(h0, .inr (1, [.ref q1, .null])), (q1, .inl (c1, 7, .inl (fun _ => 0))), (q2, .inl (c2, 7, .inl (fun _ => 0)))] H := hP
  have hD : va_D A [(h0, .inr (1, [.ref q1, .null])), (q1, .inl (c1, 7, .inl (fun _ => 0))), (q2, .inl (c2, 7, .inl (fun _ => 0)))] := hD
  have hK : va_K (dC, dI) vwCl [(c1, .int), (c2, .int)] s := hK
  refine va_putF (D := (dC, dI)) (ci := 1) (v := .ref q2) (ty := .array .int) (C := RX1) (T := TX1) (N := 2) hx hb hts (by decide +kernel) tyX1 tyX1_ok nmX1 hown hK hP hD hS 0 rfl rfl 1 (by decide) (hts _ (w0m 228 (by decide +kernel) rfl)) (fun _ h9 => h9) rfl hin rfl (by decide +kernel) rfl rfl (Nat.le_of_ble_eq_true rfl) dX1_init_17 (fun H locs hP hD hS => ?_)
  have hP : va_P (dC, dI) vwCl [(h0, .inr (1, [.ref q1, .ref q2])), (q1, .inl (c1, 7, .inl (fun _ => 0))), (q2, .inl (c2, 7, .inl (fun _ => 0)))] H := hP
  have hD : va_D A [(h0, .inr (1, [.ref q1, .ref q2])), (q1, .inl (c1, 7, .inl (fun _ => 0))), (q2, .inl (c2, 7, .inl (fun _ => 0)))] := hD
  have hP9 := hP.sub (ws' := [(h0, .inr (1, [.ref q1, .ref q2])), (q1, .inl (c1, 7, .inl (fun _ => 0))), (q2, .inl (c2, 7, .inl (fun _ => 0)))]) [0, 1, 2] rfl
  exact W.vret hx hb hr (fun t ht hW => ⟨⟨(), rfl, trivial, q1, q2, c1, c2, by rw [ht]; exact hP9, va_K.moved hW.alike hK, hD⟩, hS.F ht⟩) hS.2.2 dX1_init_20
theorem dX2_init_0 : decode cX2_init 0 = .ok (.aload_n 0, 1) := by decide +kernel
theorem dX2_init_1 : decode cX2_init 1 = .ok (.invokespecial 3, 3) := by decide +kernel
theorem dX2_init_4 : decode cX2_init 4 = .ok (.aload_n 0, 1) := by decide +kernel
theorem dX2_init_5 : decode cX2_init 5 = .ok (.bipush 36, 2) := by decide +kernel
theorem dX2_init_7 : decode cX2_init 7 = .ok (.newarray .int, 2) := by decide +kernel
theorem dX2_init_9 : decode cX2_init 9 = .ok (.putfield 9, 3) := by decide +kernel
theorem dX2_init_12 : decode cX2_init 12 = .ok (.return_, 1) := by decide +kernel
abbrev at_Errand (dC : Nat → ClassId) (dI : Nat → Nat → Nat) (A : Nat → Prop) (h0 : Nat) (_ : Unit) (t : State) : Prop := ∃ (q1 : Nat) (c1 : ClassId), va_P (dC, dI) vwCl [(h0, .inr (2, [.ref q1, .int 0, .int 0, .int 0])), (q1, .inl (c1, 36, .inl (fun _ => 0)))] t.heap ∧ va_K (dC, dI) vwCl [(c1, .int)] t ∧ va_D A [(h0, .inr (2, [.ref q1, .int 0, .int 0, .int 0])), (q1, .inl (c1, 36, .inl (fun _ => 0)))]
set_option maxHeartbeats 4000000 in
set_option maxRecDepth 100000 in
theorem c_Errand (l : Launch) (dC : Nat → ClassId) (dI : Nat → Nat → Nat) (h0 sz : Nat) : Met l yX2_init (Cond.code yX2_init cX2_init 1 none :: ws0) ({ frames := 1, cells := 1, slots := 36, locals := 12 }) (va_Pc [.ref h0] (fun U => U.heap.size = sz ∧ va_P (dC, dI) vwCl [(h0, .inr (2, [.null, .int 0, .int 0, .int 0]))] U.heap ∧ va_K (dC, dI) vwCl [] U ∧ va_D (fun _ => True) [(h0, .inr (2, [.null, .int 0, .int 0, .int 0]))])) (va_Qv (fun _ : Unit => True) (at_Errand dC dI (va_A [(h0, .inr (2, [.null, .int 0, .int 0, .int 0]))] sz) h0) (va_A [(h0, .inr (2, [.null, .int 0, .int 0, .int 0]))] sz)) 1 36 (va_A [(h0, .inr (2, [.null, .int 0, .int 0, .int 0]))] sz) := by
  refine Met.ofW (cc := cX2_init) (maxL := 1) (ret := none) (by decide +kernel) rfl ?_
  intro p e s m args below meth c s₁ B hml hv
  obtain ⟨rfl, hsz, hP, hK, hD0⟩ := hv
  have hx := B.exec
  have hb := B.bytes
  have hr := B.returns
  have hts0 := atoms_spec (ws := Cond.code yX2_init cX2_init 1 none :: ws0) B.pre
  have hts : ∀ w ∈ ws0, w.before #[Value.ref h0] s = true := fun w hw => hts0 w (List.mem_cons_of_mem _ hw)
  have hown : s.vm.findClass RX2 = some m.cls := findClass_of_methodNamed B.named
  have hlocks := B.notSynchronized
  have hin : meth.name = "<init>" := (name_of_methodNamed B.named B.method).1
  subst hsz
  have hD := hD0.self (sz := s.heap.size)
  generalize hAe : va_A [(h0, .inr (2, [.null, .int 0, .int 0, .int 0]))] s.heap.size = A at hD ⊢
  have hA : ∀ q : Nat, s.heap.size ≤ q → A q := fun q h => by rw [← hAe]; exact Or.inr h
  have hS : va_S A s.heap s.heap [] := va_S.rf
  have hl := lv_entry ([.ref h0]) (n := 1) (Nat.le_of_ble_eq_true rfl)
  rw [lg_entry_eq]
  generalize (lg_sl ([.ref h0]) ++ List.replicate (1 - (lg_sl ([.ref h0])).length) Slot.unset).toArray = ls at hl ⊢
  have hl : lv_has ls 1 [(0, .ref h0)] := hl
  have hP : va_P (dC, dI) vwCl [(h0, .inr (2, [.null, .int 0, .int 0, .int 0]))] s.heap := hP
  refine lv_aload_n hx hb dX2_init_0 rfl (lv_at hl 0 rfl) ?_
  refine W.objInit hx hb hown (hts _ (w0m 239 (by decide +kernel) rfl)) (hts _ (w0m 91 (by decide +kernel) rfl)) (hts _ (w0m 92 (by decide +kernel) rfl)) rfl (by rw [hml]; exact hl.1) rfl dX2_init_1 (Nat.le_of_ble_eq_true rfl) (Nat.le_of_ble_eq_true rfl) ?_
  refine W.eq (g2 := F0 m 4 ls []) rfl ?_
  refine lv_aload_n hx hb dX2_init_4 rfl (lv_at hl 0 rfl) ?_
  refine lv_bipush (v := 36) hx hb dX2_init_5 (by decide) ?_
  refine va_newa (D := (dC, dI)) (atype := .int) (a0 := (36, .inl (fun _ => 0))) (ty := .int) hx hb (hts _ (w0m 171 (by decide +kernel) rfl)) rfl hK hP hD hS hA (fun cA => rfl) (by decide) (by decide +kernel) (by decide +kernel) (Nat.le_of_ble_eq_true rfl) (Nat.le_of_ble_eq_true rfl) dX2_init_7 (fun q1 c1 H hK hP hD hS => ?_)
  refine W.cs (cells' := 1) (slots' := 36) rfl rfl ?_
  have hP : va_P (dC, dI) vwCl [(h0, .inr (2, [.null, .int 0, .int 0, .int 0])), (q1, .inl (c1, 36, .inl (fun _ => 0)))] H := hP
  have hD : va_D A [(h0, .inr (2, [.null, .int 0, .int 0, .int 0])), (q1, .inl (c1, 36, .inl (fun _ => 0)))] := hD
  have hK : va_K (dC, dI) vwCl [(c1, .int)] s := hK
  refine va_putF (D := (dC, dI)) (ci := 2) (v := .ref q1) (ty := .array .int) (C := RX2) (T := TX2) (N := 4) hx hb hts (by decide +kernel) tyX2 tyX2_ok nmX2 hown hK hP hD hS 0 rfl rfl 0 (by decide) (hts _ (w0m 240 (by decide +kernel) rfl)) (fun _ h9 => h9) rfl hin rfl (by decide +kernel) rfl rfl (Nat.le_of_ble_eq_true rfl) dX2_init_9 (fun H locs hP hD hS => ?_)
  have hP : va_P (dC, dI) vwCl [(h0, .inr (2, [.ref q1, .int 0, .int 0, .int 0])), (q1, .inl (c1, 36, .inl (fun _ => 0)))] H := hP
  have hD : va_D A [(h0, .inr (2, [.ref q1, .int 0, .int 0, .int 0])), (q1, .inl (c1, 36, .inl (fun _ => 0)))] := hD
  have hP9 := hP.sub (ws' := [(h0, .inr (2, [.ref q1, .int 0, .int 0, .int 0])), (q1, .inl (c1, 36, .inl (fun _ => 0)))]) [0, 1] rfl
  exact W.vret hx hb hr (fun t ht hW => ⟨⟨(), rfl, trivial, q1, c1, by rw [ht]; exact hP9, va_K.moved hW.alike hK, hD⟩, hS.F ht⟩) hS.2.2 dX2_init_12
theorem dX3_init_0 : decode cX3_init 0 = .ok (.aload_n 0, 1) := by decide +kernel
theorem dX3_init_1 : decode cX3_init 1 = .ok (.invokespecial 3, 3) := by decide +kernel
theorem dX3_init_4 : decode cX3_init 4 = .ok (.aload_n 0, 1) := by decide +kernel
theorem dX3_init_5 : decode cX3_init 5 = .ok (.bipush 8, 2) := by decide +kernel
theorem dX3_init_7 : decode cX3_init 7 = .ok (.newarray .int, 2) := by decide +kernel
theorem dX3_init_9 : decode cX3_init 9 = .ok (.putfield 9, 3) := by decide +kernel
theorem dX3_init_12 : decode cX3_init 12 = .ok (.return_, 1) := by decide +kernel
abbrev at_Fog (dC : Nat → ClassId) (dI : Nat → Nat → Nat) (A : Nat → Prop) (h0 : Nat) (_ : Unit) (t : State) : Prop := ∃ (q1 : Nat) (c1 : ClassId), va_P (dC, dI) vwCl [(h0, .inr (3, [.ref q1])), (q1, .inl (c1, 8, .inl (fun _ => 0)))] t.heap ∧ va_K (dC, dI) vwCl [(c1, .int)] t ∧ va_D A [(h0, .inr (3, [.ref q1])), (q1, .inl (c1, 8, .inl (fun _ => 0)))]
set_option maxHeartbeats 4000000 in
set_option maxRecDepth 100000 in
theorem c_Fog (l : Launch) (dC : Nat → ClassId) (dI : Nat → Nat → Nat) (h0 sz : Nat) : Met l yX3_init (Cond.code yX3_init cX3_init 1 none :: ws0) ({ frames := 1, cells := 1, slots := 8, locals := 12 }) (va_Pc [.ref h0] (fun U => U.heap.size = sz ∧ va_P (dC, dI) vwCl [(h0, .inr (3, [.null]))] U.heap ∧ va_K (dC, dI) vwCl [] U ∧ va_D (fun _ => True) [(h0, .inr (3, [.null]))])) (va_Qv (fun _ : Unit => True) (at_Fog dC dI (va_A [(h0, .inr (3, [.null]))] sz) h0) (va_A [(h0, .inr (3, [.null]))] sz)) 1 8 (va_A [(h0, .inr (3, [.null]))] sz) := by
  refine Met.ofW (cc := cX3_init) (maxL := 1) (ret := none) (by decide +kernel) rfl ?_
  intro p e s m args below meth c s₁ B hml hv
  obtain ⟨rfl, hsz, hP, hK, hD0⟩ := hv
  have hx := B.exec
  have hb := B.bytes
  have hr := B.returns
  have hts0 := atoms_spec (ws := Cond.code yX3_init cX3_init 1 none :: ws0) B.pre
  have hts : ∀ w ∈ ws0, w.before #[Value.ref h0] s = true := fun w hw => hts0 w (List.mem_cons_of_mem _ hw)
  have hown : s.vm.findClass RX3 = some m.cls := findClass_of_methodNamed B.named
  have hlocks := B.notSynchronized
  have hin : meth.name = "<init>" := (name_of_methodNamed B.named B.method).1
  subst hsz
  have hD := hD0.self (sz := s.heap.size)
  generalize hAe : va_A [(h0, .inr (3, [.null]))] s.heap.size = A at hD ⊢
  have hA : ∀ q : Nat, s.heap.size ≤ q → A q := fun q h => by rw [← hAe]; exact Or.inr h
  have hS : va_S A s.heap s.heap [] := va_S.rf
  have hl := lv_entry ([.ref h0]) (n := 1) (Nat.le_of_ble_eq_true rfl)
  rw [lg_entry_eq]
  generalize (lg_sl ([.ref h0]) ++ List.replicate (1 - (lg_sl ([.ref h0])).length) Slot.unset).toArray = ls at hl ⊢
  have hl : lv_has ls 1 [(0, .ref h0)] := hl
  have hP : va_P (dC, dI) vwCl [(h0, .inr (3, [.null]))] s.heap := hP
  refine lv_aload_n hx hb dX3_init_0 rfl (lv_at hl 0 rfl) ?_
  refine W.objInit hx hb hown (hts _ (w0m 261 (by decide +kernel) rfl)) (hts _ (w0m 91 (by decide +kernel) rfl)) (hts _ (w0m 92 (by decide +kernel) rfl)) rfl (by rw [hml]; exact hl.1) rfl dX3_init_1 (Nat.le_of_ble_eq_true rfl) (Nat.le_of_ble_eq_true rfl) ?_
  refine W.eq (g2 := F0 m 4 ls []) rfl ?_
  refine lv_aload_n hx hb dX3_init_4 rfl (lv_at hl 0 rfl) ?_
  refine lv_bipush (v := 8) hx hb dX3_init_5 (by decide) ?_
  refine va_newa (D := (dC, dI)) (atype := .int) (a0 := (8, .inl (fun _ => 0))) (ty := .int) hx hb (hts _ (w0m 171 (by decide +kernel) rfl)) rfl hK hP hD hS hA (fun cA => rfl) (by decide) (by decide +kernel) (by decide +kernel) (Nat.le_of_ble_eq_true rfl) (Nat.le_of_ble_eq_true rfl) dX3_init_7 (fun q1 c1 H hK hP hD hS => ?_)
  refine W.cs (cells' := 1) (slots' := 8) rfl rfl ?_
  have hP : va_P (dC, dI) vwCl [(h0, .inr (3, [.null])), (q1, .inl (c1, 8, .inl (fun _ => 0)))] H := hP
  have hD : va_D A [(h0, .inr (3, [.null])), (q1, .inl (c1, 8, .inl (fun _ => 0)))] := hD
  have hK : va_K (dC, dI) vwCl [(c1, .int)] s := hK
  refine va_putF (D := (dC, dI)) (ci := 3) (v := .ref q1) (ty := .array .int) (C := RX3) (T := TX3) (N := 1) hx hb hts (by decide +kernel) tyX3 tyX3_ok nmX3 hown hK hP hD hS 0 rfl rfl 0 (by decide) (hts _ (w0m 262 (by decide +kernel) rfl)) (fun _ h9 => h9) rfl hin rfl (by decide +kernel) rfl rfl (Nat.le_of_ble_eq_true rfl) dX3_init_9 (fun H locs hP hD hS => ?_)
  have hP : va_P (dC, dI) vwCl [(h0, .inr (3, [.ref q1])), (q1, .inl (c1, 8, .inl (fun _ => 0)))] H := hP
  have hD : va_D A [(h0, .inr (3, [.ref q1])), (q1, .inl (c1, 8, .inl (fun _ => 0)))] := hD
  have hP9 := hP.sub (ws' := [(h0, .inr (3, [.ref q1])), (q1, .inl (c1, 8, .inl (fun _ => 0)))]) [0, 1] rfl
  exact W.vret hx hb hr (fun t ht hW => ⟨⟨(), rfl, trivial, q1, c1, by rw [ht]; exact hP9, va_K.moved hW.alike hK, hD⟩, hS.F ht⟩) hS.2.2 dX3_init_12
theorem dX7_init_0 : decode cX7_init 0 = .ok (.aload_n 0, 1) := by decide +kernel
theorem dX7_init_1 : decode cX7_init 1 = .ok (.invokespecial 3, 3) := by decide +kernel
theorem dX7_init_4 : decode cX7_init 4 = .ok (.aload_n 0, 1) := by decide +kernel
theorem dX7_init_5 : decode cX7_init 5 = .ok (.bipush 6, 2) := by decide +kernel
theorem dX7_init_7 : decode cX7_init 7 = .ok (.newarray .int, 2) := by decide +kernel
theorem dX7_init_9 : decode cX7_init 9 = .ok (.putfield 9, 3) := by decide +kernel
theorem dX7_init_12 : decode cX7_init 12 = .ok (.return_, 1) := by decide +kernel
abbrev at_Rumour (dC : Nat → ClassId) (dI : Nat → Nat → Nat) (A : Nat → Prop) (h0 : Nat) (_ : Unit) (t : State) : Prop := ∃ (q1 : Nat) (c1 : ClassId), va_P (dC, dI) vwCl [(h0, .inr (6, [.ref q1, .int 0, .int 0])), (q1, .inl (c1, 6, .inl (fun _ => 0)))] t.heap ∧ va_K (dC, dI) vwCl [(c1, .int)] t ∧ va_D A [(h0, .inr (6, [.ref q1, .int 0, .int 0])), (q1, .inl (c1, 6, .inl (fun _ => 0)))]
set_option maxHeartbeats 4000000 in
set_option maxRecDepth 100000 in
theorem c_Rumour (l : Launch) (dC : Nat → ClassId) (dI : Nat → Nat → Nat) (h0 sz : Nat) : Met l yX7_init (Cond.code yX7_init cX7_init 1 none :: ws0) ({ frames := 1, cells := 1, slots := 6, locals := 12 }) (va_Pc [.ref h0] (fun U => U.heap.size = sz ∧ va_P (dC, dI) vwCl [(h0, .inr (6, [.null, .int 0, .int 0]))] U.heap ∧ va_K (dC, dI) vwCl [] U ∧ va_D (fun _ => True) [(h0, .inr (6, [.null, .int 0, .int 0]))])) (va_Qv (fun _ : Unit => True) (at_Rumour dC dI (va_A [(h0, .inr (6, [.null, .int 0, .int 0]))] sz) h0) (va_A [(h0, .inr (6, [.null, .int 0, .int 0]))] sz)) 1 6 (va_A [(h0, .inr (6, [.null, .int 0, .int 0]))] sz) := by
  refine Met.ofW (cc := cX7_init) (maxL := 1) (ret := none) (by decide +kernel) rfl ?_
  intro p e s m args below meth c s₁ B hml hv
  obtain ⟨rfl, hsz, hP, hK, hD0⟩ := hv
  have hx := B.exec
  have hb := B.bytes
  have hr := B.returns
  have hts0 := atoms_spec (ws := Cond.code yX7_init cX7_init 1 none :: ws0) B.pre
  have hts : ∀ w ∈ ws0, w.before #[Value.ref h0] s = true := fun w hw => hts0 w (List.mem_cons_of_mem _ hw)
  have hown : s.vm.findClass RX7 = some m.cls := findClass_of_methodNamed B.named
  have hlocks := B.notSynchronized
  have hin : meth.name = "<init>" := (name_of_methodNamed B.named B.method).1
  subst hsz
  have hD := hD0.self (sz := s.heap.size)
  generalize hAe : va_A [(h0, .inr (6, [.null, .int 0, .int 0]))] s.heap.size = A at hD ⊢
  have hA : ∀ q : Nat, s.heap.size ≤ q → A q := fun q h => by rw [← hAe]; exact Or.inr h
  have hS : va_S A s.heap s.heap [] := va_S.rf
  have hl := lv_entry ([.ref h0]) (n := 1) (Nat.le_of_ble_eq_true rfl)
  rw [lg_entry_eq]
  generalize (lg_sl ([.ref h0]) ++ List.replicate (1 - (lg_sl ([.ref h0])).length) Slot.unset).toArray = ls at hl ⊢
  have hl : lv_has ls 1 [(0, .ref h0)] := hl
  have hP : va_P (dC, dI) vwCl [(h0, .inr (6, [.null, .int 0, .int 0]))] s.heap := hP
  refine lv_aload_n hx hb dX7_init_0 rfl (lv_at hl 0 rfl) ?_
  refine W.objInit hx hb hown (hts _ (w0m 271 (by decide +kernel) rfl)) (hts _ (w0m 91 (by decide +kernel) rfl)) (hts _ (w0m 92 (by decide +kernel) rfl)) rfl (by rw [hml]; exact hl.1) rfl dX7_init_1 (Nat.le_of_ble_eq_true rfl) (Nat.le_of_ble_eq_true rfl) ?_
  refine W.eq (g2 := F0 m 4 ls []) rfl ?_
  refine lv_aload_n hx hb dX7_init_4 rfl (lv_at hl 0 rfl) ?_
  refine lv_bipush (v := 6) hx hb dX7_init_5 (by decide) ?_
  refine va_newa (D := (dC, dI)) (atype := .int) (a0 := (6, .inl (fun _ => 0))) (ty := .int) hx hb (hts _ (w0m 171 (by decide +kernel) rfl)) rfl hK hP hD hS hA (fun cA => rfl) (by decide) (by decide +kernel) (by decide +kernel) (Nat.le_of_ble_eq_true rfl) (Nat.le_of_ble_eq_true rfl) dX7_init_7 (fun q1 c1 H hK hP hD hS => ?_)
  refine W.cs (cells' := 1) (slots' := 6) rfl rfl ?_
  have hP : va_P (dC, dI) vwCl [(h0, .inr (6, [.null, .int 0, .int 0])), (q1, .inl (c1, 6, .inl (fun _ => 0)))] H := hP
  have hD : va_D A [(h0, .inr (6, [.null, .int 0, .int 0])), (q1, .inl (c1, 6, .inl (fun _ => 0)))] := hD
  have hK : va_K (dC, dI) vwCl [(c1, .int)] s := hK
  refine va_putF (D := (dC, dI)) (ci := 6) (v := .ref q1) (ty := .array .int) (C := RX7) (T := TX7) (N := 3) hx hb hts (by decide +kernel) tyX7 tyX7_ok nmX7 hown hK hP hD hS 0 rfl rfl 0 (by decide) (hts _ (w0m 272 (by decide +kernel) rfl)) (fun _ h9 => h9) rfl hin rfl (by decide +kernel) rfl rfl (Nat.le_of_ble_eq_true rfl) dX7_init_9 (fun H locs hP hD hS => ?_)
  have hP : va_P (dC, dI) vwCl [(h0, .inr (6, [.ref q1, .int 0, .int 0])), (q1, .inl (c1, 6, .inl (fun _ => 0)))] H := hP
  have hD : va_D A [(h0, .inr (6, [.ref q1, .int 0, .int 0])), (q1, .inl (c1, 6, .inl (fun _ => 0)))] := hD
  have hP9 := hP.sub (ws' := [(h0, .inr (6, [.ref q1, .int 0, .int 0])), (q1, .inl (c1, 6, .inl (fun _ => 0)))]) [0, 1] rfl
  exact W.vret hx hb hr (fun t ht hW => ⟨⟨(), rfl, trivial, q1, c1, by rw [ht]; exact hP9, va_K.moved hW.alike hK, hD⟩, hS.F ht⟩) hS.2.2 dX7_init_12
theorem dX5_init_0 : decode cX5_init 0 = .ok (.aload_n 0, 1) := by decide +kernel
theorem dX5_init_1 : decode cX5_init 1 = .ok (.invokespecial 3, 3) := by decide +kernel
theorem dX5_init_4 : decode cX5_init 4 = .ok (.aload_n 0, 1) := by decide +kernel
theorem dX5_init_5 : decode cX5_init 5 = .ok (.bipush 8, 2) := by decide +kernel
theorem dX5_init_7 : decode cX5_init 7 = .ok (.newarray .long, 2) := by decide +kernel
theorem dX5_init_9 : decode cX5_init 9 = .ok (.putfield 9, 3) := by decide +kernel
theorem dX5_init_12 : decode cX5_init 12 = .ok (.return_, 1) := by decide +kernel
abbrev at_Guess (dC : Nat → ClassId) (dI : Nat → Nat → Nat) (A : Nat → Prop) (h0 : Nat) (_ : Unit) (t : State) : Prop := ∃ (q1 : Nat) (c1 : ClassId), va_P (dC, dI) vwCl [(h0, .inr (5, [.ref q1])), (q1, .inl (c1, 8, .inr (.inl (fun _ => 0))))] t.heap ∧ va_K (dC, dI) vwCl [(c1, .long)] t ∧ va_D A [(h0, .inr (5, [.ref q1])), (q1, .inl (c1, 8, .inr (.inl (fun _ => 0))))]
set_option maxHeartbeats 4000000 in
set_option maxRecDepth 100000 in
theorem c_Guess (l : Launch) (dC : Nat → ClassId) (dI : Nat → Nat → Nat) (h0 sz : Nat) : Met l yX5_init (Cond.code yX5_init cX5_init 1 none :: ws0) ({ frames := 1, cells := 1, slots := 8, locals := 12 }) (va_Pc [.ref h0] (fun U => U.heap.size = sz ∧ va_P (dC, dI) vwCl [(h0, .inr (5, [.null]))] U.heap ∧ va_K (dC, dI) vwCl [] U ∧ va_D (fun _ => True) [(h0, .inr (5, [.null]))])) (va_Qv (fun _ : Unit => True) (at_Guess dC dI (va_A [(h0, .inr (5, [.null]))] sz) h0) (va_A [(h0, .inr (5, [.null]))] sz)) 1 8 (va_A [(h0, .inr (5, [.null]))] sz) := by
  refine Met.ofW (cc := cX5_init) (maxL := 1) (ret := none) (by decide +kernel) rfl ?_
  intro p e s m args below meth c s₁ B hml hv
  obtain ⟨rfl, hsz, hP, hK, hD0⟩ := hv
  have hx := B.exec
  have hb := B.bytes
  have hr := B.returns
  have hts0 := atoms_spec (ws := Cond.code yX5_init cX5_init 1 none :: ws0) B.pre
  have hts : ∀ w ∈ ws0, w.before #[Value.ref h0] s = true := fun w hw => hts0 w (List.mem_cons_of_mem _ hw)
  have hown : s.vm.findClass RX5 = some m.cls := findClass_of_methodNamed B.named
  have hlocks := B.notSynchronized
  have hin : meth.name = "<init>" := (name_of_methodNamed B.named B.method).1
  subst hsz
  have hD := hD0.self (sz := s.heap.size)
  generalize hAe : va_A [(h0, .inr (5, [.null]))] s.heap.size = A at hD ⊢
  have hA : ∀ q : Nat, s.heap.size ≤ q → A q := fun q h => by rw [← hAe]; exact Or.inr h
  have hS : va_S A s.heap s.heap [] := va_S.rf
  have hl := lv_entry ([.ref h0]) (n := 1) (Nat.le_of_ble_eq_true rfl)
  rw [lg_entry_eq]
  generalize (lg_sl ([.ref h0]) ++ List.replicate (1 - (lg_sl ([.ref h0])).length) Slot.unset).toArray = ls at hl ⊢
  have hl : lv_has ls 1 [(0, .ref h0)] := hl
  have hP : va_P (dC, dI) vwCl [(h0, .inr (5, [.null]))] s.heap := hP
  refine lv_aload_n hx hb dX5_init_0 rfl (lv_at hl 0 rfl) ?_
  refine W.objInit hx hb hown (hts _ (w0m 287 (by decide +kernel) rfl)) (hts _ (w0m 91 (by decide +kernel) rfl)) (hts _ (w0m 92 (by decide +kernel) rfl)) rfl (by rw [hml]; exact hl.1) rfl dX5_init_1 (Nat.le_of_ble_eq_true rfl) (Nat.le_of_ble_eq_true rfl) ?_
  refine W.eq (g2 := F0 m 4 ls []) rfl ?_
  refine lv_aload_n hx hb dX5_init_4 rfl (lv_at hl 0 rfl) ?_
  refine lv_bipush (v := 8) hx hb dX5_init_5 (by decide) ?_
  refine va_newa (D := (dC, dI)) (atype := .long) (a0 := (8, .inr (.inl (fun _ => 0)))) (ty := .long) hx hb (hts _ (w0m 292 (by decide +kernel) rfl)) rfl hK hP hD hS hA (fun cA => rfl) (by decide) (by decide +kernel) (by decide +kernel) (Nat.le_of_ble_eq_true rfl) (Nat.le_of_ble_eq_true rfl) dX5_init_7 (fun q1 c1 H hK hP hD hS => ?_)
  refine W.cs (cells' := 1) (slots' := 8) rfl rfl ?_
  have hP : va_P (dC, dI) vwCl [(h0, .inr (5, [.null])), (q1, .inl (c1, 8, .inr (.inl (fun _ => 0))))] H := hP
  have hD : va_D A [(h0, .inr (5, [.null])), (q1, .inl (c1, 8, .inr (.inl (fun _ => 0))))] := hD
  have hK : va_K (dC, dI) vwCl [(c1, .long)] s := hK
  refine va_putF (D := (dC, dI)) (ci := 5) (v := .ref q1) (ty := .array .long) (C := RX5) (T := TX5) (N := 1) hx hb hts (by decide +kernel) tyX5 tyX5_ok nmX5 hown hK hP hD hS 0 rfl rfl 0 (by decide) (hts _ (w0m 288 (by decide +kernel) rfl)) (fun _ h9 => h9) rfl hin rfl (by decide +kernel) rfl rfl (Nat.le_of_ble_eq_true rfl) dX5_init_9 (fun H locs hP hD hS => ?_)
  have hP : va_P (dC, dI) vwCl [(h0, .inr (5, [.ref q1])), (q1, .inl (c1, 8, .inr (.inl (fun _ => 0))))] H := hP
  have hD : va_D A [(h0, .inr (5, [.ref q1])), (q1, .inl (c1, 8, .inr (.inl (fun _ => 0))))] := hD
  have hP9 := hP.sub (ws' := [(h0, .inr (5, [.ref q1])), (q1, .inl (c1, 8, .inr (.inl (fun _ => 0))))]) [0, 1] rfl
  exact W.vret hx hb hr (fun t ht hW => ⟨⟨(), rfl, trivial, q1, c1, by rw [ht]; exact hP9, va_K.moved hW.alike hK, hD⟩, hS.F ht⟩) hS.2.2 dX5_init_12
theorem dX0_init_0 : decode cX0_init 0 = .ok (.aload_n 0, 1) := by decide +kernel
theorem dX0_init_1 : decode cX0_init 1 = .ok (.invokespecial 3, 3) := by decide +kernel
theorem dX0_init_4 : decode cX0_init 4 = .ok (.aload_n 0, 1) := by decide +kernel
theorem dX0_init_5 : decode cX0_init 5 = .ok (.sipush 896, 3) := by decide +kernel
theorem dX0_init_8 : decode cX0_init 8 = .ok (.newarray .int, 2) := by decide +kernel
theorem dX0_init_10 : decode cX0_init 10 = .ok (.putfield 9, 3) := by decide +kernel
theorem dX0_init_13 : decode cX0_init 13 = .ok (.aload_n 0, 1) := by decide +kernel
theorem dX0_init_14 : decode cX0_init 14 = .ok (.bipush 7, 2) := by decide +kernel
theorem dX0_init_16 : decode cX0_init 16 = .ok (.newarray .int, 2) := by decide +kernel
theorem dX0_init_18 : decode cX0_init 18 = .ok (.putfield 15, 3) := by decide +kernel
theorem dX0_init_21 : decode cX0_init 21 = .ok (.return_, 1) := by decide +kernel
abbrev at_Chant (dC : Nat → ClassId) (dI : Nat → Nat → Nat) (A : Nat → Prop) (h0 : Nat) (_ : Unit) (t : State) : Prop := ∃ (q1 : Nat) (q2 : Nat) (c1 : ClassId) (c2 : ClassId), va_P (dC, dI) vwCl [(h0, .inr (0, [.ref q1, .ref q2, .int 0])), (q1, .inl (c1, 896, .inl (fun _ => 0))), (q2, .inl (c2, 7, .inl (fun _ => 0)))] t.heap ∧ va_K (dC, dI) vwCl [(c1, .int), (c2, .int)] t ∧ va_D A [(h0, .inr (0, [.ref q1, .ref q2, .int 0])), (q1, .inl (c1, 896, .inl (fun _ => 0))), (q2, .inl (c2, 7, .inl (fun _ => 0)))]
set_option maxHeartbeats 4000000 in
set_option maxRecDepth 100000 in
theorem c_Chant (l : Launch) (dC : Nat → ClassId) (dI : Nat → Nat → Nat) (h0 sz : Nat) : Met l yX0_init (Cond.code yX0_init cX0_init 1 none :: ws0) ({ frames := 1, cells := 2, slots := 903, locals := 12 }) (va_Pc [.ref h0] (fun U => U.heap.size = sz ∧ va_P (dC, dI) vwCl [(h0, .inr (0, [.null, .null, .int 0]))] U.heap ∧ va_K (dC, dI) vwCl [] U ∧ va_D (fun _ => True) [(h0, .inr (0, [.null, .null, .int 0]))])) (va_Qv (fun _ : Unit => True) (at_Chant dC dI (va_A [(h0, .inr (0, [.null, .null, .int 0]))] sz) h0) (va_A [(h0, .inr (0, [.null, .null, .int 0]))] sz)) 2 903 (va_A [(h0, .inr (0, [.null, .null, .int 0]))] sz) := by
  refine Met.ofW (cc := cX0_init) (maxL := 1) (ret := none) (by decide +kernel) rfl ?_
  intro p e s m args below meth c s₁ B hml hv
  obtain ⟨rfl, hsz, hP, hK, hD0⟩ := hv
  have hx := B.exec
  have hb := B.bytes
  have hr := B.returns
  have hts0 := atoms_spec (ws := Cond.code yX0_init cX0_init 1 none :: ws0) B.pre
  have hts : ∀ w ∈ ws0, w.before #[Value.ref h0] s = true := fun w hw => hts0 w (List.mem_cons_of_mem _ hw)
  have hown : s.vm.findClass RX0 = some m.cls := findClass_of_methodNamed B.named
  have hlocks := B.notSynchronized
  have hin : meth.name = "<init>" := (name_of_methodNamed B.named B.method).1
  subst hsz
  have hD := hD0.self (sz := s.heap.size)
  generalize hAe : va_A [(h0, .inr (0, [.null, .null, .int 0]))] s.heap.size = A at hD ⊢
  have hA : ∀ q : Nat, s.heap.size ≤ q → A q := fun q h => by rw [← hAe]; exact Or.inr h
  have hS : va_S A s.heap s.heap [] := va_S.rf
  have hl := lv_entry ([.ref h0]) (n := 1) (Nat.le_of_ble_eq_true rfl)
  rw [lg_entry_eq]
  generalize (lg_sl ([.ref h0]) ++ List.replicate (1 - (lg_sl ([.ref h0])).length) Slot.unset).toArray = ls at hl ⊢
  have hl : lv_has ls 1 [(0, .ref h0)] := hl
  have hP : va_P (dC, dI) vwCl [(h0, .inr (0, [.null, .null, .int 0]))] s.heap := hP
  refine lv_aload_n hx hb dX0_init_0 rfl (lv_at hl 0 rfl) ?_
  refine W.objInit hx hb hown (hts _ (w0m 298 (by decide +kernel) rfl)) (hts _ (w0m 91 (by decide +kernel) rfl)) (hts _ (w0m 92 (by decide +kernel) rfl)) rfl (by rw [hml]; exact hl.1) rfl dX0_init_1 (Nat.le_of_ble_eq_true rfl) (Nat.le_of_ble_eq_true rfl) ?_
  refine W.eq (g2 := F0 m 4 ls []) rfl ?_
  refine lv_aload_n hx hb dX0_init_4 rfl (lv_at hl 0 rfl) ?_
  refine lv_sipush (v := 896) hx hb dX0_init_5 (by decide) ?_
  refine va_newa (D := (dC, dI)) (atype := .int) (a0 := (896, .inl (fun _ => 0))) (ty := .int) hx hb (hts _ (w0m 171 (by decide +kernel) rfl)) rfl hK hP hD hS hA (fun cA => rfl) (by decide) (by decide +kernel) (by decide +kernel) (Nat.le_of_ble_eq_true rfl) (Nat.le_of_ble_eq_true rfl) dX0_init_8 (fun q1 c1 H hK hP hD hS => ?_)
  refine W.cs (cells' := 1) (slots' := 896) rfl rfl ?_
  have hP : va_P (dC, dI) vwCl [(h0, .inr (0, [.null, .null, .int 0])), (q1, .inl (c1, 896, .inl (fun _ => 0)))] H := hP
  have hD : va_D A [(h0, .inr (0, [.null, .null, .int 0])), (q1, .inl (c1, 896, .inl (fun _ => 0)))] := hD
  have hK : va_K (dC, dI) vwCl [(c1, .int)] s := hK
  refine va_putF (D := (dC, dI)) (ci := 0) (v := .ref q1) (ty := .array .int) (C := RX0) (T := TX0) (N := 3) hx hb hts (by decide +kernel) tyX0 tyX0_ok nmX0 hown hK hP hD hS 0 rfl rfl 0 (by decide) (hts _ (w0m 299 (by decide +kernel) rfl)) (fun _ h9 => h9) rfl hin rfl (by decide +kernel) rfl rfl (Nat.le_of_ble_eq_true rfl) dX0_init_10 (fun H locs hP hD hS => ?_)
  have hP : va_P (dC, dI) vwCl [(h0, .inr (0, [.ref q1, .null, .int 0])), (q1, .inl (c1, 896, .inl (fun _ => 0)))] H := hP
  have hD : va_D A [(h0, .inr (0, [.ref q1, .null, .int 0])), (q1, .inl (c1, 896, .inl (fun _ => 0)))] := hD
  refine lv_aload_n hx hb dX0_init_13 rfl (lv_at hl 0 rfl) ?_
  refine lv_bipush (v := 7) hx hb dX0_init_14 (by decide) ?_
  refine va_newa (D := (dC, dI)) (atype := .int) (a0 := (7, .inl (fun _ => 0))) (ty := .int) hx hb (hts _ (w0m 171 (by decide +kernel) rfl)) rfl hK hP hD hS hA (fun cA => rfl) (by decide) (by decide +kernel) (by decide +kernel) (Nat.le_of_ble_eq_true rfl) (Nat.le_of_ble_eq_true rfl) dX0_init_16 (fun q2 c2 H hK hP hD hS => ?_)
  refine W.cs (cells' := 2) (slots' := 903) rfl rfl ?_
  have hP : va_P (dC, dI) vwCl [(h0, .inr (0, [.ref q1, .null, .int 0])), (q1, .inl (c1, 896, .inl (fun _ => 0))), (q2, .inl (c2, 7, .inl (fun _ => 0)))] H := hP
  have hD : va_D A [(h0, .inr (0, [.ref q1, .null, .int 0])), (q1, .inl (c1, 896, .inl (fun _ => 0))), (q2, .inl (c2, 7, .inl (fun _ => 0)))] := hD
  have hK : va_K (dC, dI) vwCl [(c1, .int), (c2, .int)] s := hK
  refine va_putF (D := (dC, dI)) (ci := 0) (v := .ref q2) (ty := .array .int) (C := RX0) (T := TX0) (N := 3) hx hb hts (by decide +kernel) tyX0 tyX0_ok nmX0 hown hK hP hD hS 0 rfl rfl 1 (by decide) (hts _ (w0m 300 (by decide +kernel) rfl)) (fun _ h9 => h9) rfl hin rfl (by decide +kernel) rfl rfl (Nat.le_of_ble_eq_true rfl) dX0_init_18 (fun H locs hP hD hS => ?_)
  have hP : va_P (dC, dI) vwCl [(h0, .inr (0, [.ref q1, .ref q2, .int 0])), (q1, .inl (c1, 896, .inl (fun _ => 0))), (q2, .inl (c2, 7, .inl (fun _ => 0)))] H := hP
  have hD : va_D A [(h0, .inr (0, [.ref q1, .ref q2, .int 0])), (q1, .inl (c1, 896, .inl (fun _ => 0))), (q2, .inl (c2, 7, .inl (fun _ => 0)))] := hD
  have hP9 := hP.sub (ws' := [(h0, .inr (0, [.ref q1, .ref q2, .int 0])), (q1, .inl (c1, 896, .inl (fun _ => 0))), (q2, .inl (c2, 7, .inl (fun _ => 0)))]) [0, 1, 2] rfl
  exact W.vret hx hb hr (fun t ht hW => ⟨⟨(), rfl, trivial, q1, q2, c1, c2, by rw [ht]; exact hP9, va_K.moved hW.alike hK, hD⟩, hS.F ht⟩) hS.2.2 dX0_init_21
theorem dX11_init_0 : decode cX11_init 0 = .ok (.aload_n 0, 1) := by decide +kernel
theorem dX11_init_1 : decode cX11_init 1 = .ok (.invokespecial 1, 3) := by decide +kernel
theorem dX11_init_4 : decode cX11_init 4 = .ok (.aload_n 0, 1) := by decide +kernel
theorem dX11_init_5 : decode cX11_init 5 = .ok (.sipush 560, 3) := by decide +kernel
theorem dX11_init_8 : decode cX11_init 8 = .ok (.newarray .int, 2) := by decide +kernel
theorem dX11_init_10 : decode cX11_init 10 = .ok (.putfield 7, 3) := by decide +kernel
theorem dX11_init_13 : decode cX11_init 13 = .ok (.aload_n 0, 1) := by decide +kernel
theorem dX11_init_14 : decode cX11_init 14 = .ok (.iconst 2, 1) := by decide +kernel
theorem dX11_init_15 : decode cX11_init 15 = .ok (.newarray .boolean, 2) := by decide +kernel
theorem dX11_init_17 : decode cX11_init 17 = .ok (.putfield 13, 3) := by decide +kernel
theorem dX11_init_20 : decode cX11_init 20 = .ok (.aload_n 0, 1) := by decide +kernel
theorem dX11_init_21 : decode cX11_init 21 = .ok (.sipush 200, 3) := by decide +kernel
theorem dX11_init_24 : decode cX11_init 24 = .ok (.newarray .int, 2) := by decide +kernel
theorem dX11_init_26 : decode cX11_init 26 = .ok (.putfield 17, 3) := by decide +kernel
theorem dX11_init_29 : decode cX11_init 29 = .ok (.aload_n 0, 1) := by decide +kernel
theorem dX11_init_30 : decode cX11_init 30 = .ok (.lconst 1, 1) := by decide +kernel
theorem dX11_init_31 : decode cX11_init 31 = .ok (.putfield 20, 3) := by decide +kernel
theorem dX11_init_34 : decode cX11_init 34 = .ok (.aload_n 0, 1) := by decide +kernel
theorem dX11_init_35 : decode cX11_init 35 = .ok (.iconst 3, 1) := by decide +kernel
theorem dX11_init_36 : decode cX11_init 36 = .ok (.newarray .int, 2) := by decide +kernel
theorem dX11_init_38 : decode cX11_init 38 = .ok (.putfield 24, 3) := by decide +kernel
theorem dX11_init_41 : decode cX11_init 41 = .ok (.aload_n 0, 1) := by decide +kernel
theorem dX11_init_42 : decode cX11_init 42 = .ok (.bipush 40, 2) := by decide +kernel
theorem dX11_init_44 : decode cX11_init 44 = .ok (.newarray .int, 2) := by decide +kernel
theorem dX11_init_46 : decode cX11_init 46 = .ok (.putfield 27, 3) := by decide +kernel
theorem dX11_init_49 : decode cX11_init 49 = .ok (.aload_n 0, 1) := by decide +kernel
theorem dX11_init_50 : decode cX11_init 50 = .ok (.sipush 160, 3) := by decide +kernel
theorem dX11_init_53 : decode cX11_init 53 = .ok (.newarray .int, 2) := by decide +kernel
theorem dX11_init_55 : decode cX11_init 55 = .ok (.putfield 30, 3) := by decide +kernel
theorem dX11_init_58 : decode cX11_init 58 = .ok (.aload_n 0, 1) := by decide +kernel
theorem dX11_init_59 : decode cX11_init 59 = .ok (.bipush 7, 2) := by decide +kernel
theorem dX11_init_61 : decode cX11_init 61 = .ok (.newarray .int, 2) := by decide +kernel
theorem dX11_init_63 : decode cX11_init 63 = .ok (.putfield 33, 3) := by decide +kernel
theorem dX11_init_66 : decode cX11_init 66 = .ok (.aload_n 0, 1) := by decide +kernel
theorem dX11_init_67 : decode cX11_init 67 = .ok (.bipush 36, 2) := by decide +kernel
theorem dX11_init_69 : decode cX11_init 69 = .ok (.newarray .int, 2) := by decide +kernel
theorem dX11_init_71 : decode cX11_init 71 = .ok (.putfield 36, 3) := by decide +kernel
theorem dX11_init_74 : decode cX11_init 74 = .ok (.aload_n 0, 1) := by decide +kernel
theorem dX11_init_75 : decode cX11_init 75 = .ok (.bipush 8, 2) := by decide +kernel
theorem dX11_init_77 : decode cX11_init 77 = .ok (.newarray .int, 2) := by decide +kernel
theorem dX11_init_79 : decode cX11_init 79 = .ok (.putfield 39, 3) := by decide +kernel
theorem dX11_init_82 : decode cX11_init 82 = .ok (.aload_n 0, 1) := by decide +kernel
theorem dX11_init_83 : decode cX11_init 83 = .ok (.bipush 6, 2) := by decide +kernel
theorem dX11_init_85 : decode cX11_init 85 = .ok (.newarray .int, 2) := by decide +kernel
theorem dX11_init_87 : decode cX11_init 87 = .ok (.putfield 42, 3) := by decide +kernel
theorem dX11_init_90 : decode cX11_init 90 = .ok (.aload_n 0, 1) := by decide +kernel
theorem dX11_init_91 : decode cX11_init 91 = .ok (.bipush 8, 2) := by decide +kernel
theorem dX11_init_93 : decode cX11_init 93 = .ok (.newarray .long, 2) := by decide +kernel
theorem dX11_init_95 : decode cX11_init 95 = .ok (.putfield 45, 3) := by decide +kernel
theorem dX11_init_98 : decode cX11_init 98 = .ok (.aload_n 0, 1) := by decide +kernel
theorem dX11_init_99 : decode cX11_init 99 = .ok (.bipush 8, 2) := by decide +kernel
theorem dX11_init_101 : decode cX11_init 101 = .ok (.newarray .long, 2) := by decide +kernel
theorem dX11_init_103 : decode cX11_init 103 = .ok (.putfield 49, 3) := by decide +kernel
theorem dX11_init_106 : decode cX11_init 106 = .ok (.aload_n 0, 1) := by decide +kernel
theorem dX11_init_107 : decode cX11_init 107 = .ok (.sipush 896, 3) := by decide +kernel
theorem dX11_init_110 : decode cX11_init 110 = .ok (.newarray .int, 2) := by decide +kernel
theorem dX11_init_112 : decode cX11_init 112 = .ok (.putfield 52, 3) := by decide +kernel
theorem dX11_init_115 : decode cX11_init 115 = .ok (.return_, 1) := by decide +kernel
abbrev at_M (dC : Nat → ClassId) (dI : Nat → Nat → Nat) (A : Nat → Prop) (h0 : Nat) (_ : Unit) (t : State) : Prop := ∃ (q1 : Nat) (q2 : Nat) (q3 : Nat) (q4 : Nat) (q5 : Nat) (q6 : Nat) (q7 : Nat) (q8 : Nat) (q9 : Nat) (q10 : Nat) (q11 : Nat) (q12 : Nat) (q13 : Nat) (c1 : ClassId) (c2 : ClassId) (c3 : ClassId) (c4 : ClassId) (c5 : ClassId) (c6 : ClassId) (c7 : ClassId) (c8 : ClassId) (c9 : ClassId) (c10 : ClassId) (c11 : ClassId) (c12 : ClassId) (c13 : ClassId), va_P (dC, dI) vwCl [(h0, .inr (10, [.ref q1, .ref q2, .ref q3, .int 0, .long 0, .long 1, .ref q4, .ref q5, .ref q6, .int 0, .int 0, .int 0, .ref q7, .ref q8, .int 0, .int 0, .int 0, .ref q9, .ref q10, .ref q11, .ref q12, .ref q13, .long 0])), (q1, .inl (c1, 560, .inl (fun _ => 0))), (q2, .inl (c2, 2, .inl (fun _ => 0))), (q3, .inl (c3, 200, .inl (fun _ => 0))), (q4, .inl (c4, 3, .inl (fun _ => 0))), (q5, .inl (c5, 40, .inl (fun _ => 0))), (q6, .inl (c6, 160, .inl (fun _ => 0))), (q7, .inl (c7, 7, .inl (fun _ => 0))), (q8, .inl (c8, 36, .inl (fun _ => 0))), (q9, .inl (c9, 8, .inl (fun _ => 0))), (q10, .inl (c10, 6, .inl (fun _ => 0))), (q11, .inl (c11, 8, .inr (.inl (fun _ => 0)))), (q12, .inl (c12, 8, .inr (.inl (fun _ => 0)))), (q13, .inl (c13, 896, .inl (fun _ => 0)))] t.heap ∧ va_K (dC, dI) vwCl [(c1, .int), (c2, .boolean), (c3, .int), (c4, .int), (c5, .int), (c6, .int), (c7, .int), (c8, .int), (c9, .int), (c10, .int), (c11, .long), (c12, .long), (c13, .int)] t ∧ va_D A [(h0, .inr (10, [.ref q1, .ref q2, .ref q3, .int 0, .long 0, .long 1, .ref q4, .ref q5, .ref q6, .int 0, .int 0, .int 0, .ref q7, .ref q8, .int 0, .int 0, .int 0, .ref q9, .ref q10, .ref q11, .ref q12, .ref q13, .long 0])), (q1, .inl (c1, 560, .inl (fun _ => 0))), (q2, .inl (c2, 2, .inl (fun _ => 0))), (q3, .inl (c3, 200, .inl (fun _ => 0))), (q4, .inl (c4, 3, .inl (fun _ => 0))), (q5, .inl (c5, 40, .inl (fun _ => 0))), (q6, .inl (c6, 160, .inl (fun _ => 0))), (q7, .inl (c7, 7, .inl (fun _ => 0))), (q8, .inl (c8, 36, .inl (fun _ => 0))), (q9, .inl (c9, 8, .inl (fun _ => 0))), (q10, .inl (c10, 6, .inl (fun _ => 0))), (q11, .inl (c11, 8, .inr (.inl (fun _ => 0)))), (q12, .inl (c12, 8, .inr (.inl (fun _ => 0)))), (q13, .inl (c13, 896, .inl (fun _ => 0)))]
set_option maxHeartbeats 4000000 in
set_option maxRecDepth 100000 in
theorem c_M (l : Launch) (dC : Nat → ClassId) (dI : Nat → Nat → Nat) (h0 sz : Nat) : Met l yX11_init (Cond.code yX11_init cX11_init 1 none :: ws0) ({ frames := 1, cells := 13, slots := 1934, locals := 12 }) (va_Pc [.ref h0] (fun U => U.heap.size = sz ∧ va_P (dC, dI) vwCl [(h0, .inr (10, [.null, .null, .null, .int 0, .long 0, .long 0, .null, .null, .null, .int 0, .int 0, .int 0, .null, .null, .int 0, .int 0, .int 0, .null, .null, .null, .null, .null, .long 0]))] U.heap ∧ va_K (dC, dI) vwCl [] U ∧ va_D (fun _ => True) [(h0, .inr (10, [.null, .null, .null, .int 0, .long 0, .long 0, .null, .null, .null, .int 0, .int 0, .int 0, .null, .null, .int 0, .int 0, .int 0, .null, .null, .null, .null, .null, .long 0]))])) (va_Qv (fun _ : Unit => True) (at_M dC dI (va_A [(h0, .inr (10, [.null, .null, .null, .int 0, .long 0, .long 0, .null, .null, .null, .int 0, .int 0, .int 0, .null, .null, .int 0, .int 0, .int 0, .null, .null, .null, .null, .null, .long 0]))] sz) h0) (va_A [(h0, .inr (10, [.null, .null, .null, .int 0, .long 0, .long 0, .null, .null, .null, .int 0, .int 0, .int 0, .null, .null, .int 0, .int 0, .int 0, .null, .null, .null, .null, .null, .long 0]))] sz)) 13 1934 (va_A [(h0, .inr (10, [.null, .null, .null, .int 0, .long 0, .long 0, .null, .null, .null, .int 0, .int 0, .int 0, .null, .null, .int 0, .int 0, .int 0, .null, .null, .null, .null, .null, .long 0]))] sz) := by
  refine Met.ofW (cc := cX11_init) (maxL := 1) (ret := none) (by decide +kernel) rfl ?_
  intro p e s m args below meth c s₁ B hml hv
  obtain ⟨rfl, hsz, hP, hK, hD0⟩ := hv
  have hx := B.exec
  have hb := B.bytes
  have hr := B.returns
  have hts0 := atoms_spec (ws := Cond.code yX11_init cX11_init 1 none :: ws0) B.pre
  have hts : ∀ w ∈ ws0, w.before #[Value.ref h0] s = true := fun w hw => hts0 w (List.mem_cons_of_mem _ hw)
  have hown : s.vm.findClass RX11 = some m.cls := findClass_of_methodNamed B.named
  have hlocks := B.notSynchronized
  have hin : meth.name = "<init>" := (name_of_methodNamed B.named B.method).1
  subst hsz
  have hD := hD0.self (sz := s.heap.size)
  generalize hAe : va_A [(h0, .inr (10, [.null, .null, .null, .int 0, .long 0, .long 0, .null, .null, .null, .int 0, .int 0, .int 0, .null, .null, .int 0, .int 0, .int 0, .null, .null, .null, .null, .null, .long 0]))] s.heap.size = A at hD ⊢
  have hA : ∀ q : Nat, s.heap.size ≤ q → A q := fun q h => by rw [← hAe]; exact Or.inr h
  have hS : va_S A s.heap s.heap [] := va_S.rf
  have hl := lv_entry ([.ref h0]) (n := 1) (Nat.le_of_ble_eq_true rfl)
  rw [lg_entry_eq]
  generalize (lg_sl ([.ref h0]) ++ List.replicate (1 - (lg_sl ([.ref h0])).length) Slot.unset).toArray = ls at hl ⊢
  have hl : lv_has ls 1 [(0, .ref h0)] := hl
  have hP : va_P (dC, dI) vwCl [(h0, .inr (10, [.null, .null, .null, .int 0, .long 0, .long 0, .null, .null, .null, .int 0, .int 0, .int 0, .null, .null, .int 0, .int 0, .int 0, .null, .null, .null, .null, .null, .long 0]))] s.heap := hP
  refine lv_aload_n hx hb dX11_init_0 rfl (lv_at hl 0 rfl) ?_
  refine W.objInit hx hb hown (hts _ (w0m 958 (by decide +kernel) rfl)) (hts _ (w0m 91 (by decide +kernel) rfl)) (hts _ (w0m 92 (by decide +kernel) rfl)) rfl (by rw [hml]; exact hl.1) rfl dX11_init_1 (Nat.le_of_ble_eq_true rfl) (Nat.le_of_ble_eq_true rfl) ?_
  refine W.eq (g2 := F0 m 4 ls []) rfl ?_
  refine lv_aload_n hx hb dX11_init_4 rfl (lv_at hl 0 rfl) ?_
  refine lv_sipush (v := 560) hx hb dX11_init_5 (by decide) ?_
  refine va_newa (D := (dC, dI)) (atype := .int) (a0 := (560, .inl (fun _ => 0))) (ty := .int) hx hb (hts _ (w0m 171 (by decide +kernel) rfl)) rfl hK hP hD hS hA (fun cA => rfl) (by decide) (by decide +kernel) (by decide +kernel) (Nat.le_of_ble_eq_true rfl) (Nat.le_of_ble_eq_true rfl) dX11_init_8 (fun q1 c1 H hK hP hD hS => ?_)
  refine W.cs (cells' := 1) (slots' := 560) rfl rfl ?_
  have hP : va_P (dC, dI) vwCl [(h0, .inr (10, [.null, .null, .null, .int 0, .long 0, .long 0, .null, .null, .null, .int 0, .int 0, .int 0, .null, .null, .int 0, .int 0, .int 0, .null, .null, .null, .null, .null, .long 0])), (q1, .inl (c1, 560, .inl (fun _ => 0)))] H := hP
  have hD : va_D A [(h0, .inr (10, [.null, .null, .null, .int 0, .long 0, .long 0, .null, .null, .null, .int 0, .int 0, .int 0, .null, .null, .int 0, .int 0, .int 0, .null, .null, .null, .null, .null, .long 0])), (q1, .inl (c1, 560, .inl (fun _ => 0)))] := hD
  have hK : va_K (dC, dI) vwCl [(c1, .int)] s := hK
  refine va_putF (D := (dC, dI)) (ci := 10) (v := .ref q1) (ty := .array .int) (C := RX11) (T := TX11) (N := 23) hx hb hts (by decide +kernel) tyX11 tyX11_ok nmX11 hown hK hP hD hS 0 rfl rfl 0 (by decide) (hts _ (w0m 959 (by decide +kernel) rfl)) (fun _ h9 => h9) rfl hin rfl (by decide +kernel) rfl rfl (Nat.le_of_ble_eq_true rfl) dX11_init_10 (fun H locs hP hD hS => ?_)
  have hP : va_P (dC, dI) vwCl [(h0, .inr (10, [.ref q1, .null, .null, .int 0, .long 0, .long 0, .null, .null, .null, .int 0, .int 0, .int 0, .null, .null, .int 0, .int 0, .int 0, .null, .null, .null, .null, .null, .long 0])), (q1, .inl (c1, 560, .inl (fun _ => 0)))] H := hP
  have hD : va_D A [(h0, .inr (10, [.ref q1, .null, .null, .int 0, .long 0, .long 0, .null, .null, .null, .int 0, .int 0, .int 0, .null, .null, .int 0, .int 0, .int 0, .null, .null, .null, .null, .null, .long 0])), (q1, .inl (c1, 560, .inl (fun _ => 0)))] := hD
  refine lv_aload_n hx hb dX11_init_13 rfl (lv_at hl 0 rfl) ?_
  refine lv_iconst (v := 2) hx hb dX11_init_14 (by decide) ?_
  refine va_newa (D := (dC, dI)) (atype := .boolean) (a0 := (2, .inl (fun _ => 0))) (ty := .boolean) hx hb (hts _ (w0m 1029 (by decide +kernel) rfl)) rfl hK hP hD hS hA (fun cA => rfl) (by decide) (by decide +kernel) (by decide +kernel) (Nat.le_of_ble_eq_true rfl) (Nat.le_of_ble_eq_true rfl) dX11_init_15 (fun q2 c2 H hK hP hD hS => ?_)
  refine W.cs (cells' := 2) (slots' := 562) rfl rfl ?_
  have hP : va_P (dC, dI) vwCl [(h0, .inr (10, [.ref q1, .null, .null, .int 0, .long 0, .long 0, .null, .null, .null, .int 0, .int 0, .int 0, .null, .null, .int 0, .int 0, .int 0, .null, .null, .null, .null, .null, .long 0])), (q1, .inl (c1, 560, .inl (fun _ => 0))), (q2, .inl (c2, 2, .inl (fun _ => 0)))] H := hP
  have hD : va_D A [(h0, .inr (10, [.ref q1, .null, .null, .int 0, .long 0, .long 0, .null, .null, .null, .int 0, .int 0, .int 0, .null, .null, .int 0, .int 0, .int 0, .null, .null, .null, .null, .null, .long 0])), (q1, .inl (c1, 560, .inl (fun _ => 0))), (q2, .inl (c2, 2, .inl (fun _ => 0)))] := hD
  have hK : va_K (dC, dI) vwCl [(c1, .int), (c2, .boolean)] s := hK
  refine va_putF (D := (dC, dI)) (ci := 10) (v := .ref q2) (ty := .array .boolean) (C := RX11) (T := TX11) (N := 23) hx hb hts (by decide +kernel) tyX11 tyX11_ok nmX11 hown hK hP hD hS 0 rfl rfl 1 (by decide) (hts _ (w0m 960 (by decide +kernel) rfl)) (fun _ h9 => h9) rfl hin rfl (by decide +kernel) rfl rfl (Nat.le_of_ble_eq_true rfl) dX11_init_17 (fun H locs hP hD hS => ?_)
  have hP : va_P (dC, dI) vwCl [(h0, .inr (10, [.ref q1, .ref q2, .null, .int 0, .long 0, .long 0, .null, .null, .null, .int 0, .int 0, .int 0, .null, .null, .int 0, .int 0, .int 0, .null, .null, .null, .null, .null, .long 0])), (q1, .inl (c1, 560, .inl (fun _ => 0))), (q2, .inl (c2, 2, .inl (fun _ => 0)))] H := hP
  have hD : va_D A [(h0, .inr (10, [.ref q1, .ref q2, .null, .int 0, .long 0, .long 0, .null, .null, .null, .int 0, .int 0, .int 0, .null, .null, .int 0, .int 0, .int 0, .null, .null, .null, .null, .null, .long 0])), (q1, .inl (c1, 560, .inl (fun _ => 0))), (q2, .inl (c2, 2, .inl (fun _ => 0)))] := hD
  refine lv_aload_n hx hb dX11_init_20 rfl (lv_at hl 0 rfl) ?_
  refine lv_sipush (v := 200) hx hb dX11_init_21 (by decide) ?_
  refine va_newa (D := (dC, dI)) (atype := .int) (a0 := (200, .inl (fun _ => 0))) (ty := .int) hx hb (hts _ (w0m 171 (by decide +kernel) rfl)) rfl hK hP hD hS hA (fun cA => rfl) (by decide) (by decide +kernel) (by decide +kernel) (Nat.le_of_ble_eq_true rfl) (Nat.le_of_ble_eq_true rfl) dX11_init_24 (fun q3 c3 H hK hP hD hS => ?_)
  refine W.cs (cells' := 3) (slots' := 762) rfl rfl ?_
  have hP : va_P (dC, dI) vwCl [(h0, .inr (10, [.ref q1, .ref q2, .null, .int 0, .long 0, .long 0, .null, .null, .null, .int 0, .int 0, .int 0, .null, .null, .int 0, .int 0, .int 0, .null, .null, .null, .null, .null, .long 0])), (q1, .inl (c1, 560, .inl (fun _ => 0))), (q2, .inl (c2, 2, .inl (fun _ => 0))), (q3, .inl (c3, 200, .inl (fun _ => 0)))] H := hP
  have hD : va_D A [(h0, .inr (10, [.ref q1, .ref q2, .null, .int 0, .long 0, .long 0, .null, .null, .null, .int 0, .int 0, .int 0, .null, .null, .int 0, .int 0, .int 0, .null, .null, .null, .null, .null, .long 0])), (q1, .inl (c1, 560, .inl (fun _ => 0))), (q2, .inl (c2, 2, .inl (fun _ => 0))), (q3, .inl (c3, 200, .inl (fun _ => 0)))] := hD
  have hK : va_K (dC, dI) vwCl [(c1, .int), (c2, .boolean), (c3, .int)] s := hK
  refine va_putF (D := (dC, dI)) (ci := 10) (v := .ref q3) (ty := .array .int) (C := RX11) (T := TX11) (N := 23) hx hb hts (by decide +kernel) tyX11 tyX11_ok nmX11 hown hK hP hD hS 0 rfl rfl 2 (by decide) (hts _ (w0m 961 (by decide +kernel) rfl)) (fun _ h9 => h9) rfl hin rfl (by decide +kernel) rfl rfl (Nat.le_of_ble_eq_true rfl) dX11_init_26 (fun H locs hP hD hS => ?_)
  have hP : va_P (dC, dI) vwCl [(h0, .inr (10, [.ref q1, .ref q2, .ref q3, .int 0, .long 0, .long 0, .null, .null, .null, .int 0, .int 0, .int 0, .null, .null, .int 0, .int 0, .int 0, .null, .null, .null, .null, .null, .long 0])), (q1, .inl (c1, 560, .inl (fun _ => 0))), (q2, .inl (c2, 2, .inl (fun _ => 0))), (q3, .inl (c3, 200, .inl (fun _ => 0)))] H := hP
  have hD : va_D A [(h0, .inr (10, [.ref q1, .ref q2, .ref q3, .int 0, .long 0, .long 0, .null, .null, .null, .int 0, .int 0, .int 0, .null, .null, .int 0, .int 0, .int 0, .null, .null, .null, .null, .null, .long 0])), (q1, .inl (c1, 560, .inl (fun _ => 0))), (q2, .inl (c2, 2, .inl (fun _ => 0))), (q3, .inl (c3, 200, .inl (fun _ => 0)))] := hD
  refine lv_aload_n hx hb dX11_init_29 rfl (lv_at hl 0 rfl) ?_
  refine lv_lconst (v := 1) hx hb dX11_init_30 (by decide) ?_
  refine va_put (D := (dC, dI)) (ci := 10) (v := .long 1) (ty := .long) (C := RX11) (T := TX11) (N := 23) hx hb hts (by decide +kernel) tyX11 tyX11_ok nmX11 hown hK hP hD hS 0 rfl rfl 5 (by decide) (hts _ (w0m 964 (by decide +kernel) rfl)) (fun _ h9 => h9) rfl (by decide +kernel) rfl rfl (Nat.le_of_ble_eq_true rfl) dX11_init_31 (fun H locs hP hD hS => ?_)
  have hP : va_P (dC, dI) vwCl [(h0, .inr (10, [.ref q1, .ref q2, .ref q3, .int 0, .long 0, .long 1, .null, .null, .null, .int 0, .int 0, .int 0, .null, .null, .int 0, .int 0, .int 0, .null, .null, .null, .null, .null, .long 0])), (q1, .inl (c1, 560, .inl (fun _ => 0))), (q2, .inl (c2, 2, .inl (fun _ => 0))), (q3, .inl (c3, 200, .inl (fun _ => 0)))] H := hP
  have hD : va_D A [(h0, .inr (10, [.ref q1, .ref q2, .ref q3, .int 0, .long 0, .long 1, .null, .null, .null, .int 0, .int 0, .int 0, .null, .null, .int 0, .int 0, .int 0, .null, .null, .null, .null, .null, .long 0])), (q1, .inl (c1, 560, .inl (fun _ => 0))), (q2, .inl (c2, 2, .inl (fun _ => 0))), (q3, .inl (c3, 200, .inl (fun _ => 0)))] := hD
  refine lv_aload_n hx hb dX11_init_34 rfl (lv_at hl 0 rfl) ?_
  refine lv_iconst (v := 3) hx hb dX11_init_35 (by decide) ?_
  refine va_newa (D := (dC, dI)) (atype := .int) (a0 := (3, .inl (fun _ => 0))) (ty := .int) hx hb (hts _ (w0m 171 (by decide +kernel) rfl)) rfl hK hP hD hS hA (fun cA => rfl) (by decide) (by decide +kernel) (by decide +kernel) (Nat.le_of_ble_eq_true rfl) (Nat.le_of_ble_eq_true rfl) dX11_init_36 (fun q4 c4 H hK hP hD hS => ?_)
  refine W.cs (cells' := 4) (slots' := 765) rfl rfl ?_
  have hP : va_P (dC, dI) vwCl [(h0, .inr (10, [.ref q1, .ref q2, .ref q3, .int 0, .long 0, .long 1, .null, .null, .null, .int 0, .int 0, .int 0, .null, .null, .int 0, .int 0, .int 0, .null, .null, .null, .null, .null, .long 0])), (q1, .inl (c1, 560, .inl (fun _ => 0))), (q2, .inl (c2, 2, .inl (fun _ => 0))), (q3, .inl (c3, 200, .inl (fun _ => 0))), (q4, .inl (c4, 3, .inl (fun _ => 0)))] H := hP
  have hD : va_D A [(h0, .inr (10, [.ref q1, .ref q2, .ref q3, .int 0, .long 0, .long 1, .null, .null, .null, .int 0, .int 0, .int 0, .null, .null, .int 0, .int 0, .int 0, .null, .null, .null, .null, .null, .long 0])), (q1, .inl (c1, 560, .inl (fun _ => 0))), (q2, .inl (c2, 2, .inl (fun _ => 0))), (q3, .inl (c3, 200, .inl (fun _ => 0))), (q4, .inl (c4, 3, .inl (fun _ => 0)))] := hD
  have hK : va_K (dC, dI) vwCl [(c1, .int), (c2, .boolean), (c3, .int), (c4, .int)] s := hK
  refine va_putF (D := (dC, dI)) (ci := 10) (v := .ref q4) (ty := .array .int) (C := RX11) (T := TX11) (N := 23) hx hb hts (by decide +kernel) tyX11 tyX11_ok nmX11 hown hK hP hD hS 0 rfl rfl 6 (by decide) (hts _ (w0m 965 (by decide +kernel) rfl)) (fun _ h9 => h9) rfl hin rfl (by decide +kernel) rfl rfl (Nat.le_of_ble_eq_true rfl) dX11_init_38 (fun H locs hP hD hS => ?_)
  have hP : va_P (dC, dI) vwCl [(h0, .inr (10, [.ref q1, .ref q2, .ref q3, .int 0, .long 0, .long 1, .ref q4, .null, .null, .int 0, .int 0, .int 0, .null, .null, .int 0, .int 0, .int 0, .null, .null, .null, .null, .null, .long 0])), (q1, .inl (c1, 560, .inl (fun _ => 0))), (q2, .inl (c2, 2, .inl (fun _ => 0))), (q3, .inl (c3, 200, .inl (fun _ => 0))), (q4, .inl (c4, 3, .inl (fun _ => 0)))] H := hP
  have hD : va_D A [(h0, .inr (10, [.ref q1, .ref q2, .ref q3, .int 0, .long 0, .long 1, .ref q4, .null, .null, .int 0, .int 0, .int 0, .null, .null, .int 0, .int 0, .int 0, .null, .null, .null, .null, .null, .long 0])), (q1, .inl (c1, 560, .inl (fun _ => 0))), (q2, .inl (c2, 2, .inl (fun _ => 0))), (q3, .inl (c3, 200, .inl (fun _ => 0))), (q4, .inl (c4, 3, .inl (fun _ => 0)))] := hD
  refine lv_aload_n hx hb dX11_init_41 rfl (lv_at hl 0 rfl) ?_
  refine lv_bipush (v := 40) hx hb dX11_init_42 (by decide) ?_
  refine va_newa (D := (dC, dI)) (atype := .int) (a0 := (40, .inl (fun _ => 0))) (ty := .int) hx hb (hts _ (w0m 171 (by decide +kernel) rfl)) rfl hK hP hD hS hA (fun cA => rfl) (by decide) (by decide +kernel) (by decide +kernel) (Nat.le_of_ble_eq_true rfl) (Nat.le_of_ble_eq_true rfl) dX11_init_44 (fun q5 c5 H hK hP hD hS => ?_)
  refine W.cs (cells' := 5) (slots' := 805) rfl rfl ?_
  have hP : va_P (dC, dI) vwCl [(h0, .inr (10, [.ref q1, .ref q2, .ref q3, .int 0, .long 0, .long 1, .ref q4, .null, .null, .int 0, .int 0, .int 0, .null, .null, .int 0, .int 0, .int 0, .null, .null, .null, .null, .null, .long 0])), (q1, .inl (c1, 560, .inl (fun _ => 0))), (q2, .inl (c2, 2, .inl (fun _ => 0))), (q3, .inl (c3, 200, .inl (fun _ => 0))), (q4, .inl (c4, 3, .inl (fun _ => 0))), (q5, .inl (c5, 40, .inl (fun _ => 0)))] H := hP
  have hD : va_D A [(h0, .inr (10, [.ref q1, .ref q2, .ref q3, .int 0, .long 0, .long 1, .ref q4, .null, .null, .int 0, .int 0, .int 0, .null, .null, .int 0, .int 0, .int 0, .null, .null, .null, .null, .null, .long 0])), (q1, .inl (c1, 560, .inl (fun _ => 0))), (q2, .inl (c2, 2, .inl (fun _ => 0))), (q3, .inl (c3, 200, .inl (fun _ => 0))), (q4, .inl (c4, 3, .inl (fun _ => 0))), (q5, .inl (c5, 40, .inl (fun _ => 0)))] := hD
  have hK : va_K (dC, dI) vwCl [(c1, .int), (c2, .boolean), (c3, .int), (c4, .int), (c5, .int)] s := hK
  refine va_putF (D := (dC, dI)) (ci := 10) (v := .ref q5) (ty := .array .int) (C := RX11) (T := TX11) (N := 23) hx hb hts (by decide +kernel) tyX11 tyX11_ok nmX11 hown hK hP hD hS 0 rfl rfl 7 (by decide) (hts _ (w0m 966 (by decide +kernel) rfl)) (fun _ h9 => h9) rfl hin rfl (by decide +kernel) rfl rfl (Nat.le_of_ble_eq_true rfl) dX11_init_46 (fun H locs hP hD hS => ?_)
  have hP : va_P (dC, dI) vwCl [(h0, .inr (10, [.ref q1, .ref q2, .ref q3, .int 0, .long 0, .long 1, .ref q4, .ref q5, .null, .int 0, .int 0, .int 0, .null, .null, .int 0, .int 0, .int 0, .null, .null, .null, .null, .null, .long 0])), (q1, .inl (c1, 560, .inl (fun _ => 0))), (q2, .inl (c2, 2, .inl (fun _ => 0))), (q3, .inl (c3, 200, .inl (fun _ => 0))), (q4, .inl (c4, 3, .inl (fun _ => 0))), (q5, .inl (c5, 40, .inl (fun _ => 0)))] H := hP
  have hD : va_D A [(h0, .inr (10, [.ref q1, .ref q2, .ref q3, .int 0, .long 0, .long 1, .ref q4, .ref q5, .null, .int 0, .int 0, .int 0, .null, .null, .int 0, .int 0, .int 0, .null, .null, .null, .null, .null, .long 0])), (q1, .inl (c1, 560, .inl (fun _ => 0))), (q2, .inl (c2, 2, .inl (fun _ => 0))), (q3, .inl (c3, 200, .inl (fun _ => 0))), (q4, .inl (c4, 3, .inl (fun _ => 0))), (q5, .inl (c5, 40, .inl (fun _ => 0)))] := hD
  refine lv_aload_n hx hb dX11_init_49 rfl (lv_at hl 0 rfl) ?_
  refine lv_sipush (v := 160) hx hb dX11_init_50 (by decide) ?_
  refine va_newa (D := (dC, dI)) (atype := .int) (a0 := (160, .inl (fun _ => 0))) (ty := .int) hx hb (hts _ (w0m 171 (by decide +kernel) rfl)) rfl hK hP hD hS hA (fun cA => rfl) (by decide) (by decide +kernel) (by decide +kernel) (Nat.le_of_ble_eq_true rfl) (Nat.le_of_ble_eq_true rfl) dX11_init_53 (fun q6 c6 H hK hP hD hS => ?_)
  refine W.cs (cells' := 6) (slots' := 965) rfl rfl ?_
  have hP : va_P (dC, dI) vwCl [(h0, .inr (10, [.ref q1, .ref q2, .ref q3, .int 0, .long 0, .long 1, .ref q4, .ref q5, .null, .int 0, .int 0, .int 0, .null, .null, .int 0, .int 0, .int 0, .null, .null, .null, .null, .null, .long 0])), (q1, .inl (c1, 560, .inl (fun _ => 0))), (q2, .inl (c2, 2, .inl (fun _ => 0))), (q3, .inl (c3, 200, .inl (fun _ => 0))), (q4, .inl (c4, 3, .inl (fun _ => 0))), (q5, .inl (c5, 40, .inl (fun _ => 0))), (q6, .inl (c6, 160, .inl (fun _ => 0)))] H := hP
  have hD : va_D A [(h0, .inr (10, [.ref q1, .ref q2, .ref q3, .int 0, .long 0, .long 1, .ref q4, .ref q5, .null, .int 0, .int 0, .int 0, .null, .null, .int 0, .int 0, .int 0, .null, .null, .null, .null, .null, .long 0])), (q1, .inl (c1, 560, .inl (fun _ => 0))), (q2, .inl (c2, 2, .inl (fun _ => 0))), (q3, .inl (c3, 200, .inl (fun _ => 0))), (q4, .inl (c4, 3, .inl (fun _ => 0))), (q5, .inl (c5, 40, .inl (fun _ => 0))), (q6, .inl (c6, 160, .inl (fun _ => 0)))] := hD
  have hK : va_K (dC, dI) vwCl [(c1, .int), (c2, .boolean), (c3, .int), (c4, .int), (c5, .int), (c6, .int)] s := hK
  refine va_putF (D := (dC, dI)) (ci := 10) (v := .ref q6) (ty := .array .int) (C := RX11) (T := TX11) (N := 23) hx hb hts (by decide +kernel) tyX11 tyX11_ok nmX11 hown hK hP hD hS 0 rfl rfl 8 (by decide) (hts _ (w0m 967 (by decide +kernel) rfl)) (fun _ h9 => h9) rfl hin rfl (by decide +kernel) rfl rfl (Nat.le_of_ble_eq_true rfl) dX11_init_55 (fun H locs hP hD hS => ?_)
  have hP : va_P (dC, dI) vwCl [(h0, .inr (10, [.ref q1, .ref q2, .ref q3, .int 0, .long 0, .long 1, .ref q4, .ref q5, .ref q6, .int 0, .int 0, .int 0, .null, .null, .int 0, .int 0, .int 0, .null, .null, .null, .null, .null, .long 0])), (q1, .inl (c1, 560, .inl (fun _ => 0))), (q2, .inl (c2, 2, .inl (fun _ => 0))), (q3, .inl (c3, 200, .inl (fun _ => 0))), (q4, .inl (c4, 3, .inl (fun _ => 0))), (q5, .inl (c5, 40, .inl (fun _ => 0))), (q6, .inl (c6, 160, .inl (fun _ => 0)))] H := hP
  have hD : va_D A [(h0, .inr (10, [.ref q1, .ref q2, .ref q3, .int 0, .long 0, .long 1, .ref q4, .ref q5, .ref q6, .int 0, .int 0, .int 0, .null, .null, .int 0, .int 0, .int 0, .null, .null, .null, .null, .null, .long 0])), (q1, .inl (c1, 560, .inl (fun _ => 0))), (q2, .inl (c2, 2, .inl (fun _ => 0))), (q3, .inl (c3, 200, .inl (fun _ => 0))), (q4, .inl (c4, 3, .inl (fun _ => 0))), (q5, .inl (c5, 40, .inl (fun _ => 0))), (q6, .inl (c6, 160, .inl (fun _ => 0)))] := hD
  refine lv_aload_n hx hb dX11_init_58 rfl (lv_at hl 0 rfl) ?_
  refine lv_bipush (v := 7) hx hb dX11_init_59 (by decide) ?_
  refine va_newa (D := (dC, dI)) (atype := .int) (a0 := (7, .inl (fun _ => 0))) (ty := .int) hx hb (hts _ (w0m 171 (by decide +kernel) rfl)) rfl hK hP hD hS hA (fun cA => rfl) (by decide) (by decide +kernel) (by decide +kernel) (Nat.le_of_ble_eq_true rfl) (Nat.le_of_ble_eq_true rfl) dX11_init_61 (fun q7 c7 H hK hP hD hS => ?_)
  refine W.cs (cells' := 7) (slots' := 972) rfl rfl ?_
  have hP : va_P (dC, dI) vwCl [(h0, .inr (10, [.ref q1, .ref q2, .ref q3, .int 0, .long 0, .long 1, .ref q4, .ref q5, .ref q6, .int 0, .int 0, .int 0, .null, .null, .int 0, .int 0, .int 0, .null, .null, .null, .null, .null, .long 0])), (q1, .inl (c1, 560, .inl (fun _ => 0))), (q2, .inl (c2, 2, .inl (fun _ => 0))), (q3, .inl (c3, 200, .inl (fun _ => 0))), (q4, .inl (c4, 3, .inl (fun _ => 0))), (q5, .inl (c5, 40, .inl (fun _ => 0))), (q6, .inl (c6, 160, .inl (fun _ => 0))), (q7, .inl (c7, 7, .inl (fun _ => 0)))] H := hP
  have hD : va_D A [(h0, .inr (10, [.ref q1, .ref q2, .ref q3, .int 0, .long 0, .long 1, .ref q4, .ref q5, .ref q6, .int 0, .int 0, .int 0, .null, .null, .int 0, .int 0, .int 0, .null, .null, .null, .null, .null, .long 0])), (q1, .inl (c1, 560, .inl (fun _ => 0))), (q2, .inl (c2, 2, .inl (fun _ => 0))), (q3, .inl (c3, 200, .inl (fun _ => 0))), (q4, .inl (c4, 3, .inl (fun _ => 0))), (q5, .inl (c5, 40, .inl (fun _ => 0))), (q6, .inl (c6, 160, .inl (fun _ => 0))), (q7, .inl (c7, 7, .inl (fun _ => 0)))] := hD
  have hK : va_K (dC, dI) vwCl [(c1, .int), (c2, .boolean), (c3, .int), (c4, .int), (c5, .int), (c6, .int), (c7, .int)] s := hK
  refine va_putF (D := (dC, dI)) (ci := 10) (v := .ref q7) (ty := .array .int) (C := RX11) (T := TX11) (N := 23) hx hb hts (by decide +kernel) tyX11 tyX11_ok nmX11 hown hK hP hD hS 0 rfl rfl 12 (by decide) (hts _ (w0m 971 (by decide +kernel) rfl)) (fun _ h9 => h9) rfl hin rfl (by decide +kernel) rfl rfl (Nat.le_of_ble_eq_true rfl) dX11_init_63 (fun H locs hP hD hS => ?_)
  have hP : va_P (dC, dI) vwCl [(h0, .inr (10, [.ref q1, .ref q2, .ref q3, .int 0, .long 0, .long 1, .ref q4, .ref q5, .ref q6, .int 0, .int 0, .int 0, .ref q7, .null, .int 0, .int 0, .int 0, .null, .null, .null, .null, .null, .long 0])), (q1, .inl (c1, 560, .inl (fun _ => 0))), (q2, .inl (c2, 2, .inl (fun _ => 0))), (q3, .inl (c3, 200, .inl (fun _ => 0))), (q4, .inl (c4, 3, .inl (fun _ => 0))), (q5, .inl (c5, 40, .inl (fun _ => 0))), (q6, .inl (c6, 160, .inl (fun _ => 0))), (q7, .inl (c7, 7, .inl (fun _ => 0)))] H := hP
  have hD : va_D A [(h0, .inr (10, [.ref q1, .ref q2, .ref q3, .int 0, .long 0, .long 1, .ref q4, .ref q5, .ref q6, .int 0, .int 0, .int 0, .ref q7, .null, .int 0, .int 0, .int 0, .null, .null, .null, .null, .null, .long 0])), (q1, .inl (c1, 560, .inl (fun _ => 0))), (q2, .inl (c2, 2, .inl (fun _ => 0))), (q3, .inl (c3, 200, .inl (fun _ => 0))), (q4, .inl (c4, 3, .inl (fun _ => 0))), (q5, .inl (c5, 40, .inl (fun _ => 0))), (q6, .inl (c6, 160, .inl (fun _ => 0))), (q7, .inl (c7, 7, .inl (fun _ => 0)))] := hD
  refine lv_aload_n hx hb dX11_init_66 rfl (lv_at hl 0 rfl) ?_
  refine lv_bipush (v := 36) hx hb dX11_init_67 (by decide) ?_
  refine va_newa (D := (dC, dI)) (atype := .int) (a0 := (36, .inl (fun _ => 0))) (ty := .int) hx hb (hts _ (w0m 171 (by decide +kernel) rfl)) rfl hK hP hD hS hA (fun cA => rfl) (by decide) (by decide +kernel) (by decide +kernel) (Nat.le_of_ble_eq_true rfl) (Nat.le_of_ble_eq_true rfl) dX11_init_69 (fun q8 c8 H hK hP hD hS => ?_)
  refine W.cs (cells' := 8) (slots' := 1008) rfl rfl ?_
  have hP : va_P (dC, dI) vwCl [(h0, .inr (10, [.ref q1, .ref q2, .ref q3, .int 0, .long 0, .long 1, .ref q4, .ref q5, .ref q6, .int 0, .int 0, .int 0, .ref q7, .null, .int 0, .int 0, .int 0, .null, .null, .null, .null, .null, .long 0])), (q1, .inl (c1, 560, .inl (fun _ => 0))), (q2, .inl (c2, 2, .inl (fun _ => 0))), (q3, .inl (c3, 200, .inl (fun _ => 0))), (q4, .inl (c4, 3, .inl (fun _ => 0))), (q5, .inl (c5, 40, .inl (fun _ => 0))), (q6, .inl (c6, 160, .inl (fun _ => 0))), (q7, .inl (c7, 7, .inl (fun _ => 0))), (q8, .inl (c8, 36, .inl (fun _ => 0)))] H := hP
  have hD : va_D A [(h0, .inr (10, [.ref q1, .ref q2, .ref q3, .int 0, .long 0, .long 1, .ref q4, .ref q5, .ref q6, .int 0, .int 0, .int 0, .ref q7, .null, .int 0, .int 0, .int 0, .null, .null, .null, .null, .null, .long 0])), (q1, .inl (c1, 560, .inl (fun _ => 0))), (q2, .inl (c2, 2, .inl (fun _ => 0))), (q3, .inl (c3, 200, .inl (fun _ => 0))), (q4, .inl (c4, 3, .inl (fun _ => 0))), (q5, .inl (c5, 40, .inl (fun _ => 0))), (q6, .inl (c6, 160, .inl (fun _ => 0))), (q7, .inl (c7, 7, .inl (fun _ => 0))), (q8, .inl (c8, 36, .inl (fun _ => 0)))] := hD
  have hK : va_K (dC, dI) vwCl [(c1, .int), (c2, .boolean), (c3, .int), (c4, .int), (c5, .int), (c6, .int), (c7, .int), (c8, .int)] s := hK
  refine va_putF (D := (dC, dI)) (ci := 10) (v := .ref q8) (ty := .array .int) (C := RX11) (T := TX11) (N := 23) hx hb hts (by decide +kernel) tyX11 tyX11_ok nmX11 hown hK hP hD hS 0 rfl rfl 13 (by decide) (hts _ (w0m 972 (by decide +kernel) rfl)) (fun _ h9 => h9) rfl hin rfl (by decide +kernel) rfl rfl (Nat.le_of_ble_eq_true rfl) dX11_init_71 (fun H locs hP hD hS => ?_)
  have hP : va_P (dC, dI) vwCl [(h0, .inr (10, [.ref q1, .ref q2, .ref q3, .int 0, .long 0, .long 1, .ref q4, .ref q5, .ref q6, .int 0, .int 0, .int 0, .ref q7, .ref q8, .int 0, .int 0, .int 0, .null, .null, .null, .null, .null, .long 0])), (q1, .inl (c1, 560, .inl (fun _ => 0))), (q2, .inl (c2, 2, .inl (fun _ => 0))), (q3, .inl (c3, 200, .inl (fun _ => 0))), (q4, .inl (c4, 3, .inl (fun _ => 0))), (q5, .inl (c5, 40, .inl (fun _ => 0))), (q6, .inl (c6, 160, .inl (fun _ => 0))), (q7, .inl (c7, 7, .inl (fun _ => 0))), (q8, .inl (c8, 36, .inl (fun _ => 0)))] H := hP
  have hD : va_D A [(h0, .inr (10, [.ref q1, .ref q2, .ref q3, .int 0, .long 0, .long 1, .ref q4, .ref q5, .ref q6, .int 0, .int 0, .int 0, .ref q7, .ref q8, .int 0, .int 0, .int 0, .null, .null, .null, .null, .null, .long 0])), (q1, .inl (c1, 560, .inl (fun _ => 0))), (q2, .inl (c2, 2, .inl (fun _ => 0))), (q3, .inl (c3, 200, .inl (fun _ => 0))), (q4, .inl (c4, 3, .inl (fun _ => 0))), (q5, .inl (c5, 40, .inl (fun _ => 0))), (q6, .inl (c6, 160, .inl (fun _ => 0))), (q7, .inl (c7, 7, .inl (fun _ => 0))), (q8, .inl (c8, 36, .inl (fun _ => 0)))] := hD
  refine lv_aload_n hx hb dX11_init_74 rfl (lv_at hl 0 rfl) ?_
  refine lv_bipush (v := 8) hx hb dX11_init_75 (by decide) ?_
  refine va_newa (D := (dC, dI)) (atype := .int) (a0 := (8, .inl (fun _ => 0))) (ty := .int) hx hb (hts _ (w0m 171 (by decide +kernel) rfl)) rfl hK hP hD hS hA (fun cA => rfl) (by decide) (by decide +kernel) (by decide +kernel) (Nat.le_of_ble_eq_true rfl) (Nat.le_of_ble_eq_true rfl) dX11_init_77 (fun q9 c9 H hK hP hD hS => ?_)
  refine W.cs (cells' := 9) (slots' := 1016) rfl rfl ?_
  have hP : va_P (dC, dI) vwCl [(h0, .inr (10, [.ref q1, .ref q2, .ref q3, .int 0, .long 0, .long 1, .ref q4, .ref q5, .ref q6, .int 0, .int 0, .int 0, .ref q7, .ref q8, .int 0, .int 0, .int 0, .null, .null, .null, .null, .null, .long 0])), (q1, .inl (c1, 560, .inl (fun _ => 0))), (q2, .inl (c2, 2, .inl (fun _ => 0))), (q3, .inl (c3, 200, .inl (fun _ => 0))), (q4, .inl (c4, 3, .inl (fun _ => 0))), (q5, .inl (c5, 40, .inl (fun _ => 0))), (q6, .inl (c6, 160, .inl (fun _ => 0))), (q7, .inl (c7, 7, .inl (fun _ => 0))), (q8, .inl (c8, 36, .inl (fun _ => 0))), (q9, .inl (c9, 8, .inl (fun _ => 0)))] H := hP
  have hD : va_D A [(h0, .inr (10, [.ref q1, .ref q2, .ref q3, .int 0, .long 0, .long 1, .ref q4, .ref q5, .ref q6, .int 0, .int 0, .int 0, .ref q7, .ref q8, .int 0, .int 0, .int 0, .null, .null, .null, .null, .null, .long 0])), (q1, .inl (c1, 560, .inl (fun _ => 0))), (q2, .inl (c2, 2, .inl (fun _ => 0))), (q3, .inl (c3, 200, .inl (fun _ => 0))), (q4, .inl (c4, 3, .inl (fun _ => 0))), (q5, .inl (c5, 40, .inl (fun _ => 0))), (q6, .inl (c6, 160, .inl (fun _ => 0))), (q7, .inl (c7, 7, .inl (fun _ => 0))), (q8, .inl (c8, 36, .inl (fun _ => 0))), (q9, .inl (c9, 8, .inl (fun _ => 0)))] := hD
  have hK : va_K (dC, dI) vwCl [(c1, .int), (c2, .boolean), (c3, .int), (c4, .int), (c5, .int), (c6, .int), (c7, .int), (c8, .int), (c9, .int)] s := hK
  refine va_putF (D := (dC, dI)) (ci := 10) (v := .ref q9) (ty := .array .int) (C := RX11) (T := TX11) (N := 23) hx hb hts (by decide +kernel) tyX11 tyX11_ok nmX11 hown hK hP hD hS 0 rfl rfl 17 (by decide) (hts _ (w0m 976 (by decide +kernel) rfl)) (fun _ h9 => h9) rfl hin rfl (by decide +kernel) rfl rfl (Nat.le_of_ble_eq_true rfl) dX11_init_79 (fun H locs hP hD hS => ?_)
  have hP : va_P (dC, dI) vwCl [(h0, .inr (10, [.ref q1, .ref q2, .ref q3, .int 0, .long 0, .long 1, .ref q4, .ref q5, .ref q6, .int 0, .int 0, .int 0, .ref q7, .ref q8, .int 0, .int 0, .int 0, .ref q9, .null, .null, .null, .null, .long 0])), (q1, .inl (c1, 560, .inl (fun _ => 0))), (q2, .inl (c2, 2, .inl (fun _ => 0))), (q3, .inl (c3, 200, .inl (fun _ => 0))), (q4, .inl (c4, 3, .inl (fun _ => 0))), (q5, .inl (c5, 40, .inl (fun _ => 0))), (q6, .inl (c6, 160, .inl (fun _ => 0))), (q7, .inl (c7, 7, .inl (fun _ => 0))), (q8, .inl (c8, 36, .inl (fun _ => 0))), (q9, .inl (c9, 8, .inl (fun _ => 0)))] H := hP
  have hD : va_D A [(h0, .inr (10, [.ref q1, .ref q2, .ref q3, .int 0, .long 0, .long 1, .ref q4, .ref q5, .ref q6, .int 0, .int 0, .int 0, .ref q7, .ref q8, .int 0, .int 0, .int 0, .ref q9, .null, .null, .null, .null, .long 0])), (q1, .inl (c1, 560, .inl (fun _ => 0))), (q2, .inl (c2, 2, .inl (fun _ => 0))), (q3, .inl (c3, 200, .inl (fun _ => 0))), (q4, .inl (c4, 3, .inl (fun _ => 0))), (q5, .inl (c5, 40, .inl (fun _ => 0))), (q6, .inl (c6, 160, .inl (fun _ => 0))), (q7, .inl (c7, 7, .inl (fun _ => 0))), (q8, .inl (c8, 36, .inl (fun _ => 0))), (q9, .inl (c9, 8, .inl (fun _ => 0)))] := hD
  refine lv_aload_n hx hb dX11_init_82 rfl (lv_at hl 0 rfl) ?_
  refine lv_bipush (v := 6) hx hb dX11_init_83 (by decide) ?_
  refine va_newa (D := (dC, dI)) (atype := .int) (a0 := (6, .inl (fun _ => 0))) (ty := .int) hx hb (hts _ (w0m 171 (by decide +kernel) rfl)) rfl hK hP hD hS hA (fun cA => rfl) (by decide) (by decide +kernel) (by decide +kernel) (Nat.le_of_ble_eq_true rfl) (Nat.le_of_ble_eq_true rfl) dX11_init_85 (fun q10 c10 H hK hP hD hS => ?_)
  refine W.cs (cells' := 10) (slots' := 1022) rfl rfl ?_
  have hP : va_P (dC, dI) vwCl [(h0, .inr (10, [.ref q1, .ref q2, .ref q3, .int 0, .long 0, .long 1, .ref q4, .ref q5, .ref q6, .int 0, .int 0, .int 0, .ref q7, .ref q8, .int 0, .int 0, .int 0, .ref q9, .null, .null, .null, .null, .long 0])), (q1, .inl (c1, 560, .inl (fun _ => 0))), (q2, .inl (c2, 2, .inl (fun _ => 0))), (q3, .inl (c3, 200, .inl (fun _ => 0))), (q4, .inl (c4, 3, .inl (fun _ => 0))), (q5, .inl (c5, 40, .inl (fun _ => 0))), (q6, .inl (c6, 160, .inl (fun _ => 0))), (q7, .inl (c7, 7, .inl (fun _ => 0))), (q8, .inl (c8, 36, .inl (fun _ => 0))), (q9, .inl (c9, 8, .inl (fun _ => 0))), (q10, .inl (c10, 6, .inl (fun _ => 0)))] H := hP
  have hD : va_D A [(h0, .inr (10, [.ref q1, .ref q2, .ref q3, .int 0, .long 0, .long 1, .ref q4, .ref q5, .ref q6, .int 0, .int 0, .int 0, .ref q7, .ref q8, .int 0, .int 0, .int 0, .ref q9, .null, .null, .null, .null, .long 0])), (q1, .inl (c1, 560, .inl (fun _ => 0))), (q2, .inl (c2, 2, .inl (fun _ => 0))), (q3, .inl (c3, 200, .inl (fun _ => 0))), (q4, .inl (c4, 3, .inl (fun _ => 0))), (q5, .inl (c5, 40, .inl (fun _ => 0))), (q6, .inl (c6, 160, .inl (fun _ => 0))), (q7, .inl (c7, 7, .inl (fun _ => 0))), (q8, .inl (c8, 36, .inl (fun _ => 0))), (q9, .inl (c9, 8, .inl (fun _ => 0))), (q10, .inl (c10, 6, .inl (fun _ => 0)))] := hD
  have hK : va_K (dC, dI) vwCl [(c1, .int), (c2, .boolean), (c3, .int), (c4, .int), (c5, .int), (c6, .int), (c7, .int), (c8, .int), (c9, .int), (c10, .int)] s := hK
  refine va_putF (D := (dC, dI)) (ci := 10) (v := .ref q10) (ty := .array .int) (C := RX11) (T := TX11) (N := 23) hx hb hts (by decide +kernel) tyX11 tyX11_ok nmX11 hown hK hP hD hS 0 rfl rfl 18 (by decide) (hts _ (w0m 977 (by decide +kernel) rfl)) (fun _ h9 => h9) rfl hin rfl (by decide +kernel) rfl rfl (Nat.le_of_ble_eq_true rfl) dX11_init_87 (fun H locs hP hD hS => ?_)
  have hP : va_P (dC, dI) vwCl [(h0, .inr (10, [.ref q1, .ref q2, .ref q3, .int 0, .long 0, .long 1, .ref q4, .ref q5, .ref q6, .int 0, .int 0, .int 0, .ref q7, .ref q8, .int 0, .int 0, .int 0, .ref q9, .ref q10, .null, .null, .null, .long 0])), (q1, .inl (c1, 560, .inl (fun _ => 0))), (q2, .inl (c2, 2, .inl (fun _ => 0))), (q3, .inl (c3, 200, .inl (fun _ => 0))), (q4, .inl (c4, 3, .inl (fun _ => 0))), (q5, .inl (c5, 40, .inl (fun _ => 0))), (q6, .inl (c6, 160, .inl (fun _ => 0))), (q7, .inl (c7, 7, .inl (fun _ => 0))), (q8, .inl (c8, 36, .inl (fun _ => 0))), (q9, .inl (c9, 8, .inl (fun _ => 0))), (q10, .inl (c10, 6, .inl (fun _ => 0)))] H := hP
  have hD : va_D A [(h0, .inr (10, [.ref q1, .ref q2, .ref q3, .int 0, .long 0, .long 1, .ref q4, .ref q5, .ref q6, .int 0, .int 0, .int 0, .ref q7, .ref q8, .int 0, .int 0, .int 0, .ref q9, .ref q10, .null, .null, .null, .long 0])), (q1, .inl (c1, 560, .inl (fun _ => 0))), (q2, .inl (c2, 2, .inl (fun _ => 0))), (q3, .inl (c3, 200, .inl (fun _ => 0))), (q4, .inl (c4, 3, .inl (fun _ => 0))), (q5, .inl (c5, 40, .inl (fun _ => 0))), (q6, .inl (c6, 160, .inl (fun _ => 0))), (q7, .inl (c7, 7, .inl (fun _ => 0))), (q8, .inl (c8, 36, .inl (fun _ => 0))), (q9, .inl (c9, 8, .inl (fun _ => 0))), (q10, .inl (c10, 6, .inl (fun _ => 0)))] := hD
  refine lv_aload_n hx hb dX11_init_90 rfl (lv_at hl 0 rfl) ?_
  refine lv_bipush (v := 8) hx hb dX11_init_91 (by decide) ?_
  refine va_newa (D := (dC, dI)) (atype := .long) (a0 := (8, .inr (.inl (fun _ => 0)))) (ty := .long) hx hb (hts _ (w0m 292 (by decide +kernel) rfl)) rfl hK hP hD hS hA (fun cA => rfl) (by decide) (by decide +kernel) (by decide +kernel) (Nat.le_of_ble_eq_true rfl) (Nat.le_of_ble_eq_true rfl) dX11_init_93 (fun q11 c11 H hK hP hD hS => ?_)
  refine W.cs (cells' := 11) (slots' := 1030) rfl rfl ?_
  have hP : va_P (dC, dI) vwCl [(h0, .inr (10, [.ref q1, .ref q2, .ref q3, .int 0, .long 0, .long 1, .ref q4, .ref q5, .ref q6, .int 0, .int 0, .int 0, .ref q7, .ref q8, .int 0, .int 0, .int 0, .ref q9, .ref q10, .null, .null, .null, .long 0])), (q1, .inl (c1, 560, .inl (fun _ => 0))), (q2, .inl (c2, 2, .inl (fun _ => 0))), (q3, .inl (c3, 200, .inl (fun _ => 0))), (q4, .inl (c4, 3, .inl (fun _ => 0))), (q5, .inl (c5, 40, .inl (fun _ => 0))), (q6, .inl (c6, 160, .inl (fun _ => 0))), (q7, .inl (c7, 7, .inl (fun _ => 0))), (q8, .inl (c8, 36, .inl (fun _ => 0))), (q9, .inl (c9, 8, .inl (fun _ => 0))), (q10, .inl (c10, 6, .inl (fun _ => 0))), (q11, .inl (c11, 8, .inr (.inl (fun _ => 0))))] H := hP
  have hD : va_D A [(h0, .inr (10, [.ref q1, .ref q2, .ref q3, .int 0, .long 0, .long 1, .ref q4, .ref q5, .ref q6, .int 0, .int 0, .int 0, .ref q7, .ref q8, .int 0, .int 0, .int 0, .ref q9, .ref q10, .null, .null, .null, .long 0])), (q1, .inl (c1, 560, .inl (fun _ => 0))), (q2, .inl (c2, 2, .inl (fun _ => 0))), (q3, .inl (c3, 200, .inl (fun _ => 0))), (q4, .inl (c4, 3, .inl (fun _ => 0))), (q5, .inl (c5, 40, .inl (fun _ => 0))), (q6, .inl (c6, 160, .inl (fun _ => 0))), (q7, .inl (c7, 7, .inl (fun _ => 0))), (q8, .inl (c8, 36, .inl (fun _ => 0))), (q9, .inl (c9, 8, .inl (fun _ => 0))), (q10, .inl (c10, 6, .inl (fun _ => 0))), (q11, .inl (c11, 8, .inr (.inl (fun _ => 0))))] := hD
  have hK : va_K (dC, dI) vwCl [(c1, .int), (c2, .boolean), (c3, .int), (c4, .int), (c5, .int), (c6, .int), (c7, .int), (c8, .int), (c9, .int), (c10, .int), (c11, .long)] s := hK
  refine va_putF (D := (dC, dI)) (ci := 10) (v := .ref q11) (ty := .array .long) (C := RX11) (T := TX11) (N := 23) hx hb hts (by decide +kernel) tyX11 tyX11_ok nmX11 hown hK hP hD hS 0 rfl rfl 19 (by decide) (hts _ (w0m 978 (by decide +kernel) rfl)) (fun _ h9 => h9) rfl hin rfl (by decide +kernel) rfl rfl (Nat.le_of_ble_eq_true rfl) dX11_init_95 (fun H locs hP hD hS => ?_)
  have hP : va_P (dC, dI) vwCl [(h0, .inr (10, [.ref q1, .ref q2, .ref q3, .int 0, .long 0, .long 1, .ref q4, .ref q5, .ref q6, .int 0, .int 0, .int 0, .ref q7, .ref q8, .int 0, .int 0, .int 0, .ref q9, .ref q10, .ref q11, .null, .null, .long 0])), (q1, .inl (c1, 560, .inl (fun _ => 0))), (q2, .inl (c2, 2, .inl (fun _ => 0))), (q3, .inl (c3, 200, .inl (fun _ => 0))), (q4, .inl (c4, 3, .inl (fun _ => 0))), (q5, .inl (c5, 40, .inl (fun _ => 0))), (q6, .inl (c6, 160, .inl (fun _ => 0))), (q7, .inl (c7, 7, .inl (fun _ => 0))), (q8, .inl (c8, 36, .inl (fun _ => 0))), (q9, .inl (c9, 8, .inl (fun _ => 0))), (q10, .inl (c10, 6, .inl (fun _ => 0))), (q11, .inl (c11, 8, .inr (.inl (fun _ => 0))))] H := hP
  have hD : va_D A [(h0, .inr (10, [.ref q1, .ref q2, .ref q3, .int 0, .long 0, .long 1, .ref q4, .ref q5, .ref q6, .int 0, .int 0, .int 0, .ref q7, .ref q8, .int 0, .int 0, .int 0, .ref q9, .ref q10, .ref q11, .null, .null, .long 0])), (q1, .inl (c1, 560, .inl (fun _ => 0))), (q2, .inl (c2, 2, .inl (fun _ => 0))), (q3, .inl (c3, 200, .inl (fun _ => 0))), (q4, .inl (c4, 3, .inl (fun _ => 0))), (q5, .inl (c5, 40, .inl (fun _ => 0))), (q6, .inl (c6, 160, .inl (fun _ => 0))), (q7, .inl (c7, 7, .inl (fun _ => 0))), (q8, .inl (c8, 36, .inl (fun _ => 0))), (q9, .inl (c9, 8, .inl (fun _ => 0))), (q10, .inl (c10, 6, .inl (fun _ => 0))), (q11, .inl (c11, 8, .inr (.inl (fun _ => 0))))] := hD
  refine lv_aload_n hx hb dX11_init_98 rfl (lv_at hl 0 rfl) ?_
  refine lv_bipush (v := 8) hx hb dX11_init_99 (by decide) ?_
  refine va_newa (D := (dC, dI)) (atype := .long) (a0 := (8, .inr (.inl (fun _ => 0)))) (ty := .long) hx hb (hts _ (w0m 292 (by decide +kernel) rfl)) rfl hK hP hD hS hA (fun cA => rfl) (by decide) (by decide +kernel) (by decide +kernel) (Nat.le_of_ble_eq_true rfl) (Nat.le_of_ble_eq_true rfl) dX11_init_101 (fun q12 c12 H hK hP hD hS => ?_)
  refine W.cs (cells' := 12) (slots' := 1038) rfl rfl ?_
  have hP : va_P (dC, dI) vwCl [(h0, .inr (10, [.ref q1, .ref q2, .ref q3, .int 0, .long 0, .long 1, .ref q4, .ref q5, .ref q6, .int 0, .int 0, .int 0, .ref q7, .ref q8, .int 0, .int 0, .int 0, .ref q9, .ref q10, .ref q11, .null, .null, .long 0])), (q1, .inl (c1, 560, .inl (fun _ => 0))), (q2, .inl (c2, 2, .inl (fun _ => 0))), (q3, .inl (c3, 200, .inl (fun _ => 0))), (q4, .inl (c4, 3, .inl (fun _ => 0))), (q5, .inl (c5, 40, .inl (fun _ => 0))), (q6, .inl (c6, 160, .inl (fun _ => 0))), (q7, .inl (c7, 7, .inl (fun _ => 0))), (q8, .inl (c8, 36, .inl (fun _ => 0))), (q9, .inl (c9, 8, .inl (fun _ => 0))), (q10, .inl (c10, 6, .inl (fun _ => 0))), (q11, .inl (c11, 8, .inr (.inl (fun _ => 0)))), (q12, .inl (c12, 8, .inr (.inl (fun _ => 0))))] H := hP
  have hD : va_D A [(h0, .inr (10, [.ref q1, .ref q2, .ref q3, .int 0, .long 0, .long 1, .ref q4, .ref q5, .ref q6, .int 0, .int 0, .int 0, .ref q7, .ref q8, .int 0, .int 0, .int 0, .ref q9, .ref q10, .ref q11, .null, .null, .long 0])), (q1, .inl (c1, 560, .inl (fun _ => 0))), (q2, .inl (c2, 2, .inl (fun _ => 0))), (q3, .inl (c3, 200, .inl (fun _ => 0))), (q4, .inl (c4, 3, .inl (fun _ => 0))), (q5, .inl (c5, 40, .inl (fun _ => 0))), (q6, .inl (c6, 160, .inl (fun _ => 0))), (q7, .inl (c7, 7, .inl (fun _ => 0))), (q8, .inl (c8, 36, .inl (fun _ => 0))), (q9, .inl (c9, 8, .inl (fun _ => 0))), (q10, .inl (c10, 6, .inl (fun _ => 0))), (q11, .inl (c11, 8, .inr (.inl (fun _ => 0)))), (q12, .inl (c12, 8, .inr (.inl (fun _ => 0))))] := hD
  have hK : va_K (dC, dI) vwCl [(c1, .int), (c2, .boolean), (c3, .int), (c4, .int), (c5, .int), (c6, .int), (c7, .int), (c8, .int), (c9, .int), (c10, .int), (c11, .long), (c12, .long)] s := hK
  refine va_putF (D := (dC, dI)) (ci := 10) (v := .ref q12) (ty := .array .long) (C := RX11) (T := TX11) (N := 23) hx hb hts (by decide +kernel) tyX11 tyX11_ok nmX11 hown hK hP hD hS 0 rfl rfl 20 (by decide) (hts _ (w0m 979 (by decide +kernel) rfl)) (fun _ h9 => h9) rfl hin rfl (by decide +kernel) rfl rfl (Nat.le_of_ble_eq_true rfl) dX11_init_103 (fun H locs hP hD hS => ?_)
  have hP : va_P (dC, dI) vwCl [(h0, .inr (10, [.ref q1, .ref q2, .ref q3, .int 0, .long 0, .long 1, .ref q4, .ref q5, .ref q6, .int 0, .int 0, .int 0, .ref q7, .ref q8, .int 0, .int 0, .int 0, .ref q9, .ref q10, .ref q11, .ref q12, .null, .long 0])), (q1, .inl (c1, 560, .inl (fun _ => 0))), (q2, .inl (c2, 2, .inl (fun _ => 0))), (q3, .inl (c3, 200, .inl (fun _ => 0))), (q4, .inl (c4, 3, .inl (fun _ => 0))), (q5, .inl (c5, 40, .inl (fun _ => 0))), (q6, .inl (c6, 160, .inl (fun _ => 0))), (q7, .inl (c7, 7, .inl (fun _ => 0))), (q8, .inl (c8, 36, .inl (fun _ => 0))), (q9, .inl (c9, 8, .inl (fun _ => 0))), (q10, .inl (c10, 6, .inl (fun _ => 0))), (q11, .inl (c11, 8, .inr (.inl (fun _ => 0)))), (q12, .inl (c12, 8, .inr (.inl (fun _ => 0))))] H := hP
  have hD : va_D A [(h0, .inr (10, [.ref q1, .ref q2, .ref q3, .int 0, .long 0, .long 1, .ref q4, .ref q5, .ref q6, .int 0, .int 0, .int 0, .ref q7, .ref q8, .int 0, .int 0, .int 0, .ref q9, .ref q10, .ref q11, .ref q12, .null, .long 0])), (q1, .inl (c1, 560, .inl (fun _ => 0))), (q2, .inl (c2, 2, .inl (fun _ => 0))), (q3, .inl (c3, 200, .inl (fun _ => 0))), (q4, .inl (c4, 3, .inl (fun _ => 0))), (q5, .inl (c5, 40, .inl (fun _ => 0))), (q6, .inl (c6, 160, .inl (fun _ => 0))), (q7, .inl (c7, 7, .inl (fun _ => 0))), (q8, .inl (c8, 36, .inl (fun _ => 0))), (q9, .inl (c9, 8, .inl (fun _ => 0))), (q10, .inl (c10, 6, .inl (fun _ => 0))), (q11, .inl (c11, 8, .inr (.inl (fun _ => 0)))), (q12, .inl (c12, 8, .inr (.inl (fun _ => 0))))] := hD
  refine lv_aload_n hx hb dX11_init_106 rfl (lv_at hl 0 rfl) ?_
  refine lv_sipush (v := 896) hx hb dX11_init_107 (by decide) ?_
  refine va_newa (D := (dC, dI)) (atype := .int) (a0 := (896, .inl (fun _ => 0))) (ty := .int) hx hb (hts _ (w0m 171 (by decide +kernel) rfl)) rfl hK hP hD hS hA (fun cA => rfl) (by decide) (by decide +kernel) (by decide +kernel) (Nat.le_of_ble_eq_true rfl) (Nat.le_of_ble_eq_true rfl) dX11_init_110 (fun q13 c13 H hK hP hD hS => ?_)
  refine W.cs (cells' := 13) (slots' := 1934) rfl rfl ?_
  have hP : va_P (dC, dI) vwCl [(h0, .inr (10, [.ref q1, .ref q2, .ref q3, .int 0, .long 0, .long 1, .ref q4, .ref q5, .ref q6, .int 0, .int 0, .int 0, .ref q7, .ref q8, .int 0, .int 0, .int 0, .ref q9, .ref q10, .ref q11, .ref q12, .null, .long 0])), (q1, .inl (c1, 560, .inl (fun _ => 0))), (q2, .inl (c2, 2, .inl (fun _ => 0))), (q3, .inl (c3, 200, .inl (fun _ => 0))), (q4, .inl (c4, 3, .inl (fun _ => 0))), (q5, .inl (c5, 40, .inl (fun _ => 0))), (q6, .inl (c6, 160, .inl (fun _ => 0))), (q7, .inl (c7, 7, .inl (fun _ => 0))), (q8, .inl (c8, 36, .inl (fun _ => 0))), (q9, .inl (c9, 8, .inl (fun _ => 0))), (q10, .inl (c10, 6, .inl (fun _ => 0))), (q11, .inl (c11, 8, .inr (.inl (fun _ => 0)))), (q12, .inl (c12, 8, .inr (.inl (fun _ => 0)))), (q13, .inl (c13, 896, .inl (fun _ => 0)))] H := hP
  have hD : va_D A [(h0, .inr (10, [.ref q1, .ref q2, .ref q3, .int 0, .long 0, .long 1, .ref q4, .ref q5, .ref q6, .int 0, .int 0, .int 0, .ref q7, .ref q8, .int 0, .int 0, .int 0, .ref q9, .ref q10, .ref q11, .ref q12, .null, .long 0])), (q1, .inl (c1, 560, .inl (fun _ => 0))), (q2, .inl (c2, 2, .inl (fun _ => 0))), (q3, .inl (c3, 200, .inl (fun _ => 0))), (q4, .inl (c4, 3, .inl (fun _ => 0))), (q5, .inl (c5, 40, .inl (fun _ => 0))), (q6, .inl (c6, 160, .inl (fun _ => 0))), (q7, .inl (c7, 7, .inl (fun _ => 0))), (q8, .inl (c8, 36, .inl (fun _ => 0))), (q9, .inl (c9, 8, .inl (fun _ => 0))), (q10, .inl (c10, 6, .inl (fun _ => 0))), (q11, .inl (c11, 8, .inr (.inl (fun _ => 0)))), (q12, .inl (c12, 8, .inr (.inl (fun _ => 0)))), (q13, .inl (c13, 896, .inl (fun _ => 0)))] := hD
  have hK : va_K (dC, dI) vwCl [(c1, .int), (c2, .boolean), (c3, .int), (c4, .int), (c5, .int), (c6, .int), (c7, .int), (c8, .int), (c9, .int), (c10, .int), (c11, .long), (c12, .long), (c13, .int)] s := hK
  refine va_putF (D := (dC, dI)) (ci := 10) (v := .ref q13) (ty := .array .int) (C := RX11) (T := TX11) (N := 23) hx hb hts (by decide +kernel) tyX11 tyX11_ok nmX11 hown hK hP hD hS 0 rfl rfl 21 (by decide) (hts _ (w0m 980 (by decide +kernel) rfl)) (fun _ h9 => h9) rfl hin rfl (by decide +kernel) rfl rfl (Nat.le_of_ble_eq_true rfl) dX11_init_112 (fun H locs hP hD hS => ?_)
  have hP : va_P (dC, dI) vwCl [(h0, .inr (10, [.ref q1, .ref q2, .ref q3, .int 0, .long 0, .long 1, .ref q4, .ref q5, .ref q6, .int 0, .int 0, .int 0, .ref q7, .ref q8, .int 0, .int 0, .int 0, .ref q9, .ref q10, .ref q11, .ref q12, .ref q13, .long 0])), (q1, .inl (c1, 560, .inl (fun _ => 0))), (q2, .inl (c2, 2, .inl (fun _ => 0))), (q3, .inl (c3, 200, .inl (fun _ => 0))), (q4, .inl (c4, 3, .inl (fun _ => 0))), (q5, .inl (c5, 40, .inl (fun _ => 0))), (q6, .inl (c6, 160, .inl (fun _ => 0))), (q7, .inl (c7, 7, .inl (fun _ => 0))), (q8, .inl (c8, 36, .inl (fun _ => 0))), (q9, .inl (c9, 8, .inl (fun _ => 0))), (q10, .inl (c10, 6, .inl (fun _ => 0))), (q11, .inl (c11, 8, .inr (.inl (fun _ => 0)))), (q12, .inl (c12, 8, .inr (.inl (fun _ => 0)))), (q13, .inl (c13, 896, .inl (fun _ => 0)))] H := hP
  have hD : va_D A [(h0, .inr (10, [.ref q1, .ref q2, .ref q3, .int 0, .long 0, .long 1, .ref q4, .ref q5, .ref q6, .int 0, .int 0, .int 0, .ref q7, .ref q8, .int 0, .int 0, .int 0, .ref q9, .ref q10, .ref q11, .ref q12, .ref q13, .long 0])), (q1, .inl (c1, 560, .inl (fun _ => 0))), (q2, .inl (c2, 2, .inl (fun _ => 0))), (q3, .inl (c3, 200, .inl (fun _ => 0))), (q4, .inl (c4, 3, .inl (fun _ => 0))), (q5, .inl (c5, 40, .inl (fun _ => 0))), (q6, .inl (c6, 160, .inl (fun _ => 0))), (q7, .inl (c7, 7, .inl (fun _ => 0))), (q8, .inl (c8, 36, .inl (fun _ => 0))), (q9, .inl (c9, 8, .inl (fun _ => 0))), (q10, .inl (c10, 6, .inl (fun _ => 0))), (q11, .inl (c11, 8, .inr (.inl (fun _ => 0)))), (q12, .inl (c12, 8, .inr (.inl (fun _ => 0)))), (q13, .inl (c13, 896, .inl (fun _ => 0)))] := hD
  have hP9 := hP.sub (ws' := [(h0, .inr (10, [.ref q1, .ref q2, .ref q3, .int 0, .long 0, .long 1, .ref q4, .ref q5, .ref q6, .int 0, .int 0, .int 0, .ref q7, .ref q8, .int 0, .int 0, .int 0, .ref q9, .ref q10, .ref q11, .ref q12, .ref q13, .long 0])), (q1, .inl (c1, 560, .inl (fun _ => 0))), (q2, .inl (c2, 2, .inl (fun _ => 0))), (q3, .inl (c3, 200, .inl (fun _ => 0))), (q4, .inl (c4, 3, .inl (fun _ => 0))), (q5, .inl (c5, 40, .inl (fun _ => 0))), (q6, .inl (c6, 160, .inl (fun _ => 0))), (q7, .inl (c7, 7, .inl (fun _ => 0))), (q8, .inl (c8, 36, .inl (fun _ => 0))), (q9, .inl (c9, 8, .inl (fun _ => 0))), (q10, .inl (c10, 6, .inl (fun _ => 0))), (q11, .inl (c11, 8, .inr (.inl (fun _ => 0)))), (q12, .inl (c12, 8, .inr (.inl (fun _ => 0)))), (q13, .inl (c13, 896, .inl (fun _ => 0)))]) [0, 1, 2, 3, 4, 5, 6, 7, 8, 9, 10, 11, 12, 13] rfl
  exact W.vret hx hb hr (fun t ht hW => ⟨⟨(), rfl, trivial, q1, q2, q3, q4, q5, q6, q7, q8, q9, q10, q11, q12, q13, c1, c2, c3, c4, c5, c6, c7, c8, c9, c10, c11, c12, c13, by rw [ht]; exact hP9, va_K.moved hW.alike hK, hD⟩, hS.F ht⟩) hS.2.2 dX11_init_115
end
