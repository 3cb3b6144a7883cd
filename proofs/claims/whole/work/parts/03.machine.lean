/-! THE PLAIN MACHINE: values, memory, one instruction, runs; equations of runs -/
abbrev jv : Type := Int32 ⊕ (Int64 ⊕ ((Nat × Nat) ⊕ Unit))
abbrev jm : Type := (Nat → Nat → Int32) × (Nat → Nat → Int64)
abbrev jr : Type := Option jv × jm
abbrev je : Type := Nat × List Nat × Instr × List Nat × Int32 × Int64 × List (Int32 × Nat)
abbrev ja : Type := (Option Bool × List jv × List jv × jm) ⊕ ((Option Bool × Nat × List jv × List jv × jm) ⊕ ((Nat × List jv × Nat × List jv × List jv × jm) ⊕ ((Int32 × List (Int32 × Nat) × Nat × List jv × List jv × jm) ⊕ jr)))
abbrev jI (x : Int32) : jv := .inl x
abbrev jL (x : Int64) : jv := .inr (.inl x)
abbrev jR (c k : Nat) : jv := .inr (.inr (.inl (c, k)))
abbrev jU : jv := .inr (.inr (.inr ()))
def gI (μ : jm) (k i : Nat) : Int32 := μ.1 k i
def gL (μ : jm) (k i : Nat) : Int64 := μ.2 k i
def sI (μ : jm) (k i : Nat) (v : Int32) : jm := (fun a b => if a = k ∧ b = i then v else μ.1 a b, μ.2)
def sL (μ : jm) (k i : Nat) (v : Int64) : jm := (μ.1, fun a b => if a = k ∧ b = i then v else μ.2 a b)
def cpI (μ : jm) (k0 sp k1 dp n : Nat) : jm := (fun a b => if a = k1 then va_cpy (μ.1 k0) (μ.1 k1) sp dp n b else μ.1 a b, μ.2)
def inB (i : Int32) (n : Nat) : Bool := decide (0 ≤ i.toInt ∧ i.toInt < n)
def ix (i : Int32) : Nat := i.toNatClampNeg
/-- the constants of the class's text: the numbers of an item, the words' bytes -/
def jnum (i : Nat) : Int32 := [2, 2, 3, 2, 4, 1].getD i 0
def jwords : List (List Int32) := [[100, 111, 111, 114], [104, 101, 97, 114, 115], [111, 110, 101], [109, 97, 116, 101, 115], [99, 104, 111, 114, 100], [115, 108, 97, 99, 107]]
def jwl (k : Nat) : Nat := (jwords.getD k []).length
def jwb (k i : Nat) : Int32 := (jwords.getD k []).getD i 0
def jwd : jv → Nat
  | .inr (.inl _) => 2
  | _ => 1
def jws (st : List jv) : Nat := (st.map jwd).sum
/-- locals: cleared, stored, at a method's entry -/
def jcl : List Nat → List jv → List jv
  | [], ls => ls
  | i :: r, ls => jcl r (ls.set i jU)
def jkl : jv → jv
  | .inr (.inl _) => jU
  | a => a
def jst : List jv → Nat → jv → List jv
  | [], _, _ => []
  | _ :: r, 0, v => v :: r
  | a :: r, i + 1, v => (match i with
    | 0 => jkl a
    | _ => a) :: jst r i v
def jsu : List jv → List jv
  | [] => []
  | _ :: r => jU :: r
def jst2 : List jv → Nat → jv → List jv
  | [], _, _ => []
  | _ :: r, 0, v => v :: jsu r
  | a :: r, i + 1, v => (match i with
    | 0 => jkl a
    | _ => a) :: jst2 r i v
def jex : List jv → List jv
  | [] => []
  | .inr (.inl x) :: r => .inr (.inl x) :: jU :: jex r
  | v :: r => v :: jex r
def jen (n : Nat) (as : List jv) : List jv := jex as ++ List.replicate (n - (jex as).length) jU
def aN (ls st : List jv) (μ : jm) : Option ja := some (.inl (none, ls, st, μ))
def aG (g : Bool) (ls st : List jv) (μ : jm) : Option ja := some (.inl (some g, ls, st, μ))
def aJ (t : Nat) (ls st : List jv) (μ : jm) : Option ja := some (.inr (.inl (none, t, ls, st, μ)))
def aB (b : Bool) (t : Nat) (ls st : List jv) (μ : jm) : Option ja := some (.inr (.inl (some b, t, ls, st, μ)))
def aC (j : Nat) (as : List jv) (rk : Nat) (ls st : List jv) (μ : jm) : Option ja := some (.inr (.inr (.inl (j, as, rk, ls, st, μ))))
def aS (x : Int32) (tb : List (Int32 × Nat)) (d : Nat) (ls st : List jv) (μ : jm) : Option ja := some (.inr (.inr (.inr (.inl (x, tb, d, ls, st, μ)))))
def aR (v : Option jv) (μ : jm) : Option ja := some (.inr (.inr (.inr (.inr (v, μ)))))
def jld (ls : List jv) (i : Nat) (st : List jv) (μ : jm) (w : Nat) : Option ja := match ls[i]? with
  | some (.inl x) => if w = 0 then aN ls (.inl x :: st) μ else none
  | some (.inr (.inl x)) => if w = 1 then aN ls (.inr (.inl x) :: st) μ else none
  | some (.inr (.inr (.inl x))) => if w = 2 then aN ls (.inr (.inr (.inl x)) :: st) μ else none
  | _ => none
def jsv (ls : List jv) (i : Nat) (st : List jv) (μ : jm) (w : Nat) : Option ja := match st with
  | .inl x :: r => if w = 0 then aN (jst ls i (.inl x)) r μ else none
  | .inr (.inl x) :: r => if w = 1 then aN (jst2 ls i (.inr (.inl x))) r μ else none
  | _ => none
def jop2 (f : Int32 → Int32 → Int32) (ls st : List jv) (μ : jm) : Option ja := match st with
  | .inl y :: .inl x :: r => aN ls (.inl (f x y) :: r) μ
  | _ => none
def jop2g (f : Int32 → Int32 → Int32) (ls st : List jv) (μ : jm) : Option ja := match st with
  | .inl y :: .inl x :: r => aG (decide (¬ y = 0)) ls (.inl (f x y) :: r) μ
  | _ => none
def jop1 (f : Int32 → Int32) (ls st : List jv) (μ : jm) : Option ja := match st with
  | .inl x :: r => aN ls (.inl (f x) :: r) μ
  | _ => none
def jlp2 (f : Int64 → Int64 → Int64) (ls st : List jv) (μ : jm) : Option ja := match st with
  | .inr (.inl y) :: .inr (.inl x) :: r => aN ls (.inr (.inl (f x y)) :: r) μ
  | _ => none
def jlp2g (f : Int64 → Int64 → Int64) (ls st : List jv) (μ : jm) : Option ja := match st with
  | .inr (.inl y) :: .inr (.inl x) :: r => aG (decide (¬ y = 0)) ls (.inr (.inl (f x y)) :: r) μ
  | _ => none
def jlsh (f : Int64 → Int32 → Int64) (ls st : List jv) (μ : jm) : Option ja := match st with
  | .inl y :: .inr (.inl x) :: r => aN ls (.inr (.inl (f x y)) :: r) μ
  | _ => none
def jif (f : Int32 → Bool) (t : Nat) (ls st : List jv) (μ : jm) : Option ja := match st with
  | .inl x :: r => aB (f x) t ls r μ
  | _ => none
def jif2 (f : Int32 → Int32 → Bool) (t : Nat) (ls st : List jv) (μ : jm) : Option ja := match st with
  | .inl y :: .inl x :: r => aB (f x y) t ls r μ
  | _ => none
def jgf (ns : List Nat) (v : Int32) (ls st : List jv) (μ : jm) : Option ja := match ns, st with
  | [_, ci, sl, kd, tg, of], .inr (.inr (.inl (c, k))) :: r =>
    if Nat.beq c ci then (match kd with
      | 0 => aN ls (.inl (gI μ k sl) :: r) μ
      | 1 => aN ls (.inr (.inl (gL μ k sl)) :: r) μ
      | 2 => aN ls (.inr (.inr (.inl (tg, k + of))) :: r) μ
      | 3 => aN ls (.inr (.inr (.inl (tg, k))) :: r) μ
      | _ => aN ls (.inl v :: r) μ) else none
  | _, _ => none
def jpf (ns : List Nat) (ls st : List jv) (μ : jm) : Option ja := match ns, st with
  | [_, ci, sl, kd], .inl x :: .inr (.inr (.inl (c, k))) :: r => if Nat.beq c ci && Nat.beq kd 0 then aN ls r (sI μ k sl x) else none
  | [_, ci, sl, kd], .inr (.inl x) :: .inr (.inr (.inl (c, k))) :: r => if Nat.beq c ci && Nat.beq kd 1 then aN ls r (sL μ k sl x) else none
  | _, _ => none
def jiald (ls st : List jv) (μ : jm) : Option ja := match st with
  | .inl i :: .inr (.inr (.inl (t, k))) :: r =>
    if Nat.beq t 96 then aG (inB i k) ls (.inl (gI μ 99 (ix i)) :: r) μ
    else if Nat.beq t 97 then aG (inB i 6) ls (.inl (jnum (ix i)) :: r) μ
    else if Nat.beq (t / 1000) 1 then aG (inB i (t - 1000)) ls (.inl (gI μ k (ix i)) :: r) μ else none
  | _ => none
def jbald (ls st : List jv) (μ : jm) : Option ja := match st with
  | .inl i :: .inr (.inr (.inl (t, k))) :: r =>
    if Nat.beq t 95 then aG (inB i (jwl k)) ls (.inl (jwb k (ix i)) :: r) μ
    else if Nat.beq (t / 1000) 3 then aG (inB i (t - 3000)) ls (.inl (gI μ k (ix i)) :: r) μ
    else if Nat.beq (t / 1000) 4 then aG (inB i (t - 4000)) ls (.inl (gI μ k (ix i)) :: r) μ else none
  | _ => none
def jlald (ls st : List jv) (μ : jm) : Option ja := match st with
  | .inl i :: .inr (.inr (.inl (t, k))) :: r =>
    if Nat.beq (t / 1000) 2 then aG (inB i (t - 2000)) ls (.inr (.inl (gL μ k (ix i))) :: r) μ else none
  | _ => none
def jaald (ls st : List jv) (μ : jm) : Option ja := match st with
  | .inl i :: .inr (.inr (.inl (t, k))) :: r =>
    if Nat.beq t 5002 then aG (inB i 2) ls (.inr (.inr (.inl (8, k + 1 + 11 * ix i))) :: r) μ else none
  | _ => none
def jalen (ls st : List jv) (μ : jm) : Option ja := match st with
  | .inr (.inr (.inl (t, k))) :: r =>
    if Nat.beq t 96 then aN ls (.inl (nI k) :: r) μ
    else if Nat.beq t 95 then aN ls (.inl (nI (jwl k)) :: r) μ
    else if Nat.beq (t / 1000) 1 then aN ls (.inl (nI (t - 1000)) :: r) μ
    else if Nat.beq (t / 1000) 2 then aN ls (.inl (nI (t - 2000)) :: r) μ else none
  | _ => none
def jiast (ls st : List jv) (μ : jm) : Option ja := match st with
  | .inl x :: .inl i :: .inr (.inr (.inl (t, k))) :: r =>
    if Nat.beq (t / 1000) 1 then aG (inB i (t - 1000)) ls r (sI μ k (ix i) x) else none
  | _ => none
def jbast (ls st : List jv) (μ : jm) : Option ja := match st with
  | .inl x :: .inl i :: .inr (.inr (.inl (t, k))) :: r =>
    if Nat.beq (t / 1000) 3 then aG (inB i (t - 3000)) ls r (sI μ k (ix i) x.toInt8.toInt32)
    else if Nat.beq (t / 1000) 4 then aG (inB i (t - 4000)) ls r (sI μ k (ix i) (x &&& 1)) else none
  | _ => none
def jlast (ls st : List jv) (μ : jm) : Option ja := match st with
  | .inr (.inl x) :: .inl i :: .inr (.inr (.inl (t, k))) :: r =>
    if Nat.beq (t / 1000) 2 then aG (inB i (t - 2000)) ls r (sL μ k (ix i) x) else none
  | _ => none
def jcg (sp dp n : Int32) (l0 l1 : Nat) : Bool := decide (0 ≤ sp.toInt ∧ 0 ≤ dp.toInt ∧ 0 ≤ n.toInt ∧ ix sp + ix n ≤ l0 ∧ ix dp + ix n ≤ l1)
def jcpy (ls st : List jv) (μ : jm) : Option ja := match st with
  | .inl n :: .inl dp :: .inr (.inr (.inl (t1, k1))) :: .inl sp :: .inr (.inr (.inl (t0, k0))) :: r =>
    if Nat.beq (t0 / 1000) 1 && Nat.beq (t1 / 1000) 1 && Nat.ble (jws r) 8 then aG (jcg sp dp n (t0 - 1000) (t1 - 1000)) ls r (cpI μ k0 (ix sp) k1 (ix dp) (ix n)) else none
  | _ => none
def jmin (ls st : List jv) (μ : jm) : Option ja := match st with
  | .inl y :: .inl x :: r => (match Nat.ble (jws r) 8 with
    | true => aN ls (.inl (if y < x then y else x) :: r) μ
    | false => none)
  | _ => none
def jrv (tg : Nat) (as : List jv) : Bool := Nat.beq tg 200 || (match as with
  | .inr (.inr (.inl (t, _))) :: _ => Nat.beq t tg
  | _ => false)
def jcal (j n rk mx tg : Nat) (ls st : List jv) (μ : jm) : Option ja := match Nat.ble (jws (st.drop n)) 8 && (Nat.ble n st.length && (Nat.ble (jex (st.take n).reverse).length mx && jrv tg (st.take n).reverse)) with
  | true => aC j (st.take n).reverse rk ls (st.drop n) μ
  | false => none
def jiv (ns : List Nat) (ls st : List jv) (μ : jm) : Option ja := match ns with
  | [_, j, n, rk, mx, tg] => jcal j n rk mx tg ls st μ
  | [_, _] => jcpy ls st μ
  | [_, _, _] => jmin ls st μ
  | _ => none
def jgs (ns : List Nat) (v : Int32) (ls st : List jv) (μ : jm) : Option ja := match ns with
  | [_, 0] => aN ls (.inl v :: st) μ
  | [_, 1] => aN ls (.inr (.inr (.inl (94, 0))) :: st) μ
  | [_, 2] => aN ls (.inr (.inr (.inl (97, 0))) :: st) μ
  | _ => none
def jret (ns : List Nat) (st : List jv) (μ : jm) : Option ja := match ns, st with
  | [_, 0], [.inl x] => aR (some (.inl x)) μ
  | [_, 1], [.inl x] => aR (some (.inl (x &&& 1))) μ
  | [_, 2], [.inl x] => aR (some (.inl x.toInt8.toInt32)) μ
  | [_, 3], [.inl x] => aR (some (.inl (x.toUInt32 % 65536).toInt32)) μ
  | _, _ => none
def jtg (ns : List Nat) : Nat := ns.getD 1 0
def jact (q : je) (ls st : List jv) (μ : jm) : Option ja :=
  match q.2.2.1 with
  | .iconst _ => aN ls (.inl q.2.2.2.2.1 :: st) μ
  | .bipush _ => aN ls (.inl q.2.2.2.2.1 :: st) μ
  | .sipush _ => aN ls (.inl q.2.2.2.2.1 :: st) μ
  | .ldc_w _ => aN ls (.inl q.2.2.2.2.1 :: st) μ
  | .ldc _ => aN ls (.inr (.inr (.inl (98, jtg q.2.2.2.1))) :: st) μ
  | .lconst _ => aN ls (.inr (.inl q.2.2.2.2.2.1) :: st) μ
  | .ldc2_w _ => aN ls (.inr (.inl q.2.2.2.2.2.1) :: st) μ
  | .iload i => jld ls i st μ 0
  | .iload_n i => jld ls i.val st μ 0
  | .lload i => jld ls i st μ 1
  | .lload_n i => jld ls i.val st μ 1
  | .aload i => jld ls i st μ 2
  | .aload_n i => jld ls i.val st μ 2
  | .istore i => jsv ls i st μ 0
  | .istore_n i => jsv ls i.val st μ 0
  | .lstore i => jsv ls i st μ 1
  | .lstore_n i => jsv ls i.val st μ 1
  | .iinc i _ => (match ls[i]? with
    | some (.inl x) => aN (jst ls i (.inl (x + q.2.2.2.2.1))) st μ
    | _ => none)
  | .iadd => jop2 (fun x y => x + y) ls st μ
  | .isub => jop2 (fun x y => x - y) ls st μ
  | .imul => jop2 (fun x y => x * y) ls st μ
  | .iand => jop2 (fun x y => x &&& y) ls st μ
  | .ior => jop2 (fun x y => x ||| y) ls st μ
  | .ixor => jop2 (fun x y => x ^^^ y) ls st μ
  | .ishl => jop2 (fun x y => x <<< (y &&& 31)) ls st μ
  | .ishr => jop2 (fun x y => x >>> (y &&& 31)) ls st μ
  | .iushr => jop2 (fun x y => (x.toUInt32 >>> (y.toUInt32 &&& Int32.toUInt32 31)).toInt32) ls st μ
  | .idiv => jop2g (fun x y => x / y) ls st μ
  | .irem => jop2g (fun x y => x - x / y * y) ls st μ
  | .ineg => jop1 (fun x => -x) ls st μ
  | .i2b => jop1 (fun x => x.toInt8.toInt32) ls st μ
  | .i2c => jop1 (fun x => (x.toUInt32 % 65536).toInt32) ls st μ
  | .ladd => jlp2 (fun x y => x + y) ls st μ
  | .lsub => jlp2 (fun x y => x - y) ls st μ
  | .lmul => jlp2 (fun x y => x * y) ls st μ
  | .land => jlp2 (fun x y => x &&& y) ls st μ
  | .lor => jlp2 (fun x y => x ||| y) ls st μ
  | .ldiv => jlp2g (fun x y => x / y) ls st μ
  | .lrem => jlp2g (fun x y => x - x / y * y) ls st μ
  | .lshl => jlsh (fun x y => x <<< (y.toInt64 &&& 63)) ls st μ
  | .lshr => jlsh (fun x y => x >>> (y.toInt64 &&& 63)) ls st μ
  | .i2l => (match st with
    | .inl x :: r => aN ls (.inr (.inl x.toInt64) :: r) μ
    | _ => none)
  | .l2i => (match st with
    | .inr (.inl x) :: r => aN ls (.inl x.toInt32 :: r) μ
    | _ => none)
  | .lcmp => (match st with
    | .inr (.inl y) :: .inr (.inl x) :: r => aN ls (.inl (lg_cmp x y) :: r) μ
    | _ => none)
  | .dup => (match st with
    | .inl x :: r => aN ls (.inl x :: .inl x :: r) μ
    | .inr (.inr (.inl x)) :: r => aN ls (.inr (.inr (.inl x)) :: .inr (.inr (.inl x)) :: r) μ
    | _ => none)
  | .dup2 => (match st with
    | .inl y :: .inr (.inr (.inl x)) :: r => aN ls (.inl y :: .inr (.inr (.inl x)) :: .inl y :: .inr (.inr (.inl x)) :: r) μ
    | _ => none)
  | .pop => (match st with
    | .inl _ :: r => aN ls r μ
    | _ => none)
  | .goto _ => aJ (jtg q.2.2.2.1) ls st μ
  | .ifCond .eq _ => jif (fun x => decide (x = 0)) (jtg q.2.2.2.1) ls st μ
  | .ifCond .ne _ => jif (fun x => decide (¬ x = 0)) (jtg q.2.2.2.1) ls st μ
  | .ifCond .lt _ => jif (fun x => decide (x < 0)) (jtg q.2.2.2.1) ls st μ
  | .ifCond .ge _ => jif (fun x => decide (0 ≤ x)) (jtg q.2.2.2.1) ls st μ
  | .ifCond .gt _ => jif (fun x => decide (0 < x)) (jtg q.2.2.2.1) ls st μ
  | .ifCond .le _ => jif (fun x => decide (x ≤ 0)) (jtg q.2.2.2.1) ls st μ
  | .if_icmp .eq _ => jif2 (fun x y => decide (x = y)) (jtg q.2.2.2.1) ls st μ
  | .if_icmp .ne _ => jif2 (fun x y => decide (¬ x = y)) (jtg q.2.2.2.1) ls st μ
  | .if_icmp .lt _ => jif2 (fun x y => decide (x < y)) (jtg q.2.2.2.1) ls st μ
  | .if_icmp .ge _ => jif2 (fun x y => decide (y ≤ x)) (jtg q.2.2.2.1) ls st μ
  | .if_icmp .gt _ => jif2 (fun x y => decide (y < x)) (jtg q.2.2.2.1) ls st μ
  | .if_icmp .le _ => jif2 (fun x y => decide (x ≤ y)) (jtg q.2.2.2.1) ls st μ
  | .tableswitch _ _ _ _ => (match st with
    | .inl x :: r => aS x q.2.2.2.2.2.2 (jtg q.2.2.2.1) ls r μ
    | _ => none)
  | .getfield _ => jgf q.2.2.2.1 q.2.2.2.2.1 ls st μ
  | .putfield _ => jpf q.2.2.2.1 ls st μ
  | .getstatic _ => jgs q.2.2.2.1 q.2.2.2.2.1 ls st μ
  | .iaload => jiald ls st μ
  | .baload => jbald ls st μ
  | .laload => jlald ls st μ
  | .aaload => jaald ls st μ
  | .arraylength => jalen ls st μ
  | .iastore => jiast ls st μ
  | .bastore => jbast ls st μ
  | .lastore => jlast ls st μ
  | .invokevirtual _ => jiv q.2.2.2.1 ls st μ
  | .invokestatic _ => jiv q.2.2.2.1 ls st μ
  | .ireturn => jret q.2.2.2.1 st μ
  | .lreturn => (match st with
    | [.inr (.inl x)] => aR (some (.inr (.inl x))) μ
    | _ => none)
  | .areturn => (match st with
    | [.inr (.inr (.inl x))] => aR (some (.inr (.inr (.inl x)))) μ
    | _ => none)
  | .return_ => (match st with
    | [] => aR none μ
    | _ => none)
  | _ => none
/-- a call's answer handed on -/
def bV (o : Option jr) (k : jm → Option jr) : Option jr := match o with
  | some (none, μ) => k μ
  | _ => none
def bI (o : Option jr) (k : Int32 → jm → Option jr) : Option jr := match o with
  | some (some (.inl r), μ) => k r μ
  | _ => none
def bL (o : Option jr) (k : Int64 → jm → Option jr) : Option jr := match o with
  | some (some (.inr (.inl r)), μ) => k r μ
  | _ => none
def bR (o : Option jr) (k : Nat × Nat → jm → Option jr) : Option jr := match o with
  | some (some (.inr (.inr (.inl r))), μ) => k r μ
  | _ => none
def jbd (rk : Nat) (o : Option jr) (k : List jv → jm → Option jr) : Option jr := match rk with
  | 0 => bV o (fun μ => k [] μ)
  | 1 => bI o (fun r μ => k [.inl r] μ)
  | 2 => bL o (fun r μ => k [.inr (.inl r)] μ)
  | _ => bR o (fun r μ => k [.inr (.inr (.inl r))] μ)
def jgd (g : Bool) (x : Option jr) : Option jr := match g with
  | true => x
  | false => none
def jbr (b : Bool) (x y : Option jr) : Option jr := match b with
  | true => x
  | false => y
def jsw (x : Int32) (tb : List (Int32 × Nat)) (d : Nat) (k : Nat → Option jr) : Option jr := match tb with
  | [] => k d
  | (v, t) :: r => jbr (decide (x = v)) (k t) (jsw x r d k)
def jfd (pc : Nat) : List je → Option je
  | [] => none
  | q :: r => match Nat.beq q.1 pc with
    | true => some q
    | false => jfd pc r
abbrev jE : Type := Nat → List jv → List jv → jm → Option jr
abbrev jC : Type := Nat → List jv → jm → Option jr
/-- what follows an action: calls by way of C, the rest by way of E; the next place is p2 -/
def jgo (C : jC) (E : jE) (p2 : Nat) (a : Option ja) : Option jr := match a with
  | none => none
  | some (.inl (none, ls, st, μ)) => E p2 ls st μ
  | some (.inl (some g, ls, st, μ)) => jgd g (E p2 ls st μ)
  | some (.inr (.inl (none, t, ls, st, μ))) => E t ls st μ
  | some (.inr (.inl (some b, t, ls, st, μ))) => jbr b (E t ls st μ) (E p2 ls st μ)
  | some (.inr (.inr (.inl (j2, as, rk, ls, st, μ)))) => jbd rk (C j2 as μ) (fun vs μ2 => E p2 ls (vs ++ st) μ2)
  | some (.inr (.inr (.inr (.inl (x, tb, d, ls, st, μ))))) => jsw x tb d (fun t => E t ls st μ)
  | some (.inr (.inr (.inr (.inr r)))) => some r
def jstep (F : List je) (C : jC) (E : jE) (pc : Nat) (ls st : List jv) (μ : jm) : Option jr := match jfd pc F with
  | none => none
  | some q => jgo C E (pc + q.2.2.2.1.headD 0) (jact q (jcl q.2.1 ls) st μ)
theorem jbd_mono {rk : Nat} {o o' : Option jr} {k k' : List jv → jm → Option jr} {r : jr} (ho : ∀ r, o = some r → o' = some r) (hk : ∀ vs μ r, k vs μ = some r → k' vs μ = some r) (h : jbd rk o k = some r) : jbd rk o' k' = some r := by
  cases o with
  | none =>
    exfalso
    match rk, h with
    | 0, h => simp [jbd, bV] at h
    | 1, h => simp [jbd, bI] at h
    | 2, h => simp [jbd, bL] at h
    | _ + 3, h => simp [jbd, bR] at h
  | some q =>
    rw [ho q rfl]
    obtain ⟨v, μ⟩ := q
    match rk, h with
    | 0, h => cases v with
      | none => exact hk _ _ _ h
      | some v => simp [jbd, bV] at h
    | 1, h => match v, h with
      | some (.inl x), h => exact hk _ _ _ h
      | some (.inr x), h => simp [jbd, bI] at h
      | none, h => simp [jbd, bI] at h
    | 2, h => match v, h with
      | some (.inr (.inl x)), h => exact hk _ _ _ h
      | some (.inr (.inr x)), h => simp [jbd, bL] at h
      | some (.inl x), h => simp [jbd, bL] at h
      | none, h => simp [jbd, bL] at h
    | n + 3, h => match v, h with
      | some (.inr (.inr (.inl x))), h => exact hk _ _ _ h
      | some (.inr (.inr (.inr x))), h => simp [jbd, bR] at h
      | some (.inr (.inl x)), h => simp [jbd, bR] at h
      | some (.inl x), h => simp [jbd, bR] at h
      | none, h => simp [jbd, bR] at h
/-- a call whose answer is there: what is handed on -/
theorem jbd_some {rk : Nat} {o : Option jr} {k : List jv → jm → Option jr} {r : jr} (h : jbd rk o k = some r) : ∃ (v : Option jv) (μ : jm), o = some (v, μ) ∧ k v.toList μ = some r ∧ ∀ k' : List jv → jm → Option jr, jbd rk o k' = k' v.toList μ := by
  cases o with
  | none =>
    exfalso
    match rk, h with
    | 0, h => simp [jbd, bV] at h
    | 1, h => simp [jbd, bI] at h
    | 2, h => simp [jbd, bL] at h
    | _ + 3, h => simp [jbd, bR] at h
  | some q =>
    obtain ⟨v, μ⟩ := q
    refine ⟨v, μ, rfl, ?_⟩
    match rk, h with
    | 0, h => cases v with
      | none => exact ⟨h, fun _ => rfl⟩
      | some v => simp [jbd, bV] at h
    | 1, h => match v, h with
      | some (.inl x), h => exact ⟨h, fun _ => rfl⟩
      | some (.inr x), h => simp [jbd, bI] at h
      | none, h => simp [jbd, bI] at h
    | 2, h => match v, h with
      | some (.inr (.inl x)), h => exact ⟨h, fun _ => rfl⟩
      | some (.inr (.inr x)), h => simp [jbd, bL] at h
      | some (.inl x), h => simp [jbd, bL] at h
      | none, h => simp [jbd, bL] at h
    | n + 3, h => match v, h with
      | some (.inr (.inr (.inl x))), h => exact ⟨h, fun _ => rfl⟩
      | some (.inr (.inr (.inr x))), h => simp [jbd, bR] at h
      | some (.inr (.inl x)), h => simp [jbd, bR] at h
      | some (.inl x), h => simp [jbd, bR] at h
      | none, h => simp [jbd, bR] at h
/-- a switch goes to one place -/
theorem jsw_one (x : Int32) : ∀ (tb : List (Int32 × Nat)) (d : Nat), ∃ t, ∀ k : Nat → Option jr, jsw x tb d k = k t
  | [], d => ⟨d, fun _ => rfl⟩
  | (v, t) :: r, d => by
    by_cases h : x = v
    · exact ⟨t, fun k => by rw [jsw, decide_eq_true h]; rfl⟩
    · obtain ⟨t', ht⟩ := jsw_one x r d
      exact ⟨t', fun k => by rw [jsw, decide_eq_false h, ← ht k]; rfl⟩
theorem jgo_mono {C C' : jC} {E E' : jE} {p2 : Nat} {a : Option ja} {r : jr} (hC : ∀ a b c r, C a b c = some r → C' a b c = some r) (hE : ∀ a b c d r, E a b c d = some r → E' a b c d = some r) (h : jgo C E p2 a = some r) : jgo C' E' p2 a = some r := by
  match a, h with
  | none, h => simp [jgo] at h
  | some (.inl (none, ls, st, μ)), h => exact hE p2 ls st μ r h
  | some (.inl (some g, ls, st, μ)), h =>
    cases g with
    | true => exact hE p2 ls st μ r h
    | false => exact absurd (show (none : Option jr) = some r from h) (by simp)
  | some (.inr (.inl (none, t, ls, st, μ))), h => exact hE t ls st μ r h
  | some (.inr (.inl (some b, t, ls, st, μ))), h =>
    cases b with
    | true => exact hE t ls st μ r h
    | false => exact hE p2 ls st μ r h
  | some (.inr (.inr (.inl (j2, as, rk, ls, st, μ)))), h => exact jbd_mono (hC _ _ _) (fun vs μ2 r h => hE _ _ _ _ _ h) (show jbd rk (C j2 as μ) (fun vs μ2 => E p2 ls (vs ++ st) μ2) = some r from h)
  | some (.inr (.inr (.inr (.inl (x, tb, d, ls, st, μ))))), h =>
    obtain ⟨t, ht⟩ := jsw_one x tb d
    have h : jsw x tb d (fun t => E t ls st μ) = some r := h
    show jsw x tb d (fun t => E' t ls st μ) = some r
    rw [ht] at h ⊢
    exact hE _ _ _ _ _ h
  | some (.inr (.inr (.inr (.inr r')))), h => exact h
/-- a step whose parts end within some fuel each ends within one -/
theorem jgo_cont {C : jC} {E : jE} {Cn : Nat → jC} {En : Nat → jE} {p2 : Nat} {a : Option ja} {r : jr}
    (mC : ∀ n m a b c r, n ≤ m → Cn n a b c = some r → Cn m a b c = some r) (mE : ∀ n m a b c d r, n ≤ m → En n a b c d = some r → En m a b c d = some r)
    (hC : ∀ a b c r, C a b c = some r → ∃ n, Cn n a b c = some r) (hE : ∀ a b c d r, E a b c d = some r → ∃ n, En n a b c d = some r) (h : jgo C E p2 a = some r) : ∃ n, jgo (Cn n) (En n) p2 a = some r := by
  match a, h with
  | none, h => simp [jgo] at h
  | some (.inl (none, ls, st, μ)), h => exact hE p2 ls st μ r h
  | some (.inl (some g, ls, st, μ)), h =>
    cases g with
    | true => exact hE p2 ls st μ r h
    | false => exact absurd (show (none : Option jr) = some r from h) (by simp)
  | some (.inr (.inl (none, t, ls, st, μ))), h => exact hE t ls st μ r h
  | some (.inr (.inl (some b, t, ls, st, μ))), h =>
    cases b with
    | true => exact hE t ls st μ r h
    | false => exact hE p2 ls st μ r h
  | some (.inr (.inr (.inl (j2, as, rk, ls, st, μ)))), h =>
    have h : jbd rk (C j2 as μ) (fun vs μ2 => E p2 ls (vs ++ st) μ2) = some r := h
    obtain ⟨v, μ2, h1, h2, -⟩ := jbd_some h
    obtain ⟨n1, e1⟩ := hC _ _ _ _ h1
    obtain ⟨n2, e2⟩ := hE _ _ _ _ _ h2
    refine ⟨max n1 n2, ?_⟩
    have e1' := mC n1 (max n1 n2) _ _ _ _ (Nat.le_max_left _ _) e1
    have e2' := mE n2 (max n1 n2) _ _ _ _ _ (Nat.le_max_right _ _) e2
    show jbd rk (Cn (max n1 n2) j2 as μ) (fun vs μ2 => En (max n1 n2) p2 ls (vs ++ st) μ2) = some r
    rw [h1] at h
    obtain ⟨v', μ2', h1', -, h4⟩ := jbd_some h
    cases h1'
    rw [e1', h4]
    exact e2'
  | some (.inr (.inr (.inr (.inl (x, tb, d, ls, st, μ))))), h =>
    obtain ⟨t, ht⟩ := jsw_one x tb d
    have h : jsw x tb d (fun t => E t ls st μ) = some r := h
    rw [ht] at h
    obtain ⟨n, hn⟩ := hE _ _ _ _ _ h
    refine ⟨n, ?_⟩
    show jsw x tb d (fun t => En n t ls st μ) = some r
    rw [ht]
    exact hn
  | some (.inr (.inr (.inr (.inr r')))), h => exact ⟨0, h⟩
