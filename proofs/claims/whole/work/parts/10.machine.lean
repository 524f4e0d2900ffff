/-! THE ABSTRACT MACHINE: values are ints, longs, and cells by tag and number; a store holds ints and longs by tag, number, place. A step is told over what comes behind it (K) and what calls answer (C). -/
abbrev AV : Type := Int32 ⊕ (Int64 ⊕ (Nat × Nat))
abbrev vI (x : Int32) : AV := .inl x
abbrev vL (x : Int64) : AV := .inr (.inl x)
abbrev vR (t i : Nat) : AV := .inr (.inr (t, i))
abbrev St : Type := (Nat → Nat → Nat → Int32) × (Nat → Nat → Nat → Int64)
abbrev AR : Type := Option AV × St
abbrev AL : Type := List (Option AV)
abbrev AK : Type := Nat → AL → List AV → St → Option AR
abbrev AC : Type := Nat → Nat → List AV → St → Option AR
abbrev TE : Type := Instr × Nat × List Nat × (Int32 ⊕ Int64)
def gI (σ : St) (t i j : Nat) : Int32 := σ.1 t i j
def gL (σ : St) (t i j : Nat) : Int64 := σ.2 t i j
def sI (σ : St) (t i j : Nat) (v : Int32) : St := (fun t' i' j' => if t' = t ∧ i' = i ∧ j' = j then v else σ.1 t' i' j', σ.2)
def sL (σ : St) (t i j : Nat) (v : Int64) : St := (σ.1, fun t' i' j' => if t' = t ∧ i' = i ∧ j' = j then v else σ.2 t' i' j')
def cpI (σ : St) (t1 i1 p1 t2 i2 p2 n : Nat) : St := (fun t' i' j' => if t' = t2 ∧ i' = i2 ∧ p2 ≤ j' ∧ j' < p2 + n then σ.1 t1 i1 (p1 + (j' - p2)) else σ.1 t' i' j', σ.2)
def cpL (σ : St) (t1 i1 p1 t2 i2 p2 n : Nat) : St := (σ.1, fun t' i' j' => if t' = t2 ∧ i' = i2 ∧ p2 ≤ j' ∧ j' < p2 + n then σ.2 t1 i1 (p1 + (j' - p2)) else σ.2 t' i' j')
/-- a place of an array of n -/
def ix (j : Int32) (n : Nat) (k : Nat → Option AR) : Option AR := if j < 0 ∨ n ≤ j.toNatClampNeg then none else k j.toNatClampNeg
def lk (t : Nat) : Nat := t % 8
def pln (i : Nat) : Nat := match i with
  | 1 => 7
  | 3 => 10
  | _ => 6
def ln (t i : Nat) : Nat := cond (Nat.beq (t / 512) 0) (pln (i % 5)) (t / 512)
def la (t i j : Nat) : Nat × Nat := cond (Nat.beq t 6869) (3289, 13 * i + j) (cond (Nat.beq t 2229) (80, j) (cond (Nat.beq t 6941) (3361, j) (48, 2 + j)))
def lfi (f b i : Nat) : Nat := match f with
  | 0 => b
  | 1 => i
  | 2 => 5 * i + b
  | _ => i / 2
def alen (σ : St) (t i : Nat) : Nat := cond (Nat.beq t 497) (gI σ 497 1 0).toNatClampNeg (ln t i)
def cI (o : Option AR) (k : Int32 → St → Option AR) : Option AR := match o with
  | some (some (.inl x), σ') => k x σ'
  | _ => none
def cL (o : Option AR) (k : Int64 → St → Option AR) : Option AR := match o with
  | some (some (.inr (.inl x)), σ') => k x σ'
  | _ => none
def cV (o : Option AR) (k : St → Option AR) : Option AR := match o with
  | some (none, σ') => k σ'
  | _ => none
def cAV (c : Int32 ⊕ Int64) : AV := match c with
  | .inl x => .inl x
  | .inr y => .inr (.inl y)
def isL (o : Option (Option AV)) : Bool := match o with
  | some (some (.inr (.inl _))) => true
  | _ => false
/-- before a store at i: a long that began just ahead of i is gone -/
def lcut (L : AL) (i : Nat) : AL := match i with
  | 0 => L
  | k + 1 => cond (isL L[k]?) (L.set k none) L
def lset1 (L : AL) (i : Nat) (v : AV) : AL := (lcut L i).set i (some v)
def lset2 (L : AL) (i : Nat) (v : AV) : AL := ((lcut L i).set i (some v)).set (i + 1) none
/-- forget some locals (at a loop's end: those that its head doesn't have) -/
def clr (L : AL) (ks : List Nat) : AL := match ks with
  | [] => L
  | k :: ks => clr (L.set k none) ks
def acat (v : AV) : Nat := match v with
  | .inr (.inl _) => 2
  | _ => 1
def asum (S : List AV) : Nat := match S with
  | [] => 0
  | v :: l => acat v + asum l
def bud (m r m' : Nat) : Option Nat := cond (Nat.beq m' m) (match r with
  | 0 => none
  | r' + 1 => some r') (some (R0 m'))
def ldI (K : AK) (pc : Nat) (L : AL) (S : List AV) (σ : St) (i : Nat) : Option AR := match L[i]? with
  | some (some (.inl x)) => K pc L (.inl x :: S) σ
  | _ => none
def ldL (K : AK) (pc : Nat) (L : AL) (S : List AV) (σ : St) (i : Nat) : Option AR := match L[i]? with
  | some (some (.inr (.inl x))) => K pc L (.inr (.inl x) :: S) σ
  | _ => none
def ldA (K : AK) (pc : Nat) (L : AL) (S : List AV) (σ : St) (i : Nat) : Option AR := match L[i]? with
  | some (some (.inr (.inr q))) => K pc L (.inr (.inr q) :: S) σ
  | _ => none
def stI (K : AK) (pc : Nat) (L : AL) (S : List AV) (σ : St) (i : Nat) : Option AR := match S with
  | .inl x :: S' => cond (Nat.blt i L.length) (K pc (lset1 L i (.inl x)) S' σ) none
  | _ => none
def stL (K : AK) (pc : Nat) (L : AL) (S : List AV) (σ : St) (i : Nat) : Option AR := match S with
  | .inr (.inl x) :: S' => cond (Nat.blt (i + 1) L.length) (K pc (lset2 L i (.inr (.inl x))) S' σ) none
  | _ => none
def stA (K : AK) (pc : Nat) (L : AL) (S : List AV) (σ : St) (i : Nat) : Option AR := match S with
  | .inr (.inr q) :: S' => cond (Nat.blt i L.length) (K pc (lset1 L i (.inr (.inr q))) S' σ) none
  | _ => none
def biI (K : AK) (pc : Nat) (L : AL) (S : List AV) (σ : St) (f : Int32 → Int32 → Int32) : Option AR := match S with
  | .inl y :: .inl x :: S' => K pc L (.inl (f x y) :: S') σ
  | _ => none
def biL (K : AK) (pc : Nat) (L : AL) (S : List AV) (σ : St) (f : Int64 → Int64 → Int64) : Option AR := match S with
  | .inr (.inl y) :: .inr (.inl x) :: S' => K pc L (.inr (.inl (f x y)) :: S') σ
  | _ => none
def dvI (K : AK) (pc : Nat) (L : AL) (S : List AV) (σ : St) (f : Int32 → Int32 → Int32) : Option AR := match S with
  | .inl y :: .inl x :: S' => if y = 0 then none else K pc L (.inl (f x y) :: S') σ
  | _ => none
def dvL (K : AK) (pc : Nat) (L : AL) (S : List AV) (σ : St) (f : Int64 → Int64 → Int64) : Option AR := match S with
  | .inr (.inl y) :: .inr (.inl x) :: S' => if y = 0 then none else K pc L (.inr (.inl (f x y)) :: S') σ
  | _ => none
def mmI (K : AK) (pc : Nat) (L : AL) (S : List AV) (σ : St) (f : Int32 → Int32 → Int32) : Option AR := match S with
  | .inl y :: .inl x :: S' => cond (Nat.ble (asum S') 8) (K pc L (.inl (f x y) :: S') σ) none
  | _ => none
def br1 (K : AK) (pc tgt : Nat) (L : AL) (S : List AV) (σ : St) (cd : ClassFile.Cond) : Option AR := match S with
  | .inl x :: S' => match cd with
    | .eq => if x = 0 then K tgt L S' σ else K pc L S' σ
    | .ne => if x = 0 then K pc L S' σ else K tgt L S' σ
    | .lt => if x < 0 then K tgt L S' σ else K pc L S' σ
    | .ge => if x < 0 then K pc L S' σ else K tgt L S' σ
    | .gt => if x ≤ 0 then K pc L S' σ else K tgt L S' σ
    | .le => if x ≤ 0 then K tgt L S' σ else K pc L S' σ
  | _ => none
def br2 (K : AK) (pc tgt : Nat) (L : AL) (S : List AV) (σ : St) (cd : ClassFile.Cond) : Option AR := match S with
  | .inl y :: .inl x :: S' => match cd with
    | .eq => if x = y then K tgt L S' σ else K pc L S' σ
    | .ne => if x = y then K pc L S' σ else K tgt L S' σ
    | .lt => if x < y then K tgt L S' σ else K pc L S' σ
    | .ge => if x < y then K pc L S' σ else K tgt L S' σ
    | .gt => if x ≤ y then K pc L S' σ else K tgt L S' σ
    | .le => if x ≤ y then K tgt L S' σ else K pc L S' σ
  | _ => none
def gtF (K : AK) (pc : Nat) (L : AL) (S : List AV) (σ : St) (xs : List Nat) : Option AR := match S, xs with
  | .inr (.inr (t, i)) :: S', [c, k, d] => cond (Nat.beq t (8 * c)) (match d with
    | 1 => K pc L (.inr (.inl (gL σ t i k)) :: S') σ
    | _ => K pc L (.inl (gI σ t i k) :: S') σ) none
  | .inr (.inr (t, i)) :: S', [c, _, t', f, b] => cond (Nat.beq t (8 * c)) (K pc L (.inr (.inr (t', lfi f b i)) :: S') σ) none
  | _, _ => none
def ptF (K : AK) (pc : Nat) (L : AL) (S : List AV) (σ : St) (xs : List Nat) : Option AR := match S, xs with
  | .inl x :: .inr (.inr (t, i)) :: S', [c, k, d] => cond (Nat.beq t (8 * c)) (match d with
    | 0 => K pc L S' (sI σ t i k x)
    | 3 => if x = 0 ∨ x = 1 then K pc L S' (sI σ t i k x) else none
    | _ => none) none
  | .inr (.inl x) :: .inr (.inr (t, i)) :: S', [c, k, d] => cond (Nat.beq t (8 * c) && Nat.beq d 1) (K pc L S' (sL σ t i k x)) none
  | _, _ => none
def jmp (K : AK) (L : AL) (S : List AV) (σ : St) (x : Int32) (d : Nat) : Int → List Nat → Option AR
  | _, [] => K d L S σ
  | lo, t :: ts => if x.toInt = lo then K t L S σ else jmp K L S σ x d (lo + 1) ts
def cpA (K : AK) (pc : Nat) (L : AL) (S : List AV) (σ : St) : Option AR := match S with
  | [.inl n, .inl dp, .inr (.inr (t2, i2)), .inl sp, .inr (.inr (t1, i1))] =>
    if 0 ≤ n.toInt ∧ 0 ≤ sp.toInt ∧ 0 ≤ dp.toInt ∧ sp.toInt + n.toInt ≤ ln t1 i1 ∧ dp.toInt + n.toInt ≤ ln t2 i2 then
      (cond (Nat.beq (lk t1) 1 && Nat.beq (lk t2) 1 && !(Nat.beq t1 497) && !(Nat.beq t2 497)) (K pc L [] (cpI σ t1 i1 sp.toNatClampNeg t2 i2 dp.toNatClampNeg n.toNatClampNeg))
      (cond (Nat.beq (lk t1) 2 && Nat.beq (lk t2) 2) (K pc L [] (cpL σ t1 i1 sp.toNatClampNeg t2 i2 dp.toNatClampNeg n.toNatClampNeg)) none)) else none
  | _ => none
/-- the script is no argument -/
def nscr (S : List AV) : Bool := match S with
  | [] => true
  | .inr (.inr (t, _)) :: l => !(Nat.beq t 497) && nscr l
  | _ :: l => nscr l
def inv (K : AK) (C : AC) (m r pc : Nat) (L : AL) (S : List AV) (σ : St) (xs : List Nat) : Option AR := match xs with
  | [m', n, rt] => cond (Nat.ble n S.length && Nat.ble (asum (S.drop n)) 8 && nscr (S.take n)) (match bud m r m' with
    | none => none
    | some r' => match rt with
      | 0 => cV (C m' r' (S.take n).reverse σ) (fun σ' => K pc L (S.drop n) σ')
      | 1 => cI (C m' r' (S.take n).reverse σ) (fun x σ' => K pc L (.inl x :: S.drop n) σ')
      | _ => cL (C m' r' (S.take n).reverse σ) (fun x σ' => K pc L (.inr (.inl x) :: S.drop n) σ')) none
  | _ => none
/-- a call on an object: of its class -/
def inw (K : AK) (C : AC) (m r pc : Nat) (L : AL) (S : List AV) (σ : St) (m' n rt cl : Nat) : Option AR := match S.drop (n - 1) with
  | .inr (.inr (t, _)) :: _ => cond (Nat.beq t (8 * cl)) (inv K C m r pc L S σ [m', n, rt]) none
  | _ => none
def prm (K : AK) (pc : Nat) (L : AL) (S : List AV) (σ : St) (w : Nat) : Option AR := match w with
  | 0 => cpA K pc L S σ
  | 1 => (match S with
    | .inr (.inr (t, i)) :: S' => cond (Nat.beq t 494 && Nat.ble (asum S') 8) (K pc L (.inl (Int32.ofNat (slen i)) :: S') σ) none
    | _ => none)
  | 2 => (match S with
    | .inl j :: .inr (.inr (t, i)) :: S' => cond (Nat.beq t 494 && Nat.ble (asum S') 8) (ix j (slen i) (fun k => K pc L (.inl (sch i k) :: S') σ)) none
    | _ => none)
  | 3 => mmI K pc L S σ (fun x y => if x < y then y else x)
  | _ => mmI K pc L S σ (fun x y => if y < x then y else x)
/-- what a boolean method answers -/
def retZ (x : Int32) (σ : St) : Option AR := if x = 0 ∨ x = 1 then some (some (.inl x), σ) else none
def stepI (K : AK) (C : AC) (m r pc : Nat) (L : AL) (S : List AV) (σ : St) (ins : Instr) (len : Nat) (xs : List Nat) (cv : Int32 ⊕ Int64) : Option AR := match ins with
  | .iconst _ => K (pc + len) L (cAV cv :: S) σ
  | .bipush _ => K (pc + len) L (cAV cv :: S) σ
  | .sipush _ => K (pc + len) L (cAV cv :: S) σ
  | .lconst _ => K (pc + len) L (cAV cv :: S) σ
  | .ldc2_w _ => K (pc + len) L (cAV cv :: S) σ
  | .ldc_w _ => K (pc + len) L (cAV cv :: S) σ
  | .ldc _ => (match xs with
    | [] => K (pc + len) L (cAV cv :: S) σ
    | k :: _ => K (pc + len) L (.inr (.inr (494, k)) :: S) σ)
  | .iload i => ldI K (pc + len) L S σ i
  | .iload_n i => ldI K (pc + len) L S σ i.val
  | .lload i => ldL K (pc + len) L S σ i
  | .lload_n i => ldL K (pc + len) L S σ i.val
  | .aload i => ldA K (pc + len) L S σ i
  | .aload_n i => ldA K (pc + len) L S σ i.val
  | .istore i => stI K (pc + len) L S σ i
  | .istore_n i => stI K (pc + len) L S σ i.val
  | .lstore i => stL K (pc + len) L S σ i
  | .lstore_n i => stL K (pc + len) L S σ i.val
  | .astore i => stA K (pc + len) L S σ i
  | .astore_n i => stA K (pc + len) L S σ i.val
  | .iinc i _ => (match L[i]?, cv with
    | some (some (.inl x)), .inl n => K (pc + len) (lset1 L i (.inl (x + n))) S σ
    | _, _ => none)
  | .iadd => biI K (pc + len) L S σ (fun x y => x + y)
  | .isub => biI K (pc + len) L S σ (fun x y => x - y)
  | .imul => biI K (pc + len) L S σ (fun x y => x * y)
  | .iand => biI K (pc + len) L S σ (fun x y => x &&& y)
  | .ior => biI K (pc + len) L S σ (fun x y => x ||| y)
  | .ixor => biI K (pc + len) L S σ (fun x y => x ^^^ y)
  | .ishl => biI K (pc + len) L S σ (fun x y => x <<< (y &&& 31))
  | .ishr => biI K (pc + len) L S σ (fun x y => x >>> (y &&& 31))
  | .iushr => biI K (pc + len) L S σ (fun x y => (x.toUInt32 >>> (y.toUInt32 &&& Int32.toUInt32 31)).toInt32)
  | .idiv => dvI K (pc + len) L S σ (fun x y => x / y)
  | .irem => dvI K (pc + len) L S σ (fun x y => x - x / y * y)
  | .ladd => biL K (pc + len) L S σ (fun x y => x + y)
  | .lsub => biL K (pc + len) L S σ (fun x y => x - y)
  | .lmul => biL K (pc + len) L S σ (fun x y => x * y)
  | .land => biL K (pc + len) L S σ (fun x y => x &&& y)
  | .lor => biL K (pc + len) L S σ (fun x y => x ||| y)
  | .lshl => (match S with
    | .inl y :: .inr (.inl x) :: S' => K (pc + len) L (.inr (.inl (x <<< (y.toInt64 &&& 63))) :: S') σ
    | _ => none)
  | .ldiv => dvL K (pc + len) L S σ (fun x y => x / y)
  | .lrem => dvL K (pc + len) L S σ (fun x y => x - x / y * y)
  | .lcmp => (match S with
    | .inr (.inl y) :: .inr (.inl x) :: S' => K (pc + len) L (.inl (lg_cmp x y) :: S') σ
    | _ => none)
  | .i2l => (match S with
    | .inl x :: S' => K (pc + len) L (.inr (.inl x.toInt64) :: S') σ
    | _ => none)
  | .l2i => (match S with
    | .inr (.inl x) :: S' => K (pc + len) L (.inl x.toInt32 :: S') σ
    | _ => none)
  | .i2b => (match S with
    | .inl x :: S' => K (pc + len) L (.inl x.toInt8.toInt32 :: S') σ
    | _ => none)
  | .i2s => (match S with
    | .inl x :: S' => K (pc + len) L (.inl x.toInt16.toInt32 :: S') σ
    | _ => none)
  | .dup => (match S with
    | v :: S' => cond (Nat.beq (acat v) 1) (K (pc + len) L (v :: v :: S') σ) none
    | _ => none)
  | .dup2 => (match S with
    | .inl x :: v :: S' => cond (Nat.beq (acat v) 1) (K (pc + len) L (.inl x :: v :: .inl x :: v :: S') σ) none
    | _ => none)
  | .pop => (match S with
    | .inl _ :: S' => K (pc + len) L S' σ
    | _ => none)
  | .goto _ => (match xs with
    | t :: ks => K t (clr L ks) S σ
    | _ => none)
  | .ifCond cd _ => (match xs with
    | [t] => br1 K (pc + len) t L S σ cd
    | _ => none)
  | .if_icmp cd _ => (match xs with
    | [t] => br2 K (pc + len) t L S σ cd
    | _ => none)
  | .tableswitch _ lo _ _ => (match S, xs with
    | .inl x :: S', d :: ts => jmp K L S' σ x d lo ts
    | _, _ => none)
  | .getfield _ => gtF K (pc + len) L S σ xs
  | .putfield _ => ptF K (pc + len) L S σ xs
  | .iaload => (match S with
    | .inl j :: .inr (.inr (t, i)) :: S' => cond (Nat.beq (lk t) 1) (ix j (alen σ t i) (fun k => K (pc + len) L (.inl (gI σ t i k) :: S') σ)) none
    | _ => none)
  | .baload => (match S with
    | .inl j :: .inr (.inr (t, i)) :: S' => cond (Nat.beq (lk t) 3 || Nat.beq (lk t) 4) (ix j (ln t i) (fun k => K (pc + len) L (.inl (gI σ t i k) :: S') σ)) none
    | _ => none)
  | .laload => (match S with
    | .inl j :: .inr (.inr (t, i)) :: S' => cond (Nat.beq (lk t) 2) (ix j (ln t i) (fun k => K (pc + len) L (.inr (.inl (gL σ t i k)) :: S') σ)) none
    | _ => none)
  | .aaload => (match S with
    | .inl j :: .inr (.inr (t, i)) :: S' => cond (Nat.beq (lk t) 5) (ix j (ln t i) (fun k => K (pc + len) L (.inr (.inr (la t i k)) :: S') σ)) none
    | _ => none)
  | .iastore => (match S with
    | .inl x :: .inl j :: .inr (.inr (t, i)) :: S' => cond (Nat.beq (lk t) 1 && !(Nat.beq t 497)) (ix j (ln t i) (fun k => K (pc + len) L S' (sI σ t i k x))) none
    | _ => none)
  | .bastore => (match S with
    | .inl x :: .inl j :: .inr (.inr (t, i)) :: S' => cond (Nat.beq (lk t) 3) (ix j (ln t i) (fun k => K (pc + len) L S' (sI σ t i k x.toInt8.toInt32))) (cond (Nat.beq (lk t) 4) (if x = 0 ∨ x = 1 then ix j (ln t i) (fun k => K (pc + len) L S' (sI σ t i k x)) else none) none)
    | _ => none)
  | .lastore => (match S with
    | .inr (.inl x) :: .inl j :: .inr (.inr (t, i)) :: S' => cond (Nat.beq (lk t) 2) (ix j (ln t i) (fun k => K (pc + len) L S' (sL σ t i k x))) none
    | _ => none)
  | .arraylength => (match S with
    | .inr (.inr (t, i)) :: S' => cond (Nat.ble 1 (lk t) && Nat.ble (lk t) 5) (K (pc + len) L (.inl (Int32.ofNat (alen σ t i)) :: S') σ) none
    | _ => none)
  | .invokevirtual _ => (match xs with
    | [w] => prm K (pc + len) L S σ w
    | [m', n, rt, cl] => inw K C m r (pc + len) L S σ m' n rt cl
    | _ => none)
  | .invokestatic _ => (match xs with
    | [w] => prm K (pc + len) L S σ w
    | _ => inv K C m r (pc + len) L S σ xs)
  | .ireturn => (match S, xs with
    | [.inl x], [] => some (some (.inl x), σ)
    | [.inl x], _ => retZ x σ
    | _, _ => none)
  | .lreturn => (match S with
    | [.inr (.inl x)] => some (some (.inr (.inl x)), σ)
    | _ => none)
  | .return_ => (match S with
    | [] => some (none, σ)
    | _ => none)
  | _ => none
def stepF (K : AK) (C : AC) (m r pc : Nat) (L : AL) (S : List AV) (σ : St) : Option AR := match atab m pc with
  | none => none
  | some (ins, len, xs, cv) => stepI K C m r pc L S σ ins len xs cv
