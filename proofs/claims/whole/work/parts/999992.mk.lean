/-! THE MAKING: a machine for the constructors; the k-th cell made stands at b0 + k -/
abbrev FV : Type := Option AV
abbrev MC : Type := (Nat × List FV) ⊕ ((Nat × Nat × List (Nat × Int32)) ⊕ (Nat × Nat × List (Nat × Nat)))
abbrev MW : Type := List MC
abbrev MK : Type := Nat → AL → List AV → MW → Nat → Option MW
def kbl (ci : Nat) : List FV := (List.range (Tc ci).2.2).map (fun k => match (fkd ci k).1 with
  | 1 => some (.inr (.inl 0))
  | 2 => none
  | _ => some (.inl 0))
def mty (k : Nat) : FieldType := match k with
  | 0 => .int
  | 1 => .long
  | 2 => .byte
  | 3 => .boolean
  | 4 => .object RX6
  | 5 => .object RX10
  | _ => .array .int
def ktc (t : ArrayType) : Option Nat := match t with
  | .int => some 0
  | .long => some 1
  | .byte => some 2
  | .boolean => some 3
  | _ => none
/-- how many cells and slots a constructor takes -/
def klm (ci : Nat) (a : List AV) : Nat × Nat := match ci with
  | 0 => (3, 90)
  | 1 => (14, 91)
  | 2 => (1, 6)
  | 3 => (14, 91)
  | 4 => match a with
    | [_, .inl x] => (2, 2 * x.toNatClampNeg)
    | _ => (0, 0)
  | 5 => (1, 700)
  | 6 => (20, 186)
  | 7 => (2, 12)
  | 8 => (4, 1452)
  | 9 => (2, 12)
  | 10 => (1, 60)
  | 11 => (194, 3854)
  | _ => (24, 49608)
def kups (k0 : Nat) : Nat → List (Nat × Nat)
  | 0 => []
  | i + 1 => (i, k0 + 1 + i) :: kups k0 i
def kfok (ci k : Nat) (v : AV) : Bool := match parseFieldDescriptor ((Tc ci).2.1 k).2.2.1, v with
  | some ty, .inl x => decide (narrow ty (.int x) = .int x) && fits ty (.int x)
  | some ty, .inr (.inr _) => ty.isReference
  | _, _ => false
/-- one instruction; C answers calls of constructors, K goes on -/
def kst (C : Nat → List AV → MW → Option MW) (K : MK) (ci mc ms l0 : Nat) (ig : Instr) (len pc : Nat) (L : AL) (S : List AV) (w : MW) (n : Nat) : Option MW := match ig, len with
  | .aload_n k, 1 => match L[k.val]? with
    | some (some (.inr (.inr q))) => K (pc + 1) L (.inr (.inr q) :: S) w n
    | _ => none
  | .iload_n k, 1 => match L[k.val]? with
    | some (some (.inl x)) => K (pc + 1) L (.inl x :: S) w n
    | _ => none
  | .iconst z, 1 => K (pc + 1) L (.inl (Int32.ofInt z) :: S) w n
  | .bipush z, 2 => K (pc + 2) L (.inl (Int8.ofInt z).toInt32 :: S) w n
  | .sipush z, 3 => K (pc + 3) L (.inl (Int16.ofInt z).toInt32 :: S) w n
  | .ldc i, 2 => cond (Nat.beq ci 12 && Nat.beq i 80) (K (pc + 2) L (.inl 46656 :: S) w n) none
  | .dup, 1 => match S with
    | .inr (.inr q) :: S' => K (pc + 1) L (.inr (.inr q) :: .inr (.inr q) :: S') w n
    | _ => none
  | .istore_n k, 1 => match S with
    | .inl x :: S' => cond (Nat.blt k.val L.length) (K (pc + 1) (lset1 L k.val (.inl x)) S' w n) none
    | _ => none
  | .iinc i z, 3 => match L[i]? with
    | some (some (.inl x)) => K (pc + 3) (lset1 L i (.inl (x + Int32.ofInt z))) S w n
    | _ => none
  | .if_icmp .ge off, 3 => match S with
    | .inl y :: .inl x :: S' => cond (decide ((pc : Int) + off = (((pc : Int) + off).toNat : Int))) (cond (decide (y ≤ x)) (K ((pc : Int) + off).toNat L S' w n) (K (pc + 3) L S' w n)) none
    | _ => none
  | .goto off, 3 => cond (decide ((pc : Int) + off = (((pc : Int) + off).toNat : Int))) (K ((pc : Int) + off).toNat L S w n) none
  | .new i, 3 => match knw.find? (fun e => Nat.beq e.1 ci && Nat.beq e.2.1 i) with
    | some e => cond (Nat.ble (w.length + 1) (l0 + mc) && Nat.ble (n + (Tc e.2.2.1).2.2) ms && Nat.blt e.2.2.1 13) (K (pc + 3) L (.inr (.inr (w.length, 0)) :: S) (w ++ [.inl (e.2.2.1, kbl e.2.2.1)]) (n + (Tc e.2.2.1).2.2)) none
    | none => none
  | .newarray t, 2 => match S, ktc t with
    | .inl x :: S', some k => cond (decide (¬ x < 0) && Nat.ble x.toNatClampNeg 60000 && Nat.ble (w.length + 1) (l0 + mc) && Nat.ble (n + x.toNatClampNeg) ms) (K (pc + 2) L (.inr (.inr (w.length, 0)) :: S') (w ++ [.inr (.inl (k, x.toNatClampNeg, []))]) (n + x.toNatClampNeg)) none
    | _, _ => none
  | .anewarray i, 3 => match S, kaw.find? (fun e => Nat.beq e.1 ci && Nat.beq e.2.1 i) with
    | .inl x :: S', some e => cond (decide (¬ x < 0) && Nat.ble x.toNatClampNeg 60000 && Nat.ble (w.length + 1) (l0 + mc) && Nat.ble (n + x.toNatClampNeg) ms) (K (pc + 3) L (.inr (.inr (w.length, 0)) :: S') (w ++ [.inr (.inr (e.2.2.1, x.toNatClampNeg, []))]) (n + x.toNatClampNeg)) none
    | _, _ => none
  | .multianewarray i 2, 4 => match S, kmm.find? (fun e => Nat.beq e.1 ci && Nat.beq e.2.1 i) with
    | .inl y :: .inl x :: S', some _ => cond (decide (¬ x < 0) && decide (¬ y < 0) && Nat.ble x.toNatClampNeg 1000 && Nat.ble y.toNatClampNeg 1000 && Nat.ble (w.length + (1 + x.toNatClampNeg)) (l0 + mc) && Nat.ble (n + (x.toNatClampNeg + x.toNatClampNeg * y.toNatClampNeg)) ms) (K (pc + 4) L (.inr (.inr (w.length, 0)) :: S') (w ++ .inr (.inr (6, x.toNatClampNeg, kups w.length x.toNatClampNeg)) :: List.replicate x.toNatClampNeg (.inr (.inl (0, y.toNatClampNeg, [])))) (n + x.toNatClampNeg + x.toNatClampNeg * y.toNatClampNeg)) none
    | _, _ => none
  | .invokespecial i, 3 => match kob.find? (fun e => Nat.beq e.1 ci && Nat.beq e.2.1 i) with
    | some _ => match S with
      | .inr (.inr q) :: S' => cond (Nat.ble (asum S') 8) (K (pc + 3) L S' w n) none
      | _ => none
    | none => match kcl.find? (fun e => Nat.beq e.1 ci && Nat.beq e.2.1 i) with
      | some e => match (S.take (knp e.2.2.1 + 1)).reverse with
        | .inr (.inr q) :: A => cond (Nat.beq A.length (knp e.2.2.1) && Nat.ble (asum (S.drop (knp e.2.2.1 + 1))) 8 && Nat.blt e.2.2.1 13) (match C e.2.2.1 (.inr (.inr q) :: A) w with
          | some w' => cond (Nat.beq w'.length (w.length + (klm e.2.2.1 (.inr (.inr q) :: A)).1) && Nat.ble w'.length (l0 + mc) && Nat.ble (n + (klm e.2.2.1 (.inr (.inr q) :: A)).2) ms) (K (pc + 3) L (S.drop (knp e.2.2.1 + 1)) w' (n + (klm e.2.2.1 (.inr (.inr q) :: A)).2)) none
          | none => none) none
        | _ => none
      | none => none
  | .invokestatic i, 3 => match S with
    | .inl y :: .inl x :: S' => cond (Nat.beq ci 4 && Nat.beq i 13 && Nat.ble (asum S') 8 && Nat.ble w.length (l0 + mc) && Nat.ble n ms) (K (pc + 3) L (.inl (if x < y then y else x) :: S') w n) none
    | _ => none
  | .putfield i, 3 => match S, kfl.find? (fun e => Nat.beq e.1 ci && Nat.beq e.2.1 i) with
    | v :: .inr (.inr q) :: S', some e => match w[q.1]? with
      | some (.inl o) => cond (Nat.beq o.1 ci && Nat.beq q.2 0 && Nat.blt e.2.2.1 o.2.length && kfok ci e.2.2.1 v) (K (pc + 3) L S' (w.set q.1 (.inl (ci, o.2.set e.2.2.1 (some v)))) n) none
      | _ => none
    | _, _ => none
  | .getfield i, 3 => match S, kfl.find? (fun e => Nat.beq e.1 ci && Nat.beq e.2.1 i) with
    | .inr (.inr q) :: S', some e => match w[q.1]? with
      | some (.inl o) => cond (Nat.beq o.1 ci && Nat.beq q.2 0) (match o.2[e.2.2.1]? with
        | some (some v) => K (pc + 3) L (v :: S') w n
        | _ => none) none
      | _ => none
    | _, _ => none
  | .aastore, 1 => match S with
    | .inr (.inr v) :: .inl i :: .inr (.inr q) :: S' => match w[q.1]?, w[v.1]? with
      | some (.inr (.inr a)), some (.inl o) => cond (Nat.beq q.2 0 && Nat.beq v.2 0 && decide (¬ i < 0) && Nat.blt i.toNatClampNeg a.2.1 && ((Nat.beq a.1 4 && Nat.beq o.1 6) || (Nat.beq a.1 5 && Nat.beq o.1 10))) (K (pc + 1) L S' (w.set q.1 (.inr (.inr (a.1, a.2.1, (i.toNatClampNeg, v.1) :: a.2.2)))) n) none
      | _, _ => none
    | _ => none
  | .iastore, 1 => match S with
    | .inl x :: .inl i :: .inr (.inr q) :: S' => match w[q.1]? with
      | some (.inr (.inl a)) => cond (Nat.beq q.2 0 && Nat.beq a.1 0 && decide (¬ i < 0) && Nat.blt i.toNatClampNeg a.2.1) (K (pc + 1) L S' (w.set q.1 (.inr (.inl (0, a.2.1, (i.toNatClampNeg, x) :: a.2.2)))) n) none
      | _ => none
    | _ => none
  | .return_, 1 => match S with
    | [] => cond (Nat.beq w.length (l0 + mc) && Nat.beq n ms) (some w) none
    | _ => none
  | _, _ => none
def kx (C : Nat → List AV → MW → Option MW) (ci mc ms l0 : Nat) : Nat → MK
  | 0 => fun _ _ _ _ _ => none
  | f + 1 => fun pc L S w n => match decode (kbt ci) pc with
    | .ok q => kst C (kx C ci mc ms l0 f) ci mc ms l0 q.1 q.2 pc L S w n
    | _ => none
def krun : Nat → Nat → List AV → MW → Option MW
  | 0 => fun _ _ _ => none
  | d + 1 => fun ci a w => cond (Nat.ble (entL a).length (kml ci)) (kx (krun d) ci (klm ci a).1 (klm ci a).2 w.length 400 0 (pad (kml ci) (entL a)) [] w 0) none
