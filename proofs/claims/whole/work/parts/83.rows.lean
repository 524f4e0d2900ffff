/-! ROWS: all rows, in their order -/
/-- the d-th free one of k, from v on, a of them behind -/
def nf (u d : Nat) : Nat → Nat → Nat → Nat
  | 0, _, _ => 0
  | k + 1, v, a => cond (Nat.testBit u v) (nf u d k (v + 1) a) (cond (Nat.beq a d) v (nf u d k (v + 1) (a + 1)))
/-- the digits of a row's number -/
def dgt (P : Nat) : Nat → Nat → Nat → Nat
  | 0, _, _ => 0
  | k + 1, n, i => cond (Nat.beq i k) (n % (P - k)) (dgt P k (n / (P - k)) i)
/-- who is taken behind the first i -/
def tkn (P : Nat) (d : Nat → Nat) : Nat → Nat
  | 0 => 0
  | i + 1 => tkn P d i ||| 2 ^ nf (tkn P d i) (d i) P 0 0
def vF (P : Nat) (d : Nat → Nat) (i : Nat) : Nat := nf (tkn P d i) (d i) P 0 0
/-- how many rows -/
def hmr (P : Nat) : Nat → Nat
  | 0 => 1
  | k + 1 => hmr P k * (P - k)
/-- all rows of k more, u being taken -/
def rws (P : Nat) : Nat → Nat → List (List Nat)
  | 0, _ => [[]]
  | k + 1, u => (List.range P).flatMap (fun p => cond (Nat.testBit u p) [] ((rws P k (u ||| 2 ^ p)).map (fun r => p :: r)))
theorem rws_n : ∀ P, P < 7 → ∀ L, L < P + 1 → (List.range (hmr P L)).map (fun n => (List.range L).map (vF P (dgt P L n))) = rws P L 0 := by decide +kernel
theorem hmr_le : ∀ P, P < 7 → ∀ L, L < P + 1 → hmr P L ≤ 720 := by decide +kernel
