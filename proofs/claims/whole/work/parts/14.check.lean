/-! THE TABLES ARE THE CODE'S: each entry is what decode gives, each link stands among the words -/
/-- the pool places of the texts -/
def sks : List Nat := [152, 78, 158, 115, 88, 70, 119, 56, 100, 83, 138, 105]
def tbj (j : Nat) : List Cond := match j with
  | 0 => k2_sels lw_privs
  | 1 => tables_1_1
  | 2 => tables_1_2
  | 3 => tables_1_3
  | 4 => tables_1_4
  | 5 => tables_1_5
  | 6 => tables_1_6
  | 7 => tables_1_7
  | 8 => tables_1_8
  | 9 => tables_1_9
  | _ => tables_1_10
theorem tbj_in {j : Nat} {w : Cond} (h : w ∈ tbj j) : w ∈ lw_tbl := by
  unfold lw_tbl tables_1
  simp only [List.mem_append]
  unfold tbj at h
  split at h
  · exact Or.inl h
  · exact Or.inr (Or.inl h)
  · exact Or.inr (Or.inr (Or.inl h))
  · exact Or.inr (Or.inr (Or.inr (Or.inl h)))
  · exact Or.inr (Or.inr (Or.inr (Or.inr (Or.inl h))))
  · exact Or.inr (Or.inr (Or.inr (Or.inr (Or.inr (Or.inl h)))))
  · exact Or.inr (Or.inr (Or.inr (Or.inr (Or.inr (Or.inr (Or.inl h))))))
  · exact Or.inr (Or.inr (Or.inr (Or.inr (Or.inr (Or.inr (Or.inr (Or.inl h)))))))
  · exact Or.inr (Or.inr (Or.inr (Or.inr (Or.inr (Or.inr (Or.inr (Or.inr (Or.inl h))))))))
  · exact Or.inr (Or.inr (Or.inr (Or.inr (Or.inr (Or.inr (Or.inr (Or.inr (Or.inr (Or.inl h)))))))))
  · exact Or.inr (Or.inr (Or.inr (Or.inr (Or.inr (Or.inr (Or.inr (Or.inr (Or.inr (Or.inr h)))))))))
noncomputable def nthR {α : Type} (l : List α) : Nat → Option α := List.rec (motive := fun _ => Nat → Option α) (fun _ => none) (fun a _ ih k => Nat.casesOn (motive := fun _ => Option α) k (some a) ih) l
theorem nthR_mem {α : Type} {x : α} : ∀ (l : List α) (k : Nat), nthR l k = some x → x ∈ l
  | [], _, h => by cases h
  | a :: l, 0, h => by
    have h : some a = some x := h
    cases h
    exact List.mem_cons_self
  | a :: l, k + 1, h => List.mem_cons_of_mem _ (nthR_mem l k h)
noncomputable def inT (k : Nat) (w : Cond) : Bool := decide (nthR (tbj (k / 1000)) (k % 1000) = some w)
theorem inT_mem {k : Nat} {w : Cond} (h : inT k w = true) : w ∈ lw_tbl := tbj_in (nthR_mem _ _ (of_decide_eq_true h))
def beqL : List UInt8 → List UInt8 → Bool
  | [], [] => true
  | x :: xs, y :: ys => Nat.beq x.toNat y.toNat && beqL xs ys
  | _, _ => false
theorem beqL_eq : ∀ (a b : List UInt8), beqL a b = true → a = b
  | [], [], _ => rfl
  | [], _ :: _, h => by cases h
  | _ :: _, [], h => by cases h
  | x :: xs, y :: ys, h => by
    have h : (Nat.beq x.toNat y.toNat && beqL xs ys) = true := h
    rw [Bool.and_eq_true] at h
    rw [UInt8.toNat_inj.mp (Nat.eq_of_beq_eq_true h.1), beqL_eq xs ys h.2]
noncomputable def inC (k : Nat) (y : MethodName) (b : ByteArray) (n : Nat) (r : Option FieldType) : Bool := match nthR (tbj (k / 1000)) (k % 1000) with
  | some (.code y' b' n' r') => decide (y' = y) && beqL b'.data.toList b.data.toList && Nat.beq n' n && decide (r' = r)
  | _ => false
theorem inC_mem {k : Nat} {y : MethodName} {b : ByteArray} {n : Nat} {r : Option FieldType} (h : inC k y b n r = true) : Cond.code y b n r ∈ lw_tbl := by
  unfold inC at h
  split at h
  · next y' b' n' r' e =>
    simp only [Bool.and_eq_true, decide_eq_true_eq] at h
    obtain ⟨⟨⟨h1, h2⟩, h3⟩, h4⟩ := h
    have e2 : b' = b := by
      have := beqL_eq _ _ h2
      cases b' with
      | mk d' =>
        cases b with
        | mk d =>
          have hd : d' = d := by
            cases d'; cases d
            exact congrArg _ this
          rw [hd]
    rw [← h1, ← e2, ← Nat.eq_of_beq_eq_true h3, ← h4]
    exact tbj_in (nthR_mem _ _ e)
  · cases h
def mdt (m : Nat) : MD := mds.getD m md0
def mcl (m : Nat) : Nat := (mdt m).1
def mst (m : Nat) : Bool := (mdt m).2.1
def myn (m : Nat) : MethodName := (mdt m).2.2.1
def mbt (m : Nat) : ByteArray := (mdt m).2.2.2.1
def mrt (m : Nat) : Option FieldType := (mdt m).2.2.2.2.1
def mnp (m : Nat) : Nat := (mdt m).2.2.2.2.2.1
def mpl (m k : Nat) : Nat := (mdt m).2.2.2.2.2.2.getD k 0
noncomputable def okm (m : Nat) : Bool := inC (mpl m 0) (myn m) (mbt m) (maxL m) (mrt m) && inT (mpl m 1) (.initialized (myn m).cls) &&
  cond (mst m) (inT (mpl m 2) (.static (myn m))) (inT (mpl m 2) (.instanceMethod (myn m)) && inT (mpl m 3) (.selects (myn m).cls (myn m) (myn m))) &&
  decide ((myn m).cls = cnm (mcl m) ∧ plainName (myn m).cls = true ∧ (myn m).cls ≠ "java/lang/invoke/MethodHandle" ∧ (myn m).cls ≠ "java/lang/invoke/VarHandle" ∧ (parseMethodDescriptor (myn m).desc).map (fun d => d.parameters.length) = some (mnp m) ∧ maxL m ≤ 40)
theorem okm_1 : (List.range 50).all (fun k => okm (k + 1)) = true := by decide +kernel
theorem okm_51 : (List.range 50).all (fun k => okm (k + 51)) = true := by decide +kernel
theorem okm_101 : (List.range 50).all (fun k => okm (k + 101)) = true := by decide +kernel
theorem okm_151 : (List.range 50).all (fun k => okm (k + 151)) = true := by decide +kernel
theorem okm_201 : (List.range 50).all (fun k => okm (k + 201)) = true := by decide +kernel
theorem okm_251 : (List.range 50).all (fun k => okm (k + 251)) = true := by decide +kernel
theorem okm_301 : (List.range 50).all (fun k => okm (k + 301)) = true := by decide +kernel
theorem okm_351 : (List.range 21).all (fun k => okm (k + 351)) = true := by decide +kernel
def Tc (c : Nat) : vw_C := vwCl.getD c (RX0, TX0, 4)
def fkd (c k : Nat) : Nat × Nat × Nat × Nat := (fds.getD c []).getD k (9, 0, 0, 0)
def okfd (k : Nat) (ty : FieldType) : Bool := match k with
  | 0 => decide (ty = .int)
  | 1 => decide (ty = .long)
  | 3 => decide (ty = .boolean)
  | _ => true
noncomputable def okf (e : Nat × Nat × Nat × Nat × Nat) : Bool := inT e.2.2.2.2 (.fieldLink (cnm e.1) e.2.1 (((Tc e.2.2.1).2.1 e.2.2.2.1).1) (((Tc e.2.2.1).2.1 e.2.2.2.1).2.1) (((Tc e.2.2.1).2.1 e.2.2.2.1).2.2.1)) && decide (e.2.2.2.1 < (Tc e.2.2.1).2.2 ∧ e.2.2.1 < 13)
theorem okf_all : fls.all okf = true := by decide +kernel
noncomputable def okl (e : Nat × Nat × Nat × Nat) : Bool := inT e.2.2.2 (.methodLink (cnm e.1) e.2.1 (myn e.2.2.1))
theorem okl_all : mls.all okl = true := by decide +kernel
def pnm (w : Nat) : MethodName := match w with
  | 0 => arraycopyName
  | 1 => yJ0_length_8abf5
  | 2 => yJ0_charAt_5068e
  | 3 => Lib.Math.max.name
  | _ => Lib.Math.min.name
theorem okp_all : prs.all (fun e => inT e.2.2.2 (.methodLink (cnm e.1) e.2.1 (pnm e.2.2.1))) = true := by decide +kernel
def nwd (e : Nat × Nat × Nat × Nat) : Cond := .methodLinkNest (cnm e.1) e.2.1 (myn e.2.2.1) "HassockRoof"
theorem okn_all : nls.all (fun e => inT e.2.2.2 (nwd e)) = true := by decide +kernel
theorem oki_all : kis.all (fun e => inT e.2.2.2 (.constant (cnm e.1) e.2.1 e.2.2.1)) = true := by decide +kernel
theorem okj_all : kls.all (fun e => inT e.2.2.2 (.constantLong (cnm e.1) e.2.1 e.2.2.1)) = true := by decide +kernel
def rtk (rt : Nat) (ty : Option FieldType) : Bool := match rt, ty with
  | 0, none => true
  | 1, some .int => true
  | 1, some .boolean => true
  | 2, some .long => true
  | _, _ => false
def okc1 (m idx m' n rt : Nat) (vt : Bool) : Bool := (mls.any (fun e => Nat.beq e.1 (mcl m) && Nat.beq e.2.1 idx && Nat.beq e.2.2.1 m') || (!vt && nls.any (fun e => Nat.beq e.1 (mcl m) && Nat.beq e.2.1 idx && Nat.beq e.2.2.1 m'))) && decide (mst m' = !vt ∧ n = cond vt (mnp m' + 1) (mnp m') ∧ rtk rt (mrt m') = true ∧ 1 ≤ m' ∧ m' ≤ 371 ∧ (m' = m ∨ lev m' + R0 m' < lev m))
def okc (m idx : Nat) (vt : Bool) (xs : List Nat) : Bool := match xs with
  | [m', n, rt] => !vt && okc1 m idx m' n rt vt
  | [m', n, rt, cl] => vt && okc1 m idx m' n rt vt && decide (cl = mcl m' ∧ cl < 13)
  | [w] => prs.any (fun e => Nat.beq e.1 (mcl m) && Nat.beq e.2.1 idx && Nat.beq e.2.2.1 w) && decide (w ≤ 4 ∧ vt = (w == 1 || w == 2) ∧ 1 ≤ lev m ∧ (w = 1 ∨ w = 2 → 8 ≤ lev m))
  | _ => false
def okfl (m idx : Nat) (xs : List Nat) (put : Bool) : Bool := match xs with
  | [c, k, d] => fls.any (fun e => Nat.beq e.1 (mcl m) && Nat.beq e.2.1 idx && Nat.beq e.2.2.1 c && Nat.beq e.2.2.2.1 k) && decide ((fkd c k).1 = d ∧ d ≠ 2 ∧ d ≤ 3)
  | [c, k, t, f, b] => fls.any (fun e => Nat.beq e.1 (mcl m) && Nat.beq e.2.1 idx && Nat.beq e.2.2.1 c && Nat.beq e.2.2.2.1 k) && decide (fkd c k = (2, t, f, b) ∧ put = false)
  | _ => false
def tgts (pc : Nat) : List Nat → List Int → Bool
  | [], [] => true
  | t :: ts, o :: os => decide ((pc : Int) + o = (t : Int)) && tgts pc ts os
  | _, _ => false
def okX (m pc : Nat) (ins : Instr) (len : Nat) (xs : List Nat) (cv : Int32 ⊕ Int64) : Bool := match ins with
  | .iconst n => decide (len = 1 ∧ cv = .inl (Int32.ofInt n))
  | .bipush n => decide (len = 2 ∧ cv = .inl (Int8.ofInt n).toInt32)
  | .sipush n => decide (len = 3 ∧ cv = .inl (Int16.ofInt n).toInt32)
  | .lconst n => decide (len = 1 ∧ cv = .inr (Int64.ofNat n.val))
  | .ldc i => decide (len = 2) && (match xs with
    | [] => kis.any (fun e => decide (e.1 = mcl m ∧ e.2.1 = i ∧ cv = .inl e.2.2.1))
    | [k] => decide (mcl m = 5 ∧ sks.getD k 0 = i ∧ k < 12)
    | _ => false)
  | .ldc_w i => decide (len = 3) && kis.any (fun e => decide (e.1 = mcl m ∧ e.2.1 = i ∧ cv = .inl e.2.2.1))
  | .ldc2_w i => decide (len = 3) && kls.any (fun e => decide (e.1 = mcl m ∧ e.2.1 = i ∧ cv = .inr e.2.2.1))
  | .iload _ => decide (len = 2)
  | .lload _ => decide (len = 2)
  | .aload _ => decide (len = 2)
  | .istore _ => decide (len = 2)
  | .lstore _ => decide (len = 2)
  | .astore _ => decide (len = 2)
  | .iinc _ n => decide (len = 3 ∧ cv = .inl (Int32.ofInt n))
  | .goto o => decide (len = 3) && tgts pc (xs.take 1) [o]
  | .ifCond _ o => decide (len = 3) && tgts pc xs [o]
  | .if_icmp _ o => decide (len = 3) && tgts pc xs [o]
  | .tableswitch d lo hi os => tgts pc xs (d :: os.toList) && decide (hi = lo + os.size - 1)
  | .getfield i => decide (len = 3) && okfl m i xs false
  | .putfield i => decide (len = 3) && okfl m i xs true
  | .invokevirtual i => decide (len = 3) && okc m i true xs
  | .invokestatic i => decide (len = 3) && okc m i false xs
  | .ireturn => decide (len = 1) && (match xs with
    | [] => decide (mrt m = some .int)
    | _ => decide (mrt m = some .boolean))
  | .lreturn => decide (len = 1 ∧ mrt m = some .long)
  | .return_ => decide (len = 1 ∧ mrt m = none)
  | _ => decide (len = 1)
def okE (m : Nat) (e : Nat × Instr × Nat × List Nat × (Int32 ⊕ Int64)) : Bool := decide (decode (mbt m) e.1 = .ok (e.2.1, e.2.2.1)) && okX m e.1 e.2.1 e.2.2.1 e.2.2.2.1 e.2.2.2.2
