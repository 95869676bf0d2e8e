/-! ===== A SMALL MACHINE over logical cells: values, memory, one stretch of code, methods by number. Pure: nothing of the JVM but its Instr ===== -/
abbrev xV : Type := Int ⊕ Option Nat
abbrev xM : Type := Nat → Int → Int
/-- cells made, slots made, shapes (kind, length), contents -/
abbrev xS : Type := Nat × Nat × (Nat → Nat × Nat) × xM
/-- pc, instruction, two numbers that the tables resolve -/
abbrev xI : Type := Nat × Instr × Nat × Nat
abbrev xL : Type := List (Option xV)
/-- an Int as the int that it stands for -/
def wr (x : Int) : Int := (Int32.ofInt x).toInt
def xref (x : Int) : Option Nat := if x < 0 then none else some x.toNat
def xenc : Option Nat → Int
  | none => -1
  | some k => (k : Int)
def xup (M : xM) (k : Nat) (i v : Int) : xM := fun k' i' => if k' = k ∧ i' = i then v else M k' i'
def xnew {α : Type} (M : Nat → α) (n : Nat) (f : α) : Nat → α := fun k => if k = n then f else M k
def xcpy (M : xM) (s : Nat) (sp : Int) (d : Nat) (dp n : Int) : xM := fun k i => if k = d ∧ dp ≤ i ∧ i < dp + n then M s (sp + (i - dp)) else M k i
def xc : ClassFile.Cond → Int → Int → Prop
  | .eq, x, y => x = y
  | .ne, x, y => ¬ x = y
  | .lt, x, y => x < y
  | .ge, x, y => y ≤ x
  | .gt, x, y => y < x
  | .le, x, y => x ≤ y
def xor32 (x y : Int) : Int := (Int32.ofInt x ||| Int32.ofInt y).toInt
def xand32 (x y : Int) : Int := (Int32.ofInt x &&& Int32.ofInt y).toInt
def xxor32 (x y : Int) : Int := (Int32.ofInt x ^^^ Int32.ofInt y).toInt
def xshl32 (x y : Int) : Int := (Int32.ofInt x <<< (Int32.ofInt y &&& 31)).toInt
def xshr32 (x y : Int) : Int := (Int32.ofInt x >>> (Int32.ofInt y &&& 31)).toInt
def xi2s (x : Int) : Int := (Int32.ofInt x).toInt16.toInt32.toInt
/-- an int as it is -/
def rg (x : Int) : Prop := -2147483648 ≤ x ∧ x ≤ 2147483647
/-- an index within an array of the kind t -/
def xin (S : xS) (k t : Nat) (i : Int) : Prop := k < S.1 ∧ (S.2.2.1 k).1 = t ∧ 0 ≤ i ∧ i < ((S.2.2.1 k).2 : Int) ∧ i ≤ 2147483647
/-- an object of the class code a -/
def xob (S : xS) (k a : Nat) : Prop := k < S.1 ∧ (S.2.2.1 k).1 = 10 + a
abbrev xR : Type := Option Prop × xL × List xV × xS
/-- what one field holds -/
def xget (T : Nat → Nat → Nat × Nat) (a j k : Nat) (M : xM) : xV := match (T a j).1 with
  | 0 => .inl (M k (j : Int))
  | 4 => .inl (M k (j : Int))
  | 1 => .inr (some (k + (T a j).2))
  | 2 => .inr (some (T a j).2)
  | _ => .inr (xref (M k (j : Int)))
/-- what may be put into one field, as a number -/
def xput (T : Nat → Nat → Nat × Nat) (a j : Nat) (S : xS) (v : xV) : Option (Option Prop × Int) := match (T a j).1, v with
  | 0, .inl x => some (none, x)
  | 4, .inl x => some (some (x = 0 ∨ x = 1), x)
  | 3, .inr none => some (none, -1)
  | 3, .inr (some t) => some (some (t < S.1), (t : Int))
  | _, _ => none
def xseal (T : Nat → Nat → Nat × Nat) (N : Nat → Nat) (a k : Nat) (M : xM) : Prop := ∀ j, j < N a → ((T a j).1 = 1 → M k (j : Int) = ((k + (T a j).2 : Nat) : Int)) ∧ ((T a j).1 = 2 → M k (j : Int) = ((T a j).2 : Int))
/-- a new object's numbers: null for references -/
def xfresh (T : Nat → Nat → Nat × Nat) (a : Nat) : Int → Int := fun i => if (T a i.toNat).1 = 0 ∨ (T a i.toNat).1 = 4 then 0 else -1
/-- the instructions without a road of their own -/
def xsim (T : Nat → Nat → Nat × Nat) (N : Nat → Nat) (ins : Instr) (a b : Nat) (ls : xL) (st : List xV) (S : xS) : Option xR := match ins with
  | .iconst n => some (none, ls, .inl n :: st, S)
  | .bipush n => some (none, ls, .inl n :: st, S)
  | .sipush n => some (none, ls, .inl n :: st, S)
  | .ldc _ => some (none, ls, .inl (a : Int) :: st, S)
  | .aconst_null => some (none, ls, .inr none :: st, S)
  | .iload_n k => match ls[(k : Nat)]? with
    | some (some (.inl x)) => some (none, ls, .inl x :: st, S)
    | _ => none
  | .iload k => match ls[k]? with
    | some (some (.inl x)) => some (none, ls, .inl x :: st, S)
    | _ => none
  | .aload_n k => match ls[(k : Nat)]? with
    | some (some (.inr x)) => some (none, ls, .inr x :: st, S)
    | _ => none
  | .aload k => match ls[k]? with
    | some (some (.inr x)) => some (none, ls, .inr x :: st, S)
    | _ => none
  | .istore_n k => match st with
    | .inl x :: st => some (none, ls.set (k : Nat) (some (.inl x)), st, S)
    | _ => none
  | .istore k => match st with
    | .inl x :: st => some (none, ls.set k (some (.inl x)), st, S)
    | _ => none
  | .astore_n k => match st with
    | .inr x :: st => some (none, ls.set (k : Nat) (some (.inr x)), st, S)
    | _ => none
  | .astore k => match st with
    | .inr x :: st => some (none, ls.set k (some (.inr x)), st, S)
    | _ => none
  | .iinc k n => match ls[k]? with
    | some (some (.inl x)) => some (none, ls.set k (some (.inl (x + n))), st, S)
    | _ => none
  | .iadd => match st with
    | .inl y :: .inl x :: st => some (none, ls, .inl (x + y) :: st, S)
    | _ => none
  | .isub => match st with
    | .inl y :: .inl x :: st => some (none, ls, .inl (x - y) :: st, S)
    | _ => none
  | .imul => match st with
    | .inl y :: .inl x :: st => some (none, ls, .inl (x * y) :: st, S)
    | _ => none
  | .iand => match st with
    | .inl y :: .inl x :: st => some (none, ls, .inl (xand32 x y) :: st, S)
    | _ => none
  | .ior => match st with
    | .inl y :: .inl x :: st => some (none, ls, .inl (xor32 x y) :: st, S)
    | _ => none
  | .ixor => match st with
    | .inl y :: .inl x :: st => some (none, ls, .inl (xxor32 x y) :: st, S)
    | _ => none
  | .ishl => match st with
    | .inl y :: .inl x :: st => some (none, ls, .inl (xshl32 x y) :: st, S)
    | _ => none
  | .ishr => match st with
    | .inl y :: .inl x :: st => some (none, ls, .inl (xshr32 x y) :: st, S)
    | _ => none
  | .i2s => match st with
    | .inl x :: st => some (none, ls, .inl (xi2s x) :: st, S)
    | _ => none
  | .dup => match st with
    | v :: st => some (none, ls, v :: v :: st, S)
    | _ => none
  | .dup2 => match st with
    | v :: w :: st => some (none, ls, v :: w :: v :: w :: st, S)
    | _ => none
  | .getfield _ => match st with
    | .inr (some k) :: st => some (some (0 < k ∧ xob S k a), ls, xget T a b k S.2.2.2 :: st, S)
    | _ => none
  | .putfield _ => match st with
    | v :: .inr (some k) :: st => match xput T a b S v with
      | some (some g, x) => some (some (0 < k ∧ xob S k a ∧ g), ls, st, (S.1, S.2.1, S.2.2.1, xup S.2.2.2 k (b : Int) x))
      | some (none, x) => some (some (0 < k ∧ xob S k a), ls, st, (S.1, S.2.1, S.2.2.1, xup S.2.2.2 k (b : Int) x))
      | none => none
    | _ => none
  | .iaload => match st with
    | .inl i :: .inr (some k) :: st => some (some (xin S k (if k = 0 then 5 else 1) i), ls, .inl (S.2.2.2 k i) :: st, S)
    | _ => none
  | .baload => match st with
    | .inl i :: .inr (some k) :: st => some (some (0 < k ∧ xin S k 2 i), ls, .inl (S.2.2.2 k i) :: st, S)
    | _ => none
  | .saload => match st with
    | .inl i :: .inr (some k) :: st => some (some (0 < k ∧ xin S k 3 i), ls, .inl (S.2.2.2 k i) :: st, S)
    | _ => none
  | .aaload => match st with
    | .inl i :: .inr (some k) :: st => some (some (0 < k ∧ xin S k 4 i), ls, .inr (xref (S.2.2.2 k i)) :: st, S)
    | _ => none
  | .iastore => match st with
    | .inl x :: .inl i :: .inr (some k) :: st => some (some (0 < k ∧ xin S k 1 i), ls, st, (S.1, S.2.1, S.2.2.1, xup S.2.2.2 k i x))
    | _ => none
  | .bastore => match st with
    | .inl x :: .inl i :: .inr (some k) :: st => some (some (0 < k ∧ xin S k 2 i ∧ (x = 0 ∨ x = 1)), ls, st, (S.1, S.2.1, S.2.2.1, xup S.2.2.2 k i x))
    | _ => none
  | .sastore => match st with
    | .inl x :: .inl i :: .inr (some k) :: st => some (some (0 < k ∧ xin S k 3 i ∧ (-32768 ≤ x ∧ x ≤ 32767)), ls, st, (S.1, S.2.1, S.2.2.1, xup S.2.2.2 k i x))
    | _ => none
  | .aastore => match st with
    | .inr (some v) :: .inl i :: .inr (some k) :: st => some (some (0 < k ∧ xin S k 4 i ∧ 0 < v ∧ xob S v a), ls, st, (S.1, S.2.1, S.2.2.1, xup S.2.2.2 k i (v : Int)))
    | _ => none
  | .arraylength => match st with
    | .inr (some k) :: st => some (some (k < S.1 ∧ (S.2.2.1 k).1 = (if k = 0 then 5 else 1)), ls, .inl ((S.2.2.1 k).2 : Int) :: st, S)
    | _ => none
  | .newarray _ => match st with
    | .inl n :: st => some (some (0 ≤ n ∧ n ≤ 50000000), ls, .inr (some S.1) :: st, (S.1 + 1, S.2.1 + n.toNat, xnew S.2.2.1 S.1 (a, n.toNat), xnew S.2.2.2 S.1 (fun _ => 0)))
    | _ => none
  | .anewarray _ => match st with
    | .inl n :: st => some (some (0 ≤ n ∧ n ≤ 50000000), ls, .inr (some S.1) :: st, (S.1 + 1, S.2.1 + n.toNat, xnew S.2.2.1 S.1 (4, n.toNat), xnew S.2.2.2 S.1 (fun _ => -1)))
    | _ => none
  | .new _ => some (none, ls, .inr (some S.1) :: st, (S.1 + 1, S.2.1 + N a, xnew S.2.2.1 S.1 (10 + a, 0), xnew S.2.2.2 S.1 (xfresh T a)))
  | .invokespecial _ => match a, st with
    | 1000, .inr (some _) :: st => some (some (st.length ≤ 8), ls, st, S)
    | _, _ => none
  | .invokestatic _ => match a, st with
    | 1001, .inl n :: .inl dp :: .inr (some d) :: .inl sp :: .inr (some s) :: st => some (some ((0 < s ∧ s < S.1 ∧ (S.2.2.1 s).1 = 1) ∧ (0 < d ∧ d < S.1 ∧ (S.2.2.1 d).1 = 1) ∧ ¬ s = d ∧ (0 ≤ sp ∧ 0 ≤ dp ∧ 0 ≤ n ∧ sp + n ≤ ((S.2.2.1 s).2 : Int) ∧ dp + n ≤ ((S.2.2.1 d).2 : Int)) ∧ ((S.2.2.1 s).2 ≤ 50000000 ∧ (S.2.2.1 d).2 ≤ 50000000) ∧ st.length ≤ 8), ls, st, (S.1, S.2.1, S.2.2.1, xcpy S.2.2.2 s sp d dp n))
    | 1002, .inl y :: .inl x :: st => some (some (st.length ≤ 8 ∧ rg x ∧ rg y), ls, .inl (if x < y then y else x) :: st, S)
    | 1003, .inl y :: .inl x :: st => some (some (st.length ≤ 8 ∧ rg x ∧ rg y), ls, .inl (if y < x then y else x) :: st, S)
    | _, _ => none
  | .nop => match a, ls with
    | 2, some (.inr (some k)) :: _ => some (some (0 < k ∧ xob S k (30 + b) ∧ xseal T N b k S.2.2.2), ls, st, (S.1, S.2.1, xnew S.2.2.1 k (10 + b, 0), S.2.2.2))
    | _, _ => none
  | _ => none
/-- a method by number: how many arguments (this one too), what it answers (0 nothing, 1 int, 2 boolean, 3 reference), its receiver's class code (1000: static), how many locals -/
abbrev xMt : Type := Nat → Nat × Nat × Nat × Nat
def xrecv (S : xS) (a : Nat) (as : List xV) : Prop := match a, as with
  | 1000, _ => True
  | a, .inr (some k) :: _ => 0 < k ∧ xob S k a
  | _, _ => False
/-- the instructions that have roads, calls or an end. go: on in this stretch, so many instructions passed over -/
def xctl (mt : xMt) (C : Nat → List xV → xS → (xV → xS → Prop) → Prop) (K : Nat → xL → List xV → xS → Prop) (Q : xV → xS → Prop) (go : Nat → xL → List xV → xS → Prop) (pc : Nat) (ins : Instr) (a b : Nat) (ls : xL) (st : List xV) (S : xS) : Prop := match ins, st with
  | .if_icmp c _, .inl y :: .inl x :: st' => (rg x ∧ rg y) ∧ ((xc c x y → match a with
    | 0 => go b ls st' S
    | _ => K b ls st' S) ∧ (¬ xc c x y → go 0 ls st' S))
  | .ifCond c _, .inl x :: st' => rg x ∧ ((xc c x 0 → match a with
    | 0 => go b ls st' S
    | _ => K b ls st' S) ∧ (¬ xc c x 0 → go 0 ls st' S))
  | .goto _, st' => match a with
    | 0 => go b ls st' S
    | _ => K b ls st' S
  | .nop, st' => match a with
    | 1 => K pc ls st' S
    | _ => False
  | .tableswitch d lo hi offs, .inl x :: st' => rg x ∧ (((x < lo ∨ hi < x) → K ((pc : Int) + d).toNat ls st' S) ∧ (¬ (x < lo ∨ hi < x) → K ((pc : Int) + offs.getD (x - lo).toNat 0).toNat ls st' S))
  | .ireturn, [.inl x] => match a with
    | 2 => (x = 0 ∨ x = 1) ∧ Q (.inl x) S
    | _ => Q (.inl x) S
  | .areturn, [.inr r] => Q (.inr r) S
  | .return_, [] => Q (.inl 0) S
  | .invokevirtual _, st' => ((mt a).1 ≤ st'.length ∧ st'.length ≤ (mt a).1 + 8 ∧ xrecv S (mt a).2.2.1 (st'.take (mt a).1).reverse) ∧ C a (st'.take (mt a).1).reverse S (fun r S' => go 0 ls (match (mt a).2.1 with
    | 0 => st'.drop (mt a).1
    | _ => r :: st'.drop (mt a).1) S')
  | .invokespecial _, st' => ((mt a).1 ≤ st'.length ∧ st'.length ≤ (mt a).1 + 8 ∧ xrecv S (mt a).2.2.1 (st'.take (mt a).1).reverse) ∧ C a (st'.take (mt a).1).reverse S (fun r S' => go 0 ls (match (mt a).2.1 with
    | 0 => st'.drop (mt a).1
    | _ => r :: st'.drop (mt a).1) S')
  | .invokestatic _, st' => ((mt a).1 ≤ st'.length ∧ st'.length ≤ (mt a).1 + 8 ∧ xrecv S (mt a).2.2.1 (st'.take (mt a).1).reverse) ∧ C a (st'.take (mt a).1).reverse S (fun r S' => go 0 ls (match (mt a).2.1 with
    | 0 => st'.drop (mt a).1
    | _ => r :: st'.drop (mt a).1) S')
  | _, _ => False
/-- a stretch of code: sk instructions are passed over first. C: calls; K: roads to other stretches; Q: the end -/
def xgo (T : Nat → Nat → Nat × Nat) (N : Nat → Nat) (mt : xMt) (C : Nat → List xV → xS → (xV → xS → Prop) → Prop) (K : Nat → xL → List xV → xS → Prop) (Q : xV → xS → Prop) : List xI → Nat → xL → List xV → xS → Prop
  | [], _, _, _, _ => False
  | _ :: rest, sk + 1, ls, st, S => xgo T N mt C K Q rest sk ls st S
  | (pc, ins, a, b) :: rest, 0, ls, st, S => match xsim T N ins a b ls st S with
    | some (none, ls', st', S') => xgo T N mt C K Q rest 0 ls' st' S'
    | some (some g, ls', st', S') => g ∧ xgo T N mt C K Q rest 0 ls' st' S'
    | none => xctl mt C K Q (fun sk ls st S => xgo T N mt C K Q rest sk ls st S) pc ins a b ls st S
/-- a whole method, stretch by stretch -/
def xloop (T : Nat → Nat → Nat × Nat) (N : Nat → Nat) (mt : xMt) (tr : Nat → Nat → List xI) (C : Nat → List xV → xS → (xV → xS → Prop) → Prop) (mu : Nat) (Q : xV → xS → Prop) : Nat → Nat → xL → List xV → xS → Prop
  | 0, _, _, _, _ => False
  | n + 1, pc, ls, st, S => xgo T N mt C (fun pc ls st S => xloop T N mt tr C mu Q n pc ls st S) Q (tr mu pc) 0 ls st S
def xent (as : List xV) (n : Nat) : xL := as.map some ++ List.replicate (n - as.length) none
/-- a call with d frames below it -/
def xcall (T : Nat → Nat → Nat × Nat) (N : Nat → Nat) (mt : xMt) (tr : Nat → Nat → List xI) : Nat → Nat → List xV → xS → (xV → xS → Prop) → Prop
  | 0, _, _, _, _ => False
  | d + 1, mu, as, S, Q => ∃ n, xloop T N mt tr (xcall T N mt tr d) mu Q n 0 (xent as (mt mu).2.2.2) [] S
