/-! the small machine: values are whole numbers, cells are numbered from 0 on (address n0 + c), references: 0 null, 1 the script, c + 2 cell c -/
abbrev AV : Type := Int ⊕ (Int ⊕ (Nat ⊕ Unit))
abbrev vI (i : Int) : AV := Sum.inl i
abbrev vL (l : Int) : AV := Sum.inr (Sum.inl l)
abbrev vR (r : Nat) : AV := Sum.inr (Sum.inr (Sum.inl r))
abbrev vU : AV := Sum.inr (Sum.inr (Sum.inr ()))
abbrev Mem : Type := Nat → Int → Int
abbrev Rfs : Type := Nat → Int → Nat
abbrev Sg : Type := List (Nat × Nat) × Rfs × Mem
/-- place, length, instruction, what belongs to it -/
abbrev En : Type := Nat × Nat × Instr × List Nat
/-- a block, and the one behind it -/
abbrev Bk : Type := List En × Nat
/-- name, code, locals, answer, own class, frames, words of locals, number of the class, places of its words -/
abbrev Mt : Type := MethodName × ByteArray × Nat × Option FieldType × String × Nat × Nat × Nat × List Nat
abbrev inR (i : Int) : Prop := -2147483648 ≤ i ∧ i ≤ 2147483647
def mset (M : Mem) (c : Nat) (k v : Int) : Mem := fun c' k' => if c' = c ∧ k' = k then v else M c' k'
def rset (R : Rfs) (c : Nat) (k : Int) (v : Nat) : Rfs := fun c' k' => if c' = c ∧ k' = k then v else R c' k'
def mclr (M : Mem) (c : Nat) : Mem := fun c' k' => if c' = c then 0 else M c' k'
def rclr (R : Rfs) (c : Nat) : Rfs := fun c' k' => if c' = c then 0 else R c' k'
def mcpy (M : Mem) (c : Nat) (sp : Int) (d : Nat) (dp n : Int) : Mem := fun c' k => if c' = d ∧ dp ≤ k ∧ k < dp + n then M c (sp + (k - dp)) else M c' k
def iAnd (a b : Int) : Int := (Int32.ofInt a &&& Int32.ofInt b).toInt
def iOr (a b : Int) : Int := (Int32.ofInt a ||| Int32.ofInt b).toInt
def iXor (a b : Int) : Int := (Int32.ofInt a ^^^ Int32.ofInt b).toInt
def i2B (a : Int) : Int := ((Int32.ofInt a).toInt8.toInt32).toInt
def i2S (a : Int) : Int := ((Int32.ofInt a).toInt16.toInt32).toInt
def lAdd (a b : Int) : Int := (Int64.ofInt a + Int64.ofInt b).toInt
def lMul (a b : Int) : Int := (Int64.ofInt a * Int64.ofInt b).toInt
def cat2 (v : AV) : Bool := match v with
  | .inr (.inl _) => true
  | _ => false
def catn (v : AV) : Nat := match v with
  | .inr (.inl _) => 2
  | _ => 1
def catS (st : List AV) : Nat := (st.map catn).sum
def cnN (ci : Nat) : Nat := ([18, 13, 3, 18, 15, 11, 4, 5, 10, 65] : List Nat).getD ci 0
section AM
variable {α : Type}
def p1I (st : List AV) (f : Int → List AV → Option α) : Option α := match st with
  | .inl x :: r => f x r
  | _ => none
def p2I (st : List AV) (f : Int → Int → List AV → Option α) : Option α := match st with
  | .inl y :: .inl x :: r => f x y r
  | _ => none
def p2L (st : List AV) (f : Int → Int → List AV → Option α) : Option α := match st with
  | .inr (.inl y) :: .inr (.inl x) :: r => f x y r
  | _ => none
def p1R (st : List AV) (f : Nat → List AV → Option α) : Option α := match st with
  | .inr (.inr (.inl (c + 2))) :: r => f c r
  | _ => none
def p2IR (st : List AV) (f : Int → Nat → List AV → Option α) : Option α := match st with
  | .inl j :: .inr (.inr (.inl (c + 1))) :: r => f j c r
  | _ => none
def p3 (st : List AV) (f : AV → Int → Nat → List AV → Option α) : Option α := match st with
  | v :: .inl j :: .inr (.inr (.inl (c + 2))) :: r => f v j c r
  | _ => none
def gI (ls : List AV) (i : Nat) (f : Int → Option α) : Option α := match ls[i]? with
  | some (.inl x) => f x
  | _ => none
def gL (ls : List AV) (i : Nat) (f : Int → Option α) : Option α := match ls[i]? with
  | some (.inr (.inl x)) => f x
  | _ => none
def gR (ls : List AV) (i : Nat) (f : Nat → Option α) : Option α := match ls[i]? with
  | some (.inr (.inr (.inl (r + 1)))) => f (r + 1)
  | _ => none
def oI (v : AV) (f : Int → Option α) : Option α := match v with
  | .inl x => f x
  | _ => none
def oR (v : AV) (f : Nat → Option α) : Option α := match v with
  | .inr (.inr (.inl r)) => f r
  | _ => none
def sto1 (ls : List AV) (i : Nat) (v : AV) (f : List AV → Option α) : Option α := if i < ls.length ∧ cat2 (ls.getD (i - 1) vU) = false then f (ls.set i v) else none
def sto2 (ls : List AV) (i : Nat) (v : AV) (f : List AV → Option α) : Option α := if i + 1 < ls.length ∧ cat2 (ls.getD (i - 1) vU) = false ∧ cat2 (ls.getD (i + 1) vU) = false then f ((ls.set i v).set (i + 1) vU) else none
def a1 (a : List Nat) (f : Nat → Option α) : Option α := match a with
  | x :: _ => f x
  | _ => none
def a2 (a : List Nat) (f : Nat → Nat → Option α) : Option α := match a with
  | x :: y :: _ => f x y
  | _ => none
end AM
abbrev Rs : Type := Option (Nat × List AV × List AV × Sg)
def cnd (c : Jvm.ClassFile.Cond) (x y : Int) : Bool := match c with
  | .eq => decide (x = y)
  | .ne => decide (x ≠ y)
  | .lt => decide (x < y)
  | .ge => decide (y ≤ x)
  | .gt => decide (y < x)
  | .le => decide (x ≤ y)
def lks (ps : List (Int × Int)) (a : Int) : Nat := match ps with
  | [] => 0
  | q :: r => if a = q.1 then 1 else match lks r a with
    | 0 => 0
    | k + 1 => k + 2
def fty : List (List Nat) := [[2, 2, 0, 0, 0, 0, 0, 0, 0, 0, 0, 0, 0, 0, 0, 0, 0, 0], [2, 0, 0, 0, 0, 0, 0, 2, 2, 0, 0, 0, 0], [2, 2, 2], [2, 2, 2, 2, 2, 2, 0, 0, 0, 0, 0, 0, 0, 0, 0, 0, 0, 1], [2, 2, 2, 1, 1, 2, 1, 0, 0, 0, 0, 2, 0, 1, 2], [0, 2, 2, 2, 0, 0, 0, 0, 0, 0, 0], [1, 0, 0, 2], [0, 0, 2, 2, 2], [2, 2, 2, 2, 2, 2, 2, 1, 0, 0], [0, 2, 2, 2, 2, 2, 2, 2, 2, 0, 1, 2, 2, 2, 2, 2, 2, 2, 2, 0, 0, 0, 0, 0, 0, 0, 1, 0, 2, 2, 0, 0, 0, 0, 0, 2, 2, 2, 2, 2, 2, 2, 2, 2, 2, 2, 2, 2, 2, 0, 0, 0, 2, 2, 0, 0, 0, 0, 0, 2, 2, 2, 2, 2, 0]]
def ftk (ci k : Nat) : Nat := (fty.getD ci []).getD k 0
/-- one instruction that is no call and no return: 0 goes on, j + 1 goes to block j -/
def stp (sx : Int → Int) (L : Nat) (e : En) (ls st : List AV) (σ : Sg) : Rs :=
  match e.2.2.1 with
  | .iconst n => some (0, ls, vI n :: st, σ)
  | .bipush n => some (0, ls, vI n :: st, σ)
  | .sipush n => some (0, ls, vI n :: st, σ)
  | .ldc_w _ => a2 e.2.2.2 fun a b => some (0, ls, vI ((a : Int) - b) :: st, σ)
  | .ldc2_w _ => a1 e.2.2.2 fun a => some (0, ls, vL a :: st, σ)
  | .iload i => gI ls i fun x => some (0, ls, vI x :: st, σ)
  | .iload_n k => gI ls k.val fun x => some (0, ls, vI x :: st, σ)
  | .lload_n k => gL ls k.val fun x => some (0, ls, vL x :: st, σ)
  | .aload i => gR ls i fun x => some (0, ls, vR x :: st, σ)
  | .aload_n k => gR ls k.val fun x => some (0, ls, vR x :: st, σ)
  | .istore i => p1I st fun x r => sto1 ls i (vI x) fun ls' => some (0, ls', r, σ)
  | .istore_n k => p1I st fun x r => sto1 ls k.val (vI x) fun ls' => some (0, ls', r, σ)
  | .lstore_n k => match st with
    | .inr (.inl x) :: r => sto2 ls k.val (vL x) fun ls' => some (0, ls', r, σ)
    | _ => none
  | .astore i => p1R st fun x r => sto1 ls i (vR (x + 2)) fun ls' => some (0, ls', r, σ)
  | .astore_n k => p1R st fun x r => sto1 ls k.val (vR (x + 2)) fun ls' => some (0, ls', r, σ)
  | .iinc i n => gI ls i fun x => if inR (x + n) then sto1 ls i (vI (x + n)) fun ls' => some (0, ls', st, σ) else none
  | .iadd => p2I st fun x y r => if inR (x + y) then some (0, ls, vI (x + y) :: r, σ) else none
  | .isub => p2I st fun x y r => if inR (x - y) then some (0, ls, vI (x - y) :: r, σ) else none
  | .imul => p2I st fun x y r => if inR (x * y) then some (0, ls, vI (x * y) :: r, σ) else none
  | .idiv => p2I st fun x y r => if 0 ≤ x ∧ 0 < y then some (0, ls, vI (x / y) :: r, σ) else none
  | .irem => p2I st fun x y r => if 0 ≤ x ∧ 0 < y then some (0, ls, vI (x % y) :: r, σ) else none
  | .ineg => p1I st fun x r => if inR (-x) then some (0, ls, vI (-x) :: r, σ) else none
  | .iand => p2I st fun x y r => some (0, ls, vI (iAnd x y) :: r, σ)
  | .ior => p2I st fun x y r => some (0, ls, vI (iOr x y) :: r, σ)
  | .ixor => p2I st fun x y r => some (0, ls, vI (iXor x y) :: r, σ)
  | .ishl => p2I st fun x y r => if 0 ≤ x ∧ 0 ≤ y ∧ y ≤ 30 ∧ x * 2 ^ y.toNat ≤ 2147483647 then some (0, ls, vI (x * 2 ^ y.toNat) :: r, σ) else none
  | .ishr => p2I st fun x y r => if 0 ≤ x ∧ 0 ≤ y ∧ y ≤ 30 then some (0, ls, vI (x / 2 ^ y.toNat) :: r, σ) else none
  | .iushr => p2I st fun x y r => if 0 ≤ x ∧ 0 ≤ y ∧ y ≤ 30 then some (0, ls, vI (x / 2 ^ y.toNat) :: r, σ) else none
  | .i2l => p1I st fun x r => some (0, ls, vL x :: r, σ)
  | .i2b => p1I st fun x r => some (0, ls, vI (i2B x) :: r, σ)
  | .i2s => p1I st fun x r => some (0, ls, vI (i2S x) :: r, σ)
  | .ladd => p2L st fun x y r => some (0, ls, vL (lAdd x y) :: r, σ)
  | .lmul => p2L st fun x y r => some (0, ls, vL (lMul x y) :: r, σ)
  | .lcmp => p2L st fun x y r => some (0, ls, vI (if x < y then -1 else if x = y then 0 else 1) :: r, σ)
  | .dup => match st with
    | v :: r => if cat2 v = false then some (0, ls, v :: v :: r, σ) else none
    | _ => none
  | .dup2 => match st with
    | v :: w :: r => if cat2 v = false ∧ cat2 w = false then some (0, ls, v :: w :: v :: w :: r, σ) else none
    | _ => none
  | .goto _ => a1 e.2.2.2 fun j => some (j + 1, ls, st, σ)
  | .ifCond c _ => p1I st fun x r => a1 e.2.2.2 fun j => some (if cnd c x 0 = true then j + 1 else 0, ls, r, σ)
  | .if_icmp c _ => p2I st fun x y r => a1 e.2.2.2 fun j => some (if cnd c x y = true then j + 1 else 0, ls, r, σ)
  | .tableswitch _ lo hi _ => p1I st fun x r => some ((if lo ≤ x ∧ x ≤ hi then e.2.2.2.getD ((x - lo).toNat + 1) 0 else e.2.2.2.getD 0 0) + 1, ls, r, σ)
  | .lookupswitch _ ps => p1I st fun x r => some (e.2.2.2.getD (lks ps.toList x) 0 + 1, ls, r, σ)
  | .getfield _ => p1R st fun c r => a2 e.2.2.2 fun ci k => match σ.1[c]? with
    | some (kd, _) => if kd = ci ∧ ci < 10 ∧ k < cnN ci then some (0, ls, (if ftk ci k = 2 then vR (σ.2.1 c k) else vI (σ.2.2 c k)) :: r, σ) else none
    | none => none
  | .putfield _ => match st with
    | v :: .inr (.inr (.inl (c + 2))) :: r => a2 e.2.2.2 fun ci k => match σ.1[c]? with
      | some (kd, _) => if kd = ci ∧ ci < 10 ∧ k < cnN ci then
          (if ftk ci k = 2 then oR v fun x => some (0, ls, r, (σ.1, rset σ.2.1 c k x, σ.2.2))
            else oI v fun x => if ftk ci k = 0 ∨ x = 0 ∨ x = 1 then some (0, ls, r, (σ.1, σ.2.1, mset σ.2.2 c k x)) else none) else none
      | none => none
    | _ => none
  | .iaload => p2IR st fun j c r => match c with
    | 0 => if 0 ≤ j ∧ j < L then some (0, ls, vI (sx j) :: r, σ) else none
    | c + 1 => match σ.1[c]? with
      | some (kd, n) => if kd = 10 ∧ 0 ≤ j ∧ j < n then some (0, ls, vI (σ.2.2 c j) :: r, σ) else none
      | none => none
  | .baload => p2IR st fun j c r => match c with
    | 0 => none
    | c + 1 => match σ.1[c]? with
      | some (kd, n) => if kd = 11 ∧ 0 ≤ j ∧ j < n then some (0, ls, vI (σ.2.2 c j) :: r, σ) else none
      | none => none
  | .aaload => p2IR st fun j c r => match c with
    | 0 => none
    | c + 1 => match σ.1[c]? with
      | some (kd, n) => if 12 ≤ kd ∧ kd ≤ 14 ∧ 0 ≤ j ∧ j < n then some (0, ls, vR (σ.2.1 c j) :: r, σ) else none
      | none => none
  | .iastore => p3 st fun v j c r => oI v fun x => match σ.1[c]? with
    | some (kd, n) => if kd = 10 ∧ 0 ≤ j ∧ j < n then some (0, ls, r, (σ.1, σ.2.1, mset σ.2.2 c j x)) else none
    | none => none
  | .bastore => p3 st fun v j c r => oI v fun x => match σ.1[c]? with
    | some (kd, n) => if kd = 11 ∧ 0 ≤ j ∧ j < n ∧ (x = 0 ∨ x = 1) then some (0, ls, r, (σ.1, σ.2.1, mset σ.2.2 c j x)) else none
    | none => none
  | .aastore => p3 st fun v j c r => oR v fun x => match x with
    | d + 2 => match σ.1[c]?, σ.1[d]? with
      | some (kd, n), some (kv, _) => if 12 ≤ kd ∧ kd ≤ 14 ∧ kv = ([0, 1, 6] : List Nat).getD (kd - 12) 0 ∧ 0 ≤ j ∧ j < n then some (0, ls, r, (σ.1, rset σ.2.1 c j x, σ.2.2)) else none
      | _, _ => none
    | _ => none
  | .arraylength => match st with
    | .inr (.inr (.inl 1)) :: r => some (0, ls, vI L :: r, σ)
    | .inr (.inr (.inl (c + 2))) :: r => match σ.1[c]? with
      | some (kd, n) => if 10 ≤ kd ∧ kd ≤ 14 then some (0, ls, vI n :: r, σ) else none
      | none => none
    | _ => none
  | .new _ => a1 e.2.2.2 fun ci => if ci < 10 then some (0, ls, vR (σ.1.length + 2) :: st, (σ.1 ++ [(ci, cnN ci)], rclr σ.2.1 σ.1.length, mclr σ.2.2 σ.1.length)) else none
  | .newarray t => p1I st fun x r => if 0 ≤ x ∧ x ≤ 100000 ∧ (t = .int ∨ t = .boolean) then some (0, ls, vR (σ.1.length + 2) :: r, (σ.1 ++ [(if t = .int then 10 else 11, x.toNat)], rclr σ.2.1 σ.1.length, mclr σ.2.2 σ.1.length)) else none
  | .anewarray _ => p1I st fun x r => a1 e.2.2.2 fun kd => if 0 ≤ x ∧ x ≤ 100000 ∧ 12 ≤ kd ∧ kd ≤ 14 then some (0, ls, vR (σ.1.length + 2) :: r, (σ.1 ++ [(kd, x.toNat)], rclr σ.2.1 σ.1.length, mclr σ.2.2 σ.1.length)) else none
  | .invokestatic _ => a1 e.2.2.2 fun h => if h = 1000 then (match st with
    | [.inl n, .inl dp, .inr (.inr (.inl (d + 2))), .inl sp, .inr (.inr (.inl (c + 2)))] => match σ.1[c]?, σ.1[d]? with
      | some (kc, nc), some (kd, nd) => if kc = 10 ∧ kd = 10 ∧ 0 ≤ n ∧ 0 ≤ dp ∧ 0 ≤ sp ∧ sp + n ≤ nc ∧ dp + n ≤ nd then some (0, ls, [], (σ.1, σ.2.1, mcpy σ.2.2 c sp d dp n)) else none
      | _, _ => none
    | _ => none) else if h = 1002 then p2I st fun x y r => if catS r ≤ 8 then some (0, ls, vI (max x y) :: r, σ) else none
      else if h = 1003 then p2I st fun x y r => if catS r ≤ 8 then some (0, ls, vI (min x y) :: r, σ) else none else none
  | .invokespecial _ => a1 e.2.2.2 fun h => if h = 1001 then p1R st fun _ r => if catS r ≤ 8 then some (0, ls, r, σ) else none else none
  | _ => none
