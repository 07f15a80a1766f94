/-! what a run from a block comes to, and how it is reckoned forward -/
theorem run_up {sx : Int → Int} {L : Nat} : ∀ (n mi : Nat) (es : List En) (fl : Nat) (ls st : List AV) (σ : Sg) (z : Option AV × Sg), run sx L n mi es fl ls st σ = some z → ∀ k, run sx L (n + k) mi es fl ls st σ = some z := by
  intro n
  induction n with
  | zero => intro mi es fl ls st σ z h; simp [run] at h
  | succ n ih =>
    intro mi es fl ls st σ z h k
    rw [show n + 1 + k = (n + k) + 1 by omega]
    cases es with
    | nil => exact ih _ _ _ _ _ _ _ h k
    | cons e0 es =>
      simp only [run] at h ⊢
      split at h
      · exact h
      · split at h
        · split at h
          · next h2 =>
            rw [ih _ _ _ _ _ _ _ h2 k]
            exact ih _ _ _ _ _ _ _ h k
          · cases h
        · split at h
          · exact ih _ _ _ _ _ _ _ h k
          · exact ih _ _ _ _ _ _ _ h k
          · cases h
section WP
variable (sx : Int → Int) (L : Nat) (K : List (Nat × Nat)) (R : Rfs)
/-- from a place inside a block, over fixed kinds and references -/
def Re (mi : Nat) (es : List En) (fl : Nat) (ls st : List AV) (M : Mem) (Q : Option AV → Mem → Prop) : Prop := ∃ (n : Nat) (rv : Option AV) (M' : Mem), run sx L n mi es fl ls st (K, R, M) = some (rv, (K, R, M')) ∧ Q rv M'
def Rn (mi j : Nat) (ls st : List AV) (M : Mem) (Q : Option AV → Mem → Prop) : Prop := Re sx L K R mi (blk mi j).1 (blk mi j).2 ls st M Q
def Mq (mi : Nat) (av : List AV) (M : Mem) (Q : Option AV → Mem → Prop) : Prop := Rn sx L K R mi 0 (ini mi av) [] M Q
def kin (c ci : Nat) : Prop := ∃ n, K[c]? = some (ci, n)
def arr (c kd : Nat) (j : Int) : Prop := ∃ n, K[c]? = some (kd, n) ∧ 0 ≤ j ∧ j < n
def arq (c : Nat) (j : Int) : Prop := ∃ kd n, K[c]? = some (kd, n) ∧ 12 ≤ kd ∧ kd ≤ 14 ∧ 0 ≤ j ∧ j < n
def aln (c n : Nat) : Prop := ∃ kd, K[c]? = some (kd, n) ∧ 10 ≤ kd ∧ kd ≤ 14
def cpk (c d : Nat) (sp dp n : Int) : Prop := ∃ nc nd, K[c]? = some (10, nc) ∧ K[d]? = some (10, nd) ∧ 0 ≤ n ∧ 0 ≤ dp ∧ 0 ≤ sp ∧ sp + n ≤ nc ∧ dp + n ≤ nd
def fv (M : Mem) (ci k c : Nat) : AV := if ftk ci k = 2 then vR (R c k) else vI (M c k)
def pfc (ci k : Nat) (x : Int) : Prop := if ftk ci k = 0 then True else if ftk ci k = 1 then x = 0 ∨ x = 1 else False
def rkd (mi : Nat) : Nat := match mR mi with
  | none => 0
  | some .int => 1
  | some .boolean => 2
  | some .long => 3
  | some (.object _) => 4
  | _ => 5
def rvk (k : Nat) (f : List AV → Mem → Prop) (rv : Option AV) (M' : Mem) : Prop := match k with
  | 0 => rv = none ∧ f [] M'
  | 1 => ∃ x, rv = some (vI x) ∧ f [vI x] M'
  | 2 => ∃ x, rv = some (vI x) ∧ f [vI x] M'
  | 3 => ∃ x, rv = some (vL x) ∧ f [vL x] M'
  | 4 => ∃ x, rv = some (vR x) ∧ f [vR x] M'
  | _ => False
def cdP (c : Jvm.ClassFile.Cond) (x y : Int) : Prop := match c with
  | .eq => x = y
  | .ne => ¬ x = y
  | .lt => x < y
  | .ge => y ≤ x
  | .gt => y < x
  | .le => x ≤ y
def w1I (st : List AV) (f : Int → List AV → Prop) : Prop := match st with
  | .inl x :: r => f x r
  | _ => False
def w2I (st : List AV) (f : Int → Int → List AV → Prop) : Prop := match st with
  | .inl y :: .inl x :: r => f x y r
  | _ => False
def w2L (st : List AV) (f : Int → Int → List AV → Prop) : Prop := match st with
  | .inr (.inl y) :: .inr (.inl x) :: r => f x y r
  | _ => False
def w1L (st : List AV) (f : Int → List AV → Prop) : Prop := match st with
  | .inr (.inl x) :: r => f x r
  | _ => False
def w1R (st : List AV) (f : Nat → List AV → Prop) : Prop := match st with
  | .inr (.inr (.inl (c + 2))) :: r => f c r
  | _ => False
def wIR (st : List AV) (f : Int → Nat → List AV → Prop) : Prop := match st with
  | .inl j :: .inr (.inr (.inl (c + 2))) :: r => f j c r
  | _ => False
def wIX (st : List AV) (f : Int → List AV → Prop) (g : Int → Nat → List AV → Prop) : Prop := match st with
  | .inl j :: .inr (.inr (.inl 1)) :: r => f j r
  | .inl j :: .inr (.inr (.inl (c + 2))) :: r => g j c r
  | _ => False
def wIIR (st : List AV) (f : Int → Int → Nat → List AV → Prop) : Prop := match st with
  | .inl x :: .inl j :: .inr (.inr (.inl (c + 2))) :: r => f x j c r
  | _ => False
def wPF (st : List AV) (f : Int → Nat → List AV → Prop) : Prop := match st with
  | .inl x :: .inr (.inr (.inl (c + 2))) :: r => f x c r
  | _ => False
def wAL (st : List AV) (f : List AV → Prop) (g : Nat → List AV → Prop) : Prop := match st with
  | .inr (.inr (.inl 1)) :: r => f r
  | .inr (.inr (.inl (c + 2))) :: r => g c r
  | _ => False
def lI (ls : List AV) (i : Nat) (f : Int → Prop) : Prop := match ls[i]? with
  | some (.inl x) => f x
  | _ => False
def lL (ls : List AV) (i : Nat) (f : Int → Prop) : Prop := match ls[i]? with
  | some (.inr (.inl x)) => f x
  | _ => False
def lR (ls : List AV) (i : Nat) (f : Nat → Prop) : Prop := match ls[i]? with
  | some (.inr (.inr (.inl (r + 1)))) => f (r + 1)
  | _ => False
def s1 (ls : List AV) (i : Nat) (v : AV) (f : List AV → Prop) : Prop := (i < ls.length ∧ cat2 (ls.getD (i - 1) vU) = false) ∧ f (ls.set i v)
def s2 (ls : List AV) (i : Nat) (v : AV) (f : List AV → Prop) : Prop := (i + 1 < ls.length ∧ cat2 (ls.getD (i - 1) vU) = false ∧ cat2 (ls.getD (i + 1) vU) = false) ∧ f ((ls.set i v).set (i + 1) vU)
def wA1 (a : List Nat) (f : Nat → Prop) : Prop := match a with
  | x :: _ => f x
  | _ => False
def wA2 (a : List Nat) (f : Nat → Nat → Prop) : Prop := match a with
  | x :: y :: _ => f x y
  | _ => False
def wA3 (a : List Nat) (f : Nat → Nat → Prop) : Prop := match a with
  | x :: _ :: y :: _ => f x y
  | _ => False
def dpU (st : List AV) (f : AV → List AV → Prop) : Prop := match st with
  | v :: r => cat2 v = false ∧ f v r
  | _ => False
def dp2 (st : List AV) (f : AV → AV → List AV → Prop) : Prop := match st with
  | v :: w :: r => (cat2 v = false ∧ cat2 w = false) ∧ f v w r
  | _ => False
/-- the first n of the stack, in the order of the parameters -/
def pops : Nat → List AV → List AV → (List AV → List AV → Prop) → Prop
  | 0, st, acc, f => f acc st
  | n + 1, v :: st, acc, f => cat2 v = false ∧ pops n st (v :: acc) f
  | _ + 1, [], _, _ => False
def swt (f : Nat → Prop) (x : Int) : Int → List Nat → Prop
  | _, [] => True
  | k, j :: r => (x = k → f j) ∧ swt f x (k + 1) r
def lsw (f : Nat → Prop) (x : Int) : List (Int × Int) → List Nat → Prop
  | [], _ => True
  | _, [] => False
  | q :: ps, j :: r => (x = q.1 → f j) ∧ (¬ x = q.1 → lsw f x ps r)
def lno (x : Int) : List (Int × Int) → Prop
  | [] => True
  | q :: ps => ¬ x = q.1 ∧ lno x ps
def cpy5 (st : List AV) (f : Int → Int → Nat → Int → Nat → Prop) : Prop := match st with
  | [.inl n, .inl dp, .inr (.inr (.inl (d + 2))), .inl sp, .inr (.inr (.inl (c + 2)))] => f n dp d sp c
  | _ => False
def wpc (mi : Nat) : List En → Nat → List AV → List AV → Mem → (Option AV → Mem → Prop) → Prop
  | [], fl, ls, st, M, Q => Rn sx L K R mi fl ls st M Q
  | e :: es, fl, ls, st, M, Q =>
    match e.2.2.1 with
    | .iconst n => wpc mi es fl ls (vI n :: st) M Q
    | .bipush n => wpc mi es fl ls (vI n :: st) M Q
    | .sipush n => wpc mi es fl ls (vI n :: st) M Q
    | .ldc_w _ => wA2 e.2.2.2 fun a b => wpc mi es fl ls (vI ((a : Int) - b) :: st) M Q
    | .ldc2_w _ => wA1 e.2.2.2 fun a => wpc mi es fl ls (vL a :: st) M Q
    | .iload i => lI ls i fun x => wpc mi es fl ls (vI x :: st) M Q
    | .iload_n k => lI ls k.val fun x => wpc mi es fl ls (vI x :: st) M Q
    | .lload_n k => lL ls k.val fun x => wpc mi es fl ls (vL x :: st) M Q
    | .aload i => lR ls i fun x => wpc mi es fl ls (vR x :: st) M Q
    | .aload_n k => lR ls k.val fun x => wpc mi es fl ls (vR x :: st) M Q
    | .istore i => w1I st fun x r => s1 ls i (vI x) fun ls' => wpc mi es fl ls' r M Q
    | .istore_n k => w1I st fun x r => s1 ls k.val (vI x) fun ls' => wpc mi es fl ls' r M Q
    | .lstore_n k => w1L st fun x r => s2 ls k.val (vL x) fun ls' => wpc mi es fl ls' r M Q
    | .astore i => w1R st fun x r => s1 ls i (vR (x + 2)) fun ls' => wpc mi es fl ls' r M Q
    | .astore_n k => w1R st fun x r => s1 ls k.val (vR (x + 2)) fun ls' => wpc mi es fl ls' r M Q
    | .iinc i n => lI ls i fun x => inR (x + n) ∧ s1 ls i (vI (x + n)) fun ls' => wpc mi es fl ls' st M Q
    | .iadd => w2I st fun x y r => inR (x + y) ∧ wpc mi es fl ls (vI (x + y) :: r) M Q
    | .isub => w2I st fun x y r => inR (x - y) ∧ wpc mi es fl ls (vI (x - y) :: r) M Q
    | .imul => w2I st fun x y r => inR (x * y) ∧ wpc mi es fl ls (vI (x * y) :: r) M Q
    | .idiv => w2I st fun x y r => (0 ≤ x ∧ 0 < y) ∧ wpc mi es fl ls (vI (x / y) :: r) M Q
    | .irem => w2I st fun x y r => (0 ≤ x ∧ 0 < y) ∧ wpc mi es fl ls (vI (x % y) :: r) M Q
    | .ineg => w1I st fun x r => inR (-x) ∧ wpc mi es fl ls (vI (-x) :: r) M Q
    | .iand => w2I st fun x y r => wpc mi es fl ls (vI (iAnd x y) :: r) M Q
    | .ior => w2I st fun x y r => wpc mi es fl ls (vI (iOr x y) :: r) M Q
    | .ixor => w2I st fun x y r => wpc mi es fl ls (vI (iXor x y) :: r) M Q
    | .ishl => w2I st fun x y r => (0 ≤ x ∧ 0 ≤ y ∧ y ≤ 30 ∧ x * 2 ^ y.toNat ≤ 2147483647) ∧ wpc mi es fl ls (vI (x * 2 ^ y.toNat) :: r) M Q
    | .ishr => w2I st fun x y r => (0 ≤ x ∧ 0 ≤ y ∧ y ≤ 30) ∧ wpc mi es fl ls (vI (x / 2 ^ y.toNat) :: r) M Q
    | .iushr => w2I st fun x y r => (0 ≤ x ∧ 0 ≤ y ∧ y ≤ 30) ∧ wpc mi es fl ls (vI (x / 2 ^ y.toNat) :: r) M Q
    | .i2l => w1I st fun x r => wpc mi es fl ls (vL x :: r) M Q
    | .i2b => w1I st fun x r => wpc mi es fl ls (vI (i2B x) :: r) M Q
    | .i2s => w1I st fun x r => wpc mi es fl ls (vI (i2S x) :: r) M Q
    | .ladd => w2L st fun x y r => wpc mi es fl ls (vL (lAdd x y) :: r) M Q
    | .lmul => w2L st fun x y r => wpc mi es fl ls (vL (lMul x y) :: r) M Q
    | .lcmp => w2L st fun x y r => wpc mi es fl ls (vI (if x < y then -1 else if x = y then 0 else 1) :: r) M Q
    | .dup => dpU st fun v r => wpc mi es fl ls (v :: v :: r) M Q
    | .dup2 => dp2 st fun v w r => wpc mi es fl ls (v :: w :: v :: w :: r) M Q
    | .goto _ => wA1 e.2.2.2 fun j => Rn sx L K R mi j ls st M Q
    | .ifCond c _ => w1I st fun x r => wA1 e.2.2.2 fun j => (cdP c x 0 → Rn sx L K R mi j ls r M Q) ∧ (¬ cdP c x 0 → wpc mi es fl ls r M Q)
    | .if_icmp c _ => w2I st fun x y r => wA1 e.2.2.2 fun j => (cdP c x y → Rn sx L K R mi j ls r M Q) ∧ (¬ cdP c x y → wpc mi es fl ls r M Q)
    | .tableswitch _ lo hi _ => w1I st fun x r => match e.2.2.2 with
      | d :: js => (x < lo ∨ hi < x → Rn sx L K R mi d ls r M Q) ∧ swt (fun j => Rn sx L K R mi j ls r M Q) x lo js
      | [] => False
    | .lookupswitch _ ps => w1I st fun x r => match e.2.2.2 with
      | d :: js => (lno x ps.toList → Rn sx L K R mi d ls r M Q) ∧ lsw (fun j => Rn sx L K R mi j ls r M Q) x ps.toList js
      | [] => False
    | .getfield _ => w1R st fun c r => wA2 e.2.2.2 fun ci k => kin K c ci ∧ wpc mi es fl ls (fv R M ci k c :: r) M Q
    | .putfield _ => wPF st fun x c r => wA2 e.2.2.2 fun ci k => (kin K c ci ∧ pfc ci k x) ∧ wpc mi es fl ls r (mset M c k x) Q
    | .iaload => wIX st (fun j r => (0 ≤ j ∧ j < L) ∧ wpc mi es fl ls (vI (sx j) :: r) M Q) fun j c r => arr K c 10 j ∧ wpc mi es fl ls (vI (M c j) :: r) M Q
    | .baload => wIR st fun j c r => arr K c 11 j ∧ wpc mi es fl ls (vI (M c j) :: r) M Q
    | .aaload => wIR st fun j c r => arq K c j ∧ wpc mi es fl ls (vR (R c j) :: r) M Q
    | .iastore => wIIR st fun x j c r => arr K c 10 j ∧ wpc mi es fl ls r (mset M c j x) Q
    | .bastore => wIIR st fun x j c r => (arr K c 11 j ∧ (x = 0 ∨ x = 1)) ∧ wpc mi es fl ls r (mset M c j x) Q
    | .arraylength => wAL st (fun r => wpc mi es fl ls (vI L :: r) M Q) fun c r => ∃ n, aln K c n ∧ wpc mi es fl ls (vI n :: r) M Q
    | .invokestatic _ => match e.2.2.2 with
      | [t, _] => if t = 1000 then cpy5 st fun n dp d sp c => cpk K c d sp dp n ∧ wpc mi es fl ls [] (mcpy M c sp d dp n) Q
        else if t = 1002 then w2I st fun x y r => catS r ≤ 8 ∧ wpc mi es fl ls (vI (max x y) :: r) M Q
        else if t = 1003 then w2I st fun x y r => catS r ≤ 8 ∧ wpc mi es fl ls (vI (min x y) :: r) M Q
        else False
      | mi' :: _ :: np :: _ => pops np st [] fun av r => catS r ≤ 8 ∧ Mq sx L K R mi' av M (rvk (rkd mi') fun vs M' => wpc mi es fl ls (vs ++ r) M' Q)
      | _ => False
    | .invokevirtual _ => match e.2.2.2 with
      | mi' :: _ :: np :: _ => pops np st [] fun av r => w1R r fun c r => (kin K c (mK mi') ∧ catS r ≤ 8) ∧ Mq sx L K R mi' (vR (c + 2) :: av) M (rvk (rkd mi') fun vs M' => wpc mi es fl ls (vs ++ r) M' Q)
      | _ => False
    | .ireturn => match st with
      | [.inl x] => (rkd mi = 1 ∨ (rkd mi = 2 ∧ (x = 0 ∨ x = 1))) ∧ Q (some (vI x)) M
      | _ => False
    | .lreturn => match st with
      | [.inr (.inl x)] => rkd mi = 3 ∧ Q (some (vL x)) M
      | _ => False
    | .areturn => match st with
      | [.inr (.inr (.inl x))] => rkd mi = 4 ∧ Q (some (vR x)) M
      | _ => False
    | .return_ => match st with
      | [] => rkd mi = 0 ∧ Q none M
      | _ => False
    | _ => False
end WP
