/-! the program of the small machine, and what a look at the tables says of it -/
def mtD : Mt := (⟨"", "", ""⟩, code, 0, none, "", 0, 0, 0, [])
def mt (mi : Nat) : Mt := mtT.getD mi mtD
def mY (mi : Nat) : MethodName := (mt mi).1
def mC (mi : Nat) : ByteArray := (mt mi).2.1
def mL (mi : Nat) : Nat := (mt mi).2.2.1
def mR (mi : Nat) : Option FieldType := (mt mi).2.2.2.1
def mO (mi : Nat) : String := (mt mi).2.2.2.2.1
def mF (mi : Nat) : Nat := (mt mi).2.2.2.2.2.1
def mW (mi : Nat) : Nat := (mt mi).2.2.2.2.2.2.1
def mK (mi : Nat) : Nat := (mt mi).2.2.2.2.2.2.2.1
def mH (mi : Nat) : List Nat := (mt mi).2.2.2.2.2.2.2.2
def bks (mi : Nat) : List Bk := bkT.getD mi []
def blk (mi j : Nat) : Bk := (bks mi).getD j ([], 0)
def spc (mi j : Nat) : Nat := match (blk mi j).1 with
  | e :: _ => e.1
  | [] => 0
def nxp (mi : Nat) (es : List En) (fl : Nat) : Nat := match es with
  | e :: _ => e.1
  | [] => spc mi fl
def tgo (mi pc : Nat) (off : Int) (j : Nat) : Bool := decide ((pc : Int) + off = (spc mi j : Int)) && decide (j < (bks mi).length)
def wdo (h : Nat) (w : Jvm.Cond) : Bool := decide (lw_tbl[h]? = some w)
def fldo (mi idx ci k h : Nat) : Bool :=
  let q := (clD ci).2.1 k
  (wdo h (.fieldLink (mO mi) idx q.1 q.2.1 q.2.2.1) || wdo h (.fieldLinkNest (mO mi) idx q.1 q.2.1 q.2.2.1 "OneKnife")) && decide (ci < 10) && decide (k < cnN ci)
def lnko (mi idx h : Nat) (y : MethodName) : Bool := wdo h (.methodLink (mO mi) idx y) || wdo h (.methodLinkNest (mO mi) idx y "OneKnife")
def depo (mi mi' np : Nat) : Bool := decide (mi' < 227) && decide (mF mi' + 1 ≤ mF mi) && decide (8 + (mL mi' + 11) + mW mi' ≤ mW mi) && decide ((parseMethodDescriptor (mY mi').desc).map (fun d => d.parameters.length) = some np)
def okI (mi : Nat) (e : En) : Bool :=
  match e.2.2.1 with
  | .iconst n => decide (e.2.1 = 1) && decide (inR n)
  | .bipush n => decide (e.2.1 = 2) && decide (-128 ≤ n ∧ n ≤ 127)
  | .sipush n => decide (e.2.1 = 3) && decide (-32768 ≤ n ∧ n ≤ 32767)
  | .ldc_w i => decide (e.2.1 = 3) && (match e.2.2.2 with
    | a :: b :: h :: _ => wdo h (.constant (mO mi) i (Int32.ofInt ((a : Int) - b))) && decide (inR ((a : Int) - b))
    | _ => false)
  | .ldc2_w i => decide (e.2.1 = 3) && (match e.2.2.2 with
    | a :: h :: _ => wdo h (.constantLong (mO mi) i (Int64.ofInt a)) && decide (a ≤ 1000)
    | _ => false)
  | .iload _ | .aload _ | .istore _ | .astore _ => decide (e.2.1 = 2)
  | .iinc _ _ => decide (e.2.1 = 3)
  | .goto off => match e.2.2.2 with
    | j :: _ => decide (e.2.1 = 3) && tgo mi e.1 off j
    | _ => false
  | .ifCond _ off => match e.2.2.2 with
    | j :: _ => decide (e.2.1 = 3) && tgo mi e.1 off j
    | _ => false
  | .if_icmp _ off => match e.2.2.2 with
    | j :: _ => decide (e.2.1 = 3) && tgo mi e.1 off j
    | _ => false
  | .tableswitch d lo hi offs => tgo mi e.1 d (e.2.2.2.getD 0 0) && decide (hi = lo + offs.toList.length - 1) && (List.range offs.toList.length).all (fun i => tgo mi e.1 (offs.toList.getD i 0) (e.2.2.2.getD (i + 1) 0))
  | .lookupswitch d ps => (ps.toList.zip (ps.toList.drop 1)).all (fun (a, next) => decide (a.1 < next.1)) && tgo mi e.1 d (e.2.2.2.getD 0 0) && (List.range ps.toList.length).all (fun i => tgo mi e.1 (ps.toList.getD i (0, 0)).2 (e.2.2.2.getD (i + 1) 0))
  | .getfield i => decide (e.2.1 = 3) && (match e.2.2.2 with
    | ci :: k :: h :: _ => fldo mi i ci k h
    | _ => false)
  | .putfield i => decide (e.2.1 = 3) && (match e.2.2.2 with
    | ci :: k :: h :: _ => fldo mi i ci k h && (decide (((clD ci).2.1 k).2.2.2 = false) || (decide ((mY mi).name = "<init>") && decide (((clD ci).2.1 k).1 = mO mi) && wdo h (.fieldLink (mO mi) i ((clD ci).2.1 k).1 ((clD ci).2.1 k).2.1 ((clD ci).2.1 k).2.2.1)))
    | _ => false)
  | .new i => decide (e.2.1 = 3) && (match e.2.2.2 with
    | ci :: h :: _ => decide (ci < 10) && wdo h (.classLink (mO mi) i (clD ci).1)
    | _ => false)
  | .newarray _ => decide (e.2.1 = 2)
  | .anewarray i => decide (e.2.1 = 3) && (match e.2.2.2 with
    | kd :: h :: _ => decide (12 ≤ kd) && decide (kd ≤ 14) && wdo h (.classLink (mO mi) i (clD (elC kd)).1)
    | _ => false)
  | .invokevirtual i => decide (e.2.1 = 3) && (match e.2.2.2 with
    | mi' :: h :: np :: _ => lnko mi i h (mY mi') && depo mi mi' np && wdo ((mH mi').getD 1 0) (.instanceMethod (mY mi')) && wdo ((mH mi').getD 2 0) (.selects (mY mi').cls (mY mi') (mY mi')) && decide (mK mi' < 10) && decide ((clD (mK mi')).1 = (mY mi').cls)
    | _ => false)
  | .invokestatic i => decide (e.2.1 = 3) && (match e.2.2.2 with
    | mi' :: h :: np :: _ => lnko mi i h (mY mi') && depo mi mi' np && wdo ((mH mi').getD 1 0) (.static (mY mi'))
    | t :: h :: [] => ((decide (t = 1000) && wdo h (.methodLink (mO mi) i arraycopyName) && decide (40 ≤ mW mi)) || (decide (t = 1002) && wdo h (.methodLink (mO mi) i Lib.Math.max.name)) || (decide (t = 1003) && wdo h (.methodLink (mO mi) i Lib.Math.min.name))) && decide (1 ≤ mF mi) && decide (21 ≤ mW mi)
    | _ => false)
  | .invokespecial i => decide (e.2.1 = 3) && (match e.2.2.2 with
    | mi' :: h :: np :: _ => lnko mi i h (mY mi') && depo mi mi' np && wdo ((mH mi').getD 1 0) (.instanceMethod (mY mi')) && decide ((mY mi').name = "<init>") && decide (mR mi' = none) && decide (mK mi' < 10) && decide ((clD (mK mi')).1 = (mY mi').cls)
    | t :: h :: [] => decide (t = 1001) && wdo h (.methodLink (mO mi) i Lib.objectInit) && decide (1 ≤ mF mi) && decide (20 ≤ mW mi)
    | _ => false)
  | _ => decide (e.2.1 = 1)
def dcE (mi : Nat) (e : En) : Bool := decide (decode (mC mi) e.1 = .ok (e.2.2.1, e.2.1))
def ents (mi : Nat) : List En := (bks mi).flatMap (fun b => b.1)
def noF (i : Instr) : Bool := match i with
  | .goto _ => true
  | .tableswitch _ _ _ _ => true
  | .lookupswitch _ _ => true
  | .ireturn => true
  | .areturn => true
  | .lreturn => true
  | .return_ => true
  | _ => false
def okEs (mi : Nat) : List En → Nat → Bool
  | [], fl => decide (fl < (bks mi).length)
  | e :: es, fl => okI mi e && (noF e.2.2.1 || decide (nxp mi es fl = e.1 + e.2.1)) && okEs mi es fl
def okB (mi : Nat) : Bool := decide (spc mi 0 = 0) && decide (0 < (bks mi).length) && (bks mi).all (fun b => decide (b.1 ≠ []) && okEs mi b.1 b.2)
def okM (mi : Nat) : Bool := wdo ((mH mi).getD 0 0) (.code (mY mi) (mC mi) (mL mi) (mR mi)) && wdo ((mH mi).getD 3 0) (.initialized (mY mi).cls) && decide (mO mi = (mY mi).cls) && plainName (mY mi).cls && decide ((mY mi).cls ≠ "java/lang/invoke/MethodHandle") && decide ((mY mi).cls ≠ "java/lang/invoke/VarHandle") && goodWord (.code (mY mi) (mC mi) (mL mi) (mR mi))
theorem sp_go {α : Type} {f : α → Bool} {l : List α} {a n : Nat} (h1 : ((l.drop a).take n).all f = true) (h2 : (l.drop (a + n)).all f = true) : (l.drop a).all f = true := by
  rw [← List.take_append_drop n (l.drop a), List.all_append, h1, List.drop_drop, h2]
  rfl
theorem sp_end {α : Type} {f : α → Bool} {l : List α} {a : Nat} (h : l.length ≤ a) : (l.drop a).all f = true := by rw [List.drop_eq_nil_of_le h]; rfl
