/-! A plain machine over abstract values: references are numbers of cells (0, 1 .. in the order in which they are made), the script is a value of its own (.float 0), an unset place of the locals is DUM -/
abbrev AH := List (Nat × Nat) × (Nat → Nat → Int32) × (Nat → Nat → Int64) × (Nat → Nat → Value)
abbrev AX := Nat × (Nat → Int32)
abbrev DUM : Value := .double 0
def isD (v : Value) : Bool := match v with
  | .double _ => true
  | _ => false
def up2 {α : Type} (f : Nat → Nat → α) (k j : Nat) (v : α) : Nat → Nat → α := fun a => if a = k then (fun b => if b = j then v else f k b) else f a
def upr {α : Type} (f : Nat → Nat → α) (k : Nat) (g : Nat → α) : Nat → Nat → α := fun a => if a = k then g else f a
def setI (h : AH) (k j : Nat) (v : Int32) : AH := (h.1, up2 h.2.1 k j v, h.2.2.1, h.2.2.2)
def setJ (h : AH) (k j : Nat) (v : Int64) : AH := (h.1, h.2.1, up2 h.2.2.1 k j v, h.2.2.2)
def setR (h : AH) (k j : Nat) (v : Value) : AH := (h.1, h.2.1, h.2.2.1, up2 h.2.2.2 k j v)
def addC (h : AH) (t n : Nat) : AH := (h.1 ++ [(t, n)], upr h.2.1 h.1.length (fun _ => 0), upr h.2.2.1 h.1.length (fun _ => 0), upr h.2.2.2 h.1.length (fun _ => .null))
def inb (i : Int32) (n : Nat) : Bool := decide (¬ (i < 0 ∨ n ≤ i.toNatClampNeg))
def fval (h : AH) (k c j : Nat) : Value := if ctg c j = 2 then h.2.2.2 k j else .int (h.2.1 k j)
def killL (v : Value) : Value := match v with
  | .long _ => DUM
  | v => v
def setK : List Value → Nat → Value → List Value
  | [], _, _ => []
  | _ :: l, 0, v => v :: l
  | a :: l, 1, v => match l with
    | [] => [a]
    | _ :: l => killL a :: v :: l
  | a :: l, n + 2, v => a :: setK l (n + 1) v
def ldI (ls : List Value) (i : Nat) (st : List Value) : Option (List Value × List Value) := match ls[i]? with
  | some (.int x) => some (ls, .int x :: st)
  | _ => none
def ldL (ls : List Value) (i : Nat) (st : List Value) : Option (List Value × List Value) := match ls[i]? with
  | some (.long x) => some (ls, .long x :: st)
  | _ => none
def ldA (ls : List Value) (i : Nat) (st : List Value) : Option (List Value × List Value) := match ls[i]? with
  | some (.ref x) => some (ls, .ref x :: st)
  | some (.float x) => some (ls, .float x :: st)
  | _ => none
def stI (ls : List Value) (i : Nat) (st : List Value) : Option (List Value × List Value) := match st with
  | .int x :: r => if i < ls.length then some (setK ls i (.int x), r) else none
  | _ => none
def stL (ls : List Value) (i : Nat) (st : List Value) : Option (List Value × List Value) := match st with
  | .long x :: r => if i + 1 < ls.length then some ((setK ls i (.long x)).set (i + 1) DUM, r) else none
  | _ => none
def stA (ls : List Value) (i : Nat) (st : List Value) : Option (List Value × List Value) := match st with
  | .ref x :: r => if i < ls.length then some (setK ls i (.ref x), r) else none
  | _ => none
def o1i (ls st : List Value) (f : Int32 → Value) : Option (List Value × List Value) := match st with
  | .int x :: r => some (ls, f x :: r)
  | _ => none
def o1l (ls st : List Value) (f : Int64 → Value) : Option (List Value × List Value) := match st with
  | .long x :: r => some (ls, f x :: r)
  | _ => none
def o2i (ls st : List Value) (f : Int32 → Int32 → Value) : Option (List Value × List Value) := match st with
  | .int y :: .int x :: r => some (ls, f x y :: r)
  | _ => none
def o2l (ls st : List Value) (f : Int64 → Int64 → Value) : Option (List Value × List Value) := match st with
  | .long y :: .long x :: r => some (ls, f x y :: r)
  | _ => none
def o2s (ls st : List Value) (f : Int64 → Int32 → Value) : Option (List Value × List Value) := match st with
  | .int y :: .long x :: r => some (ls, f x y :: r)
  | _ => none
/-- what touches locals and operands alone -/
def pstep (i : Instr) (ls st : List Value) : Option (List Value × List Value) := match i with
  | .iconst n => some (ls, .int (Int32.ofInt n) :: st)
  | .bipush n => some (ls, .int (Int8.ofInt n).toInt32 :: st)
  | .sipush n => some (ls, .int (Int16.ofInt n).toInt32 :: st)
  | .lconst n => some (ls, .long (Int64.ofNat (n : Nat)) :: st)
  | .iload_n k => ldI ls (k : Nat) st
  | .iload k => ldI ls k st
  | .lload_n k => ldL ls (k : Nat) st
  | .lload k => ldL ls k st
  | .aload_n k => ldA ls (k : Nat) st
  | .aload k => ldA ls k st
  | .istore_n k => stI ls (k : Nat) st
  | .istore k => stI ls k st
  | .lstore_n k => stL ls (k : Nat) st
  | .lstore k => stL ls k st
  | .astore_n k => stA ls (k : Nat) st
  | .astore k => stA ls k st
  | .iinc k n => match ls[k]? with
    | some (.int x) => some (setK ls k (.int (x + Int32.ofInt n)), st)
    | _ => none
  | .dup => match st with
    | v :: r => if v.category = 1 then some (ls, v :: v :: r) else none
    | _ => none
  | .dup2 => match st with
    | v :: w :: r => if v.category = 1 ∧ w.category = 1 then some (ls, v :: w :: v :: w :: r) else none
    | _ => none
  | .pop => match st with
    | v :: r => if v.category = 1 then some (ls, r) else none
    | _ => none
  | .iadd => o2i ls st (fun x y => .int (x + y))
  | .isub => o2i ls st (fun x y => .int (x - y))
  | .imul => o2i ls st (fun x y => .int (x * y))
  | .iand => o2i ls st (fun x y => .int (x &&& y))
  | .ior => o2i ls st (fun x y => .int (x ||| y))
  | .ixor => o2i ls st (fun x y => .int (x ^^^ y))
  | .ishl => o2i ls st (fun x y => .int (x <<< (y &&& 31)))
  | .ishr => o2i ls st (fun x y => .int (x >>> (y &&& 31)))
  | .iushr => o2i ls st (fun x y => .int (x.toUInt32 >>> (y.toUInt32 &&& Int32.toUInt32 31)).toInt32)
  | .idiv => match st with
    | .int y :: .int x :: r => if y = 0 then none else some (ls, .int (x / y) :: r)
    | _ => none
  | .irem => match st with
    | .int y :: .int x :: r => if y = 0 then none else some (ls, .int (x - x / y * y) :: r)
    | _ => none
  | .ladd => o2l ls st (fun x y => .long (x + y))
  | .lsub => o2l ls st (fun x y => .long (x - y))
  | .lmul => o2l ls st (fun x y => .long (x * y))
  | .land => o2l ls st (fun x y => .long (x &&& y))
  | .lor => o2l ls st (fun x y => .long (x ||| y))
  | .lneg => o1l ls st (fun x => .long (-x))
  | .lshl => o2s ls st (fun x y => .long (x <<< (y.toInt64 &&& 63)))
  | .lshr => o2s ls st (fun x y => .long (x >>> (y.toInt64 &&& 63)))
  | .lushr => o2s ls st (fun x y => .long (x.toUInt64 >>> (y.toInt64.toUInt64 &&& Int64.toUInt64 63)).toInt64)
  | .lcmp => o2l ls st (fun x y => .int (lg_cmp x y))
  | .i2l => o1i ls st (fun x => .long x.toInt64)
  | .l2i => o1l ls st (fun x => .int x.toInt32)
  | .i2b => o1i ls st (fun x => .int x.toInt8.toInt32)
  | .i2s => o1i ls st (fun x => .int x.toInt16.toInt32)
  | _ => none
def tgt (pc : Nat) (off : Int) : Option Nat := if 0 ≤ (pc : Int) + off then some ((pc : Int) + off).toNat else none
def cnd (c : Jvm.ClassFile.Cond) (x y : Int32) : Bool := match c with
  | .eq => decide (x = y)
  | .ne => decide (¬ x = y)
  | .lt => decide (x < y)
  | .ge => decide (y ≤ x)
  | .gt => decide (y < x)
  | .le => decide (x ≤ y)
/-- what goes elsewhere -/
def bstep (pc : Nat) (i : Instr) (st : List Value) : Option (Nat × List Value) := match i with
  | .ifCond c off => match st with
    | .int x :: r => (tgt pc off).map (fun t => (if cnd c x 0 = true then t else pc + 3, r))
    | _ => none
  | .if_icmp c off => match st with
    | .int y :: .int x :: r => (tgt pc off).map (fun t => (if cnd c x y = true then t else pc + 3, r))
    | _ => none
  | .goto off => (tgt pc off).map (fun t => (t, st))
  | .tableswitch d lo hi offs => match st with
    | .int x :: r => if x.toInt < lo ∨ hi < x.toInt then (tgt pc d).map (fun t => (t, r)) else match offs[(x.toInt - lo).toNat]? with
      | some o => (tgt pc o).map (fun t => (t, r))
      | none => none
    | _ => none
  | _ => none
def getS (M idx : Nat) (st : List Value) (h : AH) : Option (List Value × AH) := match st with
  | .ref k :: r => match rs (mc M) idx with
    | some (t, c, j, _) => if t ≤ 1 ∧ c < 12 ∧ j < cN c ∧ h.1[k]? = some (c + 3, cN c) then some (fval h k c j :: r, h) else none
    | none => none
  | _ => none
def putV (h : AH) (k c j : Nat) (v : Value) : Option AH := match v with
  | .int x => if ctg c j = 0 ∨ (ctg c j = 1 ∧ (x = 0 ∨ x = 1)) then some (setI h k j x) else none
  | .ref a => if ctg c j = 2 then some (setR h k j (.ref a)) else none
  | _ => none
def putS (M idx : Nat) (st : List Value) (h : AH) : Option (List Value × AH) := match st with
  | v :: .ref k :: r => match rs (mc M) idx with
    | some (t, c, j, _) => if t ≤ 1 ∧ c < 12 ∧ j < cN c ∧ h.1[k]? = some (c + 3, cN c) ∧ (((cT c) j).2.2.2 = false ∨ (t = 0 ∧ mk M = 2 ∧ c = mc M)) then (putV h k c j v).map (fun h' => (r, h')) else none
    | none => none
  | _ => none
def newS (M idx : Nat) (st : List Value) (h : AH) : Option (List Value × AH) := match rs (mc M) idx with
  | some (t, c, _, _) => if t = 4 ∧ c < 12 then some (.ref h.1.length :: st, addC h (c + 3) (cN c)) else none
  | none => none
def conS (M idx : Nat) (st : List Value) (h : AH) : Option (List Value × AH) := match rs (mc M) idx with
  | some (t, a, _, _) => if t = 5 then some (.int (ki32.getD a 0) :: st, h) else none
  | none => none
def con2S (M idx : Nat) (st : List Value) (h : AH) : Option (List Value × AH) := match rs (mc M) idx with
  | some (t, a, _, _) => if t = 6 then some (.long (ki64.getD a 0) :: st, h) else none
  | none => none
def objS (M idx : Nat) (st : List Value) (h : AH) : Option (List Value × AH) := match rs (mc M) idx with
  | some (t, _, _, _) => if t = 7 ∧ (st.map fun v => v.category).sum ≤ 20 then match st with
    | .ref _ :: r => some (r, h)
    | _ => none
    else none
  | none => none
def jdkS (M idx : Nat) (st : List Value) (h : AH) : Option (List Value × AH) := match rs (mc M) idx with
  | some (t, _, _, _) => if (st.map fun v => v.category).sum ≤ 20 then (match st with
    | .int n :: .int dp :: .ref k1 :: .int sp :: .ref k0 :: r => if t = 8 then match h.1[k0]?, h.1[k1]? with
      | some (0, n0), some (0, n1) => if ¬ sp < 0 ∧ ¬ dp < 0 ∧ ¬ n < 0 ∧ sp.toNatClampNeg + n.toNatClampNeg ≤ n0 ∧ dp.toNatClampNeg + n.toNatClampNeg ≤ n1 then some (r, (h.1, upr h.2.1 k1 (va_cpy (h.2.1 k0) (h.2.1 k1) sp.toNatClampNeg dp.toNatClampNeg n.toNatClampNeg), h.2.2.1, h.2.2.2)) else none
      | _, _ => none
      else if t = 9 then some (.int (if dp < n then n else dp) :: .ref k1 :: .int sp :: .ref k0 :: r, h) else if t = 10 then some (.int (if n < dp then n else dp) :: .ref k1 :: .int sp :: .ref k0 :: r, h) else none
    | .int y :: .int x :: r => if t = 9 then some (.int (if x < y then y else x) :: r, h) else if t = 10 then some (.int (if y < x then y else x) :: r, h) else none
    | _ => none) else none
  | none => none
def arrT (t : ArrayType) : Option Nat := match t with
  | .int => some 0
  | .long => some 1
  | .boolean => some 2
  | _ => none
/-- what touches cells -/
def hstep (X : AX) (M : Nat) (i : Instr) (st : List Value) (h : AH) : Option (List Value × AH) := match i with
  | .getfield idx => getS M idx st h
  | .putfield idx => putS M idx st h
  | .iaload => match st with
    | .int i :: .ref k :: r => match h.1[k]? with
      | some (0, n) => if inb i n = true then some (.int (h.2.1 k i.toNatClampNeg) :: r, h) else none
      | _ => none
    | .int i :: .float _ :: r => if inb i X.1 = true then some (.int (X.2 i.toNatClampNeg) :: r, h) else none
    | _ => none
  | .laload => match st with
    | .int i :: .ref k :: r => match h.1[k]? with
      | some (1, n) => if inb i n = true then some (.long (h.2.2.1 k i.toNatClampNeg) :: r, h) else none
      | _ => none
    | _ => none
  | .baload => match st with
    | .int i :: .ref k :: r => match h.1[k]? with
      | some (2, n) => if inb i n = true then some (.int (h.2.1 k i.toNatClampNeg) :: r, h) else none
      | _ => none
    | _ => none
  | .iastore => match st with
    | .int x :: .int i :: .ref k :: r => match h.1[k]? with
      | some (0, n) => if inb i n = true then some (r, setI h k i.toNatClampNeg x) else none
      | _ => none
    | _ => none
  | .lastore => match st with
    | .long x :: .int i :: .ref k :: r => match h.1[k]? with
      | some (1, n) => if inb i n = true then some (r, setJ h k i.toNatClampNeg x) else none
      | _ => none
    | _ => none
  | .bastore => match st with
    | .int x :: .int i :: .ref k :: r => match h.1[k]? with
      | some (2, n) => if inb i n = true ∧ (x = 0 ∨ x = 1) then some (r, setI h k i.toNatClampNeg x) else none
      | _ => none
    | _ => none
  | .arraylength => match st with
    | .float _ :: r => some (.int (Int32.ofNat X.1) :: r, h)
    | _ => none
  | .newarray t => match st with
    | .int n :: r => match arrT t with
      | some g => if ¬ n < 0 ∧ n.toNatClampNeg ≤ 10000 then some (.ref h.1.length :: r, addC h g n.toNatClampNeg) else none
      | none => none
    | _ => none
  | .new idx => newS M idx st h
  | .ldc idx => conS M idx st h
  | .ldc_w idx => conS M idx st h
  | .ldc2_w idx => con2S M idx st h
  | .invokespecial idx => objS M idx st h
  | .invokestatic idx => jdkS M idx st h
  | _ => none
/-- ends -/
def rstep (M : Nat) (i : Instr) (st : List Value) : Option (Option Value) := match i with
  | .ireturn => match st with
    | [.int v] => if mr M = some .int ∨ (mr M = some .boolean ∧ (v = 0 ∨ v = 1)) then some (some (.int v)) else none
    | _ => none
  | .lreturn => match st with
    | [.long v] => if mr M = some .long then some (some (.long v)) else none
    | _ => none
  | .return_ => match st with
    | [] => if mr M = none then some none else none
    | _ => none
  | _ => none
def lsl (vs : List Value) : List Value := vs.flatMap fun v => if v.category = 2 then [v, DUM] else [v]
def ent (vs : List Value) (n : Nat) : List Value := lsl vs ++ List.replicate (n - (lsl vs).length) DUM
def hasC (h : AH) (c : Nat) (as : List Value) : Bool := match as with
  | .ref k :: _ => decide (c < 12 ∧ h.1[k]? = some (c + 3, cN c))
  | _ => false
def isRf (as : List Value) : Bool := match as with
  | .ref _ :: _ => true
  | _ => false
def nA (kd N : Nat) : Nat := if kd = 0 then ma N else ma N + 1
def callK (M idx kd : Nat) (st : List Value) (h : AH) : Option (Nat × List Value × List Value) := match rs (mc M) idx with
  | some (t, N, _, _) =>
    if (t = 2 ∨ t = 3) ∧ N < 219 ∧ mk N = kd ∧ (lsl (st.take (nA kd N)).reverse).length ≤ mL N ∧ nA kd N ≤ st.length ∧ ((st.drop (nA kd N)).map fun v => v.category).sum ≤ 8 ∧ (kd = 1 → hasC h (mc N) (st.take (ma N + 1)).reverse = true) ∧ (kd = 2 → isRf (st.take (ma N + 1)).reverse = true) ∧ (kd = 0 → t = 3 ∨ mc N = mc M ∨ 12 < mc N) then
      some (N, (st.take (nA kd N)).reverse, st.drop (nA kd N))
    else none
  | none => none
def cstep (M : Nat) (i : Instr) (st : List Value) (h : AH) : Option (Nat × List Value × List Value) := match i with
  | .invokestatic idx => callK M idx 0 st h
  | .invokevirtual idx => callK M idx 1 st h
  | .invokespecial idx => callK M idx 2 st h
  | _ => none
def lenOK (i : Instr) (len : Nat) : Bool := match i with
  | .bipush _ | .iload _ | .lload _ | .aload _ | .istore _ | .lstore _ | .astore _ | .ldc _ | .newarray _ => decide (len = 2)
  | .sipush _ | .iinc _ _ | .ifCond _ _ | .if_icmp _ _ | .goto _ | .getfield _ | .putfield _ | .invokestatic _ | .invokevirtual _ | .invokespecial _ | .new _ | .ldc_w _ | .ldc2_w _ => decide (len = 3)
  | .tableswitch _ _ _ _ => true
  | _ => decide (len = 1)
def run (X : AX) : Nat → Nat → Nat → Nat → List Value → List Value → AH → Option (Option Value × AH)
  | 0, _, _, _, _, _, _ => none
  | n + 1, d, M, pc, ls, st, h => match decode (mb M) pc with
    | .error _ => none
    | .ok (i, len) => if lenOK i len = true then (match pstep i ls st with
      | some (ls', st') => run X n d M (pc + len) ls' st' h
      | none => match bstep pc i st with
        | some (pc', st') => run X n d M pc' ls st' h
        | none => match hstep X M i st h with
          | some (st', h') => run X n d M (pc + len) ls st' h'
          | none => match rstep M i st with
            | some r => some (r, h)
            | none => match cstep M i st h with
              | some (N, as, rest) => match d with
                | 0 => none
                | d' + 1 => match run X n d' N 0 (ent as (mL N)) [] h with
                  | some (r, h') => run X n d M (pc + 3) ls (r.toList ++ rest) h'
                  | none => none
              | none => none) else none
/-- the machine comes to an end, with Q of the answer and the cells -/
def wp (X : AX) (d M pc : Nat) (ls st : List Value) (h : AH) (Q : Option Value → AH → Prop) : Prop := ∃ (n : Nat) (r : Option Value) (h' : AH), run X n d M pc ls st h = some (r, h') ∧ Q r h'
def cwp (X : AX) (d M : Nat) (as : List Value) (h : AH) (Q : Option Value → AH → Prop) : Prop := wp X d M 0 (ent as (mL M)) [] h Q
