/-! THE MINI MACHINE, part 1: its words. A cell is a tag and its contents: below 1000 an object of that class of vwCl, by its fields; 1000 an int array; 1999 the law's own script. A reference is the number of a cell; ρ gives its address. -/
abbrev mmC : Type := Nat × List Value
abbrev mmI : Type := Nat × Instr × Nat × List Nat
abbrev mmM : Type := MethodName × ByteArray × Nat × Option FieldType × Nat × Nat × List mmI
def mmv (r : Nat → Nat) : Value → Value
  | .ref i => .ref (r i)
  | v => v
def mmGet (lv : List (Option Value)) (i : Nat) : Option Value := (lv[i]?).getD none
def mmWide : Option Value → Bool
  | some (.long _) => true
  | some (.double _) => true
  | _ => false
def mmOk (lv : List (Option Value)) : Nat → Bool
  | 0 => true
  | j + 1 => !mmWide (mmGet lv j)
def mmSet1 (lv : List (Option Value)) (i : Nat) (v : Value) : Option (List (Option Value)) :=
  if decide (i < lv.length) && mmOk lv i then some (lv.set i (some v)) else none
def mmSet2 (lv : List (Option Value)) (i : Nat) (v : Value) : Option (List (Option Value)) :=
  if decide (i + 1 < lv.length) && mmOk lv i then some ((lv.set i (some v)).set (i + 1) none) else none
def mmSlots : List Value → List (Option Value)
  | [] => []
  | v :: vs => if v.category = 2 then some v :: none :: mmSlots vs else some v :: mmSlots vs
def mmEntry (n : Nat) (vs : List Value) : List (Option Value) := mmSlots vs ++ List.replicate (n - (mmSlots vs).length) none
def mmWords (st : List Value) : Nat := (st.map fun v => v.category).sum
def mmFetch : List mmI → Nat → Option (Instr × Nat × List Nat)
  | [], _ => none
  | q :: t, pc => bif Nat.beq q.1 pc then some q.2 else mmFetch t pc
/-- what a field of a kind takes: 0 int, 1 boolean, 2 long, 3 a reference -/
def mmFit : Nat → Value → Bool
  | 0, .int _ => true
  | 1, .int x => decide (x = 0) || decide (x = 1)
  | 2, .long _ => true
  | 3, .ref _ => true
  | 3, .null => true
  | _, _ => false
def mmDefs : List (List Value) := vwCl.map fun q => (List.range q.2.2).map fun k => match parseFieldDescriptor (q.2.1 k).2.2.1 with
  | some ty => defaultValue ty
  | none => .null
/-- how many cells are read only: the script -/
def mmRo : Nat := 1
/-- an array of arrays as it is made, at b: 1001 of rows of ints, 1002 of arrays of such rows -/
def mmMulti (tg b n k : Nat) : List mmC := (tg, (List.range n).map fun i => .ref (b + 1 + i)) :: List.replicate n (if tg = 1001 then (1000, List.replicate k (.int 0)) else (1001, List.replicate k .null))
abbrev mmSt : Type := Nat × List (Option Value) × List Value × List mmC
/-- an instruction that neither branches nor calls nor returns -/
def mmS (ins : Instr) (ax : List Nat) (pc : Nat) (lv : List (Option Value)) (st : List Value) (h : List mmC) : Option mmSt :=
  match ins with
  | .iconst k => some (pc + 1, lv, .int (Int32.ofInt k) :: st, h)
  | .bipush k => some (pc + 2, lv, .int (Int8.ofInt k).toInt32 :: st, h)
  | .sipush k => some (pc + 3, lv, .int (Int16.ofInt k).toInt32 :: st, h)
  | .ldc _ => match ax with
    | b :: _ => some (pc + 2, lv, .int (Int32.ofNat b) :: st, h)
    | _ => none
  | .ldc_w _ => match ax with
    | b :: _ => some (pc + 3, lv, .int (Int32.ofNat b) :: st, h)
    | _ => none
  | .ldc2_w _ => match ax with
    | b :: _ => some (pc + 3, lv, .long (Int64.ofNat b) :: st, h)
    | _ => none
  | .iload_n k => match mmGet lv k with
    | some (.int x) => some (pc + 1, lv, .int x :: st, h)
    | _ => none
  | .iload k => match mmGet lv k with
    | some (.int x) => some (pc + 2, lv, .int x :: st, h)
    | _ => none
  | .lload_n k => match mmGet lv k with
    | some (.long x) => some (pc + 1, lv, .long x :: st, h)
    | _ => none
  | .lload k => match mmGet lv k with
    | some (.long x) => some (pc + 2, lv, .long x :: st, h)
    | _ => none
  | .aload_n k => match mmGet lv k with
    | some (.ref x) => some (pc + 1, lv, .ref x :: st, h)
    | _ => none
  | .aload k => match mmGet lv k with
    | some (.ref x) => some (pc + 2, lv, .ref x :: st, h)
    | _ => none
  | .istore_n k => match st with
    | .int x :: r => (mmSet1 lv k (.int x)).map fun lv' => (pc + 1, lv', r, h)
    | _ => none
  | .istore k => match st with
    | .int x :: r => (mmSet1 lv k (.int x)).map fun lv' => (pc + 2, lv', r, h)
    | _ => none
  | .lstore_n k => match st with
    | .long x :: r => (mmSet2 lv k (.long x)).map fun lv' => (pc + 1, lv', r, h)
    | _ => none
  | .lstore k => match st with
    | .long x :: r => (mmSet2 lv k (.long x)).map fun lv' => (pc + 2, lv', r, h)
    | _ => none
  | .astore_n k => match st with
    | .ref x :: r => (mmSet1 lv k (.ref x)).map fun lv' => (pc + 1, lv', r, h)
    | _ => none
  | .astore k => match st with
    | .ref x :: r => (mmSet1 lv k (.ref x)).map fun lv' => (pc + 2, lv', r, h)
    | _ => none
  | .iinc k n => match mmGet lv k with
    | some (.int x) => (mmSet1 lv k (.int (x + Int32.ofInt n))).map fun lv' => (pc + 3, lv', st, h)
    | _ => none
  | .iadd => match st with
    | .int y :: .int x :: r => some (pc + 1, lv, .int (x + y) :: r, h)
    | _ => none
  | .isub => match st with
    | .int y :: .int x :: r => some (pc + 1, lv, .int (x - y) :: r, h)
    | _ => none
  | .imul => match st with
    | .int y :: .int x :: r => some (pc + 1, lv, .int (x * y) :: r, h)
    | _ => none
  | .iand => match st with
    | .int y :: .int x :: r => some (pc + 1, lv, .int (x &&& y) :: r, h)
    | _ => none
  | .ior => match st with
    | .int y :: .int x :: r => some (pc + 1, lv, .int (x ||| y) :: r, h)
    | _ => none
  | .ixor => match st with
    | .int y :: .int x :: r => some (pc + 1, lv, .int (x ^^^ y) :: r, h)
    | _ => none
  | .ishl => match st with
    | .int y :: .int x :: r => some (pc + 1, lv, .int (x <<< (y &&& 31)) :: r, h)
    | _ => none
  | .ishr => match st with
    | .int y :: .int x :: r => some (pc + 1, lv, .int (x >>> (y &&& 31)) :: r, h)
    | _ => none
  | .iushr => match st with
    | .int y :: .int x :: r => some (pc + 1, lv, .int (x.toUInt32 >>> (y.toUInt32 &&& Int32.toUInt32 31)).toInt32 :: r, h)
    | _ => none
  | .idiv => match st with
    | .int y :: .int x :: r => if y = 0 then none else some (pc + 1, lv, .int (x / y) :: r, h)
    | _ => none
  | .irem => match st with
    | .int y :: .int x :: r => if y = 0 then none else some (pc + 1, lv, .int (x - x / y * y) :: r, h)
    | _ => none
  | .i2l => match st with
    | .int x :: r => some (pc + 1, lv, .long x.toInt64 :: r, h)
    | _ => none
  | .ladd => match st with
    | .long y :: .long x :: r => some (pc + 1, lv, .long (x + y) :: r, h)
    | _ => none
  | .lmul => match st with
    | .long y :: .long x :: r => some (pc + 1, lv, .long (x * y) :: r, h)
    | _ => none
  | .lcmp => match st with
    | .long y :: .long x :: r => some (pc + 1, lv, .int (lg_cmp x y) :: r, h)
    | _ => none
  | .dup => match st with
    | .int x :: r => some (pc + 1, lv, .int x :: .int x :: r, h)
    | .ref x :: r => some (pc + 1, lv, .ref x :: .ref x :: r, h)
    | _ => none
  | .dup2 => match st with
    | .int y :: .ref x :: r => some (pc + 1, lv, .int y :: .ref x :: .int y :: .ref x :: r, h)
    | _ => none
  | .pop => match st with
    | .int _ :: r => some (pc + 1, lv, r, h)
    | .ref _ :: r => some (pc + 1, lv, r, h)
    | _ => none
  | .getfield _ => match st, ax with
    | .ref a :: r, ci :: k :: _ => match h[a]? with
      | some c => if c.1 = ci ∧ ci < 1000 then (c.2[k]?).map fun v => (pc + 3, lv, v :: r, h) else none
      | none => none
    | _, _ => none
  | .putfield _ => match st, ax with
    | v :: .ref a :: r, ci :: k :: tc :: _ => match h[a]? with
      | some c => if c.1 = ci ∧ ci < 1000 ∧ k < c.2.length ∧ mmFit tc v = true ∧ mmRo ≤ a then some (pc + 3, lv, r, h.set a (ci, c.2.set k v)) else none
      | none => none
    | _, _ => none
  | .iaload => match st with
    | .int j :: .ref a :: r => match h[a]? with
      | some c => if (c.1 = 1000 ∨ c.1 = 1999) ∧ ¬ j < 0 then match c.2[j.toNatClampNeg]? with
          | some (.int x) => some (pc + 1, lv, .int x :: r, h)
          | _ => none
        else none
      | none => none
    | _ => none
  | .iastore => match st with
    | .int x :: .int j :: .ref a :: r => match h[a]? with
      | some c => if c.1 = 1000 ∧ ¬ j < 0 ∧ j.toNatClampNeg < c.2.length ∧ mmRo ≤ a then some (pc + 1, lv, r, h.set a (1000, c.2.set j.toNatClampNeg (.int x))) else none
      | none => none
    | _ => none
  | .arraylength => match st with
    | .ref a :: r => match h[a]? with
      | some c => if c.1 = 1000 ∨ c.1 = 1999 then some (pc + 1, lv, .int (nI c.2.length) :: r, h) else none
      | none => none
    | _ => none
  | .newarray .int => match st with
    | .int n :: r => if ¬ n < 0 ∧ n.toNatClampNeg ≤ 100000 then some (pc + 2, lv, .ref h.length :: r, h ++ [(1000, List.replicate n.toNatClampNeg (.int 0))]) else none
    | _ => none
  | .new _ => match ax with
    | ci :: _ => match mmDefs[ci]? with
      | some fs => if ci < 1000 then some (pc + 3, lv, .ref h.length :: st, h ++ [(ci, fs)]) else none
      | none => none
    | _ => none
  | .aaload => match st with
    | .int j :: .ref a :: r => match h[a]? with
      | some c => if (c.1 = 1001 ∨ c.1 = 1002) ∧ ¬ j < 0 then match c.2[j.toNatClampNeg]? with
          | some (.ref x) => some (pc + 1, lv, .ref x :: r, h)
          | _ => none
        else none
      | none => none
    | _ => none
  | .aastore => match st with
    | .ref b :: .int j :: .ref a :: r => match h[a]?, h[b]? with
      | some c, some d => if (c.1 = 1001 ∧ d.1 = 1000 ∨ c.1 = 1002 ∧ d.1 = 1001) ∧ ¬ j < 0 ∧ j.toNatClampNeg < c.2.length ∧ mmRo ≤ a then some (pc + 1, lv, r, h.set a (c.1, c.2.set j.toNatClampNeg (.ref b))) else none
      | _, _ => none
    | _ => none
  | .multianewarray _ 2 => match st, ax with
    | .int k :: .int n :: r, tg :: _ => if (tg = 1001 ∨ tg = 1002) ∧ ¬ n < 0 ∧ ¬ k < 0 ∧ n.toNatClampNeg ≤ 100 ∧ k.toNatClampNeg ≤ 100 then some (pc + 4, lv, .ref h.length :: r, h ++ mmMulti tg h.length n.toNatClampNeg k.toNatClampNeg) else none
    | _, _ => none
  | _ => none
/-- System.arraycopy over int arrays -/
def mmCpy (xs ys : List Value) (sp dp n : Nat) : List Value := ys.take dp ++ ((xs.drop sp).take n ++ ys.drop (dp + n))
def mmIsI : Value → Bool
  | .int _ => true
  | _ => false
def mmCopy (st : List Value) (h : List mmC) : Option (List Value × List mmC) :=
  match st with
  | .int n :: .int dp :: .ref b :: .int sp :: .ref a :: r => match h[a]?, h[b]? with
    | some ca, some cb => if ca.1 = 1000 ∧ cb.1 = 1000 ∧ ¬ sp < 0 ∧ ¬ dp < 0 ∧ ¬ n < 0 ∧ sp.toNatClampNeg + n.toNatClampNeg ≤ ca.2.length ∧ dp.toNatClampNeg + n.toNatClampNeg ≤ cb.2.length ∧ ca.2.all mmIsI = true ∧ mmWords r ≤ 8 ∧ mmRo ≤ b then
        some (r, h.set b (1000, mmCpy ca.2 cb.2 sp.toNatClampNeg dp.toNatClampNeg n.toNatClampNeg)) else none
    | _, _ => none
  | _ => none
/-- the arguments of a call, and what stays on the stack: 'kd y k ci ..': 0 a method of the object's class, 1 the same of a nest mate, 2 a static one, 3 a nest mate's, 4 a constructor, 5 a nest mate's; the method's number; how many arguments, the object with them; the object's class -/
def mmCall (PT : List mmM) (ax : List Nat) (st : List Value) (h : List mmC) : Option (mmM × List Value × List Value) :=
  match ax with
  | kd :: y :: k :: ci :: _ => match PT[y]? with
    | none => none
    | some M =>
      if (st.take k).length = k ∧ mmWords (st.drop k) ≤ 8 ∧ (mmSlots (st.take k).reverse).length ≤ M.2.2.1 then
        if kd = 2 ∨ kd = 3 then some (M, (st.take k).reverse, st.drop k)
        else match (st.take k).reverse with
          | .ref a :: _ => match h[a]? with
            | some c => if c.1 = ci ∧ ci < 1000 then some (M, (st.take k).reverse, st.drop k) else none
            | none => none
          | _ => none
      else none
  | _ => none
def mmIf : ClassFile.Cond → Int32 → Bool
  | .eq, x => decide (x = 0)
  | .ne, x => decide (¬ x = 0)
  | .lt, x => decide (x < 0)
  | .ge, x => decide (0 ≤ x)
  | .gt, x => decide (0 < x)
  | .le, x => decide (x ≤ 0)
def mmIc : ClassFile.Cond → Int32 → Int32 → Bool
  | .eq, x, y => decide (x = y)
  | .ne, x, y => decide (¬ x = y)
  | .lt, x, y => decide (x < y)
  | .ge, x, y => decide (y ≤ x)
  | .gt, x, y => decide (y < x)
  | .le, x, y => decide (x ≤ y)
/-- the machine: at most n steps of the method with the table t from pc on; what it answers, and the cells behind it -/
def mx (PT : List mmM) : Nat → List mmI → Nat → List (Option Value) → List Value → List mmC → Option (Option Value × List mmC)
  | 0, _, _, _, _, _ => none
  | n + 1, t, pc, lv, st, h =>
    match mmFetch t pc with
    | none => none
    | some (ins, _, ax) =>
      match ins with
      | .ifCond cd _ => match st, ax with
        | .int x :: r, tg :: _ => if mmIf cd x = true then mx PT n t tg lv r h else mx PT n t (pc + 3) lv r h
        | _, _ => none
      | .if_icmp cd _ => match st, ax with
        | .int y :: .int x :: r, tg :: _ => if mmIc cd x y = true then mx PT n t tg lv r h else mx PT n t (pc + 3) lv r h
        | _, _ => none
      | .goto _ => match ax with
        | tg :: _ => mx PT n t tg lv st h
        | _ => none
      | .tableswitch _ lo hi _ => match st, ax with
        | .int x :: r, df :: tgs => if x.toInt < lo ∨ hi < x.toInt then mx PT n t df lv r h else match tgs[(x.toInt - lo).toNat]? with
          | some tg => mx PT n t tg lv r h
          | none => none
        | _, _ => none
      | .ireturn => match st, ax with
        | [.int x], [] => some (some (.int x), h)
        | [.int x], [_] => if x = 0 ∨ x = 1 then some (some (.int x), h) else none
        | _, _ => none
      | .lreturn => match st with
        | [.long x] => some (some (.long x), h)
        | _ => none
      | .return_ => match st with
        | [] => some (none, h)
        | _ => none
      | .invokevirtual _ => match mmCall PT ax st h with
        | none => none
        | some (M, as, r) => match mx PT n M.2.2.2.2.2.2 0 (mmEntry M.2.2.1 as) [] h with
          | none => none
          | some (v, h') => mx PT n t (pc + 3) lv (v.toList ++ r) h'
      | .invokestatic _ => match ax with
        | [8, _, _] => match mmCopy st h with
          | some (r, h') => mx PT n t (pc + 3) lv r h'
          | none => none
        | _ => match mmCall PT ax st h with
          | none => none
          | some (M, as, r) => match mx PT n M.2.2.2.2.2.2 0 (mmEntry M.2.2.1 as) [] h with
            | none => none
            | some (v, h') => mx PT n t (pc + 3) lv (v.toList ++ r) h'
      | .invokespecial _ => match ax with
        | [9, _, _] => match st with
          | .ref _ :: r => if mmWords r ≤ 8 then mx PT n t (pc + 3) lv r h else none
          | _ => none
        | _ => match mmCall PT ax st h with
          | none => none
          | some (M, as, r) => match mx PT n M.2.2.2.2.2.2 0 (mmEntry M.2.2.1 as) [] h with
            | none => none
            | some (v, h') => mx PT n t (pc + 3) lv (v.toList ++ r) h'
      | _ => match mmS ins ax pc lv st h with
        | some (pc', lv', st', h') => mx PT n t pc' lv' st' h'
        | none => none
