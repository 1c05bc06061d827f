/-! AN ABSTRACT MACHINE: references are numbers of cells in the order of their making (0: the script, 1: the list's empty array), the heap is a list of cells; a run is a function. -/
abbrev XL : Type := List (Option Value)
/-- a cell: not told; an object (its class's number, its fields); an array (its type's number, its elements) -/
abbrev XC : Type := Option ((Nat × List Value) ⊕ (Nat × List Value))
abbrev XH : Type := List XC
/-- a pool entry: a kind, two numbers, a type, a value -/
abbrev XS : Type := Nat × Nat × Nat × FieldType × Value
/-- a method: its class, its name, its bytes, its locals, what it returns, how many arguments, its handlers -/
abbrev XM : Type := String × MethodName × ByteArray × Nat × Option FieldType × Nat × List (Nat × Nat × Nat × Nat)
abbrev XM.own (M : XM) : String := M.1
abbrev XM.y (M : XM) : MethodName := M.2.1
abbrev XM.bytes (M : XM) : ByteArray := M.2.2.1
abbrev XM.maxL (M : XM) : Nat := M.2.2.2.1
abbrev XM.ret (M : XM) : Option FieldType := M.2.2.2.2.1
abbrev XM.nargs (M : XM) : Nat := M.2.2.2.2.2.1
abbrev XM.hh (M : XM) : List (Nat × Nat × Nat × Nat) := M.2.2.2.2.2.2
/-- a program: its code by method and place, its pool entries by method and index, its methods -/
abbrev XP : Type := (Nat → Nat → Option Instr) × (Nat → Nat → Option XS) × (Nat → Option XM) × (Nat → Option (List Value))
abbrev XP.code (P : XP) : Nat → Nat → Option Instr := P.1
abbrev XP.site (P : XP) : Nat → Nat → Option XS := P.2.1
abbrev XP.meth (P : XP) : Nat → Option XM := P.2.2.1
/-- the fields of a new object, by its class's number -/
abbrev XP.news (P : XP) : Nat → Option (List Value) := P.2.2.2
/-- what a step comes to: a next place; a return; a call (method, arguments, what stays on the stack); a throw (a class's number) -/
abbrev XR : Type := (Nat × XL × List Value × XH) ⊕ (Option Value) ⊕ (Nat × List Value × List Value) ⊕ Nat
abbrev XO : Type := Option Value ⊕ Nat
def xnx (pc : Nat) (ls : XL) (st : List Value) (h : XH) : Option XR := some (.inl (pc, ls, st, h))
def xjmp (pc : Nat) (off : Int) (ls : XL) (st : List Value) (h : XH) : Option XR := match (pc : Int) + off with
  | .ofNat t => xnx t ls st h
  | .negSucc _ => none
def xget (ls : XL) (i : Nat) : Option Value := match ls[i]? with
  | some (some v) => some v
  | _ => none
def xclr (ls : XL) (i : Nat) : XL := match i with
  | 0 => ls
  | j + 1 => match ls[j]? with
    | some (some (.long _)) => ls.set j none
    | some (some (.double _)) => ls.set j none
    | _ => ls
def xput1 (ls : XL) (i : Nat) (v : Value) : XL := (xclr ls i).set i (some v)
def xput2 (ls : XL) (i : Nat) (v : Value) : XL := ((xclr ls i).set i (some v)).set (i + 1) none
def x1i (st : List Value) (f : Int32 → List Value → Option XR) : Option XR := match st with
  | .int x :: r => f x r
  | _ => none
def x2i (st : List Value) (f : Int32 → Int32 → List Value → Option XR) : Option XR := match st with
  | .int y :: .int x :: r => f x y r
  | _ => none
def x1l (st : List Value) (f : Int64 → List Value → Option XR) : Option XR := match st with
  | .long x :: r => f x r
  | _ => none
def x2l (st : List Value) (f : Int64 → Int64 → List Value → Option XR) : Option XR := match st with
  | .long y :: .long x :: r => f x y r
  | _ => none
def xli (st : List Value) (f : Int64 → Int32 → List Value → Option XR) : Option XR := match st with
  | .int y :: .long x :: r => f x y r
  | _ => none
def x1d (st : List Value) (f : UInt64 → List Value → Option XR) : Option XR := match st with
  | .double x :: r => f x r
  | _ => none
def x2d (st : List Value) (f : UInt64 → UInt64 → List Value → Option XR) : Option XR := match st with
  | .double y :: .double x :: r => f x y r
  | _ => none
def x1f (st : List Value) (f : UInt32 → List Value → Option XR) : Option XR := match st with
  | .float x :: r => f x r
  | _ => none
def x2f (st : List Value) (f : UInt32 → UInt32 → List Value → Option XR) : Option XR := match st with
  | .float y :: .float x :: r => f x y r
  | _ => none
/-- a reference or null: which cell -/
def xrf (v : Value) : Option (Option Nat) := match v with
  | .null => some none
  | .ref k => some (some k)
  | _ => none
def x1a (st : List Value) (f : Option Nat → List Value → Option XR) : Option XR := match st with
  | .null :: r => f none r
  | .ref k :: r => f (some k) r
  | _ => none
/-- a load: of a kind of value -/
def xldi (ls : XL) (i : Nat) (pc : Nat) (st : List Value) (h : XH) : Option XR := match xget ls i with
  | some (.int x) => xnx pc ls (.int x :: st) h
  | _ => none
def xldl (ls : XL) (i : Nat) (pc : Nat) (st : List Value) (h : XH) : Option XR := match xget ls i with
  | some (.long x) => xnx pc ls (.long x :: st) h
  | _ => none
def xldd (ls : XL) (i : Nat) (pc : Nat) (st : List Value) (h : XH) : Option XR := match xget ls i with
  | some (.double x) => xnx pc ls (.double x :: st) h
  | _ => none
def xlda (ls : XL) (i : Nat) (pc : Nat) (st : List Value) (h : XH) : Option XR := match xget ls i with
  | some (.ref x) => xnx pc ls (.ref x :: st) h
  | some .null => xnx pc ls (.null :: st) h
  | _ => none
def xsti (ls : XL) (i : Nat) (pc : Nat) (st : List Value) (h : XH) : Option XR := x1i st fun x r => if i < ls.length then xnx pc (xput1 ls i (.int x)) r h else none
def xsta (ls : XL) (i : Nat) (pc : Nat) (st : List Value) (h : XH) : Option XR := x1a st fun x r => if i < ls.length then xnx pc (xput1 ls i (va_rf x)) r h else none
def xstl (ls : XL) (i : Nat) (pc : Nat) (st : List Value) (h : XH) : Option XR := x1l st fun x r => if i + 1 < ls.length then xnx pc (xput2 ls i (.long x)) r h else none
def xstd (ls : XL) (i : Nat) (pc : Nat) (st : List Value) (h : XH) : Option XR := x1d st fun x r => if i + 1 < ls.length then xnx pc (xput2 ls i (.double x)) r h else none
/-- a value that a variable of a type takes as it is -/
def xok : FieldType → Value → Bool
  | .boolean, .int v => v == 0 || v == 1
  | .int, .int _ => true
  | .long, .long _ => true
  | .object _, .null => true
  | .object _, .ref _ => true
  | .array _, .null => true
  | .array _, .ref _ => true
  | _, _ => false
/-- what a return of a type may leave -/
def xokr : Option FieldType → Option Value → Bool
  | none, none => true
  | some .float, some (.float _) => true
  | some .double, some (.double _) => true
  | some .int, some (.int _) => true
  | some ty, some v => xok ty v
  | _, _ => false
def xin (i : Int32) (n : Nat) : Bool := !(decide (i < 0)) && Nat.blt i.toNatClampNeg n
def xcell (h : XH) (k : Nat) : XC := h[k]?.getD none
def xload (sc : Nat × (Nat → Int32)) (h : XH) (a : Nat) (i : Int32) : Option Value := match a with
  | 0 => if xin i sc.1 then some (.int (sc.2 i.toNatClampNeg)) else none
  | k => match xcell h k with
    | some (.inr (_, vs)) => if xin i vs.length then vs[i.toNatClampNeg]? else none
    | _ => none
/-- the type of an array; 0 for the script -/
def xkind (h : XH) (a : Nat) : Nat := match xcell h a with
  | some (.inr (t, _)) => t
  | _ => 0
def xaload (sc : Nat × (Nat → Int32)) (pc : Nat) (ls : XL) (st : List Value) (h : XH) (ok : Nat → Value → Bool) : Option XR := match st with
  | .int i :: .ref a :: r => match xload sc h a i with
    | some v => if ok (xkind h a) v then xnx (pc + 1) ls (v :: r) h else none
    | none => none
  | _ => none
/-- the types of arrays, by their numbers -/
abbrev xty : List FieldType := [.int, .long, .boolean, .object "Kitwarden$Atom", .object "Kitwarden$Span", .object "java/lang/Object", .object "KitwardenModel$Need", .array .int]
def xastore (h : XH) (a : Nat) (i : Int32) (v : Value) (t0 : Nat) : Option XH := match xcell h a with
  | some (.inr (t, vs)) => if t = t0 ∧ xin i vs.length = true then some (h.set a (some (.inr (t, vs.set i.toNatClampNeg v)))) else none
  | _ => none
/-- may an array of the type t hold this cell? -/
def xhold (h : XH) (t : Nat) (v : Nat) : Bool := match xcell h v with
  | some (.inl (c, _)) => (t == 3 && c == 1) || (t == 4 && c == 11) || (t == 5 && c == 12) || (t == 6 && c == 14)
  | some (.inr (t2, _)) => t == 7 && t2 == 0
  | _ => false
def xnewarr (pc len : Nat) (t : Nat) (v0 : Value) (ls : XL) (st : List Value) (h : XH) : Option XR := match st with
  | .int n :: r => if n < 0 then none else if Nat.blt n.toNatClampNeg 67108864 then xnx (pc + len) ls (.ref h.length :: r) (h ++ [some (.inr (t, List.replicate n.toNatClampNeg v0))]) else none
  | _ => none
def xdefault : FieldType → Value
  | .byte | .char | .short | .boolean | .int => .int 0
  | .long => .long 0
  | .float => .float 0
  | .double => .double 0
  | .object _ | .array _ => .null
def xsplit (n : Nat) (st : List Value) : Option (List Value × List Value) := if n ≤ st.length then some ((st.take n).reverse, st.drop n) else none
def xsum (st : List Value) : Nat := (st.map fun v => v.category).sum
def xbr (b : Bool) (pc : Nat) (off : Int) (ls : XL) (r : List Value) (h : XH) : Option XR := match (pc : Int) + off with
  | .ofNat t => bif b then xnx t ls r h else xnx (pc + 3) ls r h
  | .negSucc _ => none
/-- two references: cells are told apart by their numbers; cell 0 is compared with nothing -/
def xacmp (w : Bool) (pc : Nat) (off : Int) (ls : XL) (st : List Value) (h : XH) : Option XR := x1a st fun y r => x1a r fun x r2 => if x = some 0 ∨ y = some 0 then none else match x.all (fun k => Nat.blt k h.length) && y.all (fun k => Nat.blt k h.length) with
  | true => xbr (decide (x = y) == w) pc off ls r2 h
  | false => none
/-- the call of a pool entry; the receiver's class is the one that the entry tells -/
def xcall (P : XP) (S : XS) (st : List Value) (h : XH) : Option XR := match P.meth S.2.1 with
  | none => none
  | some M => match xsplit M.nargs st with
    | none => none
    | some (av, r) => if 14 < xsum r then none else match S.2.2.1 with
      | 0 => some (.inr (.inr (.inl (S.2.1, av, r))))
      | 1 => match av with
        | .ref _ :: _ => some (.inr (.inr (.inl (S.2.1, av, r))))
        | _ => none
      | c + 2 => match av with
        | .ref k :: _ => match xcell h k with
          | some (.inl (c2, _)) => if c2 = c then some (.inr (.inr (.inl (S.2.1, av, r)))) else none
          | _ => none
        | _ => none
def xet : Nat → FieldType
  | 0 => .int
  | _ => .long
/-- may a row of the type t take this element by a copy? -/
def xcok (h : XH) (t : Nat) (v : Value) : Bool := match t with
  | 0 => xok .int v
  | 1 => xok .long v
  | 6 => match v with
    | .null => true
    | .ref k => xhold h 6 k
    | _ => false
  | _ => false
def xcopy (h : XH) (st : List Value) : Option (List Value × XH) := match st with
  | .int n :: .int dp :: .ref b :: .int sp :: .ref a :: r => match xcell h a, xcell h b with
    | some (.inr (t, vs)), some (.inr (t2, ws)) =>
      if t = t2 ∧ (t < 2 ∨ t = 6) ∧ ¬ a = b ∧ ¬ sp < 0 ∧ ¬ dp < 0 ∧ ¬ n < 0 ∧ sp.toNatClampNeg + n.toNatClampNeg ≤ vs.length ∧ dp.toNatClampNeg + n.toNatClampNeg ≤ ws.length ∧ xsum r ≤ 8 ∧ ((vs.drop sp.toNatClampNeg).take n.toNatClampNeg).all (xcok h t) = true then
        some (r, h.set b (some (.inr (t, ws.take dp.toNatClampNeg ++ (vs.drop sp.toNatClampNeg).take n.toNatClampNeg ++ ws.drop (dp.toNatClampNeg + n.toNatClampNeg)))))
      else none
    | _, _ => none
  | _ => none
def xn32 (r : UInt32) : Bool := decide (r &&& 0x7fffffff ≤ 0x7f800000)
def xn64 (r : UInt64) : Bool := decide (r &&& 0x7fffffffffffffff ≤ 0x7ff0000000000000)
/-- behind a 'new' at pc: dup; a text; the constructor ic; athrow -/
def xistext (P : XP) (mi k : Nat) : Bool := match P.site mi k with
  | some (6, _) => true
  | _ => false
def xisspec (P : XP) (mi pc ic : Nat) : Bool := match P.code mi pc with
  | some (.invokespecial j) => j == ic
  | _ => false
def xisthrow (P : XP) (mi pc : Nat) : Bool := match P.code mi pc with
  | some .athrow => true
  | _ => false
def xisdup (P : XP) (mi pc : Nat) : Bool := match P.code mi pc with
  | some .dup => true
  | _ => false
def xthr (P : XP) (mi pc ic : Nat) : Bool := xisdup P mi (pc + 3) && (match P.code mi (pc + 4) with
  | some (.ldc k) => xistext P mi k && xisspec P mi (pc + 6) ic && xisthrow P mi (pc + 9)
  | some (.ldc_w k) => xistext P mi k && xisspec P mi (pc + 7) ic && xisthrow P mi (pc + 10)
  | _ => false)
def xstep (P : XP) (sc : Nat × (Nat → Int32)) (mi pc : Nat) (i : Instr) (ls : XL) (st : List Value) (h : XH) : Option XR := match i with
  | .aconst_null => xnx (pc + 1) ls (.null :: st) h
  | .iconst k => xnx (pc + 1) ls (.int (Int32.ofInt k) :: st) h
  | .bipush k => xnx (pc + 2) ls (.int (Int8.ofInt k).toInt32 :: st) h
  | .sipush k => xnx (pc + 3) ls (.int (Int16.ofInt k).toInt32 :: st) h
  | .lconst k => xnx (pc + 1) ls (.long (Int64.ofNat (k : Nat)) :: st) h
  | .fconst k => if k = 0 then xnx (pc + 1) ls (.float FP.fconst0 :: st) h else none
  | .dconst k => if k = 0 then xnx (pc + 1) ls (.double FP.dconst0 :: st) h else none
  | .ldc k => match P.site mi k with
    | some (4, _, _, _, .int v) => xnx (pc + 2) ls (.int v :: st) h
    | _ => none
  | .ldc_w k => match P.site mi k with
    | some (4, _, _, _, .int v) => xnx (pc + 3) ls (.int v :: st) h
    | _ => none
  | .ldc2_w k => match P.site mi k with
    | some (4, _, _, _, .long v) => xnx (pc + 3) ls (.long v :: st) h
    | _ => none
  | .iload k => xldi ls k (pc + 2) st h
  | .iload_n k => xldi ls k (pc + 1) st h
  | .lload k => xldl ls k (pc + 2) st h
  | .lload_n k => xldl ls k (pc + 1) st h
  | .aload k => xlda ls k (pc + 2) st h
  | .aload_n k => xlda ls k (pc + 1) st h
  | .dload k => xldd ls k (pc + 2) st h
  | .dload_n k => xldd ls k (pc + 1) st h
  | .istore k => xsti ls k (pc + 2) st h
  | .istore_n k => xsti ls k (pc + 1) st h
  | .lstore k => xstl ls k (pc + 2) st h
  | .lstore_n k => xstl ls k (pc + 1) st h
  | .astore k => xsta ls k (pc + 2) st h
  | .astore_n k => xsta ls k (pc + 1) st h
  | .dstore k => xstd ls k (pc + 2) st h
  | .dstore_n k => xstd ls k (pc + 1) st h
  | .iinc k n => match xget ls k with
    | some (.int x) => if k < ls.length then xnx (pc + 3) (xput1 ls k (.int (x + Int32.ofInt n))) st h else none
    | _ => none
  | .dup => match st with
    | v :: r => if v.category = 1 then xnx (pc + 1) ls (v :: v :: r) h else none
    | _ => none
  | .dup_x1 => match st with
    | v :: w :: r => if v.category = 1 ∧ w.category = 1 then xnx (pc + 1) ls (v :: w :: v :: r) h else none
    | _ => none
  | .dup2 => match st with
    | v :: w :: r => if v.category = 1 ∧ w.category = 1 then xnx (pc + 1) ls (v :: w :: v :: w :: r) h else none
    | _ => none
  | .pop => match st with
    | v :: r => if v.category = 1 then xnx (pc + 1) ls r h else none
    | _ => none
  | .iadd => x2i st fun x y r => xnx (pc + 1) ls (.int (x + y) :: r) h
  | .isub => x2i st fun x y r => xnx (pc + 1) ls (.int (x - y) :: r) h
  | .imul => x2i st fun x y r => xnx (pc + 1) ls (.int (x * y) :: r) h
  | .iand => x2i st fun x y r => xnx (pc + 1) ls (.int (x &&& y) :: r) h
  | .ior => x2i st fun x y r => xnx (pc + 1) ls (.int (x ||| y) :: r) h
  | .ixor => x2i st fun x y r => xnx (pc + 1) ls (.int (x ^^^ y) :: r) h
  | .ishl => x2i st fun x y r => xnx (pc + 1) ls (.int (x <<< (y &&& 31)) :: r) h
  | .ishr => x2i st fun x y r => xnx (pc + 1) ls (.int (x >>> (y &&& 31)) :: r) h
  | .iushr => x2i st fun x y r => xnx (pc + 1) ls (.int (x.toUInt32 >>> (y.toUInt32 &&& Int32.toUInt32 31)).toInt32 :: r) h
  | .idiv => x2i st fun x y r => if y = 0 then none else xnx (pc + 1) ls (.int (x / y) :: r) h
  | .irem => x2i st fun x y r => if y = 0 then none else xnx (pc + 1) ls (.int (x - x / y * y) :: r) h
  | .ineg => x1i st fun x r => xnx (pc + 1) ls (.int (-x) :: r) h
  | .ladd => x2l st fun x y r => xnx (pc + 1) ls (.long (x + y) :: r) h
  | .lsub => x2l st fun x y r => xnx (pc + 1) ls (.long (x - y) :: r) h
  | .land => x2l st fun x y r => xnx (pc + 1) ls (.long (x &&& y) :: r) h
  | .lor => x2l st fun x y r => xnx (pc + 1) ls (.long (x ||| y) :: r) h
  | .lxor => x2l st fun x y r => xnx (pc + 1) ls (.long (x ^^^ y) :: r) h
  | .lneg => x1l st fun x r => xnx (pc + 1) ls (.long (-x) :: r) h
  | .lshl => xli st fun x y r => xnx (pc + 1) ls (.long (x <<< (y.toInt64 &&& 63)) :: r) h
  | .lshr => xli st fun x y r => xnx (pc + 1) ls (.long (x >>> (y.toInt64 &&& 63)) :: r) h
  | .lushr => xli st fun x y r => xnx (pc + 1) ls (.long (x.toUInt64 >>> (y.toInt64.toUInt64 &&& Int64.toUInt64 63)).toInt64 :: r) h
  | .lcmp => x2l st fun x y r => xnx (pc + 1) ls (.int (lg_cmp x y) :: r) h
  | .i2l => x1i st fun x r => xnx (pc + 1) ls (.long x.toInt64 :: r) h
  | .l2i => x1l st fun x r => xnx (pc + 1) ls (.int x.toInt32 :: r) h
  | .i2f => x1i st fun x r => xnx (pc + 1) ls (.float (FP.i2f x) :: r) h
  | .i2d => x1i st fun x r => xnx (pc + 1) ls (.double (FP.i2d x) :: r) h
  | .f2d => x1f st fun x r => if xn64 (FP.f2d x) then xnx (pc + 1) ls (.double (FP.f2d x) :: r) h else none
  | .fdiv => x2f st fun x y r => if xn32 (FP.fdiv x y) then xnx (pc + 1) ls (.float (FP.fdiv x y) :: r) h else none
  | .ddiv => x2d st fun x y r => if xn64 (FP.ddiv x y) then xnx (pc + 1) ls (.double (FP.ddiv x y) :: r) h else none
  | .dcmp op => x2d st fun x y r => xnx (pc + 1) ls (.int (Op.cmpValue (FP.dcmp x y) op) :: r) h
  | .ifCond .eq o => x1i st fun x r => xbr (decide (x = 0)) pc o ls r h
  | .ifCond .ne o => x1i st fun x r => xbr (decide (¬ x = 0)) pc o ls r h
  | .ifCond .lt o => x1i st fun x r => xbr (decide (x < 0)) pc o ls r h
  | .ifCond .ge o => x1i st fun x r => xbr (decide (0 ≤ x)) pc o ls r h
  | .ifCond .gt o => x1i st fun x r => xbr (decide (0 < x)) pc o ls r h
  | .ifCond .le o => x1i st fun x r => xbr (decide (x ≤ 0)) pc o ls r h
  | .if_icmp .eq o => x2i st fun x y r => xbr (decide (x = y)) pc o ls r h
  | .if_icmp .ne o => x2i st fun x y r => xbr (decide (¬ x = y)) pc o ls r h
  | .if_icmp .lt o => x2i st fun x y r => xbr (decide (x < y)) pc o ls r h
  | .if_icmp .ge o => x2i st fun x y r => xbr (decide (y ≤ x)) pc o ls r h
  | .if_icmp .gt o => x2i st fun x y r => xbr (decide (y < x)) pc o ls r h
  | .if_icmp .le o => x2i st fun x y r => xbr (decide (x ≤ y)) pc o ls r h
  | .ifnull o => x1a st fun x r => xbr x.isNone pc o ls r h
  | .ifnonnull o => x1a st fun x r => xbr x.isSome pc o ls r h
  | .if_acmp .eq o => xacmp true pc o ls st h
  | .if_acmp .ne o => xacmp false pc o ls st h
  | .goto o => xjmp pc o ls st h
  | .tableswitch d lo hi offs => x1i st fun x r => if x.toInt < lo ∨ hi < x.toInt then xjmp pc d ls r h else match offs[(x.toInt - lo).toNat]? with
    | some o => xjmp pc o ls r h
    | none => none
  | .lookupswitch d ps => x1i st fun x r => if (ps.toList.zip (ps.toList.drop 1)).all (fun (a, next) => a.1 < next.1) = true then xjmp pc (Op.lookupswitch.offset ps.toList d x.toInt) ls r h else none
  | .getfield k => match P.site mi k, st with
    | some (0, ci, f, _, _), .ref a :: r => match xcell h a with
      | some (.inl (c, vs)) => if c = ci then match vs[f]? with
        | some v => xnx (pc + 3) ls (v :: r) h
        | none => none
        else none
      | _ => none
    | _, _ => none
  | .putfield k => match P.site mi k, st with
    | some (0, ci, f, ty, .ref _), v :: .ref a :: r => match xcell h a with
      | some (.inl (c, vs)) => if c = ci ∧ f < vs.length ∧ xok ty v = true then xnx (pc + 3) ls r (h.set a (some (.inl (c, vs.set f v)))) else none
      | _ => none
    | _, _ => none
  | .getstatic k => match P.site mi k with
    | some (8, _, _, _, _) => xnx (pc + 3) ls (.ref 1 :: st) h
    | _ => none
  | .iaload => xaload sc pc ls st h fun t _ => t == 0
  | .laload => xaload sc pc ls st h fun t _ => t == 1
  | .baload => xaload sc pc ls st h fun t _ => t == 2
  | .aaload => xaload sc pc ls st h fun t _ => Nat.blt 2 t
  | .iastore => match st with
    | .int x :: .int i :: .ref a :: r => (xastore h a i (.int x) 0).bind fun h1 => xnx (pc + 1) ls r h1
    | _ => none
  | .lastore => match st with
    | .long x :: .int i :: .ref a :: r => (xastore h a i (.long x) 1).bind fun h1 => xnx (pc + 1) ls r h1
    | _ => none
  | .bastore => match st with
    | .int x :: .int i :: .ref a :: r => (xastore h a i (.int (x &&& 1)) 2).bind fun h1 => xnx (pc + 1) ls r h1
    | _ => none
  | .aastore => match st with
    | .null :: .int i :: .ref a :: r => match xcell h a with
      | some (.inr (t, _)) => if Nat.blt 2 t && Nat.blt t 7 then (xastore h a i .null t).bind fun h1 => xnx (pc + 1) ls r h1 else none
      | _ => none
    | .ref v :: .int i :: .ref a :: r => match xcell h a with
      | some (.inr (t, _)) => if xhold h t v then (xastore h a i (.ref v) t).bind fun h1 => xnx (pc + 1) ls r h1 else none
      | _ => none
    | _ => none
  | .arraylength => match st with
    | .ref 0 :: r => xnx (pc + 1) ls (.int (Int32.ofNat sc.1) :: r) h
    | .ref 1 :: r => xnx (pc + 1) ls (.int 0 :: r) h
    | .ref a :: r => match xcell h a with
      | some (.inr (_, vs)) => xnx (pc + 1) ls (.int (Int32.ofNat vs.length) :: r) h
      | _ => none
    | _ => none
  | .newarray .int => xnewarr pc 2 0 (.int 0) ls st h
  | .newarray .long => xnewarr pc 2 1 (.long 0) ls st h
  | .newarray .boolean => xnewarr pc 2 2 (.int 0) ls st h
  | .anewarray k => match P.site mi (k + 100000) with
    | some (3, t, _, _, _) => xnewarr pc 3 t .null ls st h
    | _ => none
  | .new k => match P.site mi k with
    | some (2, ci, _, _, _) => match P.news ci with
      | some fs => xnx (pc + 3) ls (.ref h.length :: st) (h ++ [some (.inl (ci, fs))])
      | none => none
    | some (5, x, ic, _, _) => match P.meth mi with
      | some M => if M.hh.isEmpty = true ∧ xsum st ≤ 8 ∧ xthr P mi pc ic = true then some (.inr (.inr (.inr x))) else none
      | none => none
    | _ => none
  | .checkcast k => match P.site mi (k + 200000), st with
    | some (9, c, _, _, _), .ref a :: r => match xcell h a with
      | some (.inl (c2, _)) => if c2 = c then xnx (pc + 3) ls (.ref a :: r) h else none
      | _ => none
    | _, _ => none
  | .invokevirtual k => match P.site mi k with
    | some (1, j, c + 2, ty, v) => xcall P (1, j, c + 2, ty, v) st h
    | _ => none
  | .invokespecial k => match P.site mi k, st with
    | some (7, _, _, _, _), .ref _ :: r => if xsum r ≤ 8 then xnx (pc + 3) ls r h else none
    | some (1, j, 1, ty, v), _ => xcall P (1, j, 1, ty, v) st h
    | _, _ => none
  | .invokestatic k => match P.site mi k with
    | some (1, j, 0, ty, v) => xcall P (1, j, 0, ty, v) st h
    | some (10, _, _, _, _) => match xcopy h st with
      | some (r, h1) => xnx (pc + 3) ls r h1
      | none => none
    | _ => none
  | .return_ => match st with
    | [] => some (.inr (.inl none))
    | _ => none
  | .ireturn => match st with
    | [.int x] => some (.inr (.inl (some (.int x))))
    | _ => none
  | .lreturn => match st with
    | [.long x] => some (.inr (.inl (some (.long x))))
    | _ => none
  | .freturn => match st with
    | [.float x] => some (.inr (.inl (some (.float x))))
    | _ => none
  | .dreturn => match st with
    | [.double x] => some (.inr (.inl (some (.double x))))
    | _ => none
  | .areturn => match st with
    | [.ref x] => some (.inr (.inl (some (.ref x))))
    | [.null] => some (.inr (.inl (some .null)))
    | _ => none
  | _ => none
/-- the locals of a method as it is entered -/
def xargs : List Value → XL
  | [] => []
  | .long x :: r => some (.long x) :: none :: xargs r
  | .double x :: r => some (.double x) :: none :: xargs r
  | v :: r => some v :: xargs r
def xentry (n : Nat) (av : List Value) : Option XL := if (xargs av).length ≤ n then some (xargs av ++ List.replicate (n - (xargs av).length) none) else none
/-- a handler that takes a throw of the class x at pc: the catches in their order, each with the class that it takes; such a handler stores what it caught, and returns a number -/
def xhand (P : XP) (mi : Nat) (M : XM) (ls : XL) (pc x : Nat) : Option Int32 := match M.hh.find? (fun q => (decide (q.1 ≤ pc) && decide (pc < q.2.1)) && (match P.site mi (q.2.2.2 + 300000) with
    | some (11, x2, _, _, _) => x2 == x
    | _ => true)) with
  | some q => match P.site mi (q.2.2.2 + 300000), P.code mi q.2.2.1, P.code mi (q.2.2.1 + 1), P.code mi (q.2.2.1 + 2), P.code mi (q.2.2.1 + 3) with
    | some (11, x2, _, _, _), some (.astore_n j), some (.iconst k), some .ireturn, _ => if x2 = x ∧ (j : Nat) < ls.length then some (Int32.ofInt k) else none
    | some (11, x2, _, _, _), some (.astore j), _, some (.iconst k), some .ireturn => if x2 = x ∧ j < ls.length then some (Int32.ofInt k) else none
    | _, _, _, _, _ => none
  | none => none
def xrun (P : XP) (sc : Nat × (Nat → Int32)) : Nat → Nat → Nat → Nat → XL → List Value → XH → Option (XO × XH)
  | 0, _, _, _, _, _, _ => none
  | n + 1, d, mi, pc, ls, st, h => match P.code mi pc with
    | none => none
    | some i => match xstep P sc mi pc i ls st h with
      | none => none
      | some (.inl (pc1, ls1, st1, h1)) => xrun P sc n d mi pc1 ls1 st1 h1
      | some (.inr (.inl v)) => match P.meth mi with
        | some M => if xokr M.ret v then some (.inl v, h) else none
        | none => none
      | some (.inr (.inr (.inr x))) => some (.inr x, h ++ [none])
      | some (.inr (.inr (.inl (mj, av, r)))) => match d, P.meth mi, P.meth mj with
        | d + 1, some M, some M2 => match xentry M2.maxL av with
          | none => none
          | some l0 => match xrun P sc n d mj 0 l0 [] h with
            | none => none
            | some (.inl v, h1) => xrun P sc n (d + 1) mi (pc + 3) ls (v.toList ++ r) h1
            | some (.inr x, h1) => match M.hh with
              | [] => some (.inr x, h1)
              | _ :: _ => match xhand P mi M ls pc x with
                | some k => if xokr M.ret (some (.int k)) then some (.inl (some (.int k)), h1) else none
                | none => none
        | _, _, _ => none
