/-! THE PLAIN MACHINE: the same program run over a heap of numbered cells. A cell: kind (0 .. 7 an object of that class, 8 int[], 9 boolean[], 10 Life[]), length, references; ints lie in a function of cell and place. From 1000000 on: what is read alone: 1000000 the script, 1000001, 1000002 the two tables, a float: a static that is only handed on, 1000010 + i a String constant, 1000040 + i its bytes. -/
abbrev JE : Type := Nat × Nat × List (Option Nat)
abbrev JM : Type := Nat → Nat → Int32
abbrev JH : Type := List JE × JM
abbrev JL : Type := List (Nat × Value)
abbrev JC : Type := Nat × JL × List Value × JH
abbrev JK : Type := JC ⊕ (Nat × List Value × JC)
def jget : JL → Nat → Option Value
  | [], _ => none
  | q :: r, i => bif Nat.beq q.1 i then some q.2 else jget r i
def jset (lv : JL) (i : Nat) (v : Value) : JL := (i, v) :: lv.filter (fun q => !(q.1 == i) && !(q.1 + 1 == i && q.2.category == 2))
def jset2 (lv : JL) (i : Nat) (v : Value) : JL := (i, v) :: lv.filter (fun q => !(q.1 == i) && (!(q.1 == i + 1) && !(q.1 + 1 == i && q.2.category == 2)))
def jisI : Value → Bool
  | .int _ => true
  | _ => false
def jisL : Value → Bool
  | .long _ => true
  | _ => false
def jisR : Value → Bool
  | .ref _ => true
  | _ => false
def jin (i : Int32) (n : Nat) : Bool := decide (0 ≤ i) && decide (i.toNatClampNeg < n)
def jok (E : List JE) (o kd : Nat) : Bool := match E[o]? with
  | some e => Nat.beq e.1 kd
  | none => false
def jlen (E : List JE) (a : Nat) : Nat := match E[a]? with
  | some e => e.2.1
  | none => 0
def jptr (E : List JE) (o k : Nat) : Option Nat := match E[o]? with
  | some e => e.2.2.getD k none
  | none => none
def jlr (E : List JE) (o : Nat) : Nat := match E[o]? with
  | some e => e.2.2.length
  | none => 0
def jsetp (E : List JE) (o k : Nat) (v : Option Nat) : List JE := match E[o]? with
  | some e => E.set o (e.1, e.2.1, e.2.2.set k v)
  | none => E
def jup (M : JM) (o k : Nat) (v : Int32) : JM := fun o' k' => bif Nat.beq o' o && Nat.beq k' k then v else M o' k'
def jzr (M : JM) (o : Nat) : JM := fun o' k' => bif Nat.beq o' o then 0 else M o' k'
def jfv (E : List JE) (M : JM) (o ci k : Nat) : Value := bif jRf ci k then va_rf (jptr E o k) else .int (M o k)
def jStr : List (List Int32) := [[99, 111, 109, 101, 116], [99, 108, 111, 117, 100], [115, 112, 97, 114, 107], [101, 99, 108, 105, 112, 115, 101], [99, 104, 105, 108, 100], [115, 101, 101, 114], [119, 105, 100, 111, 119], [111, 102], [116, 111], [103, 111, 108, 100], [108, 97, 119], [108, 97, 110, 100], [100, 97, 114, 107]]
/-- the int arrays that are read alone -/
def jro (xs : Option (List Int32)) (a : Nat) : Option (List Int32) := bif Nat.beq a 1000000 then xs else bif Nat.beq a 1000001 then some [-1, 0, 0, 1] else bif Nat.beq a 1000002 then some [-1, 0, 1, 0, 1] else none
def jrb (a : Nat) : Option (List Int32) := bif Nat.ble 1000040 a && Nat.ble a 1000052 then some (jStr.getD (a - 1000040) []) else none
def jisS (a : Nat) : Bool := Nat.ble 1000010 a && Nat.ble a 1000022
/-- the statics -/
def jS (oc idx : Nat) : Option Nat := bif Nat.beq oc 6 then (bif Nat.beq idx 144 then some 0 else bif Nat.beq idx 155 then some 1 else none) else bif Nat.beq oc 10 then (bif Nat.beq idx 38 then some 2 else bif Nat.beq idx 1053 then some 3 else none) else none
def jSv (k : Nat) : Value := match k with
  | 0 => .ref 1000001
  | 1 => .ref 1000002
  | 2 => .int 1
  | _ => .float 0
/-- a String's fields -/
def jSF (oc idx : Nat) : Option Nat := bif Nat.beq oc 10 then (bif Nat.beq idx 9 then some 0 else bif Nat.beq idx 15 then some 1 else none) else none
def jw (l : List Value) : Nat := (l.map Value.category).sum
def jcb (cd : ClassFile.Cond) (x y : Int32) : Bool := match cd with
  | .eq => decide (x = y)
  | .ne => !(decide (x = y))
  | .lt => decide (x < y)
  | .ge => decide (y ≤ x)
  | .gt => decide (y < x)
  | .le => decide (x ≤ y)
def jn (len : Nat) (c : JC) (o : Option (List Value)) : Option JC := match o with
  | none => none
  | some st => some (c.1 + len, c.2.1, st, c.2.2.2)
def jto (c : JC) (off : Int) (st : List Value) : Option JC := match (c.1 : Int) + off with
  | .ofNat t => some (t, c.2.1, st, c.2.2.2)
  | .negSucc _ => none
def jb2 (f : Int32 → Int32 → Int32) : List Value → Option (List Value)
  | .int y :: .int x :: r => some (.int (f x y) :: r)
  | _ => none
def jb2d (f : Int32 → Int32 → Int32) : List Value → Option (List Value)
  | .int y :: .int x :: r => bif decide (y = 0) then none else some (.int (f x y) :: r)
  | _ => none
def jl2 (f : Int64 → Int64 → Int64) : List Value → Option (List Value)
  | .long y :: .long x :: r => some (.long (f x y) :: r)
  | _ => none
def jl2d (f : Int64 → Int64 → Int64) : List Value → Option (List Value)
  | .long y :: .long x :: r => bif decide (y = 0) then none else some (.long (f x y) :: r)
  | _ => none
def jld (c : JC) (i len : Nat) (ok : Value → Bool) : Option JC := match jget c.2.1 i with
  | some v => bif ok v then some (c.1 + len, c.2.1, v :: c.2.2.1, c.2.2.2) else none
  | none => none
def jst (mi : Nat) (c : JC) (i len : Nat) (ok : Value → Bool) : Option JC := match c.2.2.1 with
  | v :: r => bif ok v && Nat.ble (i + 1) (jML mi) then some (c.1 + len, jset c.2.1 i v, r, c.2.2.2) else none
  | [] => none
def jst2 (mi : Nat) (c : JC) (i len : Nat) : Option JC := match c.2.2.1 with
  | v :: r => bif jisL v && Nat.ble (i + 2) (jML mi) then some (c.1 + len, jset2 c.2.1 i v, r, c.2.2.2) else none
  | [] => none
def jinc (mi : Nat) (c : JC) (i : Nat) (n : Int) : Option JC := match jget c.2.1 i with
  | some (.int x) => bif Nat.ble (i + 1) (jML mi) then some (c.1 + 3, jset c.2.1 i (.int (x + Int32.ofInt n)), c.2.2.1, c.2.2.2) else none
  | _ => none
def jcat1 (v : Value) : Bool := Nat.beq v.category 1
/-- locals, stack, numbers -/
def jsA (ins : Instr) (mi : Nat) (c : JC) : Option JC := match ins with
  | .iconst n => some (c.1 + 1, c.2.1, .int (Int32.ofInt n) :: c.2.2.1, c.2.2.2)
  | .bipush n => some (c.1 + 2, c.2.1, .int (Int8.ofInt n).toInt32 :: c.2.2.1, c.2.2.2)
  | .sipush n => some (c.1 + 3, c.2.1, .int (Int16.ofInt n).toInt32 :: c.2.2.1, c.2.2.2)
  | .lconst n => some (c.1 + 1, c.2.1, .long (Int64.ofNat (n : Nat)) :: c.2.2.1, c.2.2.2)
  | .aconst_null => some (c.1 + 1, c.2.1, .null :: c.2.2.1, c.2.2.2)
  | .ldc idx => match jKI (jOC mi) idx with
    | some (v, _) => some (c.1 + 2, c.2.1, .int v :: c.2.2.1, c.2.2.2)
    | none => match jKS (jOC mi) idx with
      | some i => some (c.1 + 2, c.2.1, .ref (1000010 + i) :: c.2.2.1, c.2.2.2)
      | none => none
  | .ldc_w idx => match jKI (jOC mi) idx with
    | some (v, _) => some (c.1 + 3, c.2.1, .int v :: c.2.2.1, c.2.2.2)
    | none => none
  | .ldc2_w idx => match jKL (jOC mi) idx with
    | some (v, _) => some (c.1 + 3, c.2.1, .long v :: c.2.2.1, c.2.2.2)
    | none => none
  | .iload_n k => jld c k 1 jisI
  | .iload i => jld c i 2 jisI
  | .lload_n k => jld c k 1 jisL
  | .lload i => jld c i 2 jisL
  | .aload_n k => jld c k 1 jisR
  | .aload i => jld c i 2 jisR
  | .istore_n k => jst mi c k 1 jisI
  | .istore i => jst mi c i 2 jisI
  | .lstore_n k => jst2 mi c k 1
  | .lstore i => jst2 mi c i 2
  | .astore_n k => jst mi c k 1 jisR
  | .astore i => jst mi c i 2 jisR
  | .iinc i n => jinc mi c i n
  | .iadd => jn 1 c (jb2 (fun x y => x + y) c.2.2.1)
  | .isub => jn 1 c (jb2 (fun x y => x - y) c.2.2.1)
  | .imul => jn 1 c (jb2 (fun x y => x * y) c.2.2.1)
  | .iand => jn 1 c (jb2 (fun x y => x &&& y) c.2.2.1)
  | .ior => jn 1 c (jb2 (fun x y => x ||| y) c.2.2.1)
  | .ixor => jn 1 c (jb2 (fun x y => x ^^^ y) c.2.2.1)
  | .ishl => jn 1 c (jb2 (fun x y => x <<< (y &&& 31)) c.2.2.1)
  | .ishr => jn 1 c (jb2 (fun x y => x >>> (y &&& 31)) c.2.2.1)
  | .iushr => jn 1 c (jb2 (fun x y => (x.toUInt32 >>> (y.toUInt32 &&& Int32.toUInt32 31)).toInt32) c.2.2.1)
  | .idiv => jn 1 c (jb2d (fun x y => x / y) c.2.2.1)
  | .irem => jn 1 c (jb2d (fun x y => x - x / y * y) c.2.2.1)
  | .ineg => match c.2.2.1 with
    | .int x :: r => some (c.1 + 1, c.2.1, .int (-x) :: r, c.2.2.2)
    | _ => none
  | .i2l => match c.2.2.1 with
    | .int x :: r => some (c.1 + 1, c.2.1, .long x.toInt64 :: r, c.2.2.2)
    | _ => none
  | .i2c => match c.2.2.1 with
    | .int x :: r => some (c.1 + 1, c.2.1, .int (x.toUInt32 % 65536).toInt32 :: r, c.2.2.2)
    | _ => none
  | .ladd => jn 1 c (jl2 (fun x y => x + y) c.2.2.1)
  | .lmul => jn 1 c (jl2 (fun x y => x * y) c.2.2.1)
  | .ldiv => jn 1 c (jl2d (fun x y => x / y) c.2.2.1)
  | .lrem => jn 1 c (jl2d (fun x y => x - x / y * y) c.2.2.1)
  | .lcmp => match c.2.2.1 with
    | .long y :: .long x :: r => some (c.1 + 1, c.2.1, .int (lg_cmp x y) :: r, c.2.2.2)
    | _ => none
  | .dup => match c.2.2.1 with
    | v :: r => bif jcat1 v then some (c.1 + 1, c.2.1, v :: v :: r, c.2.2.2) else none
    | [] => none
  | .dup2 => match c.2.2.1 with
    | v :: w :: r => bif jcat1 v && jcat1 w then some (c.1 + 1, c.2.1, v :: w :: v :: w :: r, c.2.2.2) else none
    | _ => none
  | .pop => match c.2.2.1 with
    | v :: r => bif jcat1 v then some (c.1 + 1, c.2.1, r, c.2.2.2) else none
    | [] => none
  | .goto off => jto c off c.2.2.1
  | _ => none
/-- branches -/
def jsB (ins : Instr) (c : JC) : Option JC := match ins with
  | .ifCond cd off => match c.2.2.1 with
    | .int x :: r => match jto c off r with
      | some t => some (bif jcb cd x 0 then t else (c.1 + 3, c.2.1, r, c.2.2.2))
      | none => none
    | _ => none
  | .if_icmp cd off => match c.2.2.1 with
    | .int y :: .int x :: r => match jto c off r with
      | some t => some (bif jcb cd x y then t else (c.1 + 3, c.2.1, r, c.2.2.2))
      | none => none
    | _ => none
  | .ifnull off => match c.2.2.1 with
    | .ref _ :: r => some (c.1 + 3, c.2.1, r, c.2.2.2)
    | .null :: r => jto c off r
    | _ => none
  | .tableswitch dflt lo hi offs => match c.2.2.1 with
    | .int x :: r => bif decide (x.toInt < lo) || decide (hi < x.toInt) then jto c dflt r else match offs[(x.toInt - lo).toNat]? with
      | some off => jto c off r
      | none => none
    | _ => none
  | .lookupswitch dflt ps => match c.2.2.1 with
    | .int x :: r => bif (ps.toList.zip (ps.toList.drop 1)).all (fun (a, next) => a.1 < next.1) then jto c (Op.lookupswitch.offset ps.toList dflt x.toInt) r else none
    | _ => none
  | _ => none
def jIni (mi : Nat) : Bool := (jY mi).name == "<init>"
def jfin (ci k : Nat) : Bool := (jT ci k).2.2.2
/-- the heap -/
def jsH (xs : Option (List Int32)) (ins : Instr) (mi : Nat) (c : JC) : Option JC := match ins with
  | .getfield idx => match c.2.2.1 with
    | .ref o :: r => match jF (jOC mi) idx with
      | some (ci, k, _) => bif jok c.2.2.2.1 o ci then some (c.1 + 3, c.2.1, jfv c.2.2.2.1 c.2.2.2.2 o ci k :: r, c.2.2.2) else none
      | none => match jSF (jOC mi) idx with
        | some 0 => bif jisS o then some (c.1 + 3, c.2.1, .ref (o + 30) :: r, c.2.2.2) else none
        | some _ => bif jisS o then some (c.1 + 3, c.2.1, .int 0 :: r, c.2.2.2) else none
        | none => none
    | _ => none
  | .putfield idx => match c.2.2.1 with
    | .int v :: .ref o :: r => match jF (jOC mi) idx with
      | some (ci, k, _) => bif jok c.2.2.2.1 o ci && !(jRf ci k) && !(jfin ci k) then some (c.1 + 3, c.2.1, r, (c.2.2.2.1, jup c.2.2.2.2 o k v)) else none
      | none => none
    | .ref v :: .ref o :: r => match jF (jOC mi) idx with
      | some (ci, k, _) => bif jok c.2.2.2.1 o ci && jRf ci k && jfin ci k && jIni mi && Nat.beq ci (jOC mi) && Nat.ble (k + 1) (jlr c.2.2.2.1 o) then some (c.1 + 3, c.2.1, r, (jsetp c.2.2.2.1 o k (some v), c.2.2.2.2)) else none
      | none => none
    | _ => none
  | .getstatic idx => match jS (jOC mi) idx with
    | some k => some (c.1 + 3, c.2.1, jSv k :: c.2.2.1, c.2.2.2)
    | none => none
  | .iaload => match c.2.2.1 with
    | .int i :: .ref a :: r => bif jok c.2.2.2.1 a 8 then (bif jin i (jlen c.2.2.2.1 a) then some (c.1 + 1, c.2.1, .int (c.2.2.2.2 a i.toNatClampNeg) :: r, c.2.2.2) else none) else match jro xs a with
      | some l => bif jin i l.length then some (c.1 + 1, c.2.1, .int (l.getD i.toNatClampNeg 0) :: r, c.2.2.2) else none
      | none => none
    | _ => none
  | .iastore => match c.2.2.1 with
    | .int v :: .int i :: .ref a :: r => bif jok c.2.2.2.1 a 8 && jin i (jlen c.2.2.2.1 a) then some (c.1 + 1, c.2.1, r, (c.2.2.2.1, jup c.2.2.2.2 a i.toNatClampNeg v)) else none
    | _ => none
  | .baload => match c.2.2.1 with
    | .int i :: .ref a :: r => bif jok c.2.2.2.1 a 9 then (bif jin i (jlen c.2.2.2.1 a) then some (c.1 + 1, c.2.1, .int (c.2.2.2.2 a i.toNatClampNeg) :: r, c.2.2.2) else none) else match jrb a with
      | some l => bif jin i l.length then some (c.1 + 1, c.2.1, .int (l.getD i.toNatClampNeg 0) :: r, c.2.2.2) else none
      | none => none
    | _ => none
  | .bastore => match c.2.2.1 with
    | .int v :: .int i :: .ref a :: r => bif jok c.2.2.2.1 a 9 && jin i (jlen c.2.2.2.1 a) then some (c.1 + 1, c.2.1, r, (c.2.2.2.1, jup c.2.2.2.2 a i.toNatClampNeg (v &&& 1))) else none
    | _ => none
  | .aaload => match c.2.2.1 with
    | .int i :: .ref a :: r => bif jok c.2.2.2.1 a 10 && jin i (jlen c.2.2.2.1 a) then some (c.1 + 1, c.2.1, va_rf (jptr c.2.2.2.1 a i.toNatClampNeg) :: r, c.2.2.2) else none
    | _ => none
  | .aastore => match c.2.2.1 with
    | .ref v :: .int i :: .ref a :: r => bif jok c.2.2.2.1 a 10 && jin i (jlen c.2.2.2.1 a) && jok c.2.2.2.1 v 2 && Nat.ble (i.toNatClampNeg + 1) (jlr c.2.2.2.1 a) then some (c.1 + 1, c.2.1, r, (jsetp c.2.2.2.1 a i.toNatClampNeg (some v), c.2.2.2.2)) else none
    | _ => none
  | .arraylength => match c.2.2.1 with
    | .ref a :: r => bif jok c.2.2.2.1 a 8 || jok c.2.2.2.1 a 9 || jok c.2.2.2.1 a 10 then some (c.1 + 1, c.2.1, .int (Int32.ofNat (jlen c.2.2.2.1 a)) :: r, c.2.2.2) else match jro xs a with
      | some l => some (c.1 + 1, c.2.1, .int (Int32.ofNat l.length) :: r, c.2.2.2)
      | none => match jrb a with
        | some l => some (c.1 + 1, c.2.1, .int (Int32.ofNat l.length) :: r, c.2.2.2)
        | none => none
    | _ => none
  | .new idx => match jNw (jOC mi) idx with
    | some (ci, _) => bif Nat.ble (c.2.2.2.1.length + 1) 1000000 then some (c.1 + 3, c.2.1, .ref c.2.2.2.1.length :: c.2.2.1, (c.2.2.2.1 ++ [(ci, jNF ci, List.replicate (jNF ci) none)], jzr c.2.2.2.2 c.2.2.2.1.length)) else none
    | none => none
  | .newarray t => match c.2.2.1 with
    | .int n :: r => bif (t == .int || t == .boolean) && decide (0 ≤ n) && decide (n.toNatClampNeg ≤ 100000) && Nat.ble (c.2.2.2.1.length + 1) 1000000 then some (c.1 + 2, c.2.1, .ref c.2.2.2.1.length :: r, (c.2.2.2.1 ++ [(bif t == .int then 8 else 9, n.toNatClampNeg, [])], jzr c.2.2.2.2 c.2.2.2.1.length)) else none
    | _ => none
  | .anewarray idx => match c.2.2.1 with
    | .int n :: r => bif Nat.beq (jOC mi) 4 && Nat.beq idx 13 && decide (0 ≤ n) && decide (n.toNatClampNeg ≤ 100000) && Nat.ble (c.2.2.2.1.length + 1) 1000000 then some (c.1 + 3, c.2.1, .ref c.2.2.2.1.length :: r, (c.2.2.2.1 ++ [(10, n.toNatClampNeg, List.replicate n.toNatClampNeg none)], jzr c.2.2.2.2 c.2.2.2.1.length)) else none
    | _ => none
  | _ => none
def jnar (rt : Option FieldType) (v : Int32) : Bool := match rt with
  | some .int => true
  | some .boolean => decide (narrow .boolean (.int v) = .int v)
  | some .byte => decide (narrow .byte (.int v) = .int v)
  | some .char => decide (narrow .char (.int v) = .int v)
  | _ => false
def jisO (rt : Option FieldType) : Bool := match rt with
  | some (.object _) => true
  | some (.array _) => true
  | _ => false
/-- returns -/
def jsR (ins : Instr) (mi : Nat) (c : JC) : Option (Option Value × JH) := match ins with
  | .ireturn => match c.2.2.1 with
    | [.int v] => bif jnar (jRet mi) v then some (some (.int v), c.2.2.2) else none
    | _ => none
  | .lreturn => match c.2.2.1 with
    | [.long v] => bif jRet mi == some .long then some (some (.long v), c.2.2.2) else none
    | _ => none
  | .areturn => match c.2.2.1 with
    | [.ref v] => bif jisO (jRet mi) then some (some (.ref v), c.2.2.2) else none
    | [.null] => bif jisO (jRet mi) then some (some .null, c.2.2.2) else none
    | _ => none
  | .return_ => match c.2.2.1 with
    | [] => bif jRet mi == none then some (none, c.2.2.2) else none
    | _ => none
  | _ => none
def jrv (E : List JE) (b oc : Nat) : Bool := bif Nat.ble oc 7 then jok E b oc else Nat.beq oc 10 && jisS b
/-- calls -/
def jsC (ins : Instr) (mi : Nat) (c : JC) : Option JK := match ins with
  | .invokevirtual idx => match jC (jOC mi) idx with
    | some (0, mj, _) => match c.2.2.1.drop (jNA mj) with
      | .ref b :: r => bif jrv c.2.2.2.1 b (jOC mj) && Nat.ble (jw r) 8 && Nat.beq (c.2.2.1.take (jNA mj)).length (jNA mj) && Nat.ble (jw (.ref b :: (c.2.2.1.take (jNA mj)).reverse)) (jML mj) then some (.inr (mj, .ref b :: (c.2.2.1.take (jNA mj)).reverse, (c.1 + 3, c.2.1, r, c.2.2.2))) else none
      | _ => none
    | _ => none
  | .invokestatic idx => match jC (jOC mi) idx with
    | some (k, mj, _) => bif (Nat.beq k 1 || Nat.beq k 3) && Nat.ble (jw (c.2.2.1.drop (jNA mj))) 8 && Nat.beq (c.2.2.1.take (jNA mj)).length (jNA mj) && Nat.ble (jw (c.2.2.1.take (jNA mj)).reverse) (jML mj) then some (.inr (mj, (c.2.2.1.take (jNA mj)).reverse, (c.1 + 3, c.2.1, c.2.2.1.drop (jNA mj), c.2.2.2))) else none
    | none => none
  | .invokespecial idx => match jC (jOC mi) idx with
    | some (2, mj, _) => match c.2.2.1.drop (jNA mj) with
      | .ref b :: r => bif jok c.2.2.2.1 b (jOC mj) && Nat.ble (jw r) 8 && Nat.beq (c.2.2.1.take (jNA mj)).length (jNA mj) && Nat.ble (jw (.ref b :: (c.2.2.1.take (jNA mj)).reverse)) (jML mj) then some (.inr (mj, .ref b :: (c.2.2.1.take (jNA mj)).reverse, (c.1 + 3, c.2.1, r, c.2.2.2))) else none
      | _ => none
    | some (4, _, _) => match c.2.2.1 with
      | .ref b :: r => bif Nat.ble (jw r) 8 then some (.inl (c.1 + 3, c.2.1, r, c.2.2.2)) else none
      | _ => none
    | _ => none
  | _ => none
/-- one step: on, out, or into a call -/
def jstep (xs : Option (List Int32)) (mi : Nat) (c : JC) : Option (JC ⊕ ((Option Value × JH) ⊕ (Nat × List Value × JC))) := match jP mi c.1 with
  | none => none
  | some (ins, _) => match jsA ins mi c with
    | some c' => some (.inl c')
    | none => match jsB ins c with
      | some c' => some (.inl c')
      | none => match jsH xs ins mi c with
        | some c' => some (.inl c')
        | none => match jsC ins mi c with
          | some (.inl c') => some (.inl c')
          | some (.inr q) => some (.inr (.inr q))
          | none => match jsR ins mi c with
            | some r => some (.inr (.inl r))
            | none => none
/-- the run: n bounds the steps, d the calls that stand open -/
def jrun (xs : Option (List Int32)) : Nat → Nat → Nat → JC → Option (Option Value × JH)
  | 0, _, _, _ => none
  | n + 1, d, mi, c => match jstep xs mi c with
    | none => none
    | some (.inl c') => jrun xs n d mi c'
    | some (.inr (.inl r)) => some r
    | some (.inr (.inr (mj, as, c'))) => match d with
      | 0 => none
      | d' + 1 => match jrun xs n d' mj (0, lv_args 0 as, [], c'.2.2.2) with
        | none => none
        | some (v, h') => jrun xs n (d' + 1) mi (c'.1, c'.2.1, v.toList ++ c'.2.2.1, h')
/-- how long an instruction is -/
def jlo (ins : Instr) (len : Nat) : Bool := match ins with
  | .bipush _ | .ldc _ | .iload _ | .lload _ | .aload _ | .istore _ | .lstore _ | .astore _ | .newarray _ => Nat.beq len 2
  | .sipush _ | .ldc_w _ | .ldc2_w _ | .iinc _ _ | .goto _ | .ifCond _ _ | .if_icmp _ _ | .ifnull _ | .getfield _ | .putfield _ | .getstatic _ | .new _ | .anewarray _ | .invokevirtual _ | .invokestatic _ | .invokespecial _ => Nat.beq len 3
  | .tableswitch _ _ _ _ | .lookupswitch _ _ => true
  | _ => Nat.beq len 1
