/-! methods, what a row of code must keep, contracts -/
/-- name, bytes, locals, answer, the arguments' tags, frames and locals' words that it needs, words, code -/
abbrev aM : Type := MethodName × ByteArray × Nat × Option FieldType × List Nat × Nat × Nat × List Cond × List aE
def aMy (M : aM) : MethodName := M.1
def aMb (M : aM) : ByteArray := M.2.1
def aMn (M : aM) : Nat := M.2.2.1
def aMr (M : aM) : Option FieldType := M.2.2.2.1
def aMp (M : aM) : List Nat := M.2.2.2.2.1
def aMf (M : aM) : Nat := M.2.2.2.2.2.1
def aMo (M : aM) : Nat := M.2.2.2.2.2.2.1
def aMw (M : aM) : List Cond := M.2.2.2.2.2.2.2.1
def aMc (M : aM) : List aE := M.2.2.2.2.2.2.2.2
def aRk (r : Option FieldType) (k : Nat) : Bool := match r, k with
  | none, 0 => true
  | some .int, 1 => true
  | some .boolean, 1 => true
  | some .long, 2 => true
  | some .char, 1 => true
  | _, _ => false
def aT (ci : Nat) : u_T := match vwCl[ci]? with
  | some r => r.2.1
  | none => TX0
def aC1 (ci : Nat) : String := match vwCl[ci]? with
  | some r => r.1
  | none => ""
/-- what a call needs of the tables and of the room -/
def aCok (M M' : aM) (i k : Nat) (ts : List Nat) (W : List Cond) : Bool :=
  decide (Cond.code (aMy M') (aMb M') (aMn M') (aMr M') ∈ W) && decide (Cond.initialized (aMy M').cls ∈ W) && decide ((aMy M').cls ≠ "java/lang/invoke/MethodHandle" ∧ (aMy M').cls ≠ "java/lang/invoke/VarHandle") &&
  Nat.ble (aMf M' + 1) (aMf M) && Nat.ble (8 + (aMn M' + 11) + aMo M') (aMo M) && aRk (aMr M') k && decide (ts = (aMp M').reverse) && plainFor (aMy M') && ts.all (fun t => !(Nat.beq t 6))
def aLink (own : String) (i : Nat) (y : MethodName) (W : List Cond) : Bool := decide (Cond.methodLink own i y ∈ W) || decide ((own, i, y, "FloatTowns") ∈ aNest)
def aArity (y : MethodName) (n : Nat) : Bool := decide ((parseMethodDescriptor y.desc).map (fun d => d.parameters.length) = some n)
/-- how long an instruction is (of switches nothing is said) -/
def aIl (i : Instr) (n : Nat) : Bool := match i with
  | .bipush _ => Nat.beq n 2
  | .sipush _ => Nat.beq n 3
  | .ldc _ => Nat.beq n 2
  | .ldc2_w _ => Nat.beq n 3
  | .iload _ => Nat.beq n 2
  | .lload _ => Nat.beq n 2
  | .aload _ => Nat.beq n 2
  | .istore _ => Nat.beq n 2
  | .lstore _ => Nat.beq n 2
  | .astore _ => Nat.beq n 2
  | .iinc _ _ => Nat.beq n 3
  | .goto _ => Nat.beq n 3
  | .ifCond _ _ => Nat.beq n 3
  | .if_icmp _ _ => Nat.beq n 3
  | .getfield _ => Nat.beq n 3
  | .putfield _ => Nat.beq n 3
  | .new _ => Nat.beq n 3
  | .newarray _ => Nat.beq n 2
  | .anewarray _ => Nat.beq n 3
  | .invokespecial _ => Nat.beq n 3
  | .invokevirtual _ => Nat.beq n 3
  | .invokestatic _ => Nat.beq n 3
  | .tableswitch _ _ _ _ => true
  | .lookupswitch _ _ => true
  | _ => Nat.beq n 1
/-- a row of code keeps: it is decoded so, its links are in the tables -/
def aEok (ms : List aM) (M : aM) (e : aE) : Bool :=
  decide (decode (aMb M) e.1 = .ok (e.2.1, e.2.2.1)) && aIl e.2.1 e.2.2.1 && match e.2.1 with
  | .ldc i => match e.2.2.2.1 with
    | [0] => decide (Cond.constant (aMy M).cls i (Int32.ofInt e.2.2.2.2.1) ∈ aMw M) && decide (-2147483648 ≤ e.2.2.2.2.1 ∧ e.2.2.2.2.1 < 2147483648)
    | [5] => decide ((aMy M).cls = "FloatTowns$Tokens" ∧ i = 93 ∧ e.2.2.2.2.1 = 0)
    | _ => true
  | .ldc2_w i => decide (Cond.constantLong (aMy M).cls i (Int64.ofInt e.2.2.2.2.1) ∈ aMw M) && decide (-9223372036854775808 ≤ e.2.2.2.2.1 ∧ e.2.2.2.2.1 < 9223372036854775808)
  | .bipush n => decide ((Int8.ofInt n).toInt32 = Int32.ofInt n ∧ -128 ≤ n ∧ n < 128)
  | .sipush n => decide ((Int16.ofInt n).toInt32 = Int32.ofInt n ∧ -32768 ≤ n ∧ n < 32768)
  | .iconst n => decide (-128 ≤ n ∧ n < 128)
  | .iinc _ n => decide (-32768 ≤ n ∧ n < 32768)
  | .getfield i => match e.2.2.2.1 with
    | [ci, f, t] => Nat.blt ci 12 && Nat.blt f (aNf ci) && decide (Cond.fieldLink (aMy M).cls i (aT ci f).1 (aT ci f).2.1 (aT ci f).2.2.1 ∈ aMw M) && decide (aft ci f = t ∨ (aft ci f = 7 ∧ t = 0)) && decide (t ≠ 7)
    | _ => true
  | .putfield i => match e.2.2.2.1 with
    | [ci, f, t] => Nat.blt ci 12 && Nat.blt f (aNf ci) && decide (Cond.fieldLink (aMy M).cls i (aT ci f).1 (aT ci f).2.1 (aT ci f).2.2.1 ∈ aMw M) && decide (aft ci f = t) &&
      decide ((aT ci f).2.2.2 = false ∨ ((aMy M).name = "<init>" ∧ (aT ci f).1 = (aMy M).cls))
    | _ => true
  | .new i => match e.2.2.2.1 with
    | [ci, n] => Nat.blt ci 12 && decide (n = aNf ci) && decide (Cond.classLink (aMy M).cls i (aC1 ci) ∈ aMw M) && decide (Cond.instantiable (aC1 ci) n ∈ aMw M) && decide (Cond.initialized (aC1 ci) ∈ aMw M)
    | _ => true
  | .newarray a => match e.2.2.2.1 with
    | [t] => (decide (a = .int ∧ t = 2) || decide (a = .long ∧ t = 3)) && decide (Cond.arrayClass (newarray.typeOf a) ∈ aMw M)
    | _ => true
  | .anewarray i => decide (Cond.classLink (aMy M).cls i RX8 ∈ aMw M)
  | .invokespecial i => match e.2.2.2.1 with
    | [] => decide (Cond.methodLink (aMy M).cls i objectInit ∈ aMw M) && decide (Cond.instanceMethod objectInit ∈ aMw M) && decide (Cond.code objectInit ⟨#[0xb1]⟩ 1 none ∈ aMw M) && Nat.ble 1 (aMf M) && Nat.ble 20 (aMo M)
    | f :: 0 :: ts => match ms[f]? with
      | some M' => aCok M M' i 0 ts (aMw M) && aLink (aMy M).cls i (aMy M') (aMw M) && decide (Cond.instanceMethod (aMy M') ∈ aMw M) && decide ((aMy M').name = "<init>") && aArity (aMy M') (ts.length - 1) && Nat.ble 1 ts.length && ts.getLast?.any (fun t => Nat.ble 2 t)
      | none => false
    | _ => true
  | .invokevirtual i => match e.2.2.2.1 with
    | f :: k :: ts => match ms[f]? with
      | some M' => aCok M M' i k ts (aMw M) && aLink (aMy M).cls i (aMy M') (aMw M) && decide (Cond.instanceMethod (aMy M') ∈ aMw M) && decide (Cond.selects (aMy M').cls (aMy M') (aMy M') ∈ aMw M) && aArity (aMy M') (ts.length - 1) &&
        (decide (ts.getLast? = some (10 + (ts.getLastD 0 - 10)) ∧ aC1 (ts.getLastD 0 - 10) = (aMy M').cls ∧ ts.getLastD 0 - 10 < 12) || decide (ts.getLast? = some 5 ∧ (aMy M').cls = "java/lang/String"))
      | none => false
    | _ => true
  | .invokestatic i => match e.2.2.2.1 with
    | [9999] => decide (Cond.methodLink (aMy M).cls i arraycopyName ∈ aMw M) && decide (Cond.native arraycopyName ∈ aMw M) && decide (Cond.static arraycopyName ∈ aMw M) && decide (Cond.initialized "java/lang/System" ∈ aMw M) && Nat.ble 1 (aMf M) && Nat.ble 40 (aMo M)
    | f :: k :: ts => match ms[f]? with
      | some M' => aCok M M' i k ts (aMw M) && aLink (aMy M).cls i (aMy M') (aMw M) && decide (Cond.static (aMy M') ∈ aMw M) && aArity (aMy M') ts.length
      | none => true
    | _ => true
  | .ireturn => match e.2.2.2.1 with
    | [1] => decide (aMr M = some .boolean)
    | [0] => decide (aMr M = some .int)
    | _ => true
  | .tableswitch d lo hi os => decide (hi = lo + (os.size : Int) - 1) && decide (0 ≤ (e.1 : Int) + d) && os.toList.all (fun o => decide (0 ≤ (e.1 : Int) + o))
  | .lookupswitch d os => (os.toList.zip (os.toList.drop 1)).all (fun (a, next) => a.1 < next.1) && decide (0 ≤ (e.1 : Int) + d) && os.toList.all (fun o => decide (0 ≤ (e.1 : Int) + o.2))
  | .goto o => decide (0 ≤ (e.1 : Int) + o)
  | .ifCond _ o => decide (0 ≤ (e.1 : Int) + o)
  | .if_icmp _ o => decide (0 ≤ (e.1 : Int) + o)
  | .lreturn => decide (aMr M = some .long)
  | .return_ => decide (aMr M = none)
  | _ => true
/-- rows stand one behind another -/
def aSeq : List aE → Bool
  | [] => true
  | [_] => true
  | e :: e' :: q => Nat.beq e'.1 (e.1 + e.2.2.1) && Nat.blt e.1 e'.1 && aSeq (e' :: q)
def aMok (ms : List aM) (M : aM) : Bool := (aMc M).all (aEok ms M) && aSeq (aMc M) && plainFor (aMy M) && decide ((aMw M).all (fun w => goodWord w) = true)
/-- the methods that it calls -/
def aCalls (M : aM) : List Nat := (aMc M).filterMap fun e => match e.2.1, e.2.2.2.1 with
  | .invokespecial _, f :: _ :: _ => some f
  | .invokevirtual _, f :: _ :: _ => some f
  | .invokestatic _, f :: _ :: _ => some f
  | _, _ => none
