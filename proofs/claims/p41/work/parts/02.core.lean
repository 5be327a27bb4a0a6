/-! An abstract machine over whole numbers: the class's and the reference's code run on it as a function; 03 shows that the JVM does the same. -/
/-- a value: its tag and its number. Tags: 0 int, 1 long, 2 int[], 3 long[], 4 Scene[], 5 a String constant, 6 the script, 7 boolean (fields alone), 10 + c an object of class c of vwCl -/
abbrev aV : Type := Nat × Int
/-- the cells made so far, the first is number 1: tag and length (of an object: how many fields) -/
abbrev aK : Type := List (Nat × Nat)
abbrev aH : Type := Int → Int → Int
/-- cells, what they hold, how many cells and slots were made -/
abbrev aS : Type := aK × aH × Nat × Nat
/-- where a piece of a method ends: 0 with its answer, or a place + 1 with what is live there -/
abbrev aR : Type := Option (Nat × List Int × aS)
abbrev aC : Type := Option (List (Nat × Nat) × List Nat)
/-- a row of code: pc, instruction, length, what it is linked to, its constant, what is live if it is a cut -/
abbrev aE : Type := Nat × Instr × Nat × List Nat × Int × aC
abbrev aL : Type := List (Option aV)
abbrev aX : Type := Int × (Int → Int)
def aget (σ : aS) (x j : Int) : Int := σ.2.1 x j
def aput (σ : aS) (x j v : Int) : aS := (σ.1, (fun x' j' => if x' = x ∧ j' = j then v else σ.2.1 x' j'), σ.2.2)
def alen (σ : aS) (x : Int) : Int := match x.toNat with
  | 0 => 0
  | k + 1 => match σ.1[k]? with
    | some q => (q.2 : Int)
    | none => 0
def acpy (σ : aS) (s sp d dp n : Int) : aS := (σ.1, (fun x j => if x = d ∧ dp ≤ j ∧ j < dp + n then σ.2.1 s (sp + (j - dp)) else σ.2.1 x j), σ.2.2)
def anew (σ : aS) (t n : Nat) : aS := (σ.1 ++ [(t, n)], σ.2.1, σ.2.2.1 + 1, σ.2.2.2 + n)
def atop (σ : aS) : Int := (σ.1.length : Int) + 1
def w32 (x : Int) : Int := (x + 2147483648) % 4294967296 - 2147483648
def w64 (x : Int) : Int := (x + 9223372036854775808) % 18446744073709551616 - 9223372036854775808
def aand (a b : Int) : Int := (Int32.ofInt a &&& Int32.ofInt b).toInt
def aor (a b : Int) : Int := (Int32.ofInt a ||| Int32.ofInt b).toInt
def axor (a b : Int) : Int := (Int32.ofInt a ^^^ Int32.ofInt b).toInt
def ashl (a b : Int) : Int := (Int32.ofInt a <<< (Int32.ofInt b &&& 31)).toInt
def ashr (a b : Int) : Int := (Int32.ofInt a >>> (Int32.ofInt b &&& 31)).toInt
def aandl (a b : Int) : Int := (Int64.ofInt a &&& Int64.ofInt b).toInt
def ashll (a b : Int) : Int := (Int64.ofInt a <<< ((Int32.ofInt b).toInt64 &&& 63)).toInt
def ashrl (a b : Int) : Int := (Int64.ofInt a >>> ((Int32.ofInt b).toInt64 &&& 63)).toInt
def acmp (a b : Int) : Int := if b < a then 1 else if a = b then 0 else -1
def acall0 (m : aR) (f : aS → aR) : aR := match m with
  | some (0, [], σ) => f σ
  | _ => none
def acall1 (m : aR) (f : Int → aS → aR) : aR := match m with
  | some (0, [r], σ) => f r σ
  | _ => none
theorem acall0_some (σ : aS) (f : aS → aR) : acall0 (some (0, [], σ)) f = f σ := rfl
theorem acall1_some (r : Int) (σ : aS) (f : Int → aS → aR) : acall1 (some (0, [r], σ)) f = f r σ := rfl
def apopI : List aV → Option (Int × List aV)
  | (0, x) :: S => some (x, S)
  | _ => none
def apopL : List aV → Option (Int × List aV)
  | (1, x) :: S => some (x, S)
  | _ => none
def apopT (t : Nat) : List aV → Option (Int × List aV)
  | (t', x) :: S => match Nat.beq t' t with
    | true => some (x, S)
    | false => none
  | _ => none
/-- arguments off the stack, the last one's tag first; the first one stands first in what comes -/
def apops : List Nat → List aV → Option (List Int × List aV)
  | [], S => some ([], S)
  | t :: ts, S => match apopT t S with
    | some (x, S1) => match apops ts S1 with
      | some (xs, S2) => some (xs ++ [x], S2)
      | none => none
    | none => none
def acat (v : aV) : Nat := match Nat.beq v.1 1 with
  | true => 2
  | false => 1
def awid (S : List aV) : Nat := (S.map acat).sum
def alod (t : Nat) (i : Nat) (L : aL) : Option Int := match L[i]? with
  | some (some (t', x)) => match Nat.beq t' t with
    | true => some x
    | false => none
  | _ => none
def alodR (i : Nat) (L : aL) : Option aV := match L[i]? with
  | some (some (t, x)) => match Nat.ble 2 t with
    | true => some (t, x)
    | false => none
  | _ => none
/-- a local before place i that is a long and reaches into it -/
def aclr (i : Nat) (L : aL) : aL := match i with
  | 0 => L
  | k + 1 => match L[k]? with
    | some (some (1, _)) => L.set k none
    | _ => L
def asto1 (i : Nat) (v : aV) (L : aL) : Option aL := match Nat.blt i L.length with
  | true => some ((aclr i L).set i (some v))
  | false => none
def asto2 (i : Nat) (v : aV) (L : aL) : Option aL := match Nat.blt (i + 1) L.length with
  | true => some (((aclr i L).set i (some v)).set (i + 1) none)
  | false => none
def alocs (L : aL) : List (Nat × Nat) → Option (List Int)
  | [] => some []
  | (i, t) :: q => match alod t i L with
    | some x => match alocs L q with
      | some xs => some (x :: xs)
      | none => none
    | none => none
def astks : List Nat → List aV → Option (List Int)
  | [], [] => some []
  | t :: ts, (t', x) :: S => match Nat.beq t' t with
    | true => match astks ts S with
      | some xs => some (x :: xs)
      | none => none
    | false => none
  | _, _ => none
def aleaf (pc : Nat) (c : List (Nat × Nat) × List Nat) (L : aL) (S : List aV) (σ : aS) : aR := match astks c.2 S with
  | some us => match alocs L c.1 with
    | some vs => some (pc + 1, us ++ vs, σ)
    | none => none
  | none => none
/-- a cut's values as locals and stack again -/
def aents : List Nat → List Int → Option (List aV × List Int)
  | [], vs => some ([], vs)
  | t :: ts, v :: vs => match aents ts vs with
    | some (S, q) => some ((t, v) :: S, q)
    | none => none
  | _ :: _, [] => none
def aentl : List (Nat × Nat) → List Int → aL → Option aL
  | [], [], L => some L
  | (i, t) :: q, v :: vs, L => aentl q vs (L.set i (some (t, v)))
  | _, _, _ => none
def aent (nL : Nat) (c : List (Nat × Nat) × List Nat) (vs : List Int) : Option (aL × List aV) := match aents c.2 vs with
  | some (S, q) => match aentl c.1 q (List.replicate nL none) with
    | some L => some (L, S)
    | none => none
  | none => none
def afrom (pc : Nat) : List aE → List aE
  | [] => []
  | e :: tl => match Nat.beq e.1 pc with
    | true => e :: tl
    | false => afrom pc tl
def aswitch (x : Int) (f : Nat → aR) (pc : Nat) (d : Int) : Int → List Int → aR
  | _, [] => f ((pc : Int) + d).toNat
  | lo, o :: os => if x = lo then f ((pc : Int) + o).toNat else aswitch x f pc d (lo + 1) os
def alookup (x : Int) (f : Nat → aR) (pc : Nat) (d : Int) : List (Int × Int) → aR
  | [] => f ((pc : Int) + d).toNat
  | (v, o) :: os => if x = v then f ((pc : Int) + o).toNat else alookup x f pc d os
/-- one instruction; k goes on behind it, j from a place on -/
def astep (F : Nat → List Int → aS → aR) (X : aX) (k : aL → List aV → aS → aR) (j : Nat → aL → List aV → aS → aR) (e : aE) (L : aL) (S : List aV) (σ : aS) : aR :=
  match e.2.1 with
  | .iconst n => k L ((0, n) :: S) σ
  | .bipush n => k L ((0, n) :: S) σ
  | .sipush n => k L ((0, n) :: S) σ
  | .lconst n => k L ((1, ((n : Nat) : Int)) :: S) σ
  | .ldc _ => match e.2.2.2.1 with
    | [0] => k L ((0, e.2.2.2.2.1) :: S) σ
    | [5] => k L ((5, e.2.2.2.2.1) :: S) σ
    | _ => none
  | .ldc2_w _ => k L ((1, e.2.2.2.2.1) :: S) σ
  | .iload_n i => (alod 0 i L).bind fun x => k L ((0, x) :: S) σ
  | .iload i => (alod 0 i L).bind fun x => k L ((0, x) :: S) σ
  | .lload_n i => (alod 1 i L).bind fun x => k L ((1, x) :: S) σ
  | .lload i => (alod 1 i L).bind fun x => k L ((1, x) :: S) σ
  | .aload_n i => (alodR i L).bind fun v => k L (v :: S) σ
  | .aload i => (alodR i L).bind fun v => k L (v :: S) σ
  | .istore_n i => (apopI S).bind fun q => (asto1 i (0, q.1) L).bind fun L' => k L' q.2 σ
  | .istore i => (apopI S).bind fun q => (asto1 i (0, q.1) L).bind fun L' => k L' q.2 σ
  | .lstore_n i => (apopL S).bind fun q => (asto2 i (1, q.1) L).bind fun L' => k L' q.2 σ
  | .lstore i => (apopL S).bind fun q => (asto2 i (1, q.1) L).bind fun L' => k L' q.2 σ
  | .astore_n i => match S with
    | (t, x) :: S' => match Nat.ble 2 t with
      | true => (asto1 i (t, x) L).bind fun L' => k L' S' σ
      | false => none
    | [] => none
  | .astore i => match S with
    | (t, x) :: S' => match Nat.ble 2 t with
      | true => (asto1 i (t, x) L).bind fun L' => k L' S' σ
      | false => none
    | [] => none
  | .iinc i n => (alod 0 i L).bind fun x => (asto1 i (0, w32 (x + n)) L).bind fun L' => k L' S σ
  | .iadd => (apopI S).bind fun b => (apopI b.2).bind fun a => k L ((0, w32 (a.1 + b.1)) :: a.2) σ
  | .isub => (apopI S).bind fun b => (apopI b.2).bind fun a => k L ((0, w32 (a.1 - b.1)) :: a.2) σ
  | .imul => (apopI S).bind fun b => (apopI b.2).bind fun a => k L ((0, w32 (a.1 * b.1)) :: a.2) σ
  | .idiv => (apopI S).bind fun b => (apopI b.2).bind fun a => if b.1 = 0 then none else k L ((0, w32 (a.1.tdiv b.1)) :: a.2) σ
  | .irem => (apopI S).bind fun b => (apopI b.2).bind fun a => if b.1 = 0 then none else k L ((0, a.1.tmod b.1) :: a.2) σ
  | .ineg => (apopI S).bind fun a => k L ((0, w32 (-a.1)) :: a.2) σ
  | .iand => (apopI S).bind fun b => (apopI b.2).bind fun a => k L ((0, aand a.1 b.1) :: a.2) σ
  | .ior => (apopI S).bind fun b => (apopI b.2).bind fun a => k L ((0, aor a.1 b.1) :: a.2) σ
  | .ixor => (apopI S).bind fun b => (apopI b.2).bind fun a => k L ((0, axor a.1 b.1) :: a.2) σ
  | .ishl => (apopI S).bind fun b => (apopI b.2).bind fun a => k L ((0, ashl a.1 b.1) :: a.2) σ
  | .ishr => (apopI S).bind fun b => (apopI b.2).bind fun a => k L ((0, ashr a.1 b.1) :: a.2) σ
  | .ladd => (apopL S).bind fun b => (apopL b.2).bind fun a => k L ((1, w64 (a.1 + b.1)) :: a.2) σ
  | .lsub => (apopL S).bind fun b => (apopL b.2).bind fun a => k L ((1, w64 (a.1 - b.1)) :: a.2) σ
  | .lmul => (apopL S).bind fun b => (apopL b.2).bind fun a => k L ((1, w64 (a.1 * b.1)) :: a.2) σ
  | .ldiv => (apopL S).bind fun b => (apopL b.2).bind fun a => if b.1 = 0 then none else k L ((1, w64 (a.1.tdiv b.1)) :: a.2) σ
  | .lrem => (apopL S).bind fun b => (apopL b.2).bind fun a => if b.1 = 0 then none else k L ((1, a.1.tmod b.1) :: a.2) σ
  | .lneg => (apopL S).bind fun a => k L ((1, w64 (-a.1)) :: a.2) σ
  | .land => (apopL S).bind fun b => (apopL b.2).bind fun a => k L ((1, aandl a.1 b.1) :: a.2) σ
  | .lshl => (apopI S).bind fun b => (apopL b.2).bind fun a => k L ((1, ashll a.1 b.1) :: a.2) σ
  | .lshr => (apopI S).bind fun b => (apopL b.2).bind fun a => k L ((1, ashrl a.1 b.1) :: a.2) σ
  | .lcmp => (apopL S).bind fun b => (apopL b.2).bind fun a => k L ((0, acmp a.1 b.1) :: a.2) σ
  | .i2l => (apopI S).bind fun a => k L ((1, a.1) :: a.2) σ
  | .l2i => (apopL S).bind fun a => k L ((0, w32 a.1) :: a.2) σ
  | .dup => match S with
    | v :: S' => match Nat.beq v.1 1 with
      | true => none
      | false => k L (v :: v :: S') σ
    | [] => none
  | .pop => match S with
    | v :: S' => match Nat.beq v.1 1 with
      | true => none
      | false => k L S' σ
    | [] => none
  | .dup2 => match S with
    | v :: S' => match Nat.beq v.1 1 with
      | true => k L (v :: v :: S') σ
      | false => match S' with
        | u :: S2 => match Nat.beq u.1 1 with
          | true => none
          | false => k L (v :: u :: v :: u :: S2) σ
        | [] => none
    | [] => none
  | .goto o => j ((e.1 : Int) + o).toNat L S σ
  | .ifCond c o => (apopI S).bind fun a => match c with
    | .eq => if a.1 = 0 then j ((e.1 : Int) + o).toNat L a.2 σ else k L a.2 σ
    | .ne => if a.1 = 0 then k L a.2 σ else j ((e.1 : Int) + o).toNat L a.2 σ
    | .lt => if a.1 < 0 then j ((e.1 : Int) + o).toNat L a.2 σ else k L a.2 σ
    | .ge => if a.1 < 0 then k L a.2 σ else j ((e.1 : Int) + o).toNat L a.2 σ
    | .gt => if 0 < a.1 then j ((e.1 : Int) + o).toNat L a.2 σ else k L a.2 σ
    | .le => if 0 < a.1 then k L a.2 σ else j ((e.1 : Int) + o).toNat L a.2 σ
  | .if_icmp c o => (apopI S).bind fun b => (apopI b.2).bind fun a => match c with
    | .eq => if a.1 = b.1 then j ((e.1 : Int) + o).toNat L a.2 σ else k L a.2 σ
    | .ne => if a.1 = b.1 then k L a.2 σ else j ((e.1 : Int) + o).toNat L a.2 σ
    | .lt => if a.1 < b.1 then j ((e.1 : Int) + o).toNat L a.2 σ else k L a.2 σ
    | .ge => if a.1 < b.1 then k L a.2 σ else j ((e.1 : Int) + o).toNat L a.2 σ
    | .gt => if b.1 < a.1 then j ((e.1 : Int) + o).toNat L a.2 σ else k L a.2 σ
    | .le => if b.1 < a.1 then k L a.2 σ else j ((e.1 : Int) + o).toNat L a.2 σ
  | .tableswitch d lo _ os => (apopI S).bind fun a => aswitch a.1 (fun t => j t L a.2 σ) e.1 d lo os.toList
  | .lookupswitch d os => (apopI S).bind fun a => alookup a.1 (fun t => j t L a.2 σ) e.1 d os.toList
  | .getfield _ => match e.2.2.2.1 with
    | [ci, f, 0] => (apopT (10 + ci) S).bind fun a => k L ((0, aget σ a.1 (f : Int)) :: a.2) σ
    | [ci, f, 1] => (apopT (10 + ci) S).bind fun a => k L ((1, aget σ a.1 (f : Int)) :: a.2) σ
    | [ci, f, t] => (apopT (10 + ci) S).bind fun a => if aget σ a.1 (f : Int) = 0 then none else k L ((t, aget σ a.1 (f : Int)) :: a.2) σ
    | _ => none
  | .putfield _ => match e.2.2.2.1 with
    | [ci, f, 7] => (apopI S).bind fun v => (apopT (10 + ci) v.2).bind fun a => if v.1 = 0 ∨ v.1 = 1 then k L a.2 (aput σ a.1 (f : Int) v.1) else none
    | [ci, f, t] => (apopT t S).bind fun v => (apopT (10 + ci) v.2).bind fun a => k L a.2 (aput σ a.1 (f : Int) v.1)
    | _ => none
  | .iaload => (apopI S).bind fun i => match i.2 with
    | (2, x) :: S2 => if 0 ≤ i.1 ∧ i.1 < alen σ x then k L ((0, aget σ x i.1) :: S2) σ else none
    | (6, _) :: S2 => if 0 ≤ i.1 ∧ i.1 < X.1 then k L ((0, X.2 i.1) :: S2) σ else none
    | _ => none
  | .laload => (apopI S).bind fun i => (apopT 3 i.2).bind fun a => if 0 ≤ i.1 ∧ i.1 < alen σ a.1 then k L ((1, aget σ a.1 i.1) :: a.2) σ else none
  | .aaload => (apopI S).bind fun i => (apopT 4 i.2).bind fun a => if 0 ≤ i.1 ∧ i.1 < alen σ a.1 then (if aget σ a.1 i.1 = 0 then none else k L ((18, aget σ a.1 i.1) :: a.2) σ) else none
  | .iastore => (apopI S).bind fun v => (apopI v.2).bind fun i => (apopT 2 i.2).bind fun a => if 0 ≤ i.1 ∧ i.1 < alen σ a.1 then k L a.2 (aput σ a.1 i.1 v.1) else none
  | .lastore => (apopL S).bind fun v => (apopI v.2).bind fun i => (apopT 3 i.2).bind fun a => if 0 ≤ i.1 ∧ i.1 < alen σ a.1 then k L a.2 (aput σ a.1 i.1 v.1) else none
  | .aastore => (apopT 18 S).bind fun v => (apopI v.2).bind fun i => (apopT 4 i.2).bind fun a => if 0 ≤ i.1 ∧ i.1 < alen σ a.1 then k L a.2 (aput σ a.1 i.1 v.1) else none
  | .arraylength => match S with
    | (2, x) :: S2 => k L ((0, alen σ x) :: S2) σ
    | (6, _) :: S2 => k L ((0, X.1) :: S2) σ
    | _ => none
  | .new _ => match e.2.2.2.1 with
    | [ci, n] => k L ((10 + ci, atop σ) :: S) (anew σ (10 + ci) n)
    | _ => none
  | .newarray _ => match e.2.2.2.1 with
    | [t] => (apopI S).bind fun n => if 0 ≤ n.1 ∧ n.1 ≤ 10000 then k L ((t, atop σ) :: n.2) (anew σ t n.1.toNat) else none
    | _ => none
  | .anewarray _ => (apopI S).bind fun n => if 0 ≤ n.1 ∧ n.1 ≤ 10000 then k L ((4, atop σ) :: n.2) (anew σ 4 n.1.toNat) else none
  | .invokespecial _ => match e.2.2.2.1 with
    | [] => match S with
      | (t, _) :: S' => match Nat.ble 10 t, Nat.ble (awid S') 8 with
        | true, true => k L S' σ
        | _, _ => none
      | [] => none
    | f :: 0 :: ts => (apops ts S).bind fun q => match Nat.ble (awid q.2) 8 with
      | true => acall0 (F f q.1 σ) fun σ' => k L q.2 σ'
      | false => none
    | _ => none
  | .invokevirtual _ => match e.2.2.2.1 with
    | f :: 0 :: ts => (apops ts S).bind fun q => match Nat.ble (awid q.2) 8 with
      | true => acall0 (F f q.1 σ) fun σ' => k L q.2 σ'
      | false => none
    | f :: 1 :: ts => (apops ts S).bind fun q => match Nat.ble (awid q.2) 8 with
      | true => acall1 (F f q.1 σ) fun r σ' => k L ((0, r) :: q.2) σ'
      | false => none
    | f :: 2 :: ts => (apops ts S).bind fun q => match Nat.ble (awid q.2) 8 with
      | true => acall1 (F f q.1 σ) fun r σ' => k L ((1, r) :: q.2) σ'
      | false => none
    | _ => none
  | .invokestatic _ => match e.2.2.2.1 with
    | [9999] => (apopI S).bind fun n => (apopI n.2).bind fun dp => (apopT 2 dp.2).bind fun d => (apopI d.2).bind fun sp => (apopT 2 sp.2).bind fun s =>
        if 0 ≤ n.1 ∧ 0 ≤ dp.1 ∧ 0 ≤ sp.1 ∧ sp.1 + n.1 ≤ alen σ s.1 ∧ dp.1 + n.1 ≤ alen σ d.1 then (match Nat.ble (awid s.2) 8 with
          | true => k L s.2 (acpy σ s.1 sp.1 d.1 dp.1 n.1)
          | false => none) else none
    | f :: 0 :: ts => (apops ts S).bind fun q => match Nat.ble (awid q.2) 8 with
      | true => acall0 (F f q.1 σ) fun σ' => k L q.2 σ'
      | false => none
    | f :: 1 :: ts => (apops ts S).bind fun q => match Nat.ble (awid q.2) 8 with
      | true => acall1 (F f q.1 σ) fun r σ' => k L ((0, r) :: q.2) σ'
      | false => none
    | f :: 2 :: ts => (apops ts S).bind fun q => match Nat.ble (awid q.2) 8 with
      | true => acall1 (F f q.1 σ) fun r σ' => k L ((1, r) :: q.2) σ'
      | false => none
    | _ => none
  | .ireturn => match S, e.2.2.2.1 with
    | [(0, x)], [1] => if x = 0 ∨ x = 1 then some (0, [x], σ) else none
    | [(0, x)], [0] => some (0, [x], σ)
    | _, _ => none
  | .lreturn => match S with
    | [(1, x)] => some (0, [x], σ)
    | _ => none
  | .return_ => match S with
    | [] => some (0, [], σ)
    | _ => none
  | _ => none
/-- from a row on to the next cut or the end -/
def arun (F : Nat → List Int → aS → aR) (X : aX) (code : List aE) : Nat → List aE → aL → List aV → aS → aR
  | 0, _, _, _, _ => none
  | _ + 1, [], _, _, _ => none
  | n + 1, e :: tl, L, S, σ =>
    astep F X
      (fun L' S' σ' => match tl with
        | [] => none
        | e' :: _ => match e'.2.2.2.2.2 with
          | some c => aleaf e'.1 c L' S' σ'
          | none => arun F X code n tl L' S' σ')
      (fun t L' S' σ' => match afrom t code with
        | [] => none
        | e' :: q => match e'.2.2.2.2.2 with
          | some c => aleaf e'.1 c L' S' σ'
          | none => arun F X code n (e' :: q) L' S' σ')
      e L S σ
/-- the piece of a method that begins at a cut -/
def aseg (F : Nat → List Int → aS → aR) (X : aX) (nL : Nat) (code : List aE) (pc : Nat) (vs : List Int) (σ : aS) : aR := match afrom pc code with
  | [] => none
  | e :: q => match e.2.2.2.2.2 with
    | some c => match aent nL c vs with
      | some (L, S) => arun F X code 3000 (e :: q) L S σ
      | none => none
    | none => none
/-- a loop: as long as its piece ends at its head -/
def aloop (c : Nat) (B : List Int → aS → aR) : Nat → List Int → aS → aR
  | 0, _, _ => none
  | n + 1, vs, σ => match B vs σ with
    | some (t, vs', σ') => if t = c then aloop c B n vs' σ' else some (t, vs', σ')
    | none => none
def abind (m : aR) (f : Nat → List Int → aS → aR) : aR := match m with
  | some (t, vs, σ) => f t vs σ
  | none => none
def aBig : Nat := 2000000
