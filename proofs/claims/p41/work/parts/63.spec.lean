/-! the class's half of whole's part of this name -/
def ctn (T N : aH) (p : Int) : Int → Int := fun s => if 0 ≤ s ∧ s < T 0 1 then N 0 (5 * s + p) else 0
def szf (f : Int → Int) : Int := f 0 + f 1 + f 2 + f 3 + f 4
def pk5 (f : Int → Int) : Int := f 0 + 8 * f 1 + 64 * f 2 + 512 * f 3 + 4096 * f 4
def hsf (T : aH) : Int → Int := fun s => if 0 ≤ s ∧ s < T 0 1 then T 2 (4 * s) else 0
/-- a crew of those that there are -/
def BF (T : aH) (f : Int → Int) : Prop := (∀ s, 0 ≤ s → s < 5 → 0 ≤ f s ∧ f s ≤ hsf T s) ∧ ∀ s, ¬ (0 ≤ s ∧ s < T 0 1) → f s = 0
/-- a crew, one more of a sort than there are at most -/
def B7 (T : aH) (f : Int → Int) : Prop := (∀ s, 0 ≤ s → s < 5 → 0 ≤ f s ∧ f s ≤ 7) ∧ szf f ≤ 13 ∧ ∀ s, ¬ (0 ≤ s ∧ s < T 0 1) → f s = 0
def vot (T : aH) (f : Int → Int) (g : Int) : Int := sI (fun s => if T 1 g < T 3 (5 * s + g) * szf f then f s else 0) (T 0 1)
def gvb (T : aH) (t : Int) (f : Int → Int) (g : Int) : Int := if bI (T 5 t) g = 1 ∧ (T 6 t = 1 → szf f < 2 * vot T f g) then 1 else 0
def gvn (T : aH) (t : Int) (f : Int → Int) : Int := sI (fun g => gvb T t f g * p2 g) (T 0 0)
def gco (T : aH) (t : Int) (f : Int → Int) : Int := sI (fun g => gvb T t f g * T 1 g) (T 0 0)
def lik (T : aH) (t : Int) (f : Int → Int) (s : Int) : Int := sI (fun g => gvb T t f g * T 3 (5 * s + g)) (T 0 0) + sI (fun o => T 4 (5 * s + o) * (f o - if o = s then 1 else 0)) (T 0 1)
def nmv (T : aH) (t : Int) (f : Int → Int) (s k : Int) : Int := if k = 0 then szf f else if k = 1 then f s else if k = 2 then gco T t f else if k = 3 then T 2 (4 * s + 1) else T 2 (4 * s + 2)
def vck (v : Int) : Option Int := if 1000000000000 < v ∨ v < -1000000000000 then none else some v
def vop (c a b : Int) : Option Int :=
  if c = 43 then vck (a + b) else if c = 45 then vck (a - b)
  else if c = 42 then (if 27720000000027719 < (a * b).natAbs then none else some (Int.tdiv (a * b) 27720))
  else if b = 0 then none else vck (Int.tdiv (a * 27720) b)
def rst (T : aH) (t : Int) (f : Int → Int) (s c : Int) (q : List Int) : Option (List Int) :=
  if c < 1000 then some (c * 27720 :: q)
  else if c < 2000 then some (nmv T t f s (c - 1000) * 27720 :: q)
  else if c = 2000 then (match q with
    | a :: r => some (-a :: r)
    | [] => none)
  else match q with
    | b :: a :: r => (match vop (c - 3000) a b with
      | some v => some (v :: r)
      | none => none)
    | _ => none
def rrn (T : aH) (t : Int) (f : Int → Int) (s : Int) : Nat → Int → List Int → Option (List Int)
  | 0, _, q => some q
  | n + 1, k, q => match rst T t f s (T 8 k) q with
    | some r => rrn T t f s n (k + 1) r
    | none => none
def rul (T : aH) (t : Int) (f : Int → Int) (s : Int) : Int := match rrn T t f s (T 10 t - T 9 t).toNat (T 9 t) [] with
  | some [v] => v
  | _ => 0
def ask (T N : aH) (t : Int) (f : Int → Int) (s : Int) : Int := (if t = N 4 0 then 27720 * (N 4 1 + N 4 2 * T 2 (4 * s + 1)) else rul T t f s) + 27720 * N 1 t
def wor (T N : aH) (t : Int) (f : Int → Int) (s : Int) : Int := 27720 * lik T t f s - ask T N t f s
def wrA (T N : aH) (s p : Int) (f : Int → Int) : Int := if p = T 0 2 then 27720 * T 2 (4 * s + 2) else wor T N p f s
def adc (f : Int → Int) (s : Int) : Int → Int := fun k => if k = s then f k + 1 else f k
def gai (T N : aH) (s a b : Int) : Int := wrA T N s b (adc (ctn T N b) s) - wrA T N s a (ctn T N a) - 27720 * T 2 (4 * s + 3)
def bnd (T N : aH) (p : Int) : Int := if p < T 0 2 then N 2 p else 0
def fiB (T N : aH) (s a : Int) : Int := ff (fun b => !decide (b = a) && decide (0 < gai T N s a b)) (T 0 2 + 1)
def fiA (T N : aH) (s : Int) : Int := ff (fun a => decide (0 < N 0 (5 * s + a)) && decide (bnd T N a = 0) && decide (fiB T N s a ≤ T 0 2)) (T 0 2 + 1)
def fiS (T N : aH) : Int := ff (fun s => decide (fiA T N s ≤ T 0 2)) (T 0 1)
/-- a crew goes from a to b -/
def mvN (N : aH) (f : Int → Int) (a b : Int) : aH := fun x j => if x = 0 then N 0 j - (if j % 5 = a then f (j / 5) else 0) + (if j % 5 = b then f (j / 5) else 0) else N x j
def on1 (s : Int) : Int → Int := adc (fun _ => 0) s
theorem on1_eq (s k : Int) : on1 s k = if k = s then 1 else 0 := by unfold on1 adc; split <;> rfl
def nxt (T N : aH) : aH := mvN N (on1 (fiS T N)) (fiA T N (fiS T N)) (fiB T N (fiS T N) (fiA T N (fiS T N)))
def itn (T : aH) : Nat → aH → aH
  | 0, N => N
  | n + 1, N => nxt T (itn T n N)
/-- k goings -/
def itN (T N : aH) (k : Int) : aH := itn T k.toNat N
/-- the reference's nodes, beside the steps of the same rule: which nodes stand on the stack ahead of node k -/
def nod (T : aH) (knot part other : Int → Int) (stk : Int → List Int) (k : Int) : Prop :=
  (0 ≤ T 8 k ∧ T 8 k ≤ 999 ∧ knot k = 0 ∧ part k = T 8 k ∧ stk (k + 1) = k :: stk k) ∨
  (1000 ≤ T 8 k ∧ T 8 k ≤ 1004 ∧ knot k = 1 ∧ part k = T 8 k - 1000 ∧ stk (k + 1) = k :: stk k) ∨
  (T 8 k = 2000 ∧ knot k = 2 ∧ ∃ a r, stk k = a :: r ∧ part k = a ∧ stk (k + 1) = k :: r) ∨
  (∃ b a r, stk k = b :: a :: r ∧ part k = a ∧ other k = b ∧ stk (k + 1) = k :: r ∧
    ((T 8 k = 3043 ∧ knot k = 3) ∨ (T 8 k = 3045 ∧ knot k = 4) ∨ (T 8 k = 3042 ∧ knot k = 5) ∨ (T 8 k = 3047 ∧ knot k = 6)))
def rok (T : aH) (knot part other : Int → Int) (t : Int) : Prop := ∃ stk : Int → List Int, stk (T 9 t) = [] ∧ stk (T 10 t) = [T 10 t - 1] ∧ ∀ k, T 9 t ≤ k → k < T 10 t → nod T knot part other stk k
/-- what is told keeps its limits -/
def TB (T : aH) : Prop :=
  (0 ≤ T 0 0 ∧ T 0 0 ≤ 5) ∧ (0 ≤ T 0 1 ∧ T 0 1 ≤ 5) ∧ (0 ≤ T 0 2 ∧ T 0 2 ≤ 4) ∧ (0 ≤ T 0 5 ∧ T 0 5 ≤ 99) ∧
  (∀ g, 0 ≤ g → g < T 0 0 → 0 ≤ T 1 g ∧ T 1 g ≤ 999) ∧
  (∀ s, 0 ≤ s → s < T 0 1 → (1 ≤ T 2 (4 * s) ∧ T 2 (4 * s) ≤ 6) ∧ (0 ≤ T 2 (4 * s + 1) ∧ T 2 (4 * s + 1) ≤ 99) ∧ (0 ≤ T 2 (4 * s + 2) ∧ T 2 (4 * s + 2) ≤ 999) ∧ (0 ≤ T 2 (4 * s + 3) ∧ T 2 (4 * s + 3) ≤ 99)) ∧
  szf (hsf T) ≤ 12 ∧
  (∀ s g, 0 ≤ s → s < T 0 1 → 0 ≤ g → g < T 0 0 → 0 ≤ T 3 (5 * s + g) ∧ T 3 (5 * s + g) ≤ 99) ∧
  (∀ s o, 0 ≤ s → s < T 0 1 → 0 ≤ o → o < T 0 1 → -20 ≤ T 4 (5 * s + o) ∧ T 4 (5 * s + o) ≤ 20) ∧
  (∀ t, 0 ≤ t → t < T 0 2 → (0 ≤ T 5 t ∧ T 5 t < p2 (T 0 0)) ∧ (0 ≤ T 6 t ∧ T 6 t ≤ 1) ∧ (0 ≤ T 9 t ∧ T 9 t < T 10 t ∧ T 10 t ≤ 64) ∧ (0 ≤ T 12 t ∧ T 12 t ≤ 6) ∧ (0 ≤ T 13 t ∧ T 13 t ≤ 6) ∧
    (∀ k, T 9 t ≤ k → k < T 10 t → (0 ≤ T 8 k ∧ T 8 k ≤ 1004) ∨ T 8 k = 2000 ∨ T 8 k = 3042 ∨ T 8 k = 3043 ∨ T 8 k = 3045 ∨ T 8 k = 3047) ∧
    (∀ y, 0 ≤ y → y < T 13 t → 0 ≤ T 14 (6 * t + y) ∧ T 14 (6 * t + y) < p2 (T 12 t)))
/-- a state that fits what is told -/
def NB (T N : aH) : Prop :=
  (∀ s p, 0 ≤ s → s < T 0 1 → 0 ≤ p → p ≤ T 0 2 → 0 ≤ N 0 (5 * s + p)) ∧
  (∀ s, 0 ≤ s → s < T 0 1 → sI (fun p => N 0 (5 * s + p)) (T 0 2 + 1) = T 2 (4 * s)) ∧
  (∀ t, 0 ≤ t → t < 4 → -3000 ≤ N 1 t ∧ N 1 t ≤ 3000) ∧ (∀ t, T 0 2 ≤ t → t < 4 → N 1 t = 0) ∧
  (∀ t, 0 ≤ t → t < T 0 2 → 0 ≤ N 2 t ∧ N 2 t ≤ 1) ∧ (0 ≤ N 3 0 ∧ N 3 0 ≤ 12) ∧ (0 ≤ N 3 1 ∧ N 3 1 ≤ 130000) ∧
  (-1 ≤ N 4 0 ∧ N 4 0 ≤ 3) ∧ (0 ≤ N 4 1 ∧ N 4 1 ≤ 30) ∧ (0 ≤ N 4 2 ∧ N 4 2 ≤ 30)
def wt3 (T : aH) : Int := hsf T 4 + 1
def wt2 (T : aH) : Int := (hsf T 3 + 1) * wt3 T
def wt1 (T : aH) : Int := (hsf T 2 + 1) * wt2 T
def wt0 (T : aH) : Int := (hsf T 1 + 1) * wt1 T
def crw (T : aH) : Int := (hsf T 0 + 1) * wt0 T
def nuf (T : aH) (f : Int → Int) : Int := f 0 * wt0 T + f 1 * wt1 T + f 2 * wt2 T + f 3 * wt3 T + f 4
