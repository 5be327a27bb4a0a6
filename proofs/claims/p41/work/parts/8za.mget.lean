/-! the class's half of whole's part of this name -/
def MINL : Int := -9223372036854775808
def aTown (T N : aH) (t w : Int) : Int :=
  if 0 ≤ t ∧ t < T 0 2 then (if w = 0 then T 5 t else if w = 1 then gvn T t (ctn T N t) else if w = 2 then T 6 t else if w = 3 then N 2 t else if w = 4 then N 1 t else if w = 5 then szf (ctn T N t) else -1) else -1
def aAt (T N : aH) (s p : Int) : Int := if 0 ≤ s ∧ s < T 0 1 then (if 0 ≤ p ∧ p ≤ T 0 2 then N 0 (5 * s + p) else -1) else -1
def aWorth (T N : aH) (s p c : Int) : Int :=
  if 0 ≤ s ∧ s < T 0 1 then (if 0 ≤ p ∧ p ≤ T 0 2 then (if c = 0 then (if N 0 (5 * s + p) = 0 then MINL else wrA T N s p (ctn T N p)) else wrA T N s p (adc (ctn T N p) s)) else MINL) else MINL
def aAsked (T N : aH) (s t : Int) : Int :=
  if 0 ≤ s ∧ s < T 0 1 then (if 0 ≤ t ∧ t < T 0 2 then (if N 0 (5 * s + t) = 0 then MINL else ask T N t (ctn T N t) s) else MINL) else MINL
/-- one of a sort may go -/
def mgo (T N : aH) (s a b : Int) : Prop := ((0 ≤ s ∧ s < T 0 1) ∧ (0 ≤ a ∧ a ≤ T 0 2) ∧ (0 ≤ b ∧ b ≤ T 0 2)) ∧ a ≠ b ∧ 0 < N 0 (5 * s + a)
def mgoB (T N : aH) (s a b : Int) : Bool := decide (((0 ≤ s ∧ s < T 0 1) ∧ (0 ≤ a ∧ a ≤ T 0 2) ∧ (0 ≤ b ∧ b ≤ T 0 2)) ∧ a ≠ b ∧ 0 < N 0 (5 * s + a))
theorem mgoB_t {T N : aH} {s a b : Int} : mgoB T N s a b = true ↔ mgo T N s a b := decide_eq_true_iff
def aGain (T N : aH) (s a b : Int) : Int := if mgoB T N s a b = true then gai T N s a b else MINL
def aFirst (T N : aH) (w : Int) : Int :=
  if 0 ≤ w ∧ w ≤ 2 then (if fiS T N < T 0 1 then (if w = 0 then fiS T N else if w = 1 then fiA T N (fiS T N) else fiB T N (fiS T N) (fiA T N (fiS T N))) else -1) else -1
def aRing (T N : aH) (w : Int) : Int := if 0 ≤ w ∧ w ≤ 2 then (if w = 0 then trE T N else if w = 1 then trB T N else trP T N) else -1
def aMet (T N : aH) (t : Int) : Int := if 0 ≤ t ∧ t < T 0 2 then (if metB T N t = true then 1 else 0) else -1
theorem w5 {s j : Int} (s0 : 0 ≤ s) (s1 : s ≤ 9) (j0 : 0 ≤ j) (j1 : j ≤ 9) : w32 ((w32 (5 * s)) + j) = 5 * s + j := by
  have e : w32 (5 * s) = 5 * s := wq (by omega) (by omega)
  rw [e]; exact wq (by omega) (by omega)
