/-! the class's half of whole's part of this name -/
/-- the state: what is now, what can be undone and how much of it, whether there is an image, the image -/
def wma : List (Int × List Int) := [(155, []), (156, []), (144, []), (157, []), (158, []), (159, []), (160, []), (161, []), (162, []), (163, []), (164, []), (165, []), (166, []), (130, [2, 54, 55, 56, 58, 59, 60, 61, 62, 63, 64, 67, 68, 71, 72, 73, 75, 76, 77, 78, 80, 81, 82, 83, 85])]
def MSt (T : aH) (S : aH × (Int → aH) × Int × Int × aH) (σ : aS) : Prop := MI T σ ∧ MN T S.1 σ ∧ UH T S.2.1 S.2.2.1 σ ∧ UI T S.2.2.2.1 S.2.2.2.2 σ
def psS (S : aH × (Int → aH) × Int × Int × aH) (N : aH) : aH × (Int → aH) × Int × Int × aH := (N, pshH S.2.1 S.2.2.1 S.1, pshN S.2.2.1, S.2.2.2)
def AnsR (T : aH) (S : aH × (Int → aH) × Int × Int × aH) (σ : aS) (r : aR) (v : Int) : Prop := ∃ τ, r = some (0, [v], τ) ∧ Fr wma σ τ ∧ MSt T S τ
def sGo (T : aH) (S : aH × (Int → aH) × Int × Int × aH) (s a b : Int) : aH × (Int → aH) × Int × Int × aH := if mgoB T S.1 s a b = true then psS S (mvN S.1 (on1 s) a b) else S
def exB (T N : aH) (t e : Int) : Bool := decide ((0 ≤ t ∧ t < T 0 2) ∧ (-999 ≤ e ∧ e ≤ 999) ∧ N 1 t ≠ e)
theorem exB_t {T N : aH} {t e : Int} : exB T N t e = true ↔ (0 ≤ t ∧ t < T 0 2) ∧ (-999 ≤ e ∧ e ≤ 999) ∧ N 1 t ≠ e := decide_eq_true_iff
def sExtra (T : aH) (S : aH × (Int → aH) × Int × Int × aH) (t e : Int) : aH × (Int → aH) × Int × Int × aH := if exB T S.1 t e = true then psS S (stv S.1 1 t e) else S
def bdB (T N : aH) (t on : Int) : Bool := decide ((0 ≤ t ∧ t < T 0 2) ∧ N 2 t ≠ on)
theorem bdB_t {T N : aH} {t on : Int} : bdB T N t on = true ↔ (0 ≤ t ∧ t < T 0 2) ∧ N 2 t ≠ on := decide_eq_true_iff
def sBind (T : aH) (S : aH × (Int → aH) × Int × Int × aH) (t on : Int) : aH × (Int → aH) × Int × Int × aH := if bdB T S.1 t on = true then psS S (stv S.1 2 t on) else S
def goC (T N : aH) (n : Int) : Prop := (0 ≤ n ∧ n ≤ 300) ∧ n ≠ 0 ∧ fiS T N < T 0 1
def goB (T N : aH) (n : Int) : Bool := decide ((0 ≤ n ∧ n ≤ 300) ∧ n ≠ 0 ∧ fiS T N < T 0 1)
theorem goB_t {T N : aH} {n : Int} : goB T N n = true ↔ goC T N n := decide_eq_true_iff
def sGoings (T : aH) (S : aH × (Int → aH) × Int × Int × aH) (n : Int) : aH × (Int → aH) × Int × Int × aH := if goB T S.1 n = true then psS S (itN T S.1 (stN T S.1 n)) else S
def aGoings (T N : aH) (n : Int) : Int := if 0 ≤ n ∧ n ≤ 300 then (if n = 0 then 0 else if fiS T N < T 0 1 then stN T N n else 0) else -1
def sMonths (T : aH) (S : aH × (Int → aH) × Int × Int × aH) (c m : Int) : aH × (Int → aH) × Int × Int × aH :=
  if c < 0 then S else if 0 ≤ m ∧ m ≤ 240 then (if 0 < m then psS S (moK T S.1 c m) else S) else S
def aMonths (N : aH) (c m : Int) : Int := if c < 0 then -1 else if 0 ≤ m ∧ m ≤ 240 then N 3 1 + m else -1
def sUndo (S : aH × (Int → aH) × Int × Int × aH) : aH × (Int → aH) × Int × Int × aH := if S.2.2.1 = 0 then S else (S.2.1 (S.2.2.1 - 1), S.2.1, S.2.2.1 - 1, S.2.2.2)
def aUndo (S : aH × (Int → aH) × Int × Int × aH) : Int := if S.2.2.1 = 0 then -1 else S.2.2.1 - 1
