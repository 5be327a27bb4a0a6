/-! what the methods do that the machine's rows don't: text, the law's catching of what look throws -/
def wtext : List Int := [103, 111, 111, 100, 32, 102, 108, 111, 97, 116, 32, 119, 97, 110, 116, 115, 32, 108, 105, 107, 101, 32, 116, 111, 119, 110, 32, 103, 105, 118, 101, 115, 32, 118, 111, 116, 101, 115, 32, 98, 111, 117, 110, 100, 32, 97, 115, 107, 32, 103, 114, 111, 117, 110, 100, 32, 115, 116, 111, 114, 109, 32, 109, 101, 109, 98, 101, 114, 115, 32, 109, 97, 110, 121, 32, 99, 111, 115, 116, 32, 112, 97, 121, 115, 32, 111, 119, 110, 32]
def jlength (_ : Int) (σ : aS) : aR := some (0, [89], σ)
def jcharAt (_ i : Int) (σ : aS) : aR := if 0 ≤ i ∧ i < 89 then some (0, [wtext.getD i.toNat 0], σ) else none
/-- cells and slots more, that nothing names -/
def aexn (σ : aS) (a b : Nat) : aS := (σ.1, σ.2.1, σ.2.2.1 + a, σ.2.2.2 + b)
