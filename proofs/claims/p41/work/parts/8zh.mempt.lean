/-! the class's half of whole's part of this name -/
def aEmpties (T N : aH) (t : Int) : Int := if 0 ≤ t ∧ t < T 0 2 then emE T N t else -1
