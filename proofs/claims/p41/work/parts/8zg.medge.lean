/-! the class's half of whole's part of this name -/
def aEdge (T N : aH) (t s : Int) : Int :=
  if 0 ≤ t ∧ t < T 0 2 then (if 0 ≤ s ∧ s < T 0 1 then (if N 0 (5 * s + t) = 0 then -1 else edE T N t s) else -1) else -1
