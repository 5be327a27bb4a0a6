/-! the class's half of whole's part of this name -/
def oOut (T : aH) (t x y v : Int) : Prop :=
  if 0 ≤ t ∧ t < T 0 2 then (if T 12 t = 0 then v = -1 else if 0 ≤ x ∧ x ≤ T 12 t - 1 then (if 0 ≤ y ∧ y ≤ T 13 t - 1 then (if tkw T t x y = 0 then v = -2 else isL (T 12 t) (T 13 t) (gD (T 12 t) (T 13 t) (tkw T t) x y) v) else v = -1) else v = -1) else v = -1
