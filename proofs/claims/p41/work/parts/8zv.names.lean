/-! the class's half of whole's part of this name -/
def aNamed (T : aH) (w l : Int) : Int := if 0 ≤ w ∧ w < 3 then (if ff (fun i => decide (T 11 (5 * w + i) = l)) (T 0 w) < T 0 w then ff (fun i => decide (T 11 (5 * w + i) = l)) (T 0 w) else -1) else -1
theorem TB.k5 {T : aH} (hB : TB T) {w : Int} (w0 : 0 ≤ w) (w3 : w < 3) : 0 ≤ T 0 w ∧ T 0 w ≤ 5 := by
  have a := hB.1
  have b := hB.2.1
  have c := hB.2.2.1
  rcases (show w = 0 ∨ w = 1 ∨ w = 2 by omega) with e | e | e <;> rw [e] <;> omega
