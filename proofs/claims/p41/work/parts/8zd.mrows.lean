/-! the class's half of whole's part of this name -/
/-- a row from o on tells N -/
def RW (T N : aH) (x o : Int) (σ : aS) : Prop :=
  (∀ s p, 0 ≤ s → s < T 0 1 → 0 ≤ p → p ≤ T 0 2 → aget σ x (o + (5 * s + p)) = N 0 (5 * s + p)) ∧ (∀ t, 0 ≤ t → t < 4 → aget σ x (o + 25 + t) = N 1 t) ∧ (∀ t, 0 ≤ t → t < T 0 2 → aget σ x (o + 29 + t) = N 2 t) ∧
  aget σ x (o + 33) = N 3 0 ∧ aget σ x (o + 34) = N 3 1
def UH (T : aH) (Hs : Int → aH) (n : Int) (σ : aS) : Prop := aget σ 130 83 = n ∧ (0 ≤ n ∧ n ≤ 30) ∧ ∀ i, 0 ≤ i → i < n → RW T (Hs i) 165 (35 * i) σ
def UI (T : aH) (im : Int) (IM : aH) (σ : aS) : Prop := aget σ 130 85 = im ∧ (im = 0 ∨ im = 1) ∧ (im = 1 → RW T IM 166 0 σ)
