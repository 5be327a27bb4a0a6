/-! the class's half of whole's part of this name -/
/-- the reference's words -/
def WDr (σ : aS) : Prop := ∀ j, 0 ≤ j → j < 89 → aget σ 132 j = rtx j
def FCr (f p : Int) (σ : aS) : Prop := aget σ 130 4 = f ∧ aget σ 130 5 = p
