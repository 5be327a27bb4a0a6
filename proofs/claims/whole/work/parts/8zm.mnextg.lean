/-- the next of a size by words: behind the last of those ahead of the last sort -/
def nxX (n : Int) (g : Int → Int) : Int := ff (fun k => !decide (g (n - 2 - k) = 0)) (n - 1)
def nxg (n X : Int) (g : Int → Int) : Int → Int := fun s => if s < n - 2 - X then g s else if s = n - 2 - X then g s - 1 else if s = n - 2 - X + 1 then g (n - 1) + 1 else 0
def n13 (g : Int → Int) : Int := 28561 * g 0 + 2197 * g 1 + 169 * g 2 + 13 * g 3 + g 4
def KY (n z : Int) (g g' : Int → Int) : Prop :=
  (0 ≤ g' 0 ∧ 0 ≤ g' 1 ∧ 0 ≤ g' 2 ∧ 0 ≤ g' 3 ∧ 0 ≤ g' 4) ∧ g' 0 + g' 1 + g' 2 + g' 3 + g' 4 = z ∧ ((n ≤ 1 → g' 1 = 0) ∧ (n ≤ 2 → g' 2 = 0) ∧ (n ≤ 3 → g' 3 = 0) ∧ (n ≤ 4 → g' 4 = 0)) ∧ n13 g' < n13 g ∧
  ∀ h : Int → Int, (0 ≤ h 0 ∧ 0 ≤ h 1 ∧ 0 ≤ h 2 ∧ 0 ≤ h 3 ∧ 0 ≤ h 4) → h 0 + h 1 + h 2 + h 3 + h 4 = z → (n ≤ 1 → h 1 = 0) → (n ≤ 2 → h 2 = 0) → (n ≤ 3 → h 3 = 0) → (n ≤ 4 → h 4 = 0) → LX h g → LX h g' ∨ E5 h g'
theorem KY_5 {z : Int} {g : Int → Int} (hz : z ≤ 12) (hg : 0 ≤ g 0 ∧ 0 ≤ g 1 ∧ 0 ≤ g 2 ∧ 0 ≤ g 3 ∧ 0 ≤ g 4) (hs : g 0 + g 1 + g 2 + g 3 + g 4 = z) {X : Int} (x0 : 0 ≤ X) (x1 : X < 4) (xa : g (3 - X) ≠ 0) (xn : ∀ k, 0 ≤ k → k < X → g (3 - k) = 0) : KY 5 z g (nxg 5 X g) := by
  have n0 := xn 0; have n1 := xn 1; have n2 := xn 2
  unfold KY n13 LX E5 nxg
  rcases (show X = 0 ∨ X = 1 ∨ X = 2 ∨ X = 3 by omega) with x | x | x | x <;> rw [x] at xa n0 n1 n2 ⊢ <;> simp at xa n0 n1 n2 ⊢ <;> refine ⟨by omega, by omega, by omega, fun h a b => ?_⟩ <;> omega
theorem KY_4 {z : Int} {g : Int → Int} (hz : z ≤ 12) (hg : 0 ≤ g 0 ∧ 0 ≤ g 1 ∧ 0 ≤ g 2 ∧ 0 ≤ g 3 ∧ g 4 = 0) (hs : g 0 + g 1 + g 2 + g 3 + g 4 = z) {X : Int} (x0 : 0 ≤ X) (x1 : X < 3) (xa : g (2 - X) ≠ 0) (xn : ∀ k, 0 ≤ k → k < X → g (2 - k) = 0) : KY 4 z g (nxg 4 X g) := by
  have n0 := xn 0; have n1 := xn 1
  unfold KY n13 LX E5 nxg
  rcases (show X = 0 ∨ X = 1 ∨ X = 2 by omega) with x | x | x <;> rw [x] at xa n0 n1 ⊢ <;> simp at xa n0 n1 ⊢ <;> refine ⟨by omega, by omega, by omega, fun h a b => ?_⟩ <;> omega
theorem KY_3 {z : Int} {g : Int → Int} (hz : z ≤ 12) (hg : 0 ≤ g 0 ∧ 0 ≤ g 1 ∧ 0 ≤ g 2 ∧ g 3 = 0 ∧ g 4 = 0) (hs : g 0 + g 1 + g 2 + g 3 + g 4 = z) {X : Int} (x0 : 0 ≤ X) (x1 : X < 2) (xa : g (1 - X) ≠ 0) (xn : ∀ k, 0 ≤ k → k < X → g (1 - k) = 0) : KY 3 z g (nxg 3 X g) := by
  have n0 := xn 0
  unfold KY n13 LX E5 nxg
  rcases (show X = 0 ∨ X = 1 by omega) with x | x <;> rw [x] at xa n0 ⊢ <;> simp at xa n0 ⊢ <;> refine ⟨by omega, by omega, by omega, fun h a b => ?_⟩ <;> omega
theorem KY_2 {z : Int} {g : Int → Int} (hz : z ≤ 12) (hg : 0 ≤ g 0 ∧ 0 ≤ g 1 ∧ g 2 = 0 ∧ g 3 = 0 ∧ g 4 = 0) (hs : g 0 + g 1 + g 2 + g 3 + g 4 = z) (xa : g 0 ≠ 0) : KY 2 z g (nxg 2 0 g) := by
  unfold KY n13 LX E5 nxg
  simp
  refine ⟨by omega, by omega, by omega, fun h a b => ?_⟩ <;> omega
