/-! the table of methods with law.look behind it; what it is that a method is good; the way to it -/
def m_look : aM := (yL_look, cL_look, 4, (some .int), [21, 0, 0, 3], 9, 330, [], [])
def aMs2 : List aM := aMs ++ [m_look]
def aGoodj (j : Nat) : Prop := aGrow F j ∧ ∀ M, aMs2[j]? = some M → aOK F M j
theorem a_good {M : aM} {j : Nat} {cs : List Nat} (hj : aMs2[j]? = some M) (hmok : aMok aMs2 M = true) (hW : ∀ w ∈ aMw M, w ∈ aTB) (hent : aEnt M = true) (hcs : (aCalls M).all (fun f => cs.contains f) = true) (hg : ∀ f ∈ cs, aGoodj f)
    (hsim : ∀ (xs : List Int) (σ : aS) (vs : List Int) (σ' : aS), F j xs σ = some (0, vs, σ') → ∃ n, aiter F aX0 (aMn M) (aMc M) n (1, xs, σ) = some (0, vs, σ')) : aGoodj j := by
  have hin : ∀ f ∈ aCalls M, aGoodj f := fun f hf => hg f (by simpa using List.all_eq_true.mp hcs f hf)
  obtain ⟨h1, h2⟩ := a_method hmok hW hent (fun f hf => (hin f hf).1) (fun f hf => (hin f hf).2) hsim
  exact ⟨h2, fun M' hM' => by rw [hj] at hM'; cases hM'; exact h1⟩
