/-! what it is that a method is good; the way to it -/
def aGoodj (j : Nat) : Prop := aGrow F j ∧ ∀ M, aMs[j]? = some M → aOK F M j
theorem a_good {M : aM} {j : Nat} {cs : List Nat} (hj : aMs[j]? = some M) (hmok : aMok aMs M = true) (hW : ∀ w ∈ aMw M, w ∈ aTB) (hent : aEnt M = true) (hcs : (aCalls M).all (fun f => cs.contains f && (aMs[f]?).isSome) = true) (hg : ∀ f ∈ cs, aGoodj f)
    (hsim : ∀ (xs : List Int) (σ : aS) (vs : List Int) (σ' : aS), F j xs σ = some (0, vs, σ') → ∃ n, aiter F aX0 (aMn M) (aMc M) n (1, xs, σ) = some (0, vs, σ')) : aGoodj j := by
  have hin : ∀ f ∈ aCalls M, f ∈ cs ∧ (aMs[f]?).isSome = true := fun f hf => by
    have h := List.all_eq_true.mp hcs f hf
    simp only [Bool.and_eq_true, List.contains_iff_mem] at h
    exact h
  obtain ⟨h1, h2⟩ := a_method hmok hW hent (fun f hf => (hg f (hin f hf).1).1) (fun f hf => (hg f (hin f hf).1).2) (fun f hf => (hin f hf).2) hsim
  exact ⟨h2, fun M' hM' => by rw [hj] at hM'; cases hM'; exact h1⟩
