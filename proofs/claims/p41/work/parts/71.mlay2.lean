/-! the class's half of whole's part of this name -/
theorem p2_small {g : Int} (h0 : 0 ≤ g) (h1 : g ≤ 5) : 1 ≤ p2 g ∧ p2 g ≤ 32 := by
  rcases (show g = 0 ∨ g = 1 ∨ g = 2 ∨ g = 3 ∨ g = 4 ∨ g = 5 by omega) with rfl | rfl | rfl | rfl | rfl | rfl <;> decide
theorem B7.of {T : aH} (hB : TB T) {f : Int → Int} (hf : BF T f) : B7 T f := ⟨hf.b7 hB, by have := (hf.sz hB).2; omega, hf.2⟩
/-- one more of a sort, even if all of it are there -/
theorem B7.ad1 {T : aH} (hB : TB T) {f : Int → Int} (hf : BF T f) {s : Int} (s0 : 0 ≤ s) (s1 : s < T 0 1) : B7 T (adc f s) := by
  have h5 := hB.2.1
  have hz := hf.sz hB
  refine ⟨fun k k0 k1 => ?_, ?_, fun k hk => ?_⟩
  · have a := hf.1 k k0 k1
    have b := hsf_bd hB k
    unfold adc; split <;> omega
  · rcases cs5 s0 (show s < 5 by omega) with rfl | rfl | rfl | rfl | rfl <;> · unfold szf at *; simp [adc]; omega
  · unfold adc; rw [if_neg (fun e => hk (by omega))]; exact hf.2 k hk
