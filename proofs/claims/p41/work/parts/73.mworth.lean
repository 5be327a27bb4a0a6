/-! the class's half of whole's part of this name -/
def pre (T : aH) (t : Int) (f : Int → Int) (s k : Int) : Option (List Int) := rrn T t f s (k - T 9 t).toNat (T 9 t) []
/-- bits of what is given -/
theorem gvn_bit {T : aH} (hB : TB T) (t : Int) (f : Int → Int) {g : Int} (g0 : 0 ≤ g) (g1 : g < T 0 0) : bI (gvn T t f) g = gvb T t f g ∧ 0 ≤ gvn T t f ∧ gvn T t f < 32 := by
  have hg := hB.1
  have b0 := gvb_01 T t f 0
  have b1 := gvb_01 T t f 1
  have b2 := gvb_01 T t f 2
  have b3 := gvb_01 T t f 3
  have b4 := gvb_01 T t f 4
  unfold gvn
  rcases (show T 0 0 = 0 ∨ T 0 0 = 1 ∨ T 0 0 = 2 ∨ T 0 0 = 3 ∨ T 0 0 = 4 ∨ T 0 0 = 5 by omega) with e | e | e | e | e | e <;> rw [e] at g1 ⊢
  · omega
  · rw [sI_1, p2_0]
    rcases (show g = 0 by omega) with rfl
    unfold bI; rw [p2_0]; omega
  · rw [sI_2, p2_0, p2_1]
    rcases (show g = 0 ∨ g = 1 by omega) with rfl | rfl
    · unfold bI; rw [p2_0]; omega
    · unfold bI; rw [p2_1]; omega
  · rw [sI_3, p2_0, p2_1, p2_2]
    rcases (show g = 0 ∨ g = 1 ∨ g = 2 by omega) with rfl | rfl | rfl
    · unfold bI; rw [p2_0]; omega
    · unfold bI; rw [p2_1]; omega
    · unfold bI; rw [p2_2]; omega
  · rw [sI_4, p2_0, p2_1, p2_2, p2_3]
    rcases (show g = 0 ∨ g = 1 ∨ g = 2 ∨ g = 3 by omega) with rfl | rfl | rfl | rfl
    · unfold bI; rw [p2_0]; omega
    · unfold bI; rw [p2_1]; omega
    · unfold bI; rw [p2_2]; omega
    · unfold bI; rw [p2_3]; omega
  · rw [sI_5, p2_0, p2_1, p2_2, p2_3, p2_4]
    rcases (show g = 0 ∨ g = 1 ∨ g = 2 ∨ g = 3 ∨ g = 4 by omega) with rfl | rfl | rfl | rfl | rfl
    · unfold bI; rw [p2_0]; omega
    · unfold bI; rw [p2_1]; omega
    · unfold bI; rw [p2_2]; omega
    · unfold bI; rw [p2_3]; omega
    · unfold bI; rw [p2_4]; omega
theorem gvn_32 {T : aH} (hB : TB T) (t : Int) (f : Int → Int) : 0 ≤ gvn T t f ∧ gvn T t f < 32 := by
  have h := gsum_lt' T t f hB.1.1
  have := p2_small hB.1.1 hB.1.2
  unfold gvn; omega
