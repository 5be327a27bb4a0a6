theorem all_chunk {α : Type} (p : α → Bool) (n : Nat) : ∀ (k : Nat) (l : List α), l.length ≤ n * k → (∀ i, i < k → ((l.drop (i * n)).take n).all p = true) → l.all p = true := by
  intro k
  induction k with
  | zero =>
    intro l hl _
    cases l with
    | nil => rfl
    | cons a l => simp at hl
  | succ k ih =>
    intro l hl h
    have h0 := h 0 (Nat.succ_pos k)
    have h1 := ih (l.drop n) (by rw [List.length_drop, Nat.mul_succ] at *; omega) (fun i hi => by
      have := h (i + 1) (Nat.succ_lt_succ hi)
      rw [List.drop_drop]
      rw [Nat.succ_mul, Nat.add_comm] at this
      exact this)
    rw [← List.take_append_drop n l, List.all_append, h1, Bool.and_true]
    simpa using h0
theorem law_rows_0 : (((aMc m_law).drop (0 * 20)).take 20).all (fEok aMs m_law) = true := by decide +kernel
theorem law_rows_1 : (((aMc m_law).drop (1 * 20)).take 20).all (fEok aMs m_law) = true := by decide +kernel
theorem law_rows_2 : (((aMc m_law).drop (2 * 20)).take 20).all (fEok aMs m_law) = true := by decide +kernel
theorem law_rows_3 : (((aMc m_law).drop (3 * 20)).take 20).all (fEok aMs m_law) = true := by decide +kernel
theorem law_rows_4 : (((aMc m_law).drop (4 * 20)).take 20).all (fEok aMs m_law) = true := by decide +kernel
theorem law_rows_5 : (((aMc m_law).drop (5 * 20)).take 20).all (fEok aMs m_law) = true := by decide +kernel
theorem law_rows_6 : (((aMc m_law).drop (6 * 20)).take 20).all (fEok aMs m_law) = true := by decide +kernel
theorem law_rows_7 : (((aMc m_law).drop (7 * 20)).take 20).all (fEok aMs m_law) = true := by decide +kernel
theorem law_rows_8 : (((aMc m_law).drop (8 * 20)).take 20).all (fEok aMs m_law) = true := by decide +kernel
theorem law_rows_9 : (((aMc m_law).drop (9 * 20)).take 20).all (fEok aMs m_law) = true := by decide +kernel
theorem law_rows_10 : (((aMc m_law).drop (10 * 20)).take 20).all (fEok aMs m_law) = true := by decide +kernel
theorem law_rows_11 : (((aMc m_law).drop (11 * 20)).take 20).all (fEok aMs m_law) = true := by decide +kernel
theorem law_rows_12 : (((aMc m_law).drop (12 * 20)).take 20).all (fEok aMs m_law) = true := by decide +kernel
theorem law_rows_13 : (((aMc m_law).drop (13 * 20)).take 20).all (fEok aMs m_law) = true := by decide +kernel
theorem law_rows_14 : (((aMc m_law).drop (14 * 20)).take 20).all (fEok aMs m_law) = true := by decide +kernel
theorem law_rows_15 : (((aMc m_law).drop (15 * 20)).take 20).all (fEok aMs m_law) = true := by decide +kernel
theorem law_rows_16 : (((aMc m_law).drop (16 * 20)).take 20).all (fEok aMs m_law) = true := by decide +kernel
