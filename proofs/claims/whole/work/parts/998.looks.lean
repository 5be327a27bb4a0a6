theorem F_169 (x s : Int) (σ : aS) : F 169 [x, s] σ = c11_isSort x s σ := Eq.trans (rfl : F 169 [x, s] σ = aU2 c11_isSort [x, s] σ) rfl
theorem F_39 (x s w : Int) (σ : aS) : F 39 [x, s, w] σ = c4_figure x s w σ := Eq.trans (rfl : F 39 [x, s, w] σ = aU3 c4_figure [x, s, w] σ) rfl
theorem look_cases {x s w out : Int} {σ σ' : aS} {vs : List Int} (h : flook x s w out σ = some (0, vs, σ')) : ∃ (K : Nat) (v r : Int), vs = [r] ∧ aseg F aX0 3 k_cl 0 [x, s, w] σ = some (if K = 1 then (9, [x, s, w], σ) else if K = 2 then (28, [x, s, w], σ) else (0, [v], σ)) ∧
    (K = 0 ∧ r = 0 ∧ 0 < alen σ out ∧ σ' = aput σ out 0 v ∨ K = 1 ∧ r = 1 ∧ σ' = aexn σ 1 6 ∨ K = 2 ∧ r = 2 ∧ σ' = aexn σ 1 6) := by
  rw [cl_seg, F_169]
  unfold flook at h
  unfold c11_isSort
  by_cases c1 : s < 0
  · rw [if_pos c1] at h
    cases h
    exact ⟨1, 0, 1, rfl, by simp [c1, acall1], Or.inr (Or.inl ⟨rfl, rfl, rfl⟩)⟩
  rw [if_neg c1] at h
  by_cases c2 : aget σ x 7 = 0
  · rw [if_pos c2] at h; cases h
  rw [if_neg c2] at h
  by_cases c3 : aget σ (aget σ x 7) 0 = 0
  · rw [if_pos c3] at h; cases h
  rw [if_neg c3] at h
  by_cases c4 : (0 : Int) ≤ 1 ∧ 1 < alen σ (aget σ (aget σ x 7) 0)
  rotate_left
  · rw [if_neg c4] at h; cases h
  rw [if_pos c4] at h
  by_cases c5 : s < aget σ (aget σ (aget σ x 7) 0) 1
  rotate_left
  · rw [if_neg c5] at h
    cases h
    exact ⟨1, 0, 1, rfl, by simp [c1, c2, c3, c4.2, c5, acall1], Or.inr (Or.inl ⟨rfl, rfl, rfl⟩)⟩
  rw [if_pos c5] at h
  by_cases c6 : w < 0
  · rw [if_pos c6] at h
    cases h
    exact ⟨2, 0, 2, rfl, by simp [c1, c2, c3, c4.2, c5, c6, acall1], Or.inr (Or.inr ⟨rfl, rfl, rfl⟩)⟩
  rw [if_neg c6] at h
  by_cases c7 : w < 4
  rotate_left
  · rw [if_neg c7] at h
    cases h
    exact ⟨2, 0, 2, rfl, by simp [c1, c2, c3, c4.2, c5, c6, c7, acall1], Or.inr (Or.inr ⟨rfl, rfl, rfl⟩)⟩
  rw [if_pos c7] at h
  by_cases c8 : aget σ (aget σ x 7) 2 = 0
  · rw [if_pos c8] at h; cases h
  rw [if_neg c8] at h
  by_cases c9 : (0 : Int) ≤ w32 ((w32 (s * 4)) + w) ∧ w32 ((w32 (s * 4)) + w) < alen σ (aget σ (aget σ x 7) 2)
  rotate_left
  · rw [if_neg c9] at h; cases h
  rw [if_pos c9] at h
  by_cases c10 : 0 < alen σ out
  rotate_left
  · rw [if_neg c10] at h; cases h
  rw [if_pos c10] at h
  cases h
  exact ⟨0, _, 0, rfl, by simp [c1, c2, c3, c4.2, c5, c6, c7, acall1, F_39, c4_figure, c8, c9.1, c9.2], Or.inl ⟨rfl, rfl, c10, rfl⟩⟩
