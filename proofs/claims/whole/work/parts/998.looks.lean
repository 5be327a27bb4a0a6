theorem F_169 (x s : Int) (σ : aS) : F 169 [x, s] σ = c11_isSort x s σ := Eq.trans (rfl : F 169 [x, s] σ = aU2 c11_isSort [x, s] σ) rfl
theorem F_39 (x s w : Int) (σ : aS) : F 39 [x, s, w] σ = c4_figure x s w σ := Eq.trans (rfl : F 39 [x, s, w] σ = aU3 c4_figure [x, s, w] σ) rfl
/-- what a good world holds at a place of a cell -/
theorem good_at {σ : aS} (hG : aGood σ) {t : Nat} {x : Int} (hv : aGv σ.1 False (t, x)) (ht : aisR t) : ∃ n : Nat, alen σ x = (n : Int) ∧ akok t n ∧ ∀ j : Nat, j < n → aGh σ.1 (akt t j, aget σ x (j : Int)) := by
  obtain ⟨k, n, rfl, hk⟩ := aGv_ref hv ht
  obtain ⟨h1, h2⟩ := hG.1 k _ hk
  refine ⟨n, ?_, h1, h2⟩
  unfold alen
  rw [show ((k : Int) + 1).toNat = k + 1 by omega]
  dsimp only
  rw [hk]
/-- a field that is not null -/
theorem good_fld {σ : aS} (hG : aGood σ) {t j u : Nat} {x : Int} (hv : aGv σ.1 False (t, x)) (ht : aisR t) (hj : ∀ n, akok t n → j < n) (hu : akt t j = u) (h2 : u ≠ 7) (hn : aget σ x (j : Int) ≠ 0) : aGv σ.1 False (u, aget σ x (j : Int)) := by
  obtain ⟨n, -, h3, h4⟩ := good_at hG hv ht
  have h5 := h4 j (hj n h3)
  rw [hu] at h5
  rcases h5 with h | ⟨-, h⟩ | ⟨h, -⟩
  · exact h
  · exact absurd h hn
  · exact absurd h h2
theorem look_ar {x : Int} {σ : aS} (hG : aGood σ) (hv : aGv σ.1 False (21, x)) (h1 : aget σ x 7 ≠ 0) (h2 : aget σ (aget σ x 7) 2 ≠ 0) {j : Int} (h3 : 0 ≤ j) (h4 : j < alen σ (aget σ (aget σ x 7) 2)) : ar32 (aget σ (aget σ (aget σ x 7) 2) j) := by
  have k1 : ∀ (t : Nat) (n : Nat), 10 ≤ t → akok t n → n = aNf (t - 10) := by
    intro t n ht h
    rcases h with h | h | h | h
    · omega
    · omega
    · omega
    · exact h.2.2
  have e1 : aGv σ.1 False (14, aget σ x ((7 : Nat) : Int)) := good_fld hG hv (aisR_10 11) (j := 7) (fun n h => by rw [k1 21 n (by omega) h]; decide) (by decide) (by omega) h1
  have e2 : aGv σ.1 False (2, aget σ (aget σ x ((7 : Nat) : Int)) ((2 : Nat) : Int)) := good_fld hG e1 (aisR_10 4) (j := 2) (fun n h => by rw [k1 14 n (by omega) h]; decide) (by decide) (by omega) h2
  obtain ⟨n, e3, -, e4⟩ := good_at hG e2 (Or.inl rfl)
  have h4 : j < (n : Int) := by rw [← e3]; exact h4
  have h5 := e4 j.toNat (by omega)
  rw [show ((j.toNat : Nat) : Int) = j by omega] at h5
  rcases h5 with h | ⟨h, -⟩ | ⟨h, -⟩
  · exact h.1 rfl
  · have : akt 2 j.toNat = 0 := rfl
    dsimp only at h
    rw [this] at h
    unfold aisR at h
    omega
  · have : akt 2 j.toNat = 0 := rfl
    dsimp only at h
    rw [this] at h
    omega
theorem look_cases {x s w out : Int} {σ σ' : aS} {vs : List Int} (hG : aGood σ) (hv : aGv σ.1 False (21, x)) (h : flook x s w out σ = some (0, vs, σ')) : ∃ (K : Nat) (v r : Int), vs = [r] ∧ (K = 0 → ar32 v) ∧ aseg F aX0 3 k_cl 0 [x, s, w] σ = some (if K = 1 then (9, [x, s, w], σ) else if K = 2 then (28, [x, s, w], σ) else (0, [v], σ)) ∧
    (K = 0 ∧ r = 0 ∧ 0 < alen σ out ∧ σ' = aput σ out 0 v ∨ K = 1 ∧ r = 1 ∧ σ' = aexn σ 1 6 ∨ K = 2 ∧ r = 2 ∧ σ' = aexn σ 1 6) := by
  rw [cl_seg, F_169]
  unfold flook at h
  unfold c11_isSort
  by_cases c1 : s < 0
  · rw [if_pos c1] at h
    cases h
    exact ⟨1, 0, 1, rfl, fun e => absurd e (by decide), by simp [c1, acall1], Or.inr (Or.inl ⟨rfl, rfl, rfl⟩)⟩
  rw [if_neg c1] at h
  by_cases c2 : aget σ x 7 = 0
  · rw [if_pos c2] at h; cases h
  rw [if_neg c2] at h
  by_cases c3 : aget σ (aget σ x 7) 0 = 0
  · rw [if_pos c3] at h; cases h
  rw [if_neg c3] at h
  by_cases c4 : (0 : Int) ≤ 1 ∧ 1 < alen σ (aget σ (aget σ x 7) 0)
  rotate_left
  · rw [if_neg c4] at h; cases h
  rw [if_pos c4] at h
  by_cases c5 : s < aget σ (aget σ (aget σ x 7) 0) 1
  rotate_left
  · rw [if_neg c5] at h
    cases h
    exact ⟨1, 0, 1, rfl, fun e => absurd e (by decide), by simp [c1, c2, c3, c4.2, c5, acall1], Or.inr (Or.inl ⟨rfl, rfl, rfl⟩)⟩
  rw [if_pos c5] at h
  by_cases c6 : w < 0
  · rw [if_pos c6] at h
    cases h
    exact ⟨2, 0, 2, rfl, fun e => absurd e (by decide), by simp [c1, c2, c3, c4.2, c5, c6, acall1], Or.inr (Or.inr ⟨rfl, rfl, rfl⟩)⟩
  rw [if_neg c6] at h
  by_cases c7 : w < 4
  rotate_left
  · rw [if_neg c7] at h
    cases h
    exact ⟨2, 0, 2, rfl, fun e => absurd e (by decide), by simp [c1, c2, c3, c4.2, c5, c6, c7, acall1], Or.inr (Or.inr ⟨rfl, rfl, rfl⟩)⟩
  rw [if_pos c7] at h
  by_cases c8 : aget σ (aget σ x 7) 2 = 0
  · rw [if_pos c8] at h; cases h
  rw [if_neg c8] at h
  by_cases c9 : (0 : Int) ≤ w32 ((w32 (s * 4)) + w) ∧ w32 ((w32 (s * 4)) + w) < alen σ (aget σ (aget σ x 7) 2)
  rotate_left
  · rw [if_neg c9] at h; cases h
  rw [if_pos c9] at h
  by_cases c10 : 0 < alen σ out
  rotate_left
  · rw [if_neg c10] at h; cases h
  rw [if_pos c10] at h
  cases h
  exact ⟨0, _, 0, rfl, fun _ => look_ar hG hv c2 c8 c9.1 c9.2, by simp [c1, c2, c3, c4.2, c5, c6, c7, acall1, F_39, c4_figure, c8, c9.1, c9.2], Or.inl ⟨rfl, rfl, c10, rfl⟩⟩
