/-! the class's half of whole's part of this name -/
/-- an array's cells 0 .. n - 1 are f -/
def apf (σ : aS) (x : Int) (f : Int → Int) (n : Int) : aS := (σ.1, (fun y k => if y = x ∧ 0 ≤ k ∧ k < n then f k else σ.2.1 y k), σ.2.2)
theorem apf_g (σ : aS) (x : Int) (f : Int → Int) (n y k : Int) : aget (apf σ x f n) y k = if y = x ∧ 0 ≤ k ∧ k < n then f k else aget σ y k := rfl
theorem apf_i {σ : aS} {x n k : Int} {f : Int → Int} (h0 : 0 ≤ k) (h1 : k < n) : aget (apf σ x f n) x k = f k := by rw [apf_g, if_pos ⟨rfl, h0, h1⟩]
theorem apf_n (σ : aS) (x : Int) (f : Int → Int) (n y : Int) : alen (apf σ x f n) y = alen σ y := rfl
theorem apf_0 (σ : aS) (x : Int) (f : Int → Int) : apf σ x f 0 = σ := aS_ext rfl (fun y k => by rw [apf_g, if_neg (fun q => by omega)]) rfl
theorem apf_s {σ : aS} {x n : Int} {f : Int → Int} (h : 0 ≤ n) : aput (apf σ x f n) x n (f n) = apf σ x f (n + 1) := by
  refine aS_ext rfl (fun y k => ?_) rfl
  rw [ag_if, apf_g, apf_g]
  by_cases q : y = x
  · subst q
    by_cases e : k = n
    · subst e; rw [if_pos ⟨rfl, rfl⟩, if_pos ⟨rfl, h, by omega⟩]
    · rw [if_neg (fun z => e z.2)]
      by_cases w : 0 ≤ k ∧ k < n
      · rw [if_pos ⟨rfl, w⟩, if_pos ⟨rfl, by omega⟩]
      · rw [if_neg (fun z => w z.2), if_neg (fun z => by omega)]
  · rw [if_neg (fun z => q z.1), if_neg (fun z => q z.1), if_neg (fun z => q z.1)]
/-- the reference's text is T -/
def MT (T : aH) (σ : aS) : Prop :=
  (aget σ 130 12 = T 0 0 ∧ aget σ 130 13 = T 0 1 ∧ aget σ 130 14 = T 0 2 ∧ aget σ 130 15 = T 0 3 ∧ aget σ 130 17 = T 0 4 ∧ aget σ 130 16 = T 0 5) ∧
  (∀ g, 0 ≤ g → g < 5 → aget σ 134 g = T 1 g) ∧ (∀ j, 0 ≤ j → j < 20 → aget σ 136 j = T 2 j) ∧ (∀ j, 0 ≤ j → j < 25 → aget σ 137 j = T 3 j) ∧ (∀ j, 0 ≤ j → j < 25 → aget σ 139 j = T 4 j) ∧
  (∀ t, 0 ≤ t → t < 4 → aget σ 142 t = T 5 t ∧ aget σ 143 t = T 6 t ∧ aget σ 145 t = T 9 t ∧ aget σ 146 t = T 10 t ∧ aget σ 147 t = T 12 t ∧ (0 < T 12 t → aget σ 148 t = T 13 t)) ∧
  (∀ j, 0 ≤ j → j < 24 → aget σ 149 j = T 14 j) ∧
  (∀ k, 0 ≤ k → k < 5 → aget σ 133 k = T 11 k ∧ aget σ 135 k = T 11 (5 + k)) ∧ (∀ k, 0 ≤ k → k < 4 → aget σ 141 k = T 11 (10 + k)) ∧
  (∀ t, 0 ≤ t → t < T 0 2 → rok T (aget σ 150) (aget σ 151) (aget σ 152) t)
def MI (T : aH) (σ : aS) : Prop := LR σ ∧ MT T σ ∧ TB T
/-- the reference's state is N -/
def MN (T N : aH) (σ : aS) : Prop :=
  (∀ s p, 0 ≤ s → s < T 0 1 → 0 ≤ p → p ≤ T 0 2 → aget σ 155 (5 * s + p) = N 0 (5 * s + p)) ∧ (∀ t, 0 ≤ t → t < 4 → aget σ 156 t = N 1 t) ∧ (∀ t, 0 ≤ t → t < T 0 2 → aget σ 144 t = N 2 t) ∧
  aget σ 130 80 = N 3 0 ∧ aget σ 130 81 = N 3 1 ∧ aget σ 130 59 = N 4 0 ∧ (N 4 0 ≠ -1 → aget σ 130 60 = N 4 1 ∧ aget σ 130 61 = N 4 2)
theorem gsum_lt (T : aH) (t : Int) (f : Int → Int) : ∀ n : Nat, 0 ≤ smN (fun g => gvb T t f g * p2 g) n ∧ smN (fun g => gvb T t f g * p2 g) n < p2 n := by
  intro n
  induction n with
  | zero => exact ⟨Int.le_refl _, by show (0 : Int) < p2 0; rw [p2_0]; omega⟩
  | succ n ih =>
    have h := gvb_01 T t f n
    have hp := p2_pos (n : Int)
    have e := p2_s (k := (n : Int)) (by omega)
    unfold smN
    rw [show ((n + 1 : Nat) : Int) = (n : Int) + 1 from rfl, e]
    rcases (show gvb T t f n = 0 ∨ gvb T t f n = 1 by omega) with z | z <;> simp only [z] <;> omega
theorem gsum_lt' (T : aH) (t : Int) (f : Int → Int) {n : Int} (hn : 0 ≤ n) : 0 ≤ sI (fun g => gvb T t f g * p2 g) n ∧ sI (fun g => gvb T t f g * p2 g) n < p2 n := by
  have := gsum_lt T t f n.toNat
  rwa [Int.toNat_of_nonneg hn] at this
theorem aor_add {x k : Int} (hx : 0 ≤ x) (h : x < p2 k) (h0 : 0 ≤ k) (h1 : k ≤ 30) : aor x (ashl 1 k) = x + p2 k := by
  have hp := p2_le h0 h1
  rw [ashl_1 h0 h1, aor_N hx (by omega) (by omega) (by omega)]
  obtain ⟨n, rfl⟩ := Int.eq_ofNat_of_zero_le h0
  obtain ⟨m, rfl⟩ := Int.eq_ofNat_of_zero_le hx
  have e1 : p2 ((n : Nat) : Int) = ((2 ^ n : Nat) : Int) := by unfold p2; rw [Int.toNat_natCast]
  rw [e1] at h ⊢
  rw [Int.toNat_natCast, Int.toNat_natCast]
  have e2 := Nat.two_pow_add_eq_or_of_lt (i := n) (b := m) (by omega) 1
  rw [Nat.mul_one] at e2
  rw [Nat.or_comm, ← e2]
  omega
