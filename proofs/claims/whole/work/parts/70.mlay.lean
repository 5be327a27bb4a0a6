/-! the reference: laying a crew, what is asked, worth -/
/-- an array's cells 0 .. n - 1 are f -/
def apf (σ : aS) (x : Int) (f : Int → Int) (n : Int) : aS := (σ.1, (fun y k => if y = x ∧ 0 ≤ k ∧ k < n then f k else σ.2.1 y k), σ.2.2)
theorem apf_g (σ : aS) (x : Int) (f : Int → Int) (n y k : Int) : aget (apf σ x f n) y k = if y = x ∧ 0 ≤ k ∧ k < n then f k else aget σ y k := rfl
theorem apf_x {σ : aS} {x y n k : Int} {f : Int → Int} (h : y ≠ x) : aget (apf σ x f n) y k = aget σ y k := by rw [apf_g, if_neg (fun q => h q.1)]
theorem apf_i {σ : aS} {x n k : Int} {f : Int → Int} (h0 : 0 ≤ k) (h1 : k < n) : aget (apf σ x f n) x k = f k := by rw [apf_g, if_pos ⟨rfl, h0, h1⟩]
theorem apf_o {σ : aS} {x n k : Int} {f : Int → Int} (h : n ≤ k) : aget (apf σ x f n) x k = aget σ x k := by rw [apf_g, if_neg (fun q => by omega)]
theorem apf_n (σ : aS) (x : Int) (f : Int → Int) (n y : Int) : alen (apf σ x f n) y = alen σ y := rfl
theorem apf_0 (σ : aS) (x : Int) (f : Int → Int) : apf σ x f 0 = σ := aS_ext rfl (fun y k => by rw [apf_g, if_neg (fun q => by omega)]) rfl
theorem apf_s {σ : aS} {x n : Int} {f : Int → Int} (h : 0 ≤ n) : aput (apf σ x f n) x n (f n) = apf σ x f (n + 1) := by
  refine aS_ext rfl (fun y k => ?_) rfl
  rw [ag_if, apf_g, apf_g]
  by_cases q : y = x
  · subst q
    by_cases e : k = n
    · subst e; rw [if_pos ⟨rfl, rfl⟩, if_pos ⟨rfl, h, by omega⟩]
    · rw [if_neg (fun z => e z.2)]
      by_cases w : 0 ≤ k ∧ k < n
      · rw [if_pos ⟨rfl, w⟩, if_pos ⟨rfl, by omega⟩]
      · rw [if_neg (fun z => w z.2), if_neg (fun z => by omega)]
  · rw [if_neg (fun z => q z.1), if_neg (fun z => q z.1), if_neg (fun z => q z.1)]
theorem Fr.apf {l : List (Int × List Int)} {σ τ : aS} (h : Fr l σ τ) {x : Int} (f : Int → Int) (n : Int) (hw : ∀ k, wm l x k = true) : Fr l σ (apf τ x f n) := by
  refine ⟨h.1, h.2.1, fun y k hk => ?_⟩
  rw [apf_g, if_neg (fun q => by rw [q.1, hw] at hk; cases hk)]
  exact h.2.2 y k hk
/-- the reference's text is T -/
def MT (T : aH) (σ : aS) : Prop :=
  (aget σ 130 12 = T 0 0 ∧ aget σ 130 13 = T 0 1 ∧ aget σ 130 14 = T 0 2 ∧ aget σ 130 15 = T 0 3 ∧ aget σ 130 17 = T 0 4 ∧ aget σ 130 16 = T 0 5) ∧
  (∀ g, 0 ≤ g → g < 5 → aget σ 134 g = T 1 g) ∧ (∀ j, 0 ≤ j → j < 20 → aget σ 136 j = T 2 j) ∧ (∀ j, 0 ≤ j → j < 25 → aget σ 137 j = T 3 j) ∧ (∀ j, 0 ≤ j → j < 25 → aget σ 139 j = T 4 j) ∧
  (∀ t, 0 ≤ t → t < 4 → aget σ 142 t = T 5 t ∧ aget σ 143 t = T 6 t ∧ aget σ 145 t = T 9 t ∧ aget σ 146 t = T 10 t ∧ aget σ 147 t = T 12 t ∧ (0 < T 12 t → aget σ 148 t = T 13 t)) ∧
  (∀ j, 0 ≤ j → j < 24 → aget σ 149 j = T 14 j) ∧
  (∀ k, 0 ≤ k → k < 5 → aget σ 133 k = T 11 k ∧ aget σ 135 k = T 11 (5 + k)) ∧ (∀ k, 0 ≤ k → k < 4 → aget σ 141 k = T 11 (10 + k)) ∧
  (∀ t, 0 ≤ t → t < T 0 2 → rok T (aget σ 150) (aget σ 151) (aget σ 152) t)
def MI (T : aH) (σ : aS) : Prop := LR σ ∧ MT T σ ∧ TB T
/-- the reference's state is N -/
def MN (T N : aH) (σ : aS) : Prop :=
  (∀ s p, 0 ≤ s → s < T 0 1 → 0 ≤ p → p ≤ T 0 2 → aget σ 155 (5 * s + p) = N 0 (5 * s + p)) ∧ (∀ t, 0 ≤ t → t < 4 → aget σ 156 t = N 1 t) ∧ (∀ t, 0 ≤ t → t < T 0 2 → aget σ 144 t = N 2 t) ∧
  aget σ 130 80 = N 3 0 ∧ aget σ 130 81 = N 3 1 ∧ aget σ 130 59 = N 4 0 ∧ (N 4 0 ≠ -1 → aget σ 130 60 = N 4 1 ∧ aget σ 130 61 = N 4 2)
/-- the cells that MI speaks of -/
def mco : List (Int × List Int) := [(130, [12, 13, 14, 15, 16, 17]), (133, []), (134, []), (135, []), (136, []), (137, []), (139, []), (141, []), (142, []), (143, []), (145, []), (146, []), (147, []), (148, []), (149, []), (150, []), (151, []), (152, [])]
def mns : List (Int × List Int) := [(155, []), (156, []), (144, []), (130, [80, 81, 59, 60, 61])]
theorem rok_congr {T : aH} {a b c a' b' c' : Int → Int} {t : Int} (h1 : ∀ k, a k = a' k) (h2 : ∀ k, b k = b' k) (h3 : ∀ k, c k = c' k) (h : rok T a b c t) : rok T a' b' c' t := by
  rw [show a' = a from funext fun k => (h1 k).symm, show b' = b from funext fun k => (h2 k).symm, show c' = c from funext fun k => (h3 k).symm]; exact h
theorem MI.fr {T : aH} {l : List (Int × List Int)} {σ τ : aS} (h : MI T σ) (hF : Fr l σ τ) (hR : wR l = true) (hl : ∀ x j, wm mco x j = true → wm l x j = false) : MI T τ := by
  obtain ⟨hL, hT, hB⟩ := h
  have g : ∀ x j, wm mco x j = true → aget τ x j = aget σ x j := fun x j hx => hF.g (hl x j hx)
  refine ⟨hF.LR hR hL, ⟨⟨?_, ?_, ?_, ?_, ?_, ?_⟩, ?_, ?_, ?_, ?_, ?_, ?_, ?_, ?_, ?_⟩, hB⟩
  · rw [g 130 12 rfl]; exact hT.1.1
  · rw [g 130 13 rfl]; exact hT.1.2.1
  · rw [g 130 14 rfl]; exact hT.1.2.2.1
  · rw [g 130 15 rfl]; exact hT.1.2.2.2.1
  · rw [g 130 17 rfl]; exact hT.1.2.2.2.2.1
  · rw [g 130 16 rfl]; exact hT.1.2.2.2.2.2
  · intro k h0 h1; rw [g 134 k rfl]; exact hT.2.1 k h0 h1
  · intro k h0 h1; rw [g 136 k rfl]; exact hT.2.2.1 k h0 h1
  · intro k h0 h1; rw [g 137 k rfl]; exact hT.2.2.2.1 k h0 h1
  · intro k h0 h1; rw [g 139 k rfl]; exact hT.2.2.2.2.1 k h0 h1
  · intro k h0 h1; rw [g 142 k rfl, g 143 k rfl, g 145 k rfl, g 146 k rfl, g 147 k rfl, g 148 k rfl]; exact hT.2.2.2.2.2.1 k h0 h1
  · intro k h0 h1; rw [g 149 k rfl]; exact hT.2.2.2.2.2.2.1 k h0 h1
  · intro k h0 h1; rw [g 133 k rfl, g 135 k rfl]; exact hT.2.2.2.2.2.2.2.1 k h0 h1
  · intro k h0 h1; rw [g 141 k rfl]; exact hT.2.2.2.2.2.2.2.2.1 k h0 h1
  · intro t h0 h1
    exact rok_congr (fun k => (g 150 k rfl).symm) (fun k => (g 151 k rfl).symm) (fun k => (g 152 k rfl).symm) (hT.2.2.2.2.2.2.2.2.2 t h0 h1)
theorem MN.fr {T N : aH} {l : List (Int × List Int)} {σ τ : aS} (h : MN T N σ) (hF : Fr l σ τ) (hl : ∀ x j, wm mns x j = true → wm l x j = false) : MN T N τ := by
  have g : ∀ x j, wm mns x j = true → aget τ x j = aget σ x j := fun x j hx => hF.g (hl x j hx)
  refine ⟨?_, ?_, ?_, ?_, ?_, ?_, ?_⟩
  · intro s p a b c d; rw [g 155 _ rfl]; exact h.1 s p a b c d
  · intro t a b; rw [g 156 _ rfl]; exact h.2.1 t a b
  · intro t a b; rw [g 144 _ rfl]; exact h.2.2.1 t a b
  · rw [g 130 80 rfl]; exact h.2.2.2.1
  · rw [g 130 81 rfl]; exact h.2.2.2.2.1
  · rw [g 130 59 rfl]; exact h.2.2.2.2.2.1
  · rw [g 130 60 rfl, g 130 61 rfl]; exact h.2.2.2.2.2.2
/-- no cell is in both -/
def wdj (l l' : List (Int × List Int)) : Bool := l.all fun q => l'.all fun q' => !(q.1 == q'.1) || (!q.2.isEmpty && !q'.2.isEmpty && q.2.all fun j => !(q'.2.contains j))
theorem wdj_spec {l l' : List (Int × List Int)} (h : wdj l l' = true) : ∀ x j, wm l x j = true → wm l' x j = false := by
  intro x j hx
  cases hy : wm l' x j with
  | false => rfl
  | true =>
    unfold wm at hx hy
    rw [List.any_eq_true] at hx hy
    obtain ⟨q, hq, hq2⟩ := hx
    obtain ⟨q', hq', hq3⟩ := hy
    have h1 := List.all_eq_true.mp (List.all_eq_true.mp h q hq) q' hq'
    simp only [Bool.and_eq_true, Bool.or_eq_true, beq_iff_eq, Bool.not_eq_true', beq_eq_false_iff_ne] at hq2 hq3 h1
    rcases h1 with h1 | ⟨⟨h1, h2⟩, h3⟩
    · exact absurd (hq2.1.trans hq3.1.symm) h1
    · rcases hq2.2 with e | e
      · rw [e] at h1; cases h1
      · rcases hq3.2 with e2 | e2
        · rw [e2] at h2; cases h2
        · have h4 := List.all_eq_true.mp h3 j (List.contains_iff_mem.mp e)
          rw [e2] at h4; cases h4
def lay (T : aH) (t : Int) (f : Int → Int) (σ : aS) : aS := aput (aput (aput (apf σ 157 f 5) 130 54 (szf f)) 130 55 (gvn T t f)) 130 56 (gco T t f)
def wlay : List (Int × List Int) := [(157, []), (130, [54, 55, 56])]
theorem lay_fr (T : aH) (t : Int) (f : Int → Int) (σ : aS) : Fr wlay σ (lay T t f σ) := Fr.put (Fr.put (Fr.put (Fr.apf (Fr.rf _ _) f 5 (fun _ => rfl)) _ rfl) _ rfl) _ rfl
theorem c12_isOf_ok {x k : Int} (hx : 0 ≤ x) (hx2 : x ≤ 2147483647) (h0 : 0 ≤ k) (h1 : k ≤ 31) (σ : aS) : c12_isOf x k σ = some (0, [bI x k], σ) := by
  have h := bI_01 x k
  unfold c12_isOf
  rw [bI_shr hx hx2 h0 h1]
  by_cases e : bI x k = 1
  · rw [e]; rfl
  · rw [show bI x k = 0 by omega]; rfl
theorem szf_sI {T : aH} (hB : TB T) {f : Int → Int} (hf : ∀ s, ¬ (0 ≤ s ∧ s < T 0 1) → f s = 0) : sI f (T 0 1) = szf f := by
  have h := hB.2.1
  have e5 : szf f = sI f 5 := by rw [sI_5]; rfl
  rw [e5]
  rcases (show T 0 1 = 0 ∨ T 0 1 = 1 ∨ T 0 1 = 2 ∨ T 0 1 = 3 ∨ T 0 1 = 4 ∨ T 0 1 = 5 by omega) with e | e | e | e | e | e <;> rw [e] at hf ⊢
  · rw [sI_0, sI_5, hf 0 (by omega), hf 1 (by omega), hf 2 (by omega), hf 3 (by omega), hf 4 (by omega)]; rfl
  · rw [sI_1, sI_5, hf 1 (by omega), hf 2 (by omega), hf 3 (by omega), hf 4 (by omega)]; omega
  · rw [sI_2, sI_5, hf 2 (by omega), hf 3 (by omega), hf 4 (by omega)]; omega
  · rw [sI_3, sI_5, hf 3 (by omega), hf 4 (by omega)]; omega
  · rw [sI_4, sI_5, hf 4 (by omega)]; omega
theorem gsum_lt (T : aH) (t : Int) (f : Int → Int) : ∀ n : Nat, 0 ≤ smN (fun g => gvb T t f g * p2 g) n ∧ smN (fun g => gvb T t f g * p2 g) n < p2 n := by
  intro n
  induction n with
  | zero => exact ⟨Int.le_refl _, by show (0 : Int) < p2 0; rw [p2_0]; omega⟩
  | succ n ih =>
    have h := gvb_01 T t f n
    have hp := p2_pos (n : Int)
    have e := p2_s (k := (n : Int)) (by omega)
    unfold smN
    rw [show ((n + 1 : Nat) : Int) = (n : Int) + 1 from rfl, e]
    rcases (show gvb T t f n = 0 ∨ gvb T t f n = 1 by omega) with z | z <;> simp only [z] <;> omega
theorem gsum_lt' (T : aH) (t : Int) (f : Int → Int) {n : Int} (hn : 0 ≤ n) : 0 ≤ sI (fun g => gvb T t f g * p2 g) n ∧ sI (fun g => gvb T t f g * p2 g) n < p2 n := by
  have := gsum_lt T t f n.toNat
  rwa [Int.toNat_of_nonneg hn] at this
theorem aor_add {x k : Int} (hx : 0 ≤ x) (h : x < p2 k) (h0 : 0 ≤ k) (h1 : k ≤ 30) : aor x (ashl 1 k) = x + p2 k := by
  have hp := p2_le h0 h1
  rw [ashl_1 h0 h1, aor_N hx (by omega) (by omega) (by omega)]
  obtain ⟨n, rfl⟩ := Int.eq_ofNat_of_zero_le h0
  obtain ⟨m, rfl⟩ := Int.eq_ofNat_of_zero_le hx
  have e1 : p2 ((n : Nat) : Int) = ((2 ^ n : Nat) : Int) := by unfold p2; rw [Int.toNat_natCast]
  rw [e1] at h ⊢
  rw [Int.toNat_natCast, Int.toNat_natCast]
  have e2 := Nat.two_pow_add_eq_or_of_lt (i := n) (b := m) (by omega) 1
  rw [Nat.mul_one] at e2
  rw [Nat.or_comm, ← e2]
  omega
