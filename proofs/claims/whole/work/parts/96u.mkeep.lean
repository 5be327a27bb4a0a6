/-! the reference keeps a text -/
/-- the references as made, also ahead of the law's own row -/
def MR (σ : aS) : Prop := (σ.1 = kK ∨ σ.1 = kK.dropLast) ∧ ∀ q ∈ kR, aget σ q.1 q.2.1 = q.2.2
theorem LR.mr {σ : aS} (h : LR σ) : MR σ := ⟨Or.inl h.1, h.2⟩
theorem MR.r {σ : aS} (h : MR σ) : LR (kK, σ.2.1, σ.2.2) := ⟨rfl, h.2⟩
theorem kK_dl : ∀ k : Fin 166, kK.dropLast[k.val]? = kK[k.val]? := by decide +kernel
theorem MR.n {σ : aS} (h : MR σ) {x N : Int} (x0 : 0 ≤ x) (x1 : x ≤ 166) (e : alen (kK, σ.2.1, σ.2.2) x = N) : alen σ x = N := by
  rw [← e]
  obtain ⟨n, rfl⟩ := Int.eq_ofNat_of_zero_le x0
  unfold alen
  rw [Int.toNat_natCast]
  cases n with
  | zero => rfl
  | succ k =>
    rcases h.1 with q | q
    · rw [q]
    · rw [q]
      show (match kK.dropLast[k]? with
        | some q => (q.2 : Int)
        | none => 0) = _
      rw [kK_dl ⟨k, by omega⟩]
      rfl
theorem mr_24 {σ : aS} (h : MR σ) : aget σ 130 24 = 133 := by have e := r_130_24 h.r; exact e
theorem mn_133 {σ : aS} (h : MR σ) : alen σ 133 = 10 := h.n (by omega) (by omega) (n_133 h.r)
theorem mr_25 {σ : aS} (h : MR σ) : aget σ 130 25 = 134 := by have e := r_130_25 h.r; exact e
theorem mn_134 {σ : aS} (h : MR σ) : alen σ 134 = 10 := h.n (by omega) (by omega) (n_134 h.r)
theorem mr_26 {σ : aS} (h : MR σ) : aget σ 130 26 = 135 := by have e := r_130_26 h.r; exact e
theorem mn_135 {σ : aS} (h : MR σ) : alen σ 135 = 10 := h.n (by omega) (by omega) (n_135 h.r)
theorem mr_27 {σ : aS} (h : MR σ) : aget σ 130 27 = 136 := by have e := r_130_27 h.r; exact e
theorem mn_136 {σ : aS} (h : MR σ) : alen σ 136 = 40 := h.n (by omega) (by omega) (n_136 h.r)
theorem mr_28 {σ : aS} (h : MR σ) : aget σ 130 28 = 137 := by have e := r_130_28 h.r; exact e
theorem mn_137 {σ : aS} (h : MR σ) : alen σ 137 = 50 := h.n (by omega) (by omega) (n_137 h.r)
theorem mr_30 {σ : aS} (h : MR σ) : aget σ 130 30 = 139 := by have e := r_130_30 h.r; exact e
theorem mn_139 {σ : aS} (h : MR σ) : alen σ 139 = 50 := h.n (by omega) (by omega) (n_139 h.r)
theorem mr_32 {σ : aS} (h : MR σ) : aget σ 130 32 = 141 := by have e := r_130_32 h.r; exact e
theorem mn_141 {σ : aS} (h : MR σ) : alen σ 141 = 8 := h.n (by omega) (by omega) (n_141 h.r)
theorem mr_33 {σ : aS} (h : MR σ) : aget σ 130 33 = 142 := by have e := r_130_33 h.r; exact e
theorem mn_142 {σ : aS} (h : MR σ) : alen σ 142 = 8 := h.n (by omega) (by omega) (n_142 h.r)
theorem mr_34 {σ : aS} (h : MR σ) : aget σ 130 34 = 143 := by have e := r_130_34 h.r; exact e
theorem mn_143 {σ : aS} (h : MR σ) : alen σ 143 = 8 := h.n (by omega) (by omega) (n_143 h.r)
theorem mr_35 {σ : aS} (h : MR σ) : aget σ 130 35 = 144 := by have e := r_130_35 h.r; exact e
theorem mn_144 {σ : aS} (h : MR σ) : alen σ 144 = 8 := h.n (by omega) (by omega) (n_144 h.r)
theorem mr_36 {σ : aS} (h : MR σ) : aget σ 130 36 = 145 := by have e := r_130_36 h.r; exact e
theorem mn_145 {σ : aS} (h : MR σ) : alen σ 145 = 8 := h.n (by omega) (by omega) (n_145 h.r)
theorem mr_37 {σ : aS} (h : MR σ) : aget σ 130 37 = 146 := by have e := r_130_37 h.r; exact e
theorem mn_146 {σ : aS} (h : MR σ) : alen σ 146 = 8 := h.n (by omega) (by omega) (n_146 h.r)
theorem mr_38 {σ : aS} (h : MR σ) : aget σ 130 38 = 147 := by have e := r_130_38 h.r; exact e
theorem mn_147 {σ : aS} (h : MR σ) : alen σ 147 = 8 := h.n (by omega) (by omega) (n_147 h.r)
theorem mr_39 {σ : aS} (h : MR σ) : aget σ 130 39 = 148 := by have e := r_130_39 h.r; exact e
theorem mn_148 {σ : aS} (h : MR σ) : alen σ 148 = 8 := h.n (by omega) (by omega) (n_148 h.r)
theorem mr_40 {σ : aS} (h : MR σ) : aget σ 130 40 = 149 := by have e := r_130_40 h.r; exact e
theorem mn_149 {σ : aS} (h : MR σ) : alen σ 149 = 48 := h.n (by omega) (by omega) (n_149 h.r)
theorem mr_41 {σ : aS} (h : MR σ) : aget σ 130 41 = 150 := by have e := r_130_41 h.r; exact e
theorem mn_150 {σ : aS} (h : MR σ) : alen σ 150 = 128 := h.n (by omega) (by omega) (n_150 h.r)
theorem mr_42 {σ : aS} (h : MR σ) : aget σ 130 42 = 151 := by have e := r_130_42 h.r; exact e
theorem mn_151 {σ : aS} (h : MR σ) : alen σ 151 = 128 := h.n (by omega) (by omega) (n_151 h.r)
theorem mr_43 {σ : aS} (h : MR σ) : aget σ 130 43 = 152 := by have e := r_130_43 h.r; exact e
theorem mn_152 {σ : aS} (h : MR σ) : alen σ 152 = 128 := h.n (by omega) (by omega) (n_152 h.r)
theorem mr_51 {σ : aS} (h : MR σ) : aget σ 130 51 = 155 := by have e := r_130_51 h.r; exact e
theorem mn_155 {σ : aS} (h : MR σ) : alen σ 155 = 25 := h.n (by omega) (by omega) (n_155 h.r)
theorem mr_52 {σ : aS} (h : MR σ) : aget σ 130 52 = 156 := by have e := r_130_52 h.r; exact e
theorem mn_156 {σ : aS} (h : MR σ) : alen σ 156 = 4 := h.n (by omega) (by omega) (n_156 h.r)
theorem kR_lo : ∀ q ∈ kR, q.1 ≤ 130 := by
  have h : (kR.all fun q => decide (q.1 ≤ 130)) = true := by decide +kernel
  exact fun q hq => of_decide_eq_true (List.all_eq_true.mp h q hq)
theorem kR_130 : ∀ q ∈ kR, q.1 = 130 → q.2.1 = 0 ∨ q.2.1 = 3 ∨ (24 ≤ q.2.1 ∧ q.2.1 ≤ 45) ∨ (51 ≤ q.2.1 ∧ q.2.1 ≤ 53) ∨ q.2.1 = 57 ∨ q.2.1 = 65 ∨ q.2.1 = 66 ∨ q.2.1 = 69 ∨ q.2.1 = 70 ∨ q.2.1 = 74 ∨ q.2.1 = 79 ∨ q.2.1 = 84 ∨ q.2.1 = 86 := by
  have h : (kR.all fun q => !(decide (q.1 = 130)) || decide (q.2.1 = 0 ∨ q.2.1 = 3 ∨ (24 ≤ q.2.1 ∧ q.2.1 ≤ 45) ∨ (51 ≤ q.2.1 ∧ q.2.1 ≤ 53) ∨ q.2.1 = 57 ∨ q.2.1 = 65 ∨ q.2.1 = 66 ∨ q.2.1 = 69 ∨ q.2.1 = 70 ∨ q.2.1 = 74 ∨ q.2.1 = 79 ∨ q.2.1 = 84 ∨ q.2.1 = 86)) = true := by decide +kernel
  intro q hq e
  have h1 := List.all_eq_true.mp h q hq
  rw [decide_eq_true e] at h1
  exact of_decide_eq_true h1
/-- cells of the reference that no reference stands in -/
def whi (x j : Int) : Prop := 131 ≤ x ∨ (x = 130 ∧ ((4 ≤ j ∧ j ≤ 23) ∨ j = 1 ∨ j = 2 ∨ (46 ≤ j ∧ j ≤ 50) ∨ (80 ≤ j ∧ j ≤ 83) ∨ j = 85))
theorem LR.hi {σ τ : aS} {P : Int → Int → Prop} (h : LR σ) (hF : Fp P σ τ) (hP : ∀ x j, P x j → whi x j) : LR τ :=
  (hF.mono hP).LR (fun q hq w => by
    have h1 := kR_lo q hq
    have h2 := kR_130 q hq
    unfold whi at w
    omega) h
theorem MR.hi {σ τ : aS} {P : Int → Int → Prop} (h : MR σ) (hF : Fp P σ τ) (hP : ∀ x j, P x j → whi x j) : MR τ := by
  refine ⟨by rw [hF.1]; exact h.1, fun q hq => ?_⟩
  rw [hF.g (fun w => by
    have h1 := kR_lo q hq
    have h2 := kR_130 q hq
    have := hP _ _ w
    unfold whi at this
    omega)]
  exact h.2 q hq
theorem c12_copies_ok {σ : aS} {x n N : Int} (hN : alen σ x = N) (n0 : 0 ≤ n) (h2 : 2 * n ≤ N) (N9 : N ≤ 1000) :
    ∃ τ, c12_copies x n σ = some (0, [], τ) ∧ Fp (fun y j => y = x ∧ 0 ≤ j ∧ j < n) σ τ ∧ ∀ j, 0 ≤ j → j < n → aget τ x j = aget σ x (n + j) := by
  have hal := al_I (c := 3) (B := aU3 c12_copies_b2) (n := n) (i := 0) (vs := [x, n, 0]) (σ := σ)
    (fun k vs τ => 0 ≤ k ∧ vs = [x, n, k] ∧ Fp (fun y j => y = x ∧ 0 ≤ j ∧ j < n) σ τ ∧ ∀ j, 0 ≤ j → j < k → aget τ x j = aget σ x (n + j))
    (fun r => ∃ τ, r = (0, [], τ) ∧ Fp (fun y j => y = x ∧ 0 ≤ j ∧ j < n) σ τ ∧ ∀ j, 0 ≤ j → j < n → aget τ x j = aget σ x (n + j)) n0 (by omega) ⟨Int.le_refl _, rfl, Fp.rf _ _, fun j j0 j1 => by omega⟩ ?_
  · obtain ⟨r, hr, τ, rfl, h1, h3⟩ := hal
    refine ⟨τ, ?_, h1, h3⟩
    unfold c12_copies c12_copies_l2
    rw [hr]; rfl
  · rintro k vs τ hk ⟨k0, rfl, hF, hc⟩
    by_cases c : k < n
    · refine Or.inl ⟨c, [x, n, k + 1], aput τ x k (aget σ x (n + k)), ?_, by omega, rfl, hF.put _ ⟨rfl, k0, c⟩, fun j j0 j1 => ?_⟩
      · show c12_copies_b2 x n k τ = _
        unfold c12_copies_b2
        rw [wq (x := n + k) (by omega) (by omega), wq (x := k + 1) (by omega) (by omega), hF.n, hN, hF.g (x := x) (j := n + k) (by omega)]
        exact ite_p c (ite_p (by omega) (ite_p (by omega) rfl))
      · by_cases q : j = k
        · rw [q, ag_s]
        · rw [ag_j q]; exact hc j j0 (by omega)
    · have hkn : k = n := by omega
      subst hkn
      refine Or.inr ⟨(0, [], τ), ?_, Nat.ne_of_beq_eq_false rfl, τ, rfl, hF, hc⟩
      show c12_copies_b2 x k k τ = _
      unfold c12_copies_b2
      exact ite_n c rfl
/-- halves copied so far: d x of the row x -/
def CP (d : Int → Int) (σ τ : aS) : Prop := Fp (fun y j => 0 ≤ j ∧ j < d y) σ τ ∧ ∀ x j, 0 ≤ j → j < d x → aget τ x j = aget σ x (d x + j)
def hup (d : Int → Int) (x h : Int) : Int → Int := fun y => if y = x then h else d y
theorem CP.go {d : Int → Int} {σ τ : aS} (h : CP d σ τ) (hL : MR τ) {x n N : Int} (x1 : 131 ≤ x) (hd : d x = 0) (hN : alen τ x = N) (n0 : 0 ≤ n) (h2 : 2 * n ≤ N) (N9 : N ≤ 1000) :
    ∃ υ, c12_copies x n τ = some (0, [], υ) ∧ MR υ ∧ CP (hup d x n) σ υ := by
  obtain ⟨υ, e1, e2, e3⟩ := c12_copies_ok hN n0 h2 N9
  obtain ⟨c1, c2⟩ := h
  have ux : hup d x n x = n := if_pos rfl
  have uy : ∀ y, y ≠ x → hup d x n y = d y := fun y hy => if_neg hy
  refine ⟨υ, e1, hL.hi e2 (fun y j q => by unfold whi; omega), (c1.mono (fun y j q => ?_)).tr (e2.mono (fun y j q => ?_)), fun y j j0 j1 => ?_⟩
  · by_cases hy : y = x
    · rw [hy, hd] at q; omega
    · rw [uy y hy]; exact q
  · rw [q.1, ux]; exact q.2
  · by_cases hy : y = x
    · rw [hy, ux] at j1
      rw [hy, ux, e3 j j0 j1, c1.g (by rw [hd]; omega)]
    · rw [uy y hy] at j1 ⊢
      rw [e2.g (fun q => hy q.1)]; exact c2 y j j0 j1
theorem keep_z25 {σ : aS} (hL : MR σ) : ∃ τ, c12_keepText_l201 130 0 σ = c12_keepText_p220 130 τ ∧ Fp (fun y j => y = 155 ∧ 0 ≤ j ∧ j < 25) σ τ ∧ MR τ ∧ ∀ j, 0 ≤ j → j < 25 → aget τ 155 j = 0 := by
  have hal := al_I (c := 202) (B := aU2 c12_keepText_b201) (n := 25) (i := 0) (vs := [130, 0]) (σ := σ)
    (fun k vs τ => 0 ≤ k ∧ vs = [130, k] ∧ Fp (fun y j => y = 155 ∧ 0 ≤ j ∧ j < 25) σ τ ∧ ∀ j, 0 ≤ j → j < k → aget τ 155 j = 0)
    (fun r => ∃ τ, r = (221, [130], τ) ∧ Fp (fun y j => y = 155 ∧ 0 ≤ j ∧ j < 25) σ τ ∧ ∀ j, 0 ≤ j → j < 25 → aget τ 155 j = 0) (by omega) (by omega) ⟨Int.le_refl _, rfl, Fp.rf _ _, fun j j0 j1 => by omega⟩ ?_
  · obtain ⟨r, hr, τ, rfl, h1, h3⟩ := hal
    refine ⟨τ, ?_, h1, hL.hi h1 (fun y j q => by unfold whi; omega), h3⟩
    unfold c12_keepText_l201
    rw [hr]; rfl
  · rintro k vs τ hk ⟨k0, rfl, hF, hc⟩
    have Lt := hL.hi hF (fun y j q => by unfold whi; omega)
    by_cases c : k < 25
    · refine Or.inl ⟨c, [130, k + 1], aput τ 155 k 0, ?_, by omega, rfl, hF.put _ ⟨rfl, k0, c⟩, fun j j0 j1 => ?_⟩
      · show c12_keepText_b201 130 k τ = _
        unfold c12_keepText_b201
        rw [mr_51 Lt, mn_155 Lt, wq (x := k + 1) (by omega) (by omega)]
        exact ite_p c (ite_n (by omega) (ite_p (by omega) rfl))
      · by_cases q : j = k
        · rw [q, ag_s]
        · rw [ag_j q]; exact hc j j0 (by omega)
    · have hkn : k = 25 := by omega
      subst hkn
      refine Or.inr ⟨(221, [130], τ), ?_, Nat.ne_of_beq_eq_false rfl, τ, rfl, hF, hc⟩
      show c12_keepText_b201 130 25 τ = _
      unfold c12_keepText_b201
      exact ite_n c rfl
theorem keep_al {σ : aS} (hL : MR σ) {m t : Int} (h13 : aget σ 130 13 = m) (h14 : aget σ 130 14 = t) (m0 : 0 ≤ m) (m5 : m ≤ 5) (t0 : 0 ≤ t) (t4 : t ≤ 4) (hz : ∀ j, 0 ≤ j → j < 25 → aget σ 155 j = 0) :
    ∃ τ, c12_keepText_l222 130 0 σ = c12_keepText_p257 130 τ ∧ Fp (fun y j => y = 155 ∧ 0 ≤ j ∧ j < 25) σ τ ∧ MR τ ∧ ∀ s p, 0 ≤ s → s < m → 0 ≤ p → p ≤ t → aget τ 155 (5 * s + p) = if p = t then aget σ 136 (4 * s) else 0 := by
  have hal := al_I (c := 223) (B := aU2 c12_keepText_b222) (n := m) (i := 0) (vs := [130, 0]) (σ := σ)
    (fun k vs τ => 0 ≤ k ∧ vs = [130, k] ∧ Fp (fun y j => y = 155 ∧ 0 ≤ j ∧ j < 25) σ τ ∧ ∀ s p, 0 ≤ s → s < m → 0 ≤ p → p ≤ t → aget τ 155 (5 * s + p) = if s < k ∧ p = t then aget σ 136 (4 * s) else 0)
    (fun r => ∃ τ, r = (258, [130], τ) ∧ Fp (fun y j => y = 155 ∧ 0 ≤ j ∧ j < 25) σ τ ∧ ∀ s p, 0 ≤ s → s < m → 0 ≤ p → p ≤ t → aget τ 155 (5 * s + p) = if s < m ∧ p = t then aget σ 136 (4 * s) else 0) m0 (by omega) ⟨Int.le_refl _, rfl, Fp.rf _ _, fun s p a b c d => by rw [if_neg (by omega)]; exact hz _ (by omega) (by omega)⟩ ?_
  · obtain ⟨r, hr, τ, rfl, h1, h3⟩ := hal
    refine ⟨τ, ?_, h1, hL.hi h1 (fun y j q => by unfold whi; omega), fun s p a b c d => ?_⟩
    · unfold c12_keepText_l222
      rw [hr]; rfl
    · rw [h3 s p a b c d]
      by_cases q : p = t
      · rw [if_pos ⟨b, q⟩, if_pos q]
      · rw [if_neg (fun w => q w.2), if_neg q]
  · rintro k vs τ hk ⟨k0, rfl, hF, hc⟩
    have Lt := hL.hi hF (fun y j q => by unfold whi; omega)
    have g13 : aget τ 130 13 = m := by rw [hF.g (by omega)]; exact h13
    by_cases c : k < m
    · refine Or.inl ⟨c, [130, k + 1], aput τ 155 (5 * k + t) (aget σ 136 (4 * k)), ?_, by omega, rfl, hF.put _ ⟨rfl, by omega, by omega⟩, fun s p a b d e => ?_⟩
      · show c12_keepText_b222 130 k τ = _
        unfold c12_keepText_b222
        rw [g13, mr_51 Lt, mr_27 Lt, mn_155 Lt, mn_136 Lt, wq (x := 4 * k) (by omega) (by omega), wq (x := 5 * k) (by omega) (by omega), hF.g (x := 130) (j := 14) (by omega), h14, wq (x := 5 * k + t) (by omega) (by omega), hF.g (x := 136) (j := 4 * k) (by omega), wq (x := k + 1) (by omega) (by omega)]
        exact ite_p c (ite_n (by omega) (ite_n (by omega) (ite_p (by omega) (ite_p (by omega) rfl))))
      · by_cases q : s = k ∧ p = t
        · rw [q.1, q.2, ag_s, if_pos ⟨by omega, rfl⟩]
        · rw [ag_j (by omega), hc s p a b d e]
          by_cases q2 : s < k ∧ p = t
          · rw [if_pos q2, if_pos ⟨by omega, q2.2⟩]
          · rw [if_neg q2, if_neg (by omega)]
    · have hkn : k = m := by omega
      subst hkn
      refine Or.inr ⟨(258, [130], τ), ?_, Nat.ne_of_beq_eq_false rfl, τ, rfl, hF, hc⟩
      show c12_keepText_b222 130 k τ = _
      unfold c12_keepText_b222
      rw [g13]
      exact ite_n c rfl
theorem keep_z4 {σ : aS} (hL : MR σ) : ∃ τ, c12_keepText_l259 130 0 σ = some (0, [], τ) ∧ Fp (fun y j => (y = 156 ∧ 0 ≤ j ∧ j < 4) ∨ (y = 130 ∧ (j = 80 ∨ j = 81 ∨ j = 83 ∨ j = 85))) σ τ ∧ MR τ ∧ (∀ j, 0 ≤ j → j < 4 → aget τ 156 j = 0) ∧ aget τ 130 80 = 0 ∧ aget τ 130 81 = 0 ∧ aget τ 130 83 = 0 ∧ aget τ 130 85 = 0 := by
  have hal := al_I (c := 260) (B := aU2 c12_keepText_b259) (n := 4) (i := 0) (vs := [130, 0]) (σ := σ)
    (fun k vs τ => 0 ≤ k ∧ vs = [130, k] ∧ Fp (fun y j => y = 156 ∧ 0 ≤ j ∧ j < 4) σ τ ∧ ∀ j, 0 ≤ j → j < k → aget τ 156 j = 0)
    (fun r => ∃ τ, r = (278, [130], τ) ∧ Fp (fun y j => y = 156 ∧ 0 ≤ j ∧ j < 4) σ τ ∧ ∀ j, 0 ≤ j → j < 4 → aget τ 156 j = 0) (by omega) (by omega) ⟨Int.le_refl _, rfl, Fp.rf _ _, fun j j0 j1 => by omega⟩ ?_
  · obtain ⟨r, hr, τ, rfl, h1, h3⟩ := hal
    have fE : Fp (fun y j => (y = 156 ∧ 0 ≤ j ∧ j < 4) ∨ (y = 130 ∧ (j = 80 ∨ j = 81 ∨ j = 83 ∨ j = 85))) σ (aput (aput (aput (aput τ 130 80 0) 130 81 0) 130 83 0) 130 85 0) := ((((h1.mono (fun y j q => Or.inl q)).put _ (by omega)).put _ (by omega)).put _ (by omega)).put _ (by omega)
    refine ⟨_, ?_, fE, hL.hi fE (fun y j q => by unfold whi; omega), fun j j0 j1 => ?_, ?_, ?_, ?_, ag_s _ _ _ _⟩
    · unfold c12_keepText_l259
      rw [hr]
      show c12_keepText_p277 130 τ = _
      unfold c12_keepText_p277
      exact ite_p (Or.inl rfl) rfl
    · rw [ag_x (by omega), ag_x (by omega), ag_x (by omega), ag_x (by omega)]; exact h3 j j0 j1
    · rw [ag_j (by omega), ag_j (by omega), ag_j (by omega), ag_s]
    · rw [ag_j (by omega), ag_j (by omega), ag_s]
    · rw [ag_j (by omega), ag_s]
  · rintro k vs τ hk ⟨k0, rfl, hF, hc⟩
    have Lt := hL.hi hF (fun y j q => by unfold whi; omega)
    by_cases c : k < 4
    · refine Or.inl ⟨c, [130, k + 1], aput τ 156 k 0, ?_, by omega, rfl, hF.put _ ⟨rfl, k0, c⟩, fun j j0 j1 => ?_⟩
      · show c12_keepText_b259 130 k τ = _
        unfold c12_keepText_b259
        rw [mr_52 Lt, mn_156 Lt, wq (x := k + 1) (by omega) (by omega)]
        exact ite_p c (ite_n (by omega) (ite_p (by omega) rfl))
      · by_cases q : j = k
        · rw [q, ag_s]
        · rw [ag_j q]; exact hc j j0 (by omega)
    · have hkn : k = 4 := by omega
      subst hkn
      refine Or.inr ⟨(278, [130], τ), ?_, Nat.ne_of_beq_eq_false rfl, τ, rfl, hF, hc⟩
      show c12_keepText_b259 130 4 τ = _
      unfold c12_keepText_b259
      exact ite_n c rfl
/-- how much of each row is kept -/
def hlf : Int → Int := hup (hup (hup (hup (hup (hup (hup (hup (hup (hup (hup (hup (hup (hup (hup (hup (hup (hup (fun _ => 0) 133 5) 134 5) 135 5) 136 20) 137 25) 139 25) 141 4) 142 4) 143 4) 144 4) 145 4) 146 4) 147 4) 148 4) 149 24) 150 64) 151 64) 152 64
theorem c12_keepText_ok {σ : aS} (hL : MR σ) {m t : Int} (h19 : aget σ 130 19 = m) (h20 : aget σ 130 20 = t) (m0 : 0 ≤ m) (m5 : m ≤ 5) (t0 : 0 ≤ t) (t4 : t ≤ 4) :
    ∃ τ, c12_keepText 130 σ = some (0, [], τ) ∧ MR τ ∧ Fp (fun y j => (0 ≤ j ∧ j < hlf y) ∨ (y = 130 ∧ (12 ≤ j ∧ j ≤ 17)) ∨ y = 155 ∨ y = 156 ∨ (y = 130 ∧ (j = 80 ∨ j = 81 ∨ j = 83 ∨ j = 85))) σ τ ∧
      (aget τ 130 12 = aget σ 130 18 ∧ aget τ 130 13 = m ∧ aget τ 130 14 = t ∧ aget τ 130 15 = aget σ 130 21 ∧ aget τ 130 16 = aget σ 130 22 ∧ aget τ 130 17 = aget σ 130 23) ∧
      (∀ x j, 0 ≤ j → j < hlf x → aget τ x j = aget σ x (hlf x + j)) ∧
      (∀ s p, 0 ≤ s → s < m → 0 ≤ p → p ≤ t → aget τ 155 (5 * s + p) = if p = t then aget σ 136 (20 + 4 * s) else 0) ∧ (∀ j, 0 ≤ j → j < 4 → aget τ 156 j = 0) ∧ aget τ 130 80 = 0 ∧ aget τ 130 81 = 0 ∧ aget τ 130 83 = 0 ∧ aget τ 130 85 = 0 := by
  obtain ⟨σ0, h0⟩ : ∃ σ0, σ0 = aput (aput (aput (aput (aput (aput σ 130 12 (aget σ 130 18)) 130 13 m) 130 14 t) 130 15 (aget σ 130 21)) 130 16 (aget σ 130 22)) 130 17 (aget σ 130 23) := ⟨_, rfl⟩
  have f0 : Fp (fun y j => y = 130 ∧ (12 ≤ j ∧ j ≤ 17)) σ σ0 := by rw [h0]; exact ((((((Fp.rf _ _).put _ (by omega)).put _ (by omega)).put _ (by omega)).put _ (by omega)).put _ (by omega)).put _ (by omega)
  have L0 : MR σ0 := hL.hi f0 (fun y j q => by unfold whi; omega)
  have v : aget σ0 130 12 = aget σ 130 18 ∧ aget σ0 130 13 = m ∧ aget σ0 130 14 = t ∧ aget σ0 130 15 = aget σ 130 21 ∧ aget σ0 130 16 = aget σ 130 22 ∧ aget σ0 130 17 = aget σ 130 23 := by
    rw [h0]
    refine ⟨?_, ?_, ?_, ?_, ?_, ?_⟩
    · rw [ag_j (by omega), ag_j (by omega), ag_j (by omega), ag_j (by omega), ag_j (by omega), ag_s]
    · rw [ag_j (by omega), ag_j (by omega), ag_j (by omega), ag_j (by omega), ag_s]
    · rw [ag_j (by omega), ag_j (by omega), ag_j (by omega), ag_s]
    · rw [ag_j (by omega), ag_j (by omega), ag_s]
    · rw [ag_j (by omega), ag_s]
    · rw [ag_s]
  have c0 : CP (fun _ => 0) σ0 σ0 := ⟨Fp.rf _ _, fun x j a b => absurd (show j < 0 from b) (by omega)⟩
  obtain ⟨a1, e1, L1, c1⟩ := c0.go L0 (x := 133) (n := 5) (by omega) rfl (mn_133 L0) (by omega) (by omega) (by omega)
  obtain ⟨a2, e2, L2, c2⟩ := c1.go L1 (x := 134) (n := 5) (by omega) rfl (mn_134 L1) (by omega) (by omega) (by omega)
  obtain ⟨a3, e3, L3, c3⟩ := c2.go L2 (x := 135) (n := 5) (by omega) rfl (mn_135 L2) (by omega) (by omega) (by omega)
  obtain ⟨a4, e4, L4, c4⟩ := c3.go L3 (x := 136) (n := 20) (by omega) rfl (mn_136 L3) (by omega) (by omega) (by omega)
  obtain ⟨a5, e5, L5, c5⟩ := c4.go L4 (x := 137) (n := 25) (by omega) rfl (mn_137 L4) (by omega) (by omega) (by omega)
  obtain ⟨a6, e6, L6, c6⟩ := c5.go L5 (x := 139) (n := 25) (by omega) rfl (mn_139 L5) (by omega) (by omega) (by omega)
  obtain ⟨a7, e7, L7, c7⟩ := c6.go L6 (x := 141) (n := 4) (by omega) rfl (mn_141 L6) (by omega) (by omega) (by omega)
  obtain ⟨a8, e8, L8, c8⟩ := c7.go L7 (x := 142) (n := 4) (by omega) rfl (mn_142 L7) (by omega) (by omega) (by omega)
  obtain ⟨a9, e9, L9, c9⟩ := c8.go L8 (x := 143) (n := 4) (by omega) rfl (mn_143 L8) (by omega) (by omega) (by omega)
  obtain ⟨b0, g0, M0, d0⟩ := c9.go L9 (x := 144) (n := 4) (by omega) rfl (mn_144 L9) (by omega) (by omega) (by omega)
  obtain ⟨b1, g1, M1, d1⟩ := d0.go M0 (x := 145) (n := 4) (by omega) rfl (mn_145 M0) (by omega) (by omega) (by omega)
  obtain ⟨b2, g2, M2, d2⟩ := d1.go M1 (x := 146) (n := 4) (by omega) rfl (mn_146 M1) (by omega) (by omega) (by omega)
  obtain ⟨b3, g3, M3, d3⟩ := d2.go M2 (x := 147) (n := 4) (by omega) rfl (mn_147 M2) (by omega) (by omega) (by omega)
  obtain ⟨b4, g4, M4, d4⟩ := d3.go M3 (x := 148) (n := 4) (by omega) rfl (mn_148 M3) (by omega) (by omega) (by omega)
  obtain ⟨b5, g5, M5, d5⟩ := d4.go M4 (x := 149) (n := 24) (by omega) rfl (mn_149 M4) (by omega) (by omega) (by omega)
  obtain ⟨b6, g6, M6, d6⟩ := d5.go M5 (x := 150) (n := 64) (by omega) rfl (mn_150 M5) (by omega) (by omega) (by omega)
  obtain ⟨b7, g7, M7, d7⟩ := d6.go M6 (x := 151) (n := 64) (by omega) rfl (mn_151 M6) (by omega) (by omega) (by omega)
  obtain ⟨b8, g8, M8, d8⟩ := d7.go M7 (x := 152) (n := 64) (by omega) rfl (mn_152 M7) (by omega) (by omega) (by omega)
  have d8' : CP hlf σ0 b8 := d8
  have hl : ∀ x, hlf x ≠ 0 → (133 ≤ x ∧ x ≤ 137) ∨ x = 139 ∨ (141 ≤ x ∧ x ≤ 152) := fun x hx => by
    by_cases q : (133 ≤ x ∧ x ≤ 137) ∨ x = 139 ∨ (141 ≤ x ∧ x ≤ 152)
    · exact q
    · exfalso
      refine hx ?_
      unfold hlf hup
      simp only [if_neg (show ¬ x = 133 by omega), if_neg (show ¬ x = 134 by omega), if_neg (show ¬ x = 135 by omega), if_neg (show ¬ x = 136 by omega), if_neg (show ¬ x = 137 by omega), if_neg (show ¬ x = 139 by omega), if_neg (show ¬ x = 141 by omega), if_neg (show ¬ x = 142 by omega), if_neg (show ¬ x = 143 by omega), if_neg (show ¬ x = 144 by omega), if_neg (show ¬ x = 145 by omega), if_neg (show ¬ x = 146 by omega), if_neg (show ¬ x = 147 by omega), if_neg (show ¬ x = 148 by omega), if_neg (show ¬ x = 149 by omega), if_neg (show ¬ x = 150 by omega), if_neg (show ¬ x = 151 by omega), if_neg (show ¬ x = 152 by omega)]
  have z130 : hlf 130 = 0 := rfl
  have z155 : hlf 155 = 0 := rfl
  have z156 : hlf 156 = 0 := rfl
  have h136 : hlf 136 = 20 := rfl
  obtain ⟨s1, k1, k2, k3, k4⟩ := keep_z25 M8
  have w13 : aget s1 130 13 = m := by rw [k2.g (by omega), d8'.1.g (by rw [z130]; omega)]; exact v.2.1
  have w14 : aget s1 130 14 = t := by rw [k2.g (by omega), d8'.1.g (by rw [z130]; omega)]; exact v.2.2.1
  obtain ⟨s2, j1, j2, j3, j4⟩ := keep_al k3 w13 w14 m0 m5 t0 t4 k4
  obtain ⟨s3, i1, i2, i3, i4, i80, i81, i83, i85⟩ := keep_z4 j3
  have g3130 : ∀ j, 12 ≤ j → j ≤ 17 → aget s3 130 j = aget σ0 130 j := fun j j0 j9 => by rw [i2.g (by omega), j2.g (by omega), k2.g (by omega), d8'.1.g (by rw [z130]; omega)]
  refine ⟨s3, ?_, i3, ?_, ⟨?_, ?_, ?_, ?_, ?_, ?_⟩, fun x j q0 q1 => ?_, fun s p q0 q1 q2 q3 => ?_, i4, i80, i81, i83, i85⟩
  · unfold c12_keepText
    rw [ag_j (show (19 : Int) ≠ 12 by omega), h19, ag_j (show (20 : Int) ≠ 13 by omega), ag_j (show (20 : Int) ≠ 12 by omega), h20, ag_j (show (21 : Int) ≠ 14 by omega), ag_j (show (21 : Int) ≠ 13 by omega), ag_j (show (21 : Int) ≠ 12 by omega)]
    unfold c12_keepText_p32
    rw [ag_j (show (22 : Int) ≠ 15 by omega), ag_j (show (22 : Int) ≠ 14 by omega), ag_j (show (22 : Int) ≠ 13 by omega), ag_j (show (22 : Int) ≠ 12 by omega), ag_j (show (23 : Int) ≠ 16 by omega), ag_j (show (23 : Int) ≠ 15 by omega), ag_j (show (23 : Int) ≠ 14 by omega), ag_j (show (23 : Int) ≠ 13 by omega), ag_j (show (23 : Int) ≠ 12 by omega), ← h0]
    rw [mr_24 L0, e1, acall0_some, mr_25 L1, e2, acall0_some, mr_26 L2, e3, acall0_some, mr_27 L3, e4, acall0_some, mr_28 L4, e5, acall0_some, mr_30 L5, e6, acall0_some]
    refine ite_n (by omega) (ite_n (by omega) (ite_n (by omega) (ite_n (by omega) (ite_n (by omega) (ite_n (by omega) ?_)))))
    unfold c12_keepText_p99
    rw [mr_32 L6, e7, acall0_some, mr_33 L7, e8, acall0_some, mr_34 L8, e9, acall0_some, mr_35 L9, g0, acall0_some, mr_36 M0, g1, acall0_some, mr_37 M1, g2, acall0_some]
    refine ite_n (by omega) (ite_n (by omega) (ite_n (by omega) (ite_n (by omega) (ite_n (by omega) (ite_n (by omega) ?_)))))
    unfold c12_keepText_p147
    rw [mr_38 M2, g3, acall0_some, mr_39 M3, g4, acall0_some, mr_40 M4, g5, acall0_some, mr_41 M5, g6, acall0_some, mr_42 M6, g7, acall0_some, mr_43 M7, g8, acall0_some]
    refine ite_n (by omega) (ite_n (by omega) (ite_n (by omega) (ite_n (by omega) (ite_n (by omega) (ite_n (by omega) ?_)))))
    unfold c12_keepText_p199
    rw [k1]
    unfold c12_keepText_p220
    rw [j1]
    unfold c12_keepText_p257
    rw [i1]
  · have q1 := f0.mono (Q := fun y j => (0 ≤ j ∧ j < hlf y) ∨ (y = 130 ∧ (12 ≤ j ∧ j ≤ 17)) ∨ y = 155 ∨ y = 156 ∨ (y = 130 ∧ (j = 80 ∨ j = 81 ∨ j = 83 ∨ j = 85))) (fun y j q => Or.inr (Or.inl q))
    have q2 := d8'.1.mono (Q := fun y j => (0 ≤ j ∧ j < hlf y) ∨ (y = 130 ∧ (12 ≤ j ∧ j ≤ 17)) ∨ y = 155 ∨ y = 156 ∨ (y = 130 ∧ (j = 80 ∨ j = 81 ∨ j = 83 ∨ j = 85))) (fun y j q => Or.inl q)
    have q3 := k2.mono (Q := fun y j => (0 ≤ j ∧ j < hlf y) ∨ (y = 130 ∧ (12 ≤ j ∧ j ≤ 17)) ∨ y = 155 ∨ y = 156 ∨ (y = 130 ∧ (j = 80 ∨ j = 81 ∨ j = 83 ∨ j = 85))) (fun y j q => Or.inr (by omega))
    have q4 := j2.mono (Q := fun y j => (0 ≤ j ∧ j < hlf y) ∨ (y = 130 ∧ (12 ≤ j ∧ j ≤ 17)) ∨ y = 155 ∨ y = 156 ∨ (y = 130 ∧ (j = 80 ∨ j = 81 ∨ j = 83 ∨ j = 85))) (fun y j q => Or.inr (by omega))
    have q5 := i2.mono (Q := fun y j => (0 ≤ j ∧ j < hlf y) ∨ (y = 130 ∧ (12 ≤ j ∧ j ≤ 17)) ∨ y = 155 ∨ y = 156 ∨ (y = 130 ∧ (j = 80 ∨ j = 81 ∨ j = 83 ∨ j = 85))) (fun y j q => Or.inr (by omega))
    exact q1.tr (q2.tr (q3.tr (q4.tr q5)))
  · rw [g3130 12 (by omega) (by omega)]; exact v.1
  · rw [g3130 13 (by omega) (by omega)]; exact v.2.1
  · rw [g3130 14 (by omega) (by omega)]; exact v.2.2.1
  · rw [g3130 15 (by omega) (by omega)]; exact v.2.2.2.1
  · rw [g3130 16 (by omega) (by omega)]; exact v.2.2.2.2.1
  · rw [g3130 17 (by omega) (by omega)]; exact v.2.2.2.2.2
  · have hx := hl x (by omega)
    rw [i2.g (by omega), j2.g (by omega), k2.g (by omega), d8'.2 x j q0 q1, f0.g (by omega)]
  · rw [i2.g (by omega), j4 s p q0 q1 q2 q3]
    by_cases c : p = t
    · rw [if_pos c, if_pos c, k2.g (by omega), d8'.2 136 (4 * s) (by omega) (by rw [h136]; omega), h136, f0.g (by omega)]
    · rw [if_neg c, if_neg c]
