/-! partings in their order: the reference -/
theorem npN_mono {T : aH} (hB : TB T) : ∀ (n : Nat) {m : Nat}, m ≤ n → (n : Int) ≤ T 0 1 → npN T m ≤ npN T n := by
  intro n
  induction n with
  | zero => intro m h _; rw [show m = 0 by omega]; exact Int.le_refl _
  | succ n ih =>
    intro m h hn
    by_cases c : m = n + 1
    · rw [c]; exact Int.le_refl _
    · have a := ih (m := m) (by omega) (by omega)
      have p := npN_pos hB n (by omega)
      have ch := (hB.2.2.2.2.2.1 n (by omega) (by omega)).1
      have b := (wy_bd (h := T 2 (4 * (n : Int))) (by omega) ch.2 hB.2.2.1.1 hB.2.2.1.2).1
      have d := Int.mul_le_mul_of_nonneg_left b (show 0 ≤ npN T n by omega)
      show npN T m ≤ npN T n * wyI (T 2 (4 * (n : Int))) (T 0 2)
      omega
theorem npK_le {T : aH} (hB : TB T) {k : Int} (k0 : 0 ≤ k) (k1 : k ≤ T 0 1) : npK T k ≤ npT T := npN_mono hB _ (by omega) (by have := hB.2.1; omega)
theorem c12_waysOf_ok {h t : Int} (h0 : 0 ≤ h) (h6 : h ≤ 6) (t0 : 0 ≤ t) (t4 : t ≤ 4) (σ : aS) : c12_waysOf h (t + 1) σ = some (0, [wyI h t], σ) := by
  have wT := wy_bd (h := h) (k := t) h0 h6 t0 t4
  have hl := al_0 (c := 6) (B := aU4 c12_waysOf_b5) (fun k => [h, t + 1, wyI h k, k + 1]) (fun _ => σ) (n := t) (r := (30, [wyI h t], σ)) (by omega) (by omega) ?_ ?_ (Nat.ne_of_beq_eq_false rfl)
  · rw [wyI_0, Int.zero_add] at hl
    unfold c12_waysOf c12_waysOf_l5
    rw [hl]
    show c12_waysOf_p29 (wyI h t) σ = _
    unfold c12_waysOf_p29
    rw [wq (by omega) (by omega)]
  · intro k k0 k1
    have wk := wy_bd (h := h) (k := k) h0 h6 k0 (by omega)
    have ws := wyI_s h k0
    have wk2 := wy_bd (h := h) (k := k + 1) h0 h6 (by omega) (by omega)
    have m2 := mul_nn (a := wyI h k) (b := h + (k + 1)) (A := 210) (B := 10) (by omega) wk.2 (by omega) (by omega)
    show c12_waysOf_b5 h (t + 1) (wyI h k) (k + 1) σ = _
    unfold c12_waysOf_b5
    rw [wq (x := h + (k + 1)) (by omega) (by omega), wQ (x := wyI h k * (h + (k + 1))) (by omega) (by omega), ← ws, wQ (by omega) (by omega), wq (by omega) (by omega)]
    exact ite_p (by omega) (ite_n (by omega) rfl)
  · show c12_waysOf_b5 h (t + 1) (wyI h t) (t + 1) σ = _
    unfold c12_waysOf_b5
    exact ite_n (by omega) rfl
theorem c12_partings_ok {T : aH} {σ : aS} (hM : MI T σ) : c12_partings 130 σ = some (0, [if npT T ≤ 3000 then npT T else -2], σ) := by
  have hL := hM.1
  have hB := hM.2.2
  have h4 := hB.2.2.1
  have h5 := hB.2.1
  have hal := al_I (c := 5) (B := aU3 c12_partings_b4) (n := T 0 1) (i := 0) (vs := [130, 1, 0]) (σ := σ)
    (fun k vs τ => 0 ≤ k ∧ τ = σ ∧ vs = [130, npK T k, k] ∧ npK T k ≤ 3000)
    (fun r => (r = (51, [npT T], σ) ∧ npT T ≤ 3000) ∨ (r = (0, [-2], σ) ∧ 3000 < npT T))
    (by omega) (by omega) ⟨Int.le_refl _, rfl, rfl, by show (1 : Int) ≤ 3000; omega⟩ ?_
  · obtain ⟨r, hr, h⟩ := hal
    unfold c12_partings c12_partings_l4
    rw [hr]
    rcases h with ⟨rfl, h⟩ | ⟨rfl, h⟩
    · rw [if_pos h]
      have := npK_pos hB hB.2.1.1 (Int.le_refl _)
      have h1 : 1 ≤ npT T := this
      show c12_partings_p50 (npT T) σ = _
      unfold c12_partings_p50
      rw [wq (by omega) (by omega)]
    · rw [if_neg (by omega)]; rfl
  · rintro k vs τ k1 ⟨k0, rfl, rfl, hk⟩
    by_cases c : k < T 0 1
    · have ch := (hB.2.2.2.2.2.1 k k0 c).1
      have e := hM.2.1.2.2.1 (4 * k) (by omega) (by omega)
      have hw := c12_waysOf_ok (h := T 2 (4 * k)) (t := T 0 2) (by omega) ch.2 h4.1 h4.2 τ
      have wb := wy_bd (h := T 2 (4 * k)) (k := T 0 2) (by omega) ch.2 h4.1 h4.2
      have p1 := npK_pos hB k0 k1
      have mm := mul_nn (a := npK T k) (b := wyI (T 2 (4 * k)) (T 0 2)) (A := 3000) (B := 210) (by omega) hk (by omega) wb.2
      have es := npK_s T k0
      have le := npK_le hB (k := k + 1) (by omega) (by omega)
      have base : ∀ r : aR, (if 3000 < npK T (k + 1) then some (0, [-2], τ) else some (5, [130, npK T (k + 1), k + 1], τ)) = r → aU3 c12_partings_b4 [130, npK T k, k] τ = r := by
        intro r h
        show c12_partings_b4 130 (npK T k) k τ = r
        unfold c12_partings_b4
        rw [hM.2.1.1.2.1, r_130_27 hL, n_136 hL, wq (x := 4 * k) (by omega) (by omega), e, hM.2.1.1.2.2.1, wq (x := T 0 2 + 1) (by omega) (by omega)]
        refine ite_p c (ite_n (by omega) (ite_p (by omega) (acall1_h hw ?_)))
        rw [wQ (by omega) (by omega), ← es, wq (by omega) (by omega)]
        simp only [acmp_p]
        exact h
      by_cases d : 3000 < npK T (k + 1)
      · exact Or.inr ⟨(0, [-2], τ), base _ (by rw [if_pos d]), Nat.ne_of_beq_eq_false rfl, Or.inr ⟨rfl, by omega⟩⟩
      · exact Or.inl ⟨c, _, _, base _ (by rw [if_neg d]), by omega, rfl, rfl, by omega⟩
    · have hk2 : k = T 0 1 := by omega
      subst hk2
      refine Or.inr ⟨(51, [npT T], τ), ?_, Nat.ne_of_beq_eq_false rfl, Or.inl ⟨rfl, hk⟩⟩
      show c12_partings_b4 130 (npK T (T 0 1)) (T 0 1) τ = _
      unfold c12_partings_b4
      rw [hM.2.1.1.2.1]
      exact ite_n (by omega) rfl
def wnow : List (Int × List Int) := [(155, [])]
theorem MI.now {T : aH} {σ τ : aS} (h : MI T σ) (hF : Fr wnow σ τ) : MI T τ := h.fr hF (by decide +kernel) (wdj_spec (by decide +kernel))
theorem MN.now {T N M : aH} {σ τ : aS} (h : MN T N σ) (hF : Fr wnow σ τ) (h0 : ∀ s p, 0 ≤ s → s < T 0 1 → 0 ≤ p → p ≤ T 0 2 → aget τ 155 (5 * s + p) = M 0 (5 * s + p)) (hx : ∀ x j : Int, x ≠ 0 → M x j = N x j) : MN T M τ := by
  refine ⟨h0, fun t a b => ?_, fun t a b => ?_, ?_, ?_, ?_, ?_⟩
  · rw [hF.g rfl, hx _ _ (by omega)]; exact h.2.1 t a b
  · rw [hF.g rfl, hx _ _ (by omega)]; exact h.2.2.1 t a b
  · rw [hF.g rfl, hx _ _ (by omega)]; exact h.2.2.2.1
  · rw [hF.g rfl, hx _ _ (by omega)]; exact h.2.2.2.2.1
  · rw [hF.g rfl, hx _ _ (by omega)]; exact h.2.2.2.2.2.1
  · rw [hF.g rfl, hF.g rfl, hx _ _ (by omega), hx _ _ (by omega), hx _ _ (by omega)]; exact h.2.2.2.2.2.2
theorem c12_aloneAll_ok {T : aH} {σ : aS} (hM : MI T σ) {s : Int} (s0 : 0 ≤ s) (s1 : s < T 0 1) :
    ∃ τ, c12_aloneAll 130 s σ = some (0, [], τ) ∧ Fr wnow σ τ ∧ (∀ p, 0 ≤ p → p ≤ T 0 2 → aget τ 155 (5 * s + p) = alv T s p) ∧ ∀ j, (j < 5 * s ∨ 5 * s + T 0 2 < j) → aget τ 155 j = aget σ 155 j := by
  have hL := hM.1
  have hB := hM.2.2
  have h4 := hB.2.2.1
  have h5 := hB.2.1
  have e := hM.2.1.2.2.1 (4 * s) (by omega) (by omega)
  have hal := al_I (c := 3) (B := aU3 c12_aloneAll_b2) (n := T 0 2) (i := 0) (vs := [130, s, 0]) (σ := σ)
    (fun k vs τ => 0 ≤ k ∧ vs = [130, s, k] ∧ Fr wnow σ τ ∧ (∀ p, 0 ≤ p → p < k → aget τ 155 (5 * s + p) = 0) ∧ ∀ j, (j < 5 * s ∨ 5 * s + T 0 2 < j) → aget τ 155 j = aget σ 155 j)
    (fun r => ∃ τ, r = (28, [130, s], τ) ∧ Fr wnow σ τ ∧ (∀ p, 0 ≤ p → p < T 0 2 → aget τ 155 (5 * s + p) = 0) ∧ ∀ j, (j < 5 * s ∨ 5 * s + T 0 2 < j) → aget τ 155 j = aget σ 155 j)
    (by omega) (by omega) ⟨Int.le_refl _, rfl, Fr.rf _ _, fun p p0 p1 => by omega, fun _ _ => rfl⟩ ?_
  · obtain ⟨r, hr, τ, rfl, hF, hz, ho⟩ := hal
    have hMt := hM.now hF
    have hLt := hMt.1
    have et := hMt.2.1.2.2.1 (4 * s) (by omega) (by omega)
    refine ⟨aput τ 155 (5 * s + T 0 2) (T 2 (4 * s)), ?_, hF.put _ rfl, fun p p0 p1 => ?_, fun j hj => ?_⟩
    · unfold c12_aloneAll c12_aloneAll_l2
      rw [hr]
      show c12_aloneAll_p27 130 s τ = _
      unfold c12_aloneAll_p27
      rw [r_130_51 hLt, r_130_27 hLt, n_136 hLt, n_155 hLt, hMt.2.1.1.2.2.1, wq (x := 4 * s) (by omega) (by omega), wq (x := 5 * s) (by omega) (by omega), wq (x := 5 * s + T 0 2) (by omega) (by omega), et]
      exact ite_n (by omega) (ite_n (by omega) (ite_p (by omega) (ite_p (by omega) rfl)))
    · unfold alv
      by_cases c : p = T 0 2
      · rw [if_pos c, c, ag_s]
      · rw [if_neg c, ag_j (by omega)]; exact hz p p0 (by omega)
    · rw [ag_j (by omega)]; exact ho j hj
  · rintro k vs τ k1 ⟨k0, rfl, hF, hz, ho⟩
    have hMt := hM.now hF
    have hLt := hMt.1
    by_cases c : k < T 0 2
    · refine Or.inl ⟨c, [130, s, k + 1], aput τ 155 (5 * s + k) 0, ?_, by omega, rfl, hF.put _ rfl, fun p p0 p1 => ?_, fun j hj => ?_⟩
      · show c12_aloneAll_b2 130 s k τ = _
        unfold c12_aloneAll_b2
        rw [hMt.2.1.1.2.2.1, r_130_51 hLt, n_155 hLt, wq (x := 5 * s) (by omega) (by omega), wq (x := 5 * s + k) (by omega) (by omega), wq (x := k + 1) (by omega) (by omega)]
        exact ite_p c (ite_n (by omega) (ite_p (by omega) rfl))
      · by_cases q : p = k
        · rw [q, ag_s]
        · rw [ag_j (by omega)]; exact hz p p0 (by omega)
      · rw [ag_j (by omega)]; exact ho j hj
    · have hk : k = T 0 2 := by omega
      subst hk
      refine Or.inr ⟨(28, [130, s], τ), ?_, Nat.ne_of_beq_eq_false rfl, τ, rfl, hF, hz, ho⟩
      show c12_aloneAll_b2 130 s (T 0 2) τ = _
      unfold c12_aloneAll_b2
      rw [hMt.2.1.1.2.2.1]
      exact ite_n (by omega) rfl
theorem c12_firstParting_ok {T N : aH} {σ : aS} (hM : MI T σ) (hS : MN T N σ) : ∃ τ, c12_firstParting 130 σ = some (0, [], τ) ∧ Fr wnow σ τ ∧ MN T (PN0 T N) τ := by
  have hB := hM.2.2
  have h4 := hB.2.2.1
  have h5 := hB.2.1
  have hal := al_I (c := 3) (B := aU2 c12_firstParting_b2) (n := T 0 1) (i := 0) (vs := [130, 0]) (σ := σ)
    (fun k vs τ => 0 ≤ k ∧ vs = [130, k] ∧ Fr wnow σ τ ∧ ∀ s p, 0 ≤ s → s < k → 0 ≤ p → p ≤ T 0 2 → aget τ 155 (5 * s + p) = alv T s p)
    (fun r => ∃ τ, r = (0, [], τ) ∧ Fr wnow σ τ ∧ ∀ s p, 0 ≤ s → s < T 0 1 → 0 ≤ p → p ≤ T 0 2 → aget τ 155 (5 * s + p) = alv T s p)
    (by omega) (by omega) ⟨Int.le_refl _, rfl, Fr.rf _ _, fun s p s0 s1 => by omega⟩ ?_
  · obtain ⟨r, hr, τ, rfl, hF, hz⟩ := hal
    refine ⟨τ, ?_, hF, hS.now hF (fun s p s0 s1 p0 p1 => by rw [hz s p s0 s1 p0 p1, PN0_0 _ _ p0 (by omega)]) (fun x j hx => PN0_x T N hx j)⟩
    unfold c12_firstParting c12_firstParting_l2
    rw [hr]; rfl
  · rintro k vs τ k1 ⟨k0, rfl, hF, hz⟩
    have hMt := hM.now hF
    by_cases c : k < T 0 1
    · obtain ⟨υ, h1, h2, h3, h6⟩ := c12_aloneAll_ok hMt k0 c
      refine Or.inl ⟨c, [130, k + 1], υ, ?_, by omega, rfl, hF.tr h2, fun s p s0 s1 p0 p1 => ?_⟩
      · show c12_firstParting_b2 130 k τ = _
        unfold c12_firstParting_b2
        rw [hMt.2.1.1.2.1, h1, acall0_some, wq (by omega) (by omega)]
        exact ite_p c rfl
      · by_cases q : s = k
        · rw [q]; exact h3 p p0 p1
        · rw [h6 _ (by omega)]; exact hz s p s0 (by omega) p0 p1
    · have hk : k = T 0 1 := by omega
      subst hk
      refine Or.inr ⟨(0, [], τ), ?_, Nat.ne_of_beq_eq_false rfl, τ, rfl, hF, hz⟩
      show c12_firstParting_b2 130 (T 0 1) τ = _
      unfold c12_firstParting_b2
      rw [hMt.2.1.1.2.1]
      exact ite_n (by omega) rfl
