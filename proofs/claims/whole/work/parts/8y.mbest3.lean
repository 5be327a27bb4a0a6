/-! the best of all partings, whole: the reference -/
def wfc : List (Int × List Int) := [(155, []), (157, []), (158, []), (162, []), (163, []), (130, [54, 55, 56, 58, 62, 63, 64, 75, 76, 77, 78])]
theorem FB_0 {T N : aH} {c : Int → Int} {τ : aS} (h : aget τ 130 78 = 0) : FB T N c 0 τ :=
  ⟨fun q => absurd q (Nat.lt_irrefl 0), by rw [h]; exact (if_neg (Int.lt_irrefl 0)).symm, fun q => absurd q (Int.lt_irrefl 0)⟩
theorem fb_loop {T N : aH} {c : Int → Int} {σ : aS} (hM : MI T σ) (hN : NB T N) (h3 : npT T ≤ 3000) (hS : MN T (PN T N 0) σ) (hc : ∀ j, rst155 T j → aget σ 155 j = c j) (h78 : aget σ 130 78 = 0) :
    ∃ τ, aloop 16 (aU3 c12_findBest_b15) aBig [130, npT T, 0] σ = some (157, [130], τ) ∧ Fr wfb σ τ ∧ FB T N c (npT T).toNat τ := by
  have hB := hM.2.2
  have hn1 : 1 ≤ npT T := npK_pos hB hB.2.1.1 (Int.le_refl _)
  have hal := al_I (c := 16) (B := aU3 c12_findBest_b15) (n := npT T) (i := 0) (vs := [130, npT T, 0]) (σ := σ)
    (fun k vs τ => 0 ≤ k ∧ ∃ i, vs = [130, npT T, i] ∧ nxi (npT T) k i ∧ Fr wfb σ τ ∧ MN T (PN T N k) τ ∧ (∀ j, rst155 T j → aget τ 155 j = c j) ∧ FB T N c k.toNat τ)
    (fun r => ∃ τ, r = (157, [130], τ) ∧ Fr wfb σ τ ∧ FB T N c (npT T).toNat τ) (by omega) (by omega) ⟨Int.le_refl _, 0, rfl, Or.inl rfl, Fr.rf _ _, hS, hc, FB_0 h78⟩ ?_
  · obtain ⟨r, hr, τ, rfl, h1, h2⟩ := hal
    exact ⟨τ, hr, h1, h2⟩
  · rintro k vs τ hk ⟨k0, i, rfl, hi, hF, hSt, hct, hFB⟩
    by_cases d : k < npT T
    · have ei : i = k := by rcases hi with q | q; exact q; omega
      subst ei
      obtain ⟨i', υ, h1, h2, h4, h5, h6, h7⟩ := fb_step (hM.fb hF) hN h3 k0 d hSt hct hFB
      exact Or.inl ⟨d, _, υ, h1, by omega, i', rfl, h2, hF.tr h4, h5, h6, h7⟩
    · have hke : k = npT T := by omega
      subst hke
      refine Or.inr ⟨(157, [130], τ), ?_, Nat.ne_of_beq_eq_false rfl, τ, rfl, hF, hFB⟩
      show c12_findBest_b15 130 (npT T) i τ = _
      unfold c12_findBest_b15
      exact ite_n (by unfold nxi at hi; omega) rfl
theorem firstParting_r {T N : aH} {σ : aS} (hM : MI T σ) (hS : MN T N σ) : ∃ τ, c12_firstParting 130 σ = some (0, [], τ) ∧ Fr wnow σ τ ∧ MN T (PN0 T N) τ ∧ ∀ j, rst155 T j → aget τ 155 j = aget σ 155 j := by
  have hB := hM.2.2
  have h4 := hB.2.2.1
  have h5 := hB.2.1
  have hal := al_I (c := 3) (B := aU2 c12_firstParting_b2) (n := T 0 1) (i := 0) (vs := [130, 0]) (σ := σ)
    (fun k vs τ => 0 ≤ k ∧ vs = [130, k] ∧ (Fr wnow σ τ ∧ ∀ j, rst155 T j → aget τ 155 j = aget σ 155 j) ∧ ∀ s p, 0 ≤ s → s < k → 0 ≤ p → p ≤ T 0 2 → aget τ 155 (5 * s + p) = alv T s p)
    (fun r => ∃ τ, r = (0, [], τ) ∧ (Fr wnow σ τ ∧ ∀ j, rst155 T j → aget τ 155 j = aget σ 155 j) ∧ ∀ s p, 0 ≤ s → s < T 0 1 → 0 ≤ p → p ≤ T 0 2 → aget τ 155 (5 * s + p) = alv T s p)
    (by omega) (by omega) ⟨Int.le_refl _, rfl, ⟨Fr.rf _ _, fun _ _ => rfl⟩, fun s p s0 s1 => by omega⟩ ?_
  · obtain ⟨r, hr, τ, rfl, ⟨hF, hR⟩, hz⟩ := hal
    refine ⟨τ, ?_, hF, hS.now hF (fun s p s0 s1 p0 p1 => by rw [hz s p s0 s1 p0 p1, PN0_0 _ _ p0 (by omega)]) (fun x j hx => PN0_x T N hx j), hR⟩
    unfold c12_firstParting c12_firstParting_l2
    rw [hr]; rfl
  · rintro k vs τ k1 ⟨k0, rfl, ⟨hF, hR⟩, hz⟩
    have hMt := hM.now hF
    by_cases c : k < T 0 1
    · obtain ⟨υ, h1, h2, h3, h6⟩ := c12_aloneAll_ok hMt k0 c
      refine Or.inl ⟨c, [130, k + 1], υ, ?_, by omega, rfl, ⟨hF.tr h2, fun j hj => by rw [h6 j (rst_o hj k0 c)]; exact hR j hj⟩, fun s p s0 s1 p0 p1 => ?_⟩
      · show c12_firstParting_b2 130 k τ = _
        unfold c12_firstParting_b2
        rw [hMt.2.1.1.2.1, h1, acall0_some, wq (by omega) (by omega)]
        exact ite_p c rfl
      · by_cases q : s = k
        · rw [q]; exact h3 p p0 p1
        · rw [h6 _ (by omega)]; exact hz s p s0 (by omega) p0 p1
    · have hk : k = T 0 1 := by omega
      subst hk
      refine Or.inr ⟨(0, [], τ), ?_, Nat.ne_of_beq_eq_false rfl, τ, rfl, ⟨hF, hR⟩, hz⟩
      show c12_firstParting_b2 130 (T 0 1) τ = _
      unfold c12_firstParting_b2
      rw [hMt.2.1.1.2.1]
      exact ite_n (by omega) rfl
