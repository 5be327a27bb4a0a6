/-! findBest: the reference -/
theorem c12_findBest_ok {T N : aH} {σ : aS} (hM : MI T σ) (hN : NB T N) (hS : MN T N σ) (h3 : npT T ≤ 3000) :
    ∃ τ, c12_findBest 130 (npT T) σ = some (0, [], τ) ∧ Fr wfc σ τ ∧ MN T N τ ∧ (∀ j, 0 ≤ j → j < 25 → aget τ 155 j = aget σ 155 j) ∧ FB T N (aget σ 155) (npT T).toNat τ := by
  have hB := hM.2.2
  have hk := c12_keepNow_ok hM.1
  have f1 : Fr wfc σ (apf σ 162 (aget σ 155) 25) := (Fr.rf wfc σ).apf (x := 162) _ 25 (fun _ => rfl)
  have f2 : Fr wfc σ (aput (apf σ 162 (aget σ 155) 25) 130 78 0) := f1.put _ rfl
  have hM2 : MI T (aput (apf σ 162 (aget σ 155) 25) 130 78 0) := hM.fr f2 (by decide +kernel) (by
    have h : ∀ x j, wm mco x j = true → wm wfc x j = false := wdj_spec (by decide +kernel)
    exact h)
  have hS2 : MN T N (aput (apf σ 162 (aget σ 155) 25) 130 78 0) := by
    have g : Fr [(162, []), (130, [78])] σ (aput (apf σ 162 (aget σ 155) 25) 130 78 0) := ((Fr.rf _ σ).apf (x := 162) _ 25 (fun _ => rfl)).put _ rfl
    exact hS.fr g (wdj_spec (by decide +kernel))
  obtain ⟨υ, hf, hF3, hS3, hR3⟩ := firstParting_r hM2 hS2
  have hM3 := hM2.now hF3
  have e155 : ∀ j, aget (aput (apf σ 162 (aget σ 155) 25) 130 78 0) 155 j = aget σ 155 j := fun j => by rw [ag_x (by omega), apf_x (by omega)]
  obtain ⟨φ, hl, hF4, hFB⟩ := fb_loop (c := aget σ 155) hM3 hN h3 (by rw [PN_0]; exact hS3) (fun j hj => by rw [hR3 j hj, e155]) (by rw [hF3.g rfl, ag_s])
  have hM4 := hM3.fb hF4
  have e162 : ∀ j, 0 ≤ j → j < 25 → aget φ 162 j = aget σ 155 j := fun j j0 j1 => by rw [hF4.g rfl, hF3.g rfl, ag_x (by omega), apf_i j0 j1]
  have ht := c12_takeKept_ok hM4.1
  have fA : Fr wfc σ φ := f2.tr ((hF3.mono rfl).tr (hF4.mono rfl))
  refine ⟨apf φ 155 (aget φ 162) 25, ?_, fA.apf (x := 155) _ 25 (fun _ => rfl), ?_, fun j j0 j1 => by rw [apf_i j0 j1]; exact e162 j j0 j1, ?_⟩
  · unfold c12_findBest
    rw [hk, acall0_some]
    refine ite_p (by omega) ?_
    rw [hf, acall0_some]
    unfold c12_findBest_l15
    rw [hl]
    show c12_findBest_p156 130 φ = _
    unfold c12_findBest_p156
    rw [ht, acall0_some]
  · exact kept_MN hB hS e162 (fun x j hx => fA.g (by
      have h : ∀ x j, wm [(156, []), (144, []), (130, [80, 81, 59, 60, 61])] x j = true → wm wfc x j = false := wdj_spec (by decide +kernel)
      exact h x j hx))
  · exact ⟨fun q => ⟨by rw [apf_x (by omega)]; exact (hFB.1 q).1, fun j j0 j1 => by rw [apf_x (by omega)]; exact (hFB.1 q).2 j j0 j1⟩, by rw [apf_x (by omega)]; exact hFB.2.1, fun q => by rw [apf_x (by omega), apf_x (by omega)]; exact hFB.2.2 q⟩
