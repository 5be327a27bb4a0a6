/-! the best of all partings, the loop: the reference -/
theorem fb_step {T N : aH} {c : Int → Int} {τ : aS} (hM : MI T τ) (hN : NB T N) (h3 : npT T ≤ 3000) {k : Int} (k0 : 0 ≤ k) (k1 : k < npT T) (hS : MN T (PN T N k) τ) (hc : ∀ j, rst155 T j → aget τ 155 j = c j) (hFB : FB T N c k.toNat τ) :
    ∃ i' υ, aU3 c12_findBest_b15 [130, npT T, k] τ = some (16, [130, npT T, i'], υ) ∧ nxi (npT T) (k + 1) i' ∧ Fr wfb τ υ ∧ MN T (PN T N (k + 1)) υ ∧ (∀ j, rst155 T j → aget υ 155 j = c j) ∧ FB T N c (k + 1).toNat υ := by
  have hB := hM.2.2
  have ek : ((k.toNat : Nat) : Int) = k := Int.toNat_of_nonneg k0
  have e1 : (k + 1).toNat = k.toNat + 1 := by omega
  have hNk := PN_NB hN hB k
  obtain ⟨b1, b2, b3⟩ := hFB
  obtain ⟨τ1, ht, hF1⟩ := c12_totalNow_ok hM hNk hS
  have hM1 := hM.fr hF1 (by decide +kernel) (wdj_spec (by decide +kernel))
  have hS1 := hS.fr hF1 (wdj_spec (by decide +kernel))
  have hc1 : ∀ j, rst155 T j → aget τ1 155 j = c j := fun j hj => by rw [hF1.g rfl]; exact hc j hj
  have eA : tot T (PN T N k) = svA T N k.toNat := by rw [ek]; rfl
  rw [eA] at ht
  -- behind the best
  have best : ∃ τ2, aU3 c12_findBest_b15 [130, npT T, k] τ = c12_findBest_p73 130 (npT T) k (svA T N k.toNat) τ2 ∧ Fr wbs τ1 τ2 ∧ aget τ2 130 78 = aget τ 130 78 ∧ aget τ2 130 76 = aget τ 130 76 ∧ aget τ2 130 77 = aget τ 130 77 ∧
      aget τ2 130 75 = svA T N (bsN (svA T N) (k.toNat + 1)) ∧ ∀ j, 0 ≤ j → j < 25 → aget τ2 163 j = nwf T (PN T N (bsN (svA T N) (k.toNat + 1))) c j := by
    have eb : bsN (svA T N) (k.toNat + 1) = if k.toNat = 0 ∨ svA T N (bsN (svA T N) k.toNat) < svA T N k.toNat then ((k.toNat : Nat) : Int) else bsN (svA T N) k.toNat := rfl
    have p38 : c12_findBest_p38 130 (npT T) k (svA T N k.toNat) τ1 = c12_findBest_p73 130 (npT T) k (svA T N k.toNat) (apf (aput τ1 130 75 (svA T N k.toNat)) 163 (aget (aput τ1 130 75 (svA T N k.toNat)) 155) 25) := by
      unfold c12_findBest_p38
      have hL2 : LR (aput τ1 130 75 (svA T N k.toNat)) := (((Fr.rf wbs τ1).put (x := 130) (j := 75) (svA T N k.toNat) rfl).LR (by decide +kernel) hM1.1)
      exact fb_copy hL2 _ _ _
    by_cases d : k.toNat = 0 ∨ svA T N (bsN (svA T N) k.toNat) < svA T N k.toNat
    · rw [if_pos d] at eb
      refine ⟨apf (aput τ1 130 75 (svA T N k.toNat)) 163 (aget (aput τ1 130 75 (svA T N k.toNat)) 155) 25, ?_, ((Fr.rf wbs τ1).put (x := 130) (j := 75) (svA T N k.toNat) rfl).apf (x := 163) _ 25 (fun _ => rfl), ?_, ?_, ?_, ?_, fun j j0 j1 => ?_⟩
      · rw [← p38]
        show c12_findBest_b15 130 (npT T) k τ = _
        unfold c12_findBest_b15
        refine ite_p k1 (acall1_h ht ?_)
        by_cases z : k = 0
        · exact ite_p z rfl
        · refine ite_n z (ite_p ?_ rfl)
          rw [acmp_p, hF1.g rfl, (b1 (by omega)).1]
          omega
      · rw [apf_x (by omega), ag_j (by omega), hF1.g rfl]
      · rw [apf_x (by omega), ag_j (by omega), hF1.g rfl]
      · rw [apf_x (by omega), ag_j (by omega), hF1.g rfl]
      · rw [apf_x (by omega), ag_s, eb]
      · rw [apf_i j0 j1, ag_x (by omega), eb, ek]
        exact nwf_of hB hS1 hc1
    · rw [if_neg d] at eb
      have bb := b1 (by omega)
      refine ⟨τ1, ?_, Fr.rf _ _, by rw [hF1.g rfl], by rw [hF1.g rfl], by rw [hF1.g rfl], by rw [hF1.g rfl, eb]; exact bb.1, fun j j0 j1 => by rw [hF1.g rfl, eb]; exact bb.2 j j0 j1⟩
      show c12_findBest_b15 130 (npT T) k τ = _
      unfold c12_findBest_b15
      refine ite_p k1 (acall1_h ht (ite_n (by omega) (ite_n ?_ rfl)))
      rw [acmp_p, hF1.g rfl, bb.1]
      omega
  obtain ⟨τ2, hr, hF2, g78, g76, g77, g75, g163⟩ := best
  have hM2 := hM1.fr hF2 (by decide +kernel) (wdj_spec (by decide +kernel))
  have hS2 := hS1.bs hF2
  have hc2 : ∀ j, rst155 T j → aget τ2 155 j = c j := fun j hj => by rw [hF2.g rfl]; exact hc1 j hj
  obtain ⟨τ3, hf, hF3, -⟩ := ff1 hM2 hNk hS2
  have hM3 := hM2.fr hF3 (by decide +kernel) (wdj_spec (by decide +kernel))
  have hS3 := hS2.ff hF3
  -- behind what is held
  have held : ∃ τ4, c12_findBest_p73 130 (npT T) k (svA T N k.toNat) τ2 = c12_findBest_p141 130 (npT T) k τ4 ∧ Fr [(130, [76, 77, 78])] τ3 τ4 ∧ FB T N c (k.toNat + 1) τ4 := by
    have k75 : ∀ υ, Fr [(130, [76, 77, 78])] τ3 υ → (0 < k.toNat + 1 → aget υ 130 75 = svA T N (bsN (svA T N) (k.toNat + 1)) ∧ ∀ j, 0 ≤ j → j < 25 → aget υ 163 j = nwf T (PN T N (bsN (svA T N) (k.toNat + 1))) c j) := fun υ h _ =>
      ⟨by rw [h.g rfl, hF3.g rfl]; exact g75, fun j j0 j1 => by rw [h.g rfl, hF3.g rfl]; exact g163 j j0 j1⟩
    have ehc : hcN (svH T N) (k.toNat + 1) = hcN (svH T N) k.toNat + if svH T N k.toNat = true then 1 else 0 := rfl
    have hb := hcN_bd (svH T N) k.toNat
    have hH : svH T N k.toNat = !decide (fiS T (PN T N k) < T 0 1) := by rw [ek]; rfl
    by_cases q : fiS T (PN T N k) < T 0 1
    · rw [if_pos q] at hf
      have hh : ¬ svH T N k.toNat = true := by rw [hH, decide_eq_true q]; decide
      rw [if_neg hh] at ehc
      have eg : ghN (svA T N) (svH T N) (k.toNat + 1) = ghN (svA T N) (svH T N) k.toNat := by show (if svH T N k.toNat = true then _ else _) = _; rw [if_neg hh]
      have el : lhN (svA T N) (svH T N) (k.toNat + 1) = lhN (svA T N) (svH T N) k.toNat := by show (if svH T N k.toNat = true then _ else _) = _; rw [if_neg hh]
      refine ⟨τ3, ?_, Fr.rf _ _, k75 τ3 (Fr.rf _ _), ?_, fun r => ?_⟩
      · unfold c12_findBest_p73
        exact acall1_h hf (ite_n (by omega) rfl)
      · rw [ehc, Int.add_zero, hF3.g rfl, g78]; exact b2
      · rw [ehc, Int.add_zero] at r
        rw [eg, el, hF3.g rfl, hF3.g rfl, g76, g77]; exact b3 r
    · rw [if_neg q] at hf
      have hh : svH T N k.toNat = true := by rw [hH, decide_eq_false q]; rfl
      rw [if_pos hh] at ehc
      obtain ⟨τ4, r1, r2, r3, r4, r5⟩ := fb_held (c := c) (σ := τ3) hh (npT T) (by rw [hF3.g rfl, g78]; exact b2) (fun r => by rw [hF3.g rfl, hF3.g rfl, g76, g77]; exact b3 r) k
      refine ⟨τ4, ?_, r2, k75 τ4 r2, ?_, fun _ => ⟨r4, r5⟩⟩
      · unfold c12_findBest_p73
        exact acall1_h hf (ite_p rfl r1)
      · rw [ehc, if_pos (by omega)]; exact r3
  obtain ⟨τ4, hr2, hF4, hFB4⟩ := held
  have hM4 := hM3.fr hF4 (by decide +kernel) (wdj_spec (by decide +kernel))
  have hS4 := hS3.fr hF4 (wdj_spec (by decide +kernel))
  obtain ⟨τ5, hn, hF5, hS5, hr5⟩ := c12_nextParting_r hM4 hS4 hNk
  rw [← PN_s T N k0] at hS5
  have hFB5 : FB T N c (k + 1).toNat τ5 := by
    rw [e1]
    exact ⟨fun q => ⟨by rw [hF5.g rfl]; exact (hFB4.1 q).1, fun j j0 j1 => by rw [hF5.g rfl]; exact (hFB4.1 q).2 j j0 j1⟩, by rw [hF5.g rfl]; exact hFB4.2.1, fun q => by rw [hF5.g rfl, hF5.g rfl]; exact hFB4.2.2 q⟩
  have hc5 : ∀ j, rst155 T j → aget τ5 155 j = c j := fun j hj => by rw [hr5 j hj, hF4.g rfl, hF3.g rfl]; exact hc2 j hj
  have hF : Fr wfb τ τ5 := (hF1.mono rfl).tr ((hF2.mono rfl).tr ((hF3.mono rfl).tr ((hF4.mono rfl).tr (hF5.mono rfl))))
  by_cases d : 0 ≤ lss T (PN T N k)
  · rw [if_pos d] at hn
    refine ⟨k + 1, τ5, ?_, Or.inl rfl, hF, hS5, hc5, hFB5⟩
    rw [hr, hr2]
    unfold c12_findBest_p141 c12_findBest_p150
    refine acall1_h hn (ite_n (by omega) ?_)
    rw [wq (by omega) (by omega)]
  · rw [if_neg d] at hn
    have hl : k + 1 = npT T := by
      rcases (show k < npT T - 1 ∨ k + 1 = npT T by omega) with q | q
      · exact absurd (lss_k hN hB k0 q) d
      · exact q
    refine ⟨npT T + 1, τ5, ?_, Or.inr ⟨hl, rfl⟩, hF, hS5, hc5, hFB5⟩
    rw [hr, hr2]
    unfold c12_findBest_p141 c12_findBest_p150
    refine acall1_h hn (ite_p rfl ?_)
    rw [wq (by omega) (by omega)]
