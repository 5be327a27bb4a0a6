/-! the best of all partings: the reference -/
def wfb : List (Int × List Int) := [(155, []), (157, []), (158, []), (163, []), (130, [54, 55, 56, 58, 62, 63, 64, 75, 76, 77, 78])]
theorem MI.fb {T : aH} {σ τ : aS} (h : MI T σ) (hF : Fr wfb σ τ) : MI T τ := h.fr hF (by decide +kernel) (wdj_spec (by decide +kernel))
def wbs : List (Int × List Int) := [(163, []), (130, [75, 76, 77, 78])]
theorem MN.bs {T N : aH} {σ τ : aS} (h : MN T N σ) (hF : Fr wbs σ τ) : MN T N τ := h.fr hF (wdj_spec (by decide +kernel))
theorem nwf_of {T N : aH} {τ : aS} (hB : TB T) (hS : MN T N τ) {c : Int → Int} (hc : ∀ j, rst155 T j → aget τ 155 j = c j) {j : Int} : aget τ 155 j = nwf T N c j := by
  unfold nwf
  by_cases q : 0 ≤ j % 5 ∧ j % 5 ≤ T 0 2 ∧ 0 ≤ j / 5 ∧ j / 5 < T 0 1
  · rw [if_pos q]
    have := hS.1 (j / 5) (j % 5) q.2.2.1 q.2.2.2 q.1 q.2.1
    rw [show 5 * (j / 5) + j % 5 = j by omega] at this
    exact this
  · rw [if_neg q]
    refine hc j (fun u p u0 u1 p0 p1 e => q ?_)
    have h4 := hB.2.2.1
    omega
/-- the best, the most and the least held so far -/
def FB (T N : aH) (c : Int → Int) (n : Nat) (τ : aS) : Prop :=
  (0 < n → aget τ 130 75 = svA T N (bsN (svA T N) n) ∧ ∀ j, 0 ≤ j → j < 25 → aget τ 163 j = nwf T (PN T N (bsN (svA T N) n)) c j) ∧
  aget τ 130 78 = (if 0 < hcN (svH T N) n then 1 else 0) ∧ (0 < hcN (svH T N) n → aget τ 130 76 = ghN (svA T N) (svH T N) n ∧ aget τ 130 77 = lhN (svA T N) (svH T N) n)
theorem fb_copy {σ : aS} (hL : LR σ) (n i v : Int) : c12_findBest_l46 130 n i v 0 σ = c12_findBest_p73 130 n i v (apf σ 163 (aget σ 155) 25) := by
  have hl := al_0 (c := 47) (B := aU5 c12_findBest_b46) (fun k => [130, n, i, v, k]) (fun k => apf σ 163 (aget σ 155) k) (n := 25) (r := (74, [130, n, i, v], apf σ 163 (aget σ 155) 25)) (by omega) (by omega) ?_ ?_ (Nat.ne_of_beq_eq_false rfl)
  · unfold c12_findBest_l46
    simp only [apf_0] at hl
    rw [hl]; rfl
  · intro k k0 k1
    have e := apf_s (σ := σ) (x := 163) (f := aget σ 155) k0
    show c12_findBest_b46 130 n i v k (apf σ 163 (aget σ 155) k) = _
    unfold c12_findBest_b46
    rw [apf_x (y := 130) (by omega), apf_x (y := 130) (by omega), r_130_74 hL, r_130_51 hL, apf_n, apf_n, n_163 hL, n_155 hL, apf_x (y := 155) (by omega), e, wq (by omega) (by omega)]
    exact ite_p k1 (ite_n (by omega) (ite_n (by omega) (ite_p (by omega) (ite_p (by omega) rfl))))
  · show c12_findBest_b46 130 n i v 25 _ = _
    unfold c12_findBest_b46
    exact ite_n (by omega) rfl
/-- the held one's totals set down -/
theorem fb_held {T N : aH} {c : Int → Int} {k : Nat} {σ : aS} (hh : svH T N k = true) (n : Int)
    (h78 : aget σ 130 78 = (if 0 < hcN (svH T N) k then 1 else 0)) (h76 : 0 < hcN (svH T N) k → aget σ 130 76 = ghN (svA T N) (svH T N) k ∧ aget σ 130 77 = lhN (svA T N) (svH T N) k) (i : Int) :
    ∃ τ, (if aget σ 130 78 = 0 then c12_findBest_p97 130 130 n i (svA T N k) σ else (if 0 < acmp (svA T N k) (aget σ 130 76) then c12_findBest_p97 130 130 n i (svA T N k) σ else c12_findBest_p105 (aget σ 130 76) 130 130 n i (svA T N k) σ)) = c12_findBest_p141 130 n i τ ∧
      Fr [(130, [76, 77, 78])] σ τ ∧ aget τ 130 78 = 1 ∧ aget τ 130 76 = ghN (svA T N) (svH T N) (k + 1) ∧ aget τ 130 77 = lhN (svA T N) (svH T N) (k + 1) := by
  have hb := hcN_bd (svH T N) k
  have eg : ghN (svA T N) (svH T N) (k + 1) = if hcN (svH T N) k = 0 then svA T N k else if ghN (svA T N) (svH T N) k < svA T N k then svA T N k else ghN (svA T N) (svH T N) k := by show (if svH T N k = true then _ else _) = _; rw [if_pos hh]
  have el : lhN (svA T N) (svH T N) (k + 1) = if hcN (svH T N) k = 0 then svA T N k else if svA T N k < lhN (svA T N) (svH T N) k then svA T N k else lhN (svA T N) (svH T N) k := by show (if svH T N k = true then _ else _) = _; rw [if_pos hh]
  have p133 : ∀ (υ : aS) (l : Int), c12_findBest_p133 l 130 130 n i υ = c12_findBest_p141 130 n i (aput (aput υ 130 77 l) 130 78 1) := fun υ l => by
    unfold c12_findBest_p133
    exact ite_p (by omega) rfl
  have fr : ∀ g l : Int, Fr [(130, [76, 77, 78])] σ (aput (aput (aput σ 130 76 g) 130 77 l) 130 78 1) := fun g l => (((Fr.rf _ σ).put (x := 130) (j := 76) g rfl).put (x := 130) (j := 77) l rfl).put (x := 130) (j := 78) 1 rfl
  by_cases z : hcN (svH T N) k = 0
  · rw [if_pos z] at eg el
    rw [if_neg (by omega)] at h78
    refine ⟨_, ?_, fr (svA T N k) (svA T N k), ag_s _ _ _ _, by rw [ag_j (by omega), ag_j (by omega), ag_s, eg], by rw [ag_j (by omega), ag_s, el]⟩
    refine ite_p h78 ?_
    unfold c12_findBest_p97 c12_findBest_p105 c12_findBest_p125
    refine ite_p (by rw [ag_j (by omega)]; exact h78) ?_
    rw [p133]
  · rw [if_neg z] at eg el
    rw [if_pos (by omega)] at h78
    obtain ⟨g76, g77⟩ := h76 (by omega)
    have p105 : ∀ g : Int, c12_findBest_p105 g 130 130 n i (svA T N k) σ = c12_findBest_p141 130 n i (aput (aput (aput σ 130 76 g) 130 77 (lhN (svA T N) (svH T N) (k + 1))) 130 78 1) := fun g => by
      unfold c12_findBest_p105 c12_findBest_p125
      refine ite_n (by rw [ag_j (by omega), h78]; omega) ?_
      rw [ag_j (by omega), g77, el]
      simp only [acmp_n]
      by_cases q : svA T N k < lhN (svA T N) (svH T N) k
      · rw [if_pos q, if_pos q, p133]
      · rw [if_neg q, if_neg q, p133]
    refine ⟨_, ?_, fr (ghN (svA T N) (svH T N) (k + 1)) (lhN (svA T N) (svH T N) (k + 1)), ag_s _ _ _ _, by rw [ag_j (by omega), ag_j (by omega), ag_s], by rw [ag_j (by omega), ag_s]⟩
    refine ite_n (by rw [h78]; omega) ?_
    rw [g76, eg]
    simp only [acmp_p]
    unfold c12_findBest_p97
    by_cases q : ghN (svA T N) (svH T N) k < svA T N k
    · rw [if_pos q, if_pos q, p105]
    · rw [if_neg q, if_neg q, p105]
