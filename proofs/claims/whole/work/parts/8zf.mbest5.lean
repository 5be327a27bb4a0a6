/-! best, edge, empties: the reference -/
def bstN (T N : aH) : aH := PN T N (bsN (svA T N) (npT T).toNat)
def bsB (T N : aH) : Bool := decide (npT T ≤ 3000) && !same T N (bstN T N)
def sBest (T : aH) (S : aH × (Int → aH) × Int × Int × aH) : aH × (Int → aH) × Int × Int × aH := if bsB T S.1 = true then psS S (bstN T S.1) else S
theorem MN.of155 {T N M : aH} {σ τ : aS} (hS : MN T N σ) (h0 : ∀ s p, 0 ≤ s → s < T 0 1 → 0 ≤ p → p ≤ T 0 2 → aget τ 155 (5 * s + p) = M 0 (5 * s + p)) (hx : ∀ x j : Int, x ≠ 0 → M x j = N x j)
    (g : ∀ x j, wm [(156, []), (144, []), (130, [80, 81, 59, 60, 61])] x j = true → aget τ x j = aget σ x j) : MN T M τ := by
  refine ⟨h0, fun t a b => ?_, fun t a b => ?_, ?_, ?_, ?_, ?_⟩
  · rw [g 156 _ rfl, hx _ _ (by omega)]; exact hS.2.1 t a b
  · rw [g 144 _ rfl, hx _ _ (by omega)]; exact hS.2.2.1 t a b
  · rw [g 130 80 rfl, hx _ _ (by omega)]; exact hS.2.2.2.1
  · rw [g 130 81 rfl, hx _ _ (by omega)]; exact hS.2.2.2.2.1
  · rw [g 130 59 rfl, hx _ _ (by omega)]; exact hS.2.2.2.2.2.1
  · rw [g 130 60 rfl, g 130 61 rfl, hx _ _ (by omega), hx _ _ (by omega), hx _ _ (by omega)]; exact hS.2.2.2.2.2.2
theorem best_eq {T : aH} {σ : aS} (hM : MI T σ) :
    ∃ f, aloop 28 (aU3 c12_best_b27) aBig [130, 1, 0] σ = some (65, [130, f], σ) ∧ (f = 0 ∨ f = 1) ∧ (f = 1 ↔ ∀ j, 0 ≤ j → j < 25 → aget σ 163 j = aget σ 155 j) := by
  have hL := hM.1
  have hal := al_I (c := 28) (B := aU3 c12_best_b27) (n := 25) (i := 0) (vs := [130, 1, 0]) (σ := σ)
    (fun k vs τ => 0 ≤ k ∧ τ = σ ∧ ∃ f, vs = [130, f, k] ∧ (f = 0 ∨ f = 1) ∧ (f = 1 ↔ ∀ j, 0 ≤ j → j < k → aget σ 163 j = aget σ 155 j))
    (fun r => ∃ f, r = (65, [130, f], σ) ∧ (f = 0 ∨ f = 1) ∧ (f = 1 ↔ ∀ j, 0 ≤ j → j < 25 → aget σ 163 j = aget σ 155 j)) (by omega) (by omega)
    ⟨Int.le_refl _, rfl, 1, rfl, Or.inr rfl, ⟨fun _ j j0 j1 => by omega, fun _ => rfl⟩⟩ ?_
  · obtain ⟨r, hr, f, rfl, h1, h2⟩ := hal
    exact ⟨f, hr, h1, h2⟩
  · rintro k vs τ hk ⟨k0, rfl, f, rfl, hf, hi⟩
    by_cases c : k < 25
    · have p57 : ∀ s0, c12_best_p57 s0 130 k τ = some (28, [130, s0, k + 1], τ) := fun s0 => by
        unfold c12_best_p57; rw [wq (by omega) (by omega)]
      by_cases z : f = 0
      · refine Or.inl ⟨c, [130, 0, k + 1], τ, ?_, by omega, rfl, 0, rfl, Or.inl rfl, ⟨fun q => by omega, fun q => ?_⟩⟩
        · show c12_best_b27 130 f k τ = _
          unfold c12_best_b27
          exact ite_p c (ite_p z (by unfold c12_best_p56; exact p57 0))
        · exact absurd (hi.2 (fun j j0 j1 => q j j0 (by omega))) (by omega)
      · have o : f = 1 := by omega
        have hall := hi.1 o
        by_cases e : aget τ 163 k = aget τ 155 k
        · refine Or.inl ⟨c, [130, 1, k + 1], τ, ?_, by omega, rfl, 1, rfl, Or.inr rfl, ⟨fun _ j j0 j1 => ?_, fun _ => rfl⟩⟩
          · show c12_best_b27 130 f k τ = _
            unfold c12_best_b27
            rw [r_130_74 hL, n_163 hL, r_130_51 hL, n_155 hL]
            exact ite_p c (ite_n z (ite_n (by omega) (ite_p (by omega) (ite_n (by omega) (ite_p (by omega) (ite_p e (p57 1)))))))
          · by_cases q : j = k
            · rw [q]; exact e
            · exact hall j j0 (by omega)
        · refine Or.inl ⟨c, [130, 0, k + 1], τ, ?_, by omega, rfl, 0, rfl, Or.inl rfl, ⟨fun q => by omega, fun q => absurd (q k k0 (by omega)) e⟩⟩
          show c12_best_b27 130 f k τ = _
          unfold c12_best_b27
          rw [r_130_74 hL, n_163 hL, r_130_51 hL, n_155 hL]
          exact ite_p c (ite_n z (ite_n (by omega) (ite_p (by omega) (ite_n (by omega) (ite_p (by omega) (ite_n e (by unfold c12_best_p56; exact p57 0)))))))
    · have hk5 : k = 25 := by omega
      subst hk5
      refine Or.inr ⟨(65, [130, f], τ), ?_, Nat.ne_of_beq_eq_false rfl, f, rfl, hf, hi⟩
      show c12_best_b27 130 f 25 τ = _
      unfold c12_best_b27
      exact ite_n (by omega) rfl
theorem best_cp {T : aH} {σ : aS} (hM : MI T σ) : c12_best_l76 130 0 σ = some (0, [1], apf σ 155 (aget σ 163) 25) := by
  have hL := hM.1
  have hl := al_0 (c := 77) (B := aU2 c12_best_b76) (fun k => [130, k]) (fun k => apf σ 155 (aget σ 163) k) (n := 25) (r := (0, [1], apf σ 155 (aget σ 163) 25)) (by omega) (by omega) ?_ ?_ (Nat.ne_of_beq_eq_false rfl)
  · unfold c12_best_l76
    simp only [apf_0] at hl
    rw [hl]; rfl
  · intro k k0 k1
    have e := apf_s (σ := σ) (x := 155) (f := aget σ 163) k0
    show c12_best_b76 130 k (apf σ 155 (aget σ 163) k) = _
    unfold c12_best_b76
    rw [apf_x (y := 130) (by omega), apf_x (y := 130) (by omega), r_130_74 hL, r_130_51 hL, apf_n, apf_n, n_163 hL, n_155 hL, apf_x (y := 163) (by omega), e, wq (by omega) (by omega)]
    exact ite_p k1 (ite_n (by omega) (ite_n (by omega) (ite_p (by omega) (ite_p (by omega) rfl))))
  · show c12_best_b76 130 25 _ = _
    unfold c12_best_b76
    exact ite_n (by omega) (ite_p (by omega) rfl)
theorem c12_best_q {T : aH} {S : aH × (Int → aH) × Int × Int × aH} {σ : aS} (h : MSt T S σ) (hN : NB T S.1) : AnsR T (sBest T S) σ (c12_best 130 σ) (if bsB T S.1 = true then 1 else 0) := by
  have h0 := h.t2
  have hB := h.1.2.2
  have h5 := hB.2.1
  have h4 := hB.2.2.1
  have hn1 : 1 ≤ npT T := npK_pos hB hB.2.1.1 (Int.le_refl _)
  have no : ∀ τ, Fr wmq σ τ → MN T S.1 τ → ¬ bsB T S.1 = true → AnsR T (sBest T S) σ (some (0, [0], τ)) (if bsB T S.1 = true then 1 else 0) := fun τ hF hS q => by
    unfold sBest
    rw [if_neg q, if_neg q]; exact AnsR.k (hF.mono rfl) (h.fr hF hS) rfl
  unfold c12_best
  rw [show aput σ 130 2 0 = st2 σ from rfl, c12_partings_ok h0.1, acall1_some]
  by_cases c : npT T ≤ 3000
  · rw [if_pos c, if_neg (by omega)]
    obtain ⟨τ, h1, hF1, hS1, h155, hFB⟩ := c12_findBest_ok h0.1 hN h0.2.1 c
    rw [h1, acall0_some]
    have hq := (st2_q σ).tr (hF1.mono rfl : Fr wmq (st2 σ) τ)
    have hSt1 : MSt T S τ := h.fr hq hS1
    obtain ⟨f, hl, hf, hi⟩ := best_eq hSt1.1
    have f1 : ∀ j, 0 ≤ j → j < 25 → aget τ 163 j = nwf T (bstN T S.1) (aget (st2 σ) 155) j := (hFB.1 (by omega)).2
    have hsm : f = 1 ↔ same T S.1 (bstN T S.1) = true := by
      rw [hi, nwf_same hN (show NB T (bstN T S.1) from PN_NB hN hB _) hB (aget (st2 σ) 155)]
      refine ⟨fun q j j0 j1 => ?_, fun q j j0 j1 => ?_⟩
      · rw [← nwf_now h0.2.1 hB j j0 j1, ← h155 j j0 j1, ← q j j0 j1]; exact f1 j j0 j1
      · rw [f1 j j0 j1, h155 j j0 j1, nwf_now h0.2.1 hB j j0 j1]; exact (q j j0 j1).symm
    unfold c12_best_l27
    rw [hl]
    show AnsR T _ σ (c12_best_p64 130 f τ) _
    unfold c12_best_p64
    by_cases z : f = 0
    · have q : bsB T S.1 = true := by
        unfold bsB
        rw [decide_eq_true c]
        cases w : same T S.1 (bstN T S.1) with
        | true => exact absurd (hsm.2 w) (by omega)
        | false => rfl
      obtain ⟨υ, h2, hF2, hS2⟩ := hSt1.rem
      have hF4 : Fr [(155, [])] υ (apf υ 155 (aget υ 163) 25) := (Fr.rf _ υ).apf (x := 155) _ 25 (fun _ => rfl)
      have hF3 : Fr wch υ (apf υ 155 (aget υ 163) 25) := hF4.mono rfl
      rw [if_pos z, h2, acall0_some, best_cp hS2.1]
      unfold sBest
      rw [if_pos q, if_pos q]
      refine AnsR.k (hq.mono rfl |>.tr ((hF2.mono rfl).tr (hF3.mono rfl))) (hS2.ch hF3 (hS2.2.1.of155 (fun s p s0 s1 p0 p1 => ?_) (fun x j hx => PN_x T S.1 _ hx j) (fun x j hx => hF4.g (wdj_spec (l := [(156, []), (144, []), (130, [80, 81, 59, 60, 61])]) (l' := [(155, [])]) (by decide +kernel) x j hx)))) rfl
      rw [apf_i (by omega) (by omega), hF2.g rfl, f1 _ (by omega) (by omega)]
      unfold nwf
      exact if_pos (by omega)
    · have o : f = 1 := by omega
      rw [if_neg z, if_pos (show (0 : Int) = 0 ∨ (0 : Int) = 1 by omega)]
      refine no τ hq hS1 (fun q => ?_)
      unfold bsB at q
      rw [hsm.1 o, Bool.and_eq_true] at q
      exact absurd q.2 (by decide)
  · rw [if_neg c, if_pos rfl, if_pos (show (0 : Int) = 0 ∨ (0 : Int) = 1 by omega)]
    refine no _ (st2_q σ) h0.2.1 (fun q => ?_)
    unfold bsB at q
    rw [Bool.and_eq_true, decide_eq_true_iff] at q
    exact c q.1
