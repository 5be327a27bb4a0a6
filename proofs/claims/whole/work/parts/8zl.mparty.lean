/-! the first party: the reference -/
theorem cvf_ct {T N : aH} {z a : Int} {g : Int → Int} (hB : TB T) (hc : cmp T z g) : cvf (ctn T N a) g = true ↔ ∀ s, 0 ≤ s → s < T 0 1 → g s ≤ N 0 (5 * s + a) := by
  have h5 := hB.2.1
  rw [cvf_iff]
  refine ⟨fun h s s0 s1 => ?_, fun h s s0 s5 => ?_⟩
  · have := h s s0 (by omega)
    unfold ctn at this
    rw [if_pos ⟨s0, s1⟩] at this; exact this
  · unfold ctn
    by_cases c : s < T 0 1
    · rw [if_pos ⟨s0, c⟩]; exact h s s0 c
    · rw [if_neg (by omega), hc.2.1 s (by omega)]; omega
theorem ga_fits {T N : aH} {σ : aS} (hM : MI T σ) (hS : MN T N σ) {z a : Int} {g : Int → Int} (hc : cmp T z g) (hG : GR g σ) (a0 : 0 ≤ a) (a1 : a ≤ T 0 2) :
    c12_groupAnywhere_l14 130 a 1 0 σ = c12_groupAnywhere_l59 130 a (if cvf (ctn T N a) g = true then 1 else 0) 0 σ := by
  have hB := hM.2.2
  have h5 := hB.2.1
  have h4 := hB.2.2.1
  have hL := hM.1
  have hal := al_I (c := 15) (B := aU4 c12_groupAnywhere_b14) (n := T 0 1) (i := 0) (vs := [130, a, 1, 0]) (σ := σ)
    (fun k vs τ => 0 ≤ k ∧ τ = σ ∧ ∃ f, vs = [130, a, f, k] ∧ (f = 0 ∨ f = 1) ∧ (f = 1 ↔ ∀ s, 0 ≤ s → s < k → g s ≤ N 0 (5 * s + a)))
    (fun r => r = (58, [130, a, if cvf (ctn T N a) g = true then 1 else 0], σ)) (by omega) (by omega) ⟨Int.le_refl _, rfl, 1, rfl, Or.inr rfl, ⟨fun _ s s0 s1 => by omega, fun _ => rfl⟩⟩ ?_
  · obtain ⟨r, hr, rfl⟩ := hal
    unfold c12_groupAnywhere_l14
    rw [hr]; rfl
  · rintro k vs τ hk ⟨k0, rfl, f, rfl, hf, hi⟩
    by_cases c : k < T 0 1
    · have p50 : ∀ f, c12_groupAnywhere_p50 f 130 a k τ = some (15, [130, a, f, k + 1], τ) := fun f => by
        unfold c12_groupAnywhere_p50; rw [wq (by omega) (by omega)]
      by_cases q : f = 0
      · refine Or.inl ⟨c, [130, a, 0, k + 1], τ, ?_, by omega, rfl, 0, rfl, Or.inl rfl, ⟨fun w => by omega, fun w => absurd (hi.2 (fun s s0 s1 => w s s0 (by omega))) (by omega)⟩⟩
        show c12_groupAnywhere_b14 130 a f k τ = _
        unfold c12_groupAnywhere_b14
        rw [hM.2.1.1.2.1]
        exact ite_p c (ite_p q (by unfold c12_groupAnywhere_p49; exact p50 0))
      · have st : ∀ r : aR, (if N 0 (5 * k + a) < g k then c12_groupAnywhere_p49 130 a k τ else c12_groupAnywhere_p50 1 130 a k τ) = r → aU4 c12_groupAnywhere_b14 [130, a, f, k] τ = r := by
          intro r hr
          show c12_groupAnywhere_b14 130 a f k τ = r
          unfold c12_groupAnywhere_b14
          rw [hM.2.1.1.2.1, r_130_65 hL, n_159 hL, r_130_51 hL, n_155 hL, w5 (by omega) (by omega) (by omega) (by omega), hG k k0 (by omega), hS.1 k a k0 c a0 a1]
          exact ite_p c (ite_n q (ite_n (by omega) (ite_p (by omega) (ite_n (by omega) (ite_p (by omega) hr)))))
        have hall := hi.1 (by omega)
        by_cases w : N 0 (5 * k + a) < g k
        · exact Or.inl ⟨c, [130, a, 0, k + 1], τ, st _ (ite_p w (by unfold c12_groupAnywhere_p49; exact p50 0)), by omega, rfl, 0, rfl, Or.inl rfl, ⟨fun e => by omega, fun e => absurd (e k k0 (by omega)) (by omega)⟩⟩
        · refine Or.inl ⟨c, [130, a, 1, k + 1], τ, st _ (ite_n w (p50 1)), by omega, rfl, 1, rfl, Or.inr rfl, ⟨fun _ s s0 s1 => ?_, fun _ => rfl⟩⟩
          by_cases e : s = k
          · rw [e]; omega
          · exact hall s s0 (by omega)
    · have hke : k = T 0 1 := by omega
      subst hke
      refine Or.inr ⟨_, ?_, Nat.ne_of_beq_eq_false rfl, rfl⟩
      have ev : (if cvf (ctn T N a) g = true then (1 : Int) else 0) = f := by
        by_cases q : cvf (ctn T N a) g = true
        · rw [if_pos q]; exact (hi.2 ((cvf_ct hB hc).1 q)).symm
        · rw [if_neg q]
          by_cases w : f = 1
          · exact absurd ((cvf_ct hB hc).2 (hi.1 w)) q
          · omega
      rw [ev]
      show c12_groupAnywhere_b14 130 a f (T 0 1) τ = _
      unfold c12_groupAnywhere_b14
      rw [hM.2.1.1.2.1]
      exact ite_n (by omega) rfl
theorem ga_b {T N : aH} {σ : aS} (hM : MI T σ) (hN : NB T N) (hS : MN T N σ) {z a : Int} {g : Int → Int} (hc : cmp T z g) (hG : GR g σ) (a0 : 0 ≤ a) (a1 : a ≤ T 0 2) (hcv : cvf (ctn T N a) g = true) :
    ∃ τ, c12_groupAnywhere_l59 130 a 1 0 σ = (if plB T N g a ≤ T 0 2 then some (89, [130, a, plB T N g a], τ) else some (3, [130, a + 1], τ)) ∧ Fr wgw σ τ ∧ MN T N τ := by
  have hB := hM.2.2
  have h4 := hB.2.2.1
  have hP := cmp_PA hB hc hcv
  have r0 := plB_0 T N g a
  have rn := plB_n N g a h4.1
  have rat := @plB_at T N g a
  have rno := @plB_no T N g a
  generalize plB T N g a = X at r0 rn rat rno
  have hal := al_I (c := 60) (B := aU4 c12_groupAnywhere_b59) (n := T 0 2 + 1) (i := 0) (vs := [130, a, 1, 0]) (σ := σ)
    (fun k vs τ => 0 ≤ k ∧ vs = [130, a, 1, k] ∧ k ≤ X ∧ Fr wgw σ τ ∧ MN T N τ)
    (fun r => ∃ τ, r = (if X ≤ T 0 2 then (89, [130, a, X], τ) else (107, [130, a], τ)) ∧ Fr wgw σ τ ∧ MN T N τ) (by omega) (by omega) ⟨Int.le_refl _, rfl, r0, Fr.rf _ _, hS⟩ ?_
  · obtain ⟨r, hr, τ, he, hF, hSt⟩ := hal
    refine ⟨τ, ?_, hF, hSt⟩
    unfold c12_groupAnywhere_l59
    rw [hr, he]
    by_cases q : X ≤ T 0 2
    · rw [if_pos q, if_pos q]; rfl
    · rw [if_neg q, if_neg q]
      show c12_groupAnywhere_p106 130 a τ = _
      unfold c12_groupAnywhere_p106
      rw [wq (by omega) (by omega)]
  · rintro k vs τ hk ⟨k0, rfl, hX, hF, hSt⟩
    have hMt := hM.gw hF
    have hGt : GR g τ := hG.fr hF (wdj_spec (by decide +kernel))
    have h14 := hMt.2.1.1.2.2.1
    have p100 : ∀ φ : aS, k < T 0 2 + 1 → c12_groupAnywhere_p100 130 a 1 k φ = some (60, [130, a, 1, k + 1], φ) := fun φ hh => by
      unfold c12_groupAnywhere_p100; rw [wq (by omega) (by omega)]
    by_cases c : k < T 0 2 + 1
    · by_cases e : k = a
      · refine Or.inl ⟨c, [130, a, 1, k + 1], τ, ?_, by omega, rfl, ?_, hF, hSt⟩
        · show c12_groupAnywhere_b59 130 a 1 k τ = _
          unfold c12_groupAnywhere_b59
          rw [h14]
          exact ite_n (by omega) (ite_n (by omega) (ite_p e.symm (p100 τ c)))
        · by_cases w : X = k
          · have := rat (by omega)
            rw [w, decide_eq_true e] at this; exact absurd this (by simp)
          · omega
      · obtain ⟨υ, hw, hF2, hS2⟩ := c12_groupWould_ok hMt hN hSt hGt a0 a1 k0 (show k ≤ T 0 2 by omega) (fun q => e q.symm) hP
        by_cases q : pwB T N g a k = true
        · have hXk : X = k := by
            by_cases w : k < X
            · have := rno k0 w
              rw [decide_eq_false e, q] at this; exact absurd this (by decide)
            · omega
          rw [if_pos q] at hw
          refine Or.inr ⟨(89, [130, a, k], υ), ?_, Nat.ne_of_beq_eq_false rfl, υ, by rw [if_pos (by omega), hXk], hF.tr hF2, hS2⟩
          show c12_groupAnywhere_b59 130 a 1 k τ = _
          unfold c12_groupAnywhere_b59
          rw [h14]
          exact ite_n (by omega) (ite_n (by omega) (ite_n (fun w => e w.symm) (acall1_h hw (ite_n (by omega) rfl))))
        · rw [if_neg q] at hw
          refine Or.inl ⟨c, [130, a, 1, k + 1], υ, ?_, by omega, rfl, ?_, hF.tr hF2, hS2⟩
          · show c12_groupAnywhere_b59 130 a 1 k τ = _
            unfold c12_groupAnywhere_b59
            rw [h14]
            exact ite_n (by omega) (ite_n (by omega) (ite_n (fun w => e w.symm) (acall1_h hw (ite_p rfl (p100 υ c)))))
          · by_cases w : X = k
            · have := rat (by omega)
              rw [w, Bool.and_eq_true] at this; exact absurd this.2 q
            · omega
    · refine Or.inr ⟨(107, [130, a], τ), ?_, Nat.ne_of_beq_eq_false rfl, τ, by rw [if_neg (by omega)], hF, hSt⟩
      show c12_groupAnywhere_b59 130 a 1 k τ = _
      unfold c12_groupAnywhere_b59
      rw [h14]
      exact ite_p (by omega) rfl
def wga : List (Int × List Int) := [(155, []), (157, []), (158, []), (160, []), (130, [54, 55, 56, 58, 67, 68])]
theorem MI.ga {T : aH} {σ τ : aS} (h : MI T σ) (hF : Fr wga σ τ) : MI T τ := h.fr hF (by decide +kernel) (wdj_spec (by decide +kernel))
theorem c12_groupAnywhere_ok {T N : aH} {σ : aS} (hM : MI T σ) (hN : NB T N) (hS : MN T N σ) {z : Int} {g : Int → Int} (hc : cmp T z g) (hG : GR g σ) :
    ∃ τ, c12_groupAnywhere 130 σ = some (0, [if plA T N g ≤ T 0 2 then 1 else 0], τ) ∧ Fr wga σ τ ∧ MN T N τ ∧ (plA T N g ≤ T 0 2 → aget τ 130 67 = plA T N g ∧ aget τ 130 68 = plB T N g (plA T N g)) := by
  have hB := hM.2.2
  have h4 := hB.2.2.1
  have r0 := plA_0 T N g
  have rn := plA_n N g h4.1
  have rat := @plA_at T N g
  have rno := @plA_no T N g
  generalize plA T N g = X at r0 rn rat rno
  have hal := al_I (c := 3) (B := aU2 c12_groupAnywhere_b2) (n := T 0 2 + 1) (i := 0) (vs := [130, 0]) (σ := σ)
    (fun k vs τ => 0 ≤ k ∧ vs = [130, k] ∧ k ≤ X ∧ Fr wgw σ τ ∧ MN T N τ)
    (fun r => ∃ τ, r = (if X ≤ T 0 2 then (89, [130, X, plB T N g X], τ) else (0, [0], τ)) ∧ Fr wgw σ τ ∧ MN T N τ) (by omega) (by omega) ⟨Int.le_refl _, rfl, r0, Fr.rf _ _, hS⟩ ?_
  · obtain ⟨r, hr, τ, he, hF, hSt⟩ := hal
    by_cases q : X ≤ T 0 2
    · rw [if_pos q] at he
      have f2 : Fr [(130, [67, 68])] τ (aput (aput τ 130 67 X) 130 68 (plB T N g X)) := ((Fr.rf _ _).put _ rfl).put _ rfl
      refine ⟨aput (aput τ 130 67 X) 130 68 (plB T N g X), ?_, (hF.mono rfl).tr (f2.mono rfl), hSt.fr f2 (wdj_spec (by decide +kernel)), fun _ => ⟨by rw [ag_j (by omega), ag_s], ag_s _ _ _ _⟩⟩
      rw [if_pos q]
      unfold c12_groupAnywhere c12_groupAnywhere_l2
      rw [hr, he]
      show c12_groupAnywhere_p88 130 X (plB T N g X) τ = _
      unfold c12_groupAnywhere_p88
      exact ite_p (by omega) rfl
    · rw [if_neg q] at he
      refine ⟨τ, ?_, hF.mono rfl, hSt, fun w => absurd w q⟩
      rw [if_neg q]
      unfold c12_groupAnywhere c12_groupAnywhere_l2
      rw [hr, he]; rfl
  · rintro k vs τ hk ⟨k0, rfl, hX, hF, hSt⟩
    have hMt := hM.gw hF
    have hGt : GR g τ := hG.fr hF (wdj_spec (by decide +kernel))
    have h14 := hMt.2.1.1.2.2.1
    by_cases c : k < T 0 2 + 1
    · have hfit := ga_fits (a := k) hMt hSt hc hGt k0 (by omega)
      have st : ∀ r : aR, c12_groupAnywhere_l59 130 k (if cvf (ctn T N k) g = true then 1 else 0) 0 τ = r → aU2 c12_groupAnywhere_b2 [130, k] τ = r := by
        intro r hr
        show c12_groupAnywhere_b2 130 k τ = r
        unfold c12_groupAnywhere_b2
        rw [h14, hfit]
        exact ite_n (by omega) hr
      by_cases q : cvf (ctn T N k) g = true
      · obtain ⟨υ, hb, hF2, hS2⟩ := ga_b hMt hN hSt hc hGt k0 (show k ≤ T 0 2 by omega) q
        by_cases w : plB T N g k ≤ T 0 2
        · have hbd : bnd T N k = 0 := by
            have := plB_at w
            rw [Bool.and_eq_true] at this
            have h2 := this.2
            unfold pwB at h2
            rw [Bool.and_eq_true, decide_eq_true_iff] at h2
            exact h2.1
          have hXk : X = k := by
            by_cases v : k < X
            · have := rno k0 v
              rw [q, decide_eq_true hbd, decide_eq_true w] at this; exact absurd this (by decide)
            · omega
          rw [if_pos w] at hb
          refine Or.inr ⟨(89, [130, k, plB T N g k], υ), ?_, Nat.ne_of_beq_eq_false rfl, υ, by rw [if_pos (by omega), hXk], hF.tr hF2, hS2⟩
          exact st _ (by rw [if_pos q]; exact hb)
        · rw [if_neg w] at hb
          refine Or.inl ⟨c, [130, k + 1], υ, st _ (by rw [if_pos q]; exact hb), by omega, rfl, ?_, hF.tr hF2, hS2⟩
          by_cases v : X = k
          · have := rat (by omega)
            rw [v, Bool.and_eq_true, decide_eq_true_iff] at this; exact absurd this.2 w
          · omega
      · refine Or.inl ⟨c, [130, k + 1], τ, st _ ?_, by omega, rfl, ?_, hF, hSt⟩
        · rw [if_neg q]
          have hb : aloop 60 (aU4 c12_groupAnywhere_b59) aBig [130, k, 0, 0] τ = some (107, [130, k], τ) := by
            have hal2 := al_I (c := 60) (B := aU4 c12_groupAnywhere_b59) (n := 1) (i := 0) (vs := [130, k, 0, 0]) (σ := τ) (fun i vs φ => i = 0 ∧ vs = [130, k, 0, 0] ∧ φ = τ) (fun r => r = (107, [130, k], τ)) (by omega) (by omega) ⟨rfl, rfl, rfl⟩ (by
              rintro i vs φ hi ⟨-, rfl, rfl⟩
              refine Or.inr ⟨_, ?_, Nat.ne_of_beq_eq_false rfl, rfl⟩
              show c12_groupAnywhere_b59 130 k 0 0 φ = _
              unfold c12_groupAnywhere_b59
              rw [h14]
              exact ite_n (by omega) (ite_p rfl rfl))
            obtain ⟨r, hr, rfl⟩ := hal2
            exact hr
          unfold c12_groupAnywhere_l59
          rw [hb]
          show c12_groupAnywhere_p106 130 k τ = _
          unfold c12_groupAnywhere_p106
          rw [wq (by omega) (by omega)]
        · by_cases v : X = k
          · have := rat (by omega)
            rw [v, Bool.and_eq_true, Bool.and_eq_true] at this; exact absurd this.1.2 q
          · omega
    · refine Or.inr ⟨(0, [0], τ), ?_, Nat.ne_of_beq_eq_false rfl, τ, by rw [if_neg (by omega)], hF, hSt⟩
      show c12_groupAnywhere_b2 130 k τ = _
      unfold c12_groupAnywhere_b2
      rw [h14]
      exact ite_p (by omega) (ite_p (by omega) rfl)
