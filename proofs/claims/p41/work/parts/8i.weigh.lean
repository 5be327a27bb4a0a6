/-! the class's half of whole's part of this name -/
def wgf (x j : Int) : Prop := (x = 20 ∧ 1 ≤ j ∧ j ≤ 5) ∨ x = 21 ∨ (x = 8 ∧ 1 ≤ j ∧ j ≤ 4)
theorem wgf_w (x j : Int) (h : wgf x j) : wkc x j := by unfold wgf at h; unfold wkc; omega
theorem wg_99 {σ : aS} (hL : LR σ) {c l k : Int} (h1 : aget σ 20 1 = c) (c0 : 0 ≤ c) (c1 : c < 3000) (hk : aget σ 22 1 = k) :
    c9_weigh_p99 l 20 20 σ = some (0, [], aput (aput (aput σ 20 5 l) 21 c k) 20 1 (c + 1)) := by
  simp (disch := omega) only [c9_weigh_p99, ↓reduceIte, acall1_some, acall0_some, q_lt, q_nlt, q_le, q_nle, q_eq, q_ne, q_01, true_or, or_true, false_or, or_false, false_and, and_false, and_self, and_true, true_and, wq, wQ, alen_aput, ag_s, ag_x, ag_j, ag_e, r_20_6 hL, r_20_8 hL, n_21 hL, h1, hk]
theorem wg_41h {σ : aS} (hL : LR σ) {c v k : Int} (h1 : aget σ 20 1 = c) (c0 : 0 ≤ c) (c1 : c < 3000) (hk : aget σ 22 1 = k) (hsf : c7_seekFirst 8 22 σ = some (0, [0], σ)) :
    c9_weigh_p41 20 v σ = some (0, [], aput (aput (aput (aput σ 20 4 (if c = 0 then v else if aget σ 20 4 < v then v else aget σ 20 4)) 20 5 (if c = 0 then v else if v < aget σ 20 5 then v else aget σ 20 5)) 21 c k) 20 1 (c + 1)) := by
  have e : ∀ g, c9_weigh_p76 g 20 20 v σ = some (0, [], aput (aput (aput (aput σ 20 4 g) 20 5 (if c = 0 then v else if v < aget σ 20 5 then v else aget σ 20 5)) 21 c k) 20 1 (c + 1)) := fun g => by
    have hL4 : LR (aput σ 20 4 g) := (((Fp.rf (fun x j => x = 20 ∧ j = 4) σ).put (x := 20) (j := 4) g ⟨rfl, rfl⟩).mono (fun x j q => show wkc x j by unfold wkc; omega)).LR wkc_kR hL
    have h99 : ∀ l, c9_weigh_p99 l 20 20 (aput σ 20 4 g) = _ := fun l => wg_99 hL4 (l := l) (k := k) (by rw [ag_j (by omega)]; exact h1) c0 c1 (by rw [ag_x (by omega)]; exact hk)
    unfold c9_weigh_p76
    by_cases z : c = 0
    · refine ite_p (by rw [ag_j (by omega), h1, z]) ?_
      rw [if_pos z]; exact h99 v
    · refine ite_n (by rw [ag_j (by omega), h1]; exact z) (acall1_h (v := if v < aget σ 20 5 then v else aget σ 20 5) (τ := aput σ 20 4 g) ?_ ?_)
      · rw [ag_j (by omega)]
        unfold jminl
        simp only [acmp_p]
        by_cases q : v < aget σ 20 5
        · rw [if_pos q, if_pos q]
        · rw [if_neg q, if_neg q]
      · rw [if_neg z]; exact h99 _
  unfold c9_weigh_p41
  refine ite_n (by rw [r_20_7 hL]; omega) (ite_n (by rw [r_20_8 hL]; omega) (acall1_h (v := 0) (τ := σ) (by rw [r_20_7 hL, r_20_8 hL]; exact hsf) (ite_p rfl ?_)))
  by_cases z : c = 0
  · refine ite_p (by rw [h1, z]) ?_
    rw [e]; simp only [if_pos z]
  · refine ite_n (by rw [h1]; exact z) (acall1_h (v := if aget σ 20 4 < v then v else aget σ 20 4) (τ := σ) ?_ ?_)
    · unfold jmaxl
      simp only [acmp_n]
      by_cases q : aget σ 20 4 < v
      · rw [if_pos q, if_pos q]
      · rw [if_neg q, if_neg q]
    · rw [e]; simp only [if_neg z]
theorem SVn_h {A : Int → Int} {H : Int → Bool} {K : Int → Int} {n : Nat} {σ : aS} (hh : H n = true)
    (h1 : aget σ 20 1 = hcN H n) (h2 : aget σ 20 2 = K (bsN A (n + 1)) ∧ aget σ 20 3 = A (bsN A (n + 1))) (h4 : 0 < hcN H n → aget σ 20 4 = ghN A H n ∧ aget σ 20 5 = lhN A H n) (hj : ∀ j : Nat, j < n → H j = true → aget σ 21 (hcN H j) = K j) :
    SVn A H K (n + 1) (aput (aput (aput (aput σ 20 4 (if hcN H n = 0 then A n else if aget σ 20 4 < A n then A n else aget σ 20 4)) 20 5 (if hcN H n = 0 then A n else if A n < aget σ 20 5 then A n else aget σ 20 5)) 21 (hcN H n) (K n)) 20 1 (hcN H n + 1)) := by
  have b := hcN_bd H n
  have e1 : hcN H (n + 1) = hcN H n + 1 := by show hcN H n + (if H n = true then 1 else 0) = _; rw [if_pos hh]
  have eg : ghN A H (n + 1) = if hcN H n = 0 then A n else if ghN A H n < A n then A n else ghN A H n := by show (if H n = true then _ else _) = _; rw [if_pos hh]
  have el : lhN A H (n + 1) = if hcN H n = 0 then A n else if A n < lhN A H n then A n else lhN A H n := by show (if H n = true then _ else _) = _; rw [if_pos hh]
  refine ⟨by rw [ag_s, e1], fun _ => ⟨?_, ?_⟩, fun _ => ⟨?_, ?_⟩, fun j j1 hjh => ?_⟩
  · rw [ag_j (by omega), ag_x (by omega), ag_j (by omega), ag_j (by omega)]; exact h2.1
  · rw [ag_j (by omega), ag_x (by omega), ag_j (by omega), ag_j (by omega)]; exact h2.2
  · rw [ag_j (by omega), ag_x (by omega), ag_j (by omega), ag_s, eg]
    by_cases z : hcN H n = 0
    · rw [if_pos z, if_pos z]
    · rw [if_neg z, if_neg z, (h4 (by omega)).1]
  · rw [ag_j (by omega), ag_x (by omega), ag_s, el]
    by_cases z : hcN H n = 0
    · rw [if_pos z, if_pos z]
    · rw [if_neg z, if_neg z, (h4 (by omega)).2]
  · rw [ag_x (by omega)]
    by_cases q : j = n
    · subst q; exact ag_s _ _ _ _
    · have m := hcN_mono H (m := j + 1) n (by omega)
      have e2 : hcN H (j + 1) = hcN H j + 1 := by show hcN H j + (if H j = true then 1 else 0) = _; rw [if_pos hjh]
      rw [ag_j (by omega), ag_x (by omega), ag_x (by omega)]
      exact hj j (by omega) hjh
theorem SVn_n {A : Int → Int} {H : Int → Bool} {K : Int → Int} {n : Nat} {σ : aS} (hh : ¬ H n = true)
    (h1 : aget σ 20 1 = hcN H n) (h2 : aget σ 20 2 = K (bsN A (n + 1)) ∧ aget σ 20 3 = A (bsN A (n + 1))) (h4 : 0 < hcN H n → aget σ 20 4 = ghN A H n ∧ aget σ 20 5 = lhN A H n) (hj : ∀ j : Nat, j < n → H j = true → aget σ 21 (hcN H j) = K j) :
    SVn A H K (n + 1) σ := by
  have e1 : hcN H (n + 1) = hcN H n := by show hcN H n + (if H n = true then 1 else 0) = _; rw [if_neg hh]; omega
  have eg : ghN A H (n + 1) = ghN A H n := by show (if H n = true then _ else _) = _; rw [if_neg hh]
  have el : lhN A H (n + 1) = lhN A H n := by show (if H n = true then _ else _) = _; rw [if_neg hh]
  refine ⟨by rw [e1]; exact h1, fun _ => h2, fun q => by rw [eg, el]; rw [e1] at q; exact h4 q, fun j j1 hjh => ?_⟩
  by_cases q : j = n
  · subst q; exact absurd hjh hh
  · exact hj j (by omega) hjh
theorem SVn_co {A : Int → Int} {H : Int → Bool} {K : Int → Int} {n : Nat} {σ τ : aS} (h : SVn A H K n σ) (g : ∀ x j : Int, (x = 20 ∧ 1 ≤ j ∧ j ≤ 5) ∨ x = 21 → aget τ x j = aget σ x j) : SVn A H K n τ := by
  refine ⟨?_, ?_, ?_, ?_⟩
  · rw [g _ _ (by omega)]; exact h.1
  · rw [g 20 2 (by omega), g 20 3 (by omega)]; exact h.2.1
  · rw [g 20 4 (by omega), g 20 5 (by omega)]; exact h.2.2.1
  · intro j j1 hj; rw [g 21 _ (by omega)]; exact h.2.2.2 j j1 hj
theorem c9_weigh_ok {pl : Int} {T M : aH} {σ : aS} (hC : CI pl T σ) (hM : NB T M) (hS : SC T M 22 σ) (hR : RE M σ) {A : Int → Int} {H : Int → Bool} {K : Int → Int} {n : Nat} (hn : n < 3000)
    (hA : A n = tot T M) (hH : H n = !decide (fiS T M < T 0 1)) (hK : K n = pkP T M) (hV : SVn A H K n σ) {l : Int} (hl : l = if n = 0 then 1 else 0) :
    ∃ τ, c9_weigh 20 l σ = some (0, [], τ) ∧ Fp wgf σ τ ∧ SVn A H K (n + 1) τ := by
  have hL := hC.1
  have q8 := hC.2.2.1.1
  have s22 : SH 22 := Or.inr (Or.inr (Or.inr rfl))
  have hto := c7_totalOf_ok hC hM s22 hS hR
  have hb := hcN_bd H n
  -- the state behind the best
  have step : ∃ υ, c9_weigh 20 l σ = c9_weigh_p41 20 (tot T M) υ ∧ Fp (fun x j => x = 20 ∧ (j = 2 ∨ j = 3)) σ υ ∧ (aget υ 20 2 = K (bsN A (n + 1)) ∧ aget υ 20 3 = A (bsN A (n + 1))) := by
    have hp25 : c9_weigh_p25 20 (tot T M) σ = c9_weigh_p41 20 (tot T M) (aput (aput σ 20 3 (tot T M)) 20 2 (pkP T M)) := by
      unfold c9_weigh_p25
      refine ite_n (by rw [ag_j (by omega), r_20_8 hL]; omega) ?_
      rw [show aget (aput σ 20 3 (tot T M)) 20 8 = 22 by rw [ag_j (by omega), r_20_8 hL], ag_x (by omega), hS.1]
    have fr := ((Fp.rf (fun x j => x = 20 ∧ (j = 2 ∨ j = 3)) σ).put (x := 20) (j := 3) (tot T M) ⟨rfl, Or.inr rfl⟩).put (x := 20) (j := 2) (pkP T M) ⟨rfl, Or.inl rfl⟩
    have eb : bsN A (n + 1) = if n = 0 ∨ A (bsN A n) < A n then (n : Int) else bsN A n := rfl
    by_cases c : n = 0 ∨ A (bsN A n) < A n
    · rw [if_pos c] at eb
      refine ⟨_, ?_, fr, by rw [ag_s, eb, hK], by rw [ag_j (by omega), ag_s, eb, hA]⟩
      rw [← hp25]
      unfold c9_weigh
      refine ite_n (by rw [r_20_7 hL]; omega) (ite_n (by rw [r_20_8 hL]; omega) (acall1_h (v := tot T M) (τ := σ) (by rw [r_20_7 hL, r_20_8 hL]; exact hto) ?_))
      by_cases z : n = 0
      · exact ite_n (by rw [hl, if_pos z]; omega) rfl
      · refine ite_p (by rw [hl, if_neg z]) (ite_p ?_ rfl)
        rw [acmp_p, (hV.2.1 (by omega)).2, ← hA]
        omega
    · rw [if_neg c] at eb
      have hv := hV.2.1 (by omega)
      refine ⟨σ, ?_, Fp.rf _ _, by rw [eb]; exact hv⟩
      unfold c9_weigh
      refine ite_n (by rw [r_20_7 hL]; omega) (ite_n (by rw [r_20_8 hL]; omega) (acall1_h (v := tot T M) (τ := σ) (by rw [r_20_7 hL, r_20_8 hL]; exact hto) ?_))
      refine ite_p (by rw [hl, if_neg (by omega)]) (ite_n ?_ rfl)
      rw [acmp_p, hv.2, ← hA]
      omega
  obtain ⟨υ, e, hF, h2⟩ := step
  have hCu := hC.fp hF (fun x j q => by unfold wkc; omega)
  have hSu : SC T M 22 υ := hS.fp hF (fun j => by omega) (fun j _ => by omega)
  have hRu : RE M υ := hR.fp hF (by omega) (by omega) (by omega)
  have hLu := hCu.1
  have h1 : aget υ 20 1 = hcN H n := by rw [hF.g (by omega)]; exact hV.1
  have h4 : 0 < hcN H n → aget υ 20 4 = ghN A H n ∧ aget υ 20 5 = lhN A H n := fun q => by rw [hF.g (by omega), hF.g (by omega)]; exact hV.2.2.1 q
  have hj : ∀ j : Nat, j < n → H j = true → aget υ 21 (hcN H j) = K j := fun j j1 q => by rw [hF.g (by omega)]; exact hV.2.2.2 j j1 q
  have hsf := c7_seekFirst_ok hCu hM s22 hSu hRu
  have fr := hF.mono (fun x j q => show wgf x j by unfold wgf; omega)
  by_cases c : fiS T M < T 0 1
  · have hh : ¬ H n = true := by rw [hH, decide_eq_true c]; decide
    rw [if_pos c] at hsf
    refine ⟨_, ?_, ((fr.put (x := 8) (j := 1) (fiS T M) (by unfold wgf; omega)).put (x := 8) (j := 3) (fiA T M (fiS T M)) (by unfold wgf; omega)).put (x := 8) (j := 4) (fiB T M (fiS T M) (fiA T M (fiS T M))) (by unfold wgf; omega), SVn_co (SVn_n hh h1 h2 h4 hj) (fun x j q => by rw [ag_x (by omega), ag_x (by omega), ag_x (by omega)])⟩
    rw [e]
    unfold c9_weigh_p41
    exact ite_n (by rw [r_20_7 hLu]; omega) (ite_n (by rw [r_20_8 hLu]; omega) (acall1_h (by rw [r_20_7 hLu, r_20_8 hLu]; exact hsf) (ite_n (by omega) rfl)))
  · have hh : H n = true := by rw [hH, decide_eq_false c]; rfl
    rw [if_neg c] at hsf
    have r41 := wg_41h hLu (v := tot T M) h1 hb.1 (by omega) hSu.1 hsf
    rw [← hA, ← hK] at r41
    refine ⟨_, by rw [e, ← hA]; exact r41, ?_, SVn_h hh h1 h2 h4 hj⟩
    exact (((fr.put (x := 20) (j := 4) _ (by unfold wgf; omega)).put (x := 20) (j := 5) _ (by unfold wgf; omega)).put (x := 21) (j := hcN H n) _ (by unfold wgf; omega)).put (x := 20) (j := 1) _ (by unfold wgf; omega)
