/-! the class's half of whole's part of this name -/
theorem CI.fw {pl : Int} {T : aH} {σ τ : aS} (h : CI pl T σ) {P : Int → Int → Prop} (hF : Fp P σ τ) (hP : ∀ x j, P x j → wkc x j ∨ fwr pl 1728 x j) : CI pl T τ := by
  obtain ⟨hL, hp, hq, hT, hG, hB⟩ := h
  have h4 := hB.2.2.1
  have h5 := hB.2.1
  have hcl := crw_le hB
  have kk : ∀ q ∈ kR, ¬ P q.1 q.2.1 := fun q hq hw => (hP _ _ hw).elim (wkc_kR q hq) (fun e => wkw_kR q hq (fwr_w hp _ _ e))
  have g : ∀ x j, ctp pl x → aget τ x j = aget σ x j := fun x j hx => hF.g (fun q => by
    have := hP x j q
    unfold ctp at hx
    unfold wkc fwr at this
    omega)
  have np : ∀ x j, ¬ (wkc x j ∨ fwr pl 1728 x j) → aget τ x j = aget σ x j := fun x j hx => hF.g (fun q => hx (hP x j q))
  refine ⟨hF.LR kk hL, hp, ?_, hT.c2 g, ⟨?_, fun t f t0 t1 hf => ?_⟩, hB⟩
  · rw [np 8 0 (by unfold wkc fwr; omega), np 9 5 (by unfold wkc fwr; omega), np 1 7 (by unfold wkc fwr; omega)]; exact hq
  · rw [np 13 0 (by unfold wkc fwr; omega), np 13 1 (by unfold wkc fwr; omega), np 13 2 (by unfold wkc fwr; omega), np 13 3 (by unfold wkc fwr; omega), np 13 4 (by unfold wkc fwr; omega), np 9 1 (by unfold wkc fwr; omega)]
    exact hG.1
  · have nb := nuf_bd hB hf
    rw [np 10 _ (by unfold wkc fwr; omega)]
    refine ⟨(hG.2 t f t0 t1 hf).1, fun s s0 s1 => ?_⟩
    rw [np 11 _ (by unfold wkc fwr; omega), np 12 _ (by unfold wkc fwr; omega)]
    exact (hG.2 t f t0 t1 hf).2 s s0 s1
theorem askedBy_r {pl : Int} {T N : aH} {σ : aS} (hC : CI pl T σ) (hN : NB T N) {sc : Int} (hs : SH sc) (hS : SC T N sc σ) (hR : RE N σ) {f : Int → Int} (hb7 : ∀ s, 0 ≤ s → s < 5 → 0 ≤ f s ∧ f s ≤ 7) {t s r : Int} (t0 : 0 ≤ t) (t1 : t < T 0 2) (s0 : 0 ≤ s) (s1 : s < T 0 1)
    (hru : c3_ruledFor 9 s r σ = some (0, [rul T t f s], σ)) : c7_askedByRow 8 sc s t r σ = some (0, [ask T N t f s], σ) := by
  obtain ⟨hL, hp, hq, hT, hG, hB⟩ := hC
  have h1 := hB.2.1
  have h2 := hB.2.2.1
  have a := rul_bd hB t0 t1 hb7 s0 s1
  have b := hN.2.2.1 t t0 (by omega)
  have c := hN.2.2.2.2.2.2.2.2
  have d := (hB.2.2.2.2.2.1 s s0 s1).2.1
  have e := mul_nn c.2.1 c.2.2 d.1 d.2
  have hsp := hs.p
  have ex := hS.2.1 t t0 (by omega)
  have fg := hT.2.2.1 s 1 s0 s1 (by omega) (by omega)
  have r9 := hR.1
  by_cases h : t = N 4 0
  · have r56 := hR.2 (by omega)
    have hfl := r56.1
    have hti := r56.2
    have fg2 : aget σ (pl + 3) (s * 4 + 1) = T 2 (4 * s + 1) := by rw [show s * 4 + 1 = 4 * s + 1 by omega]; exact fg
    simp (disch := omega) only [c7_askedByRow, c7_askedByRow_p49, ↓reduceIte, acall1_some, acall0_some, q_lt, q_nlt, q_le, q_nle, q_eq, q_ne, q_01, true_or, or_true, false_or, or_false, false_and, and_false, and_self, and_true, true_and, wq, wQ, alen_aput, ag_s, ag_x, ag_j, ag_e, hq.1, rp_0 hL hp, rp_1 hL hp, rp_2 hL hp, rp_3 hL hp, rp_4 hL hp, rp_5 hL hp, rp_6 hL hp, rp_7 hL hp, rp_16 hL hp, np_1 hL hp, np_2 hL hp, np_3 hL hp, np_4 hL hp, np_5 hL hp, np_6 hL hp, np_19 hL hp, fg2, hfl, hti, rs_0 hL hs, ns_1 hL hs, ex]
    unfold ask
    rw [if_pos h]
    rw [show (N 4 1 + N 4 2 * T 2 (4 * s + 1)) * 27720 + N 1 t * 27720 = 27720 * (N 4 1 + N 4 2 * T 2 (4 * s + 1)) + 27720 * N 1 t by omega]
  · simp (disch := omega) only [c7_askedByRow, c7_askedByRow_p49, ↓reduceIte, acall1_some, acall0_some, q_lt, q_nlt, q_le, q_nle, q_eq, q_ne, q_01, true_or, or_true, false_or, or_false, false_and, and_false, and_self, and_true, true_and, wq, wQ, alen_aput, ag_s, ag_x, ag_j, ag_e, r_8_8 hL, hru, rs_0 hL hs, ns_1 hL hs, ex]
    unfold ask
    rw [if_neg h, show N 1 t * 27720 = 27720 * N 1 t by omega]
theorem c7_worthOfOneMore_ok {pl : Int} {T N : aH} {σ : aS} (hC : CI pl T σ) (hN : NB T N) {sc : Int} (hs : SH sc) (hS : SC T N sc σ) (hR : RE N σ) {f : Int → Int} (hf : BF T f) {p s : Int} (p0 : 0 ≤ p) (p1 : p ≤ T 0 2) (s0 : 0 ≤ s) (s1 : s < T 0 1) :
    ∃ τ, c7_worthOfOneMore 8 sc s p (pk5 f) σ = some (0, [wrA T N s p (adc f s)], τ) ∧ Fp (fwr pl 1728) σ τ := by
  have hal := c4_alone_ok hC
  have hfi := c4_figure_ok hC s0 s1 (show (0 : Int) ≤ 2 by omega) (by omega)
  have hC' := hC
  obtain ⟨hL, hp, hq, hT, hG, hB⟩ := hC
  have h2 := hB.2.2.1
  have h5 := hB.2.1
  have d := (hB.2.2.2.2.2.1 s s0 s1).2.2
  have sp := hs
  unfold SH at sp
  by_cases h : p < T 0 2
  · have h7 := B7.ad1 hB hf s0 s1
    obtain ⟨τ, hw, hF, -, hr⟩ := c3_write_ok hC'.cq hq.2.1 h7 p0 h (r := 1728) (by omega) (by omega)
    have hCt := hC'.fw hF (fun x j e => Or.inr e)
    have hSt : SC T N sc τ := hS.fp hF (fun j => by unfold fwr; omega) (fun j _ => by unfold fwr; omega)
    have hRt : RE N τ := hR.fp hF (by unfold fwr; omega) (by unfold fwr; omega) (by unfold fwr; omega)
    have h1 := c11_one_ok (s := s) σ s0 (by omega)
    have hpk := pk5_adc (f := f) s0 (show s < 5 by omega)
    have hk := pk5_bd h7.1
    have hLt := hCt.1
    have e := hr s s0 s1
    have lb := lik_bd hB p h7.1 s0 s1
    have b2 := ask_bd hB hN p0 h h7.1 s0 s1
    have hru : c3_ruledFor 9 s 1728 τ = some (0, [rul T p (adc f s) s], τ) := by
      simp (disch := omega) only [c3_ruledFor, ↓reduceIte, acall1_some, acall0_some, q_lt, q_nlt, q_le, q_nle, q_eq, q_ne, q_01, true_or, or_true, false_or, or_false, false_and, and_false, and_self, and_true, true_and, wq, wQ, alen_aput, ag_s, ag_x, ag_j, ag_e, r_9_3 hLt, n_12 hLt, e.2]
    have hli : c3_likedBy 9 s 1728 τ = some (0, [lik T p (adc f s) s * 27720], τ) := by
      simp (disch := omega) only [c3_likedBy, ↓reduceIte, acall1_some, acall0_some, q_lt, q_nlt, q_le, q_nle, q_eq, q_ne, q_01, true_or, or_true, false_or, or_false, false_and, and_false, and_self, and_true, true_and, wq, wQ, alen_aput, ag_s, ag_x, ag_j, ag_e, r_9_2 hLt, n_11 hLt, e.1]
    have has := askedBy_r hCt hN hs hSt hRt h7.1 p0 h s0 s1 hru
    have hsr : c3_spareRow 9 p (pk5 (adc f s)) σ = some (0, [1728], τ) := by unfold c3_spareRow; rw [hw, acall0_some]
    refine ⟨τ, ?_, hF⟩
    unfold c7_worthOfOneMore
    refine ite_n ?_ (acall1_h (v := T 0 2) (τ := σ) ?_ (ite_p h (ite_n ?_ (acall1_h (v := p2 (3 * s)) (τ := σ) h1 (acall1_h (v := 1728) (τ := τ) ?_ (ite_n ?_ (acall1_h (v := lik T p (adc f s) s * 27720) (τ := τ) ?_ (acall1_h (v := ask T N p (adc f s) s) (τ := τ) has ?_))))))))
    all_goals simp (disch := omega) only [↓reduceIte, acall1_some, acall0_some, q_lt, q_nlt, q_le, q_nle, q_eq, q_ne, q_01, true_or, or_true, false_or, or_false, false_and, and_false, and_self, and_true, true_and, wq, wQ, alen_aput, ag_s, ag_x, ag_j, ag_e, hq.1, hal, r_8_8 hL, r_8_8 hLt, hpk, hsr, hli, not_false_eq_true]
    unfold wrA wor
    rw [if_neg (show ¬ p = T 0 2 by omega), show lik T p (adc f s) s * 27720 = 27720 * lik T p (adc f s) s by omega]
  · refine ⟨σ, ?_, Fp.rf _ _⟩
    unfold c7_worthOfOneMore
    refine ite_n ?_ (acall1_h (v := T 0 2) (τ := σ) ?_ (ite_n h (ite_n ?_ (acall1_h (v := T 2 (4 * s + 2)) (τ := σ) ?_ ?_))))
    all_goals simp (disch := omega) only [↓reduceIte, acall1_some, acall0_some, q_lt, q_nlt, q_le, q_nle, q_eq, q_ne, q_01, true_or, or_true, false_or, or_false, false_and, and_false, and_self, and_true, true_and, wq, wQ, alen_aput, ag_s, ag_x, ag_j, ag_e, hq.1, hal, hfi, not_false_eq_true]
    unfold wrA
    rw [if_pos (show p = T 0 2 by omega), show T 2 (4 * s + 2) * 27720 = 27720 * T 2 (4 * s + 2) by omega]
theorem c7_givenIn_ok {pl : Int} {T : aH} {σ : aS} (hC : CI pl T σ) {f : Int → Int} (hf : BF T f) {t : Int} (t0 : 0 ≤ t) (t1 : t < T 0 2) : c7_givenIn 8 t (pk5 f) σ = some (0, [gvn T t f], σ) := by
  have hB := hC.2.2.2.2.2
  have h4 := hB.2.2.1
  have hL := hC.1
  have hrow := c3_row_ok hC hf t0 (show t < 4 by omega)
  have hn := nuf_bd hB hf
  have hc := crw_le hB
  have hg := (hC.2.2.2.2.1.2 t _ t0 t1 hf).1
  simp (disch := omega) only [c7_givenIn, ↓reduceIte, acall1_some, acall0_some, q_lt, q_nlt, q_le, q_nle, q_eq, q_ne, q_01, true_or, or_true, false_or, or_false, false_and, and_false, and_self, and_true, true_and, wq, wQ, alen_aput, ag_s, ag_x, ag_j, ag_e, r_8_8 hL, r_8_8 hL, r_9_0 hL, r_9_2 hL, r_9_3 hL, r_9_4 hL, n_10 hL, n_11 hL, n_12 hL, n_13 hL, hrow, hg]
theorem c7_askedIn_ok {pl : Int} {T N : aH} {σ : aS} (hC : CI pl T σ) (hN : NB T N) {sc : Int} (hs : SH sc) (hS : SC T N sc σ) (hR : RE N σ) {f : Int → Int} (hf : BF T f) {t s : Int} (t0 : 0 ≤ t) (t1 : t < T 0 2) (s0 : 0 ≤ s) (s1 : s < T 0 1) :
    c7_askedIn 8 sc s t (pk5 f) σ = some (0, [ask T N t f s], σ) := by
  have hB := hC.2.2.2.2.2
  have h4 := hB.2.2.1
  have hL := hC.1
  have hrow := c3_row_ok hC hf t0 (show t < 4 by omega)
  have has := c7_askedByRow_ok hC hN hs hS hR hf t0 t1 s0 s1
  simp (disch := omega) only [c7_askedIn, ↓reduceIte, acall1_some, acall0_some, q_lt, q_nlt, q_le, q_nle, q_eq, q_ne, q_01, true_or, or_true, false_or, or_false, false_and, and_false, and_self, and_true, true_and, wq, wQ, alen_aput, ag_s, ag_x, ag_j, ag_e, r_8_8 hL, hrow, has]
