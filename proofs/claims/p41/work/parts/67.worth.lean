/-! the class's half of whole's part of this name -/
theorem c3_likedBy_ok {pl : Int} {T : aH} {σ : aS} (hC : CI pl T σ) {f : Int → Int} (hf : BF T f) {t s : Int} (t0 : 0 ≤ t) (t1 : t < T 0 2) (s0 : 0 ≤ s) (s1 : s < T 0 1) : c3_likedBy 9 s (432 * t + nuf T f) σ = some (0, [lik T t f s * 27720], σ) := by
  obtain ⟨hL, hp, hq, hT, hG, hB⟩ := hC
  have hn := nuf_bd hB hf
  have hc := crw_le hB
  have h1 := hB.2.1
  have h2 := hB.2.2.1
  have hl := lik_bd hB t (hf.b7 hB) s0 s1
  have e := ((hG.2 t f t0 t1 hf).2 s s0 s1).1
  simp (disch := omega) only [c3_likedBy, ↓reduceIte, acall1_some, acall0_some, q_lt, q_nlt, q_le, q_nle, q_eq, q_ne, q_01, true_or, or_true, false_or, or_false, false_and, and_false, and_self, and_true, true_and, wq, wQ, alen_aput, ag_s, ag_x, ag_j, ag_e, r_8_8 hL, r_9_0 hL, r_9_2 hL, r_9_3 hL, r_9_4 hL, n_10 hL, n_11 hL, n_12 hL, n_13 hL, e]
theorem c3_ruledFor_ok {pl : Int} {T : aH} {σ : aS} (hC : CI pl T σ) {f : Int → Int} (hf : BF T f) {t s : Int} (t0 : 0 ≤ t) (t1 : t < T 0 2) (s0 : 0 ≤ s) (s1 : s < T 0 1) : c3_ruledFor 9 s (432 * t + nuf T f) σ = some (0, [rul T t f s], σ) := by
  obtain ⟨hL, hp, hq, hT, hG, hB⟩ := hC
  have hn := nuf_bd hB hf
  have hc := crw_le hB
  have h1 := hB.2.1
  have h2 := hB.2.2.1
  have e := ((hG.2 t f t0 t1 hf).2 s s0 s1).2
  simp (disch := omega) only [c3_ruledFor, ↓reduceIte, acall1_some, acall0_some, q_lt, q_nlt, q_le, q_nle, q_eq, q_ne, q_01, true_or, or_true, false_or, or_false, false_and, and_false, and_self, and_true, true_and, wq, wQ, alen_aput, ag_s, ag_x, ag_j, ag_e, r_8_8 hL, r_9_0 hL, r_9_2 hL, r_9_3 hL, r_9_4 hL, n_10 hL, n_11 hL, n_12 hL, n_13 hL, e]
/-- what is asked by a row -/
theorem c7_askedByRow_ok {pl : Int} {T N : aH} {σ : aS} (hC : CI pl T σ) (hN : NB T N) {sc : Int} (hs : SH sc) (hS : SC T N sc σ) (hR : RE N σ) {f : Int → Int} (hf : BF T f) {t s : Int} (t0 : 0 ≤ t) (t1 : t < T 0 2) (s0 : 0 ≤ s) (s1 : s < T 0 1) :
    c7_askedByRow 8 sc s t (432 * t + nuf T f) σ = some (0, [ask T N t f s], σ) := by
  have hru := c3_ruledFor_ok hC hf t0 t1 s0 s1
  obtain ⟨hL, hp, hq, hT, hG, hB⟩ := hC
  have hb7 := hf.b7 hB
  have h1 := hB.2.1
  have h2 := hB.2.2.1
  have a := rul_bd hB t0 t1 hb7 s0 s1
  have b := hN.2.2.1 t t0 (by omega)
  have c := hN.2.2.2.2.2.2.2.2
  have d := (hB.2.2.2.2.2.1 s s0 s1).2.1
  have e := mul_nn c.2.1 c.2.2 d.1 d.2
  have hsp := hs.p
  have ex := hS.2.1 t t0 (by omega)
  have fg := hT.2.2.1 s 1 s0 s1 (by omega) (by omega)
  have r9 := hR.1
  by_cases h : t = N 4 0
  · have r56 := hR.2 (by omega)
    have hfl := r56.1
    have hti := r56.2
    have fg2 : aget σ (pl + 3) (s * 4 + 1) = T 2 (4 * s + 1) := by rw [show s * 4 + 1 = 4 * s + 1 by omega]; exact fg
    simp (disch := omega) only [c7_askedByRow, c7_askedByRow_p49, ↓reduceIte, acall1_some, acall0_some, q_lt, q_nlt, q_le, q_nle, q_eq, q_ne, q_01, true_or, or_true, false_or, or_false, false_and, and_false, and_self, and_true, true_and, wq, wQ, alen_aput, ag_s, ag_x, ag_j, ag_e, hq.1, rp_0 hL hp, rp_1 hL hp, rp_2 hL hp, rp_3 hL hp, rp_4 hL hp, rp_5 hL hp, rp_6 hL hp, rp_7 hL hp, rp_16 hL hp, np_1 hL hp, np_2 hL hp, np_3 hL hp, np_4 hL hp, np_5 hL hp, np_6 hL hp, np_19 hL hp, fg2, hfl, hti, rs_0 hL hs, ns_1 hL hs, ex]
    unfold ask
    rw [if_pos h]
    rw [show (N 4 1 + N 4 2 * T 2 (4 * s + 1)) * 27720 + N 1 t * 27720 = 27720 * (N 4 1 + N 4 2 * T 2 (4 * s + 1)) + 27720 * N 1 t by omega]
  · simp (disch := omega) only [c7_askedByRow, c7_askedByRow_p49, ↓reduceIte, acall1_some, acall0_some, q_lt, q_nlt, q_le, q_nle, q_eq, q_ne, q_01, true_or, or_true, false_or, or_false, false_and, and_false, and_self, and_true, true_and, wq, wQ, alen_aput, ag_s, ag_x, ag_j, ag_e, r_8_8 hL, hru, rs_0 hL hs, ns_1 hL hs, ex]
    unfold ask
    rw [if_neg h, show N 1 t * 27720 = 27720 * N 1 t by omega]
theorem c7_worthIn_ok {pl : Int} {T N : aH} {σ : aS} (hC : CI pl T σ) (hN : NB T N) {sc : Int} (hs : SH sc) (hS : SC T N sc σ) (hR : RE N σ) {f : Int → Int} (hf : BF T f) {p s : Int} (p0 : 0 ≤ p) (p1 : p ≤ T 0 2) (s0 : 0 ≤ s) (s1 : s < T 0 1) :
    c7_worthIn 8 sc s p (pk5 f) σ = some (0, [wrA T N s p f], σ) := by
  have hal := c4_alone_ok hC
  have hfi := c4_figure_ok hC s0 s1 (show (0 : Int) ≤ 2 by omega) (by omega)
  have hC' := hC
  obtain ⟨hL, hp, hq, hT, hG, hB⟩ := hC
  have h2 := hB.2.2.1
  have d := (hB.2.2.2.2.2.1 s s0 s1).2.2
  by_cases h : p < T 0 2
  · have hrow := c3_row_ok hC' hf p0 (show p < 4 by omega)
    have hli := c3_likedBy_ok hC' hf p0 h s0 s1
    have has := c7_askedByRow_ok hC' hN hs hS hR hf p0 h s0 s1
    have b1 := lik_bd hB p (hf.b7 hB) s0 s1
    have b2 := ask_bd hB hN p0 h (hf.b7 hB) s0 s1
    simp (disch := omega) only [c7_worthIn, ↓reduceIte, acall1_some, acall0_some, q_lt, q_nlt, q_le, q_nle, q_eq, q_ne, q_01, true_or, or_true, false_or, or_false, false_and, and_false, and_self, and_true, true_and, wq, wQ, alen_aput, ag_s, ag_x, ag_j, ag_e, hq.1, hal, r_8_8 hL, hrow, hli, has]
    unfold wrA wor
    rw [if_neg (show ¬ p = T 0 2 by omega), show lik T p f s * 27720 = 27720 * lik T p f s by omega]
  · simp (disch := omega) only [c7_worthIn, ↓reduceIte, acall1_some, acall0_some, q_lt, q_nlt, q_le, q_nle, q_eq, q_ne, q_01, true_or, or_true, false_or, or_false, false_and, and_false, and_self, and_true, true_and, wq, wQ, alen_aput, ag_s, ag_x, ag_j, ag_e, hq.1, hal, hfi]
    unfold wrA
    rw [if_pos (show p = T 0 2 by omega), show T 2 (4 * s + 2) * 27720 = 27720 * T 2 (4 * s + 2) by omega]
theorem c7_stayOf_ok {pl : Int} {T N : aH} {σ : aS} (hC : CI pl T σ) (hN : NB T N) {sc : Int} (hs : SH sc) (hS : SC T N sc σ) (hR : RE N σ) {p s : Int} (p0 : 0 ≤ p) (p1 : p ≤ T 0 2) (s0 : 0 ≤ s) (s1 : s < T 0 1) :
    c7_stayOf 8 sc s p σ = some (0, [wrA T N s p (ctn T N p) + 27720 * T 2 (4 * s + 3)], σ) := by
  have hcr := c4_crewAt_ok hC hN p0 p1
  have hfi := c4_figure_ok hC s0 s1 (show (0 : Int) ≤ 3 by omega) (by omega)
  have hB := hC.2.2.2.2.2
  have hw := c7_worthIn_ok hC hN hs hS hR (ctn_BF hN hB p0 p1) p0 p1 s0 s1
  have b := wrA_bd hB hN p0 p1 ((ctn_BF hN hB p0 p1).b7 hB) s0 s1
  have d := (hB.2.2.2.2.2.1 s s0 s1).2.2.2
  have q := hC.2.2.1.1
  have hp := hC.2.1
  simp (disch := omega) only [c7_stayOf, ↓reduceIte, acall1_some, acall0_some, q_lt, q_nlt, q_le, q_nle, q_eq, q_ne, q_01, true_or, or_true, false_or, or_false, false_and, and_false, and_self, and_true, true_and, wq, wQ, alen_aput, ag_s, ag_x, ag_j, ag_e, q, hS.1, hcr, hw, hfi]
  rw [show T 2 (4 * s + 3) * 27720 = 27720 * T 2 (4 * s + 3) by omega]
theorem pk5_adc {f : Int → Int} {s : Int} (s0 : 0 ≤ s) (s1 : s < 5) : pk5 f + p2 (3 * s) = pk5 (adc f s) := by
  rcases cs5 s0 s1 with rfl | rfl | rfl | rfl | rfl
  · rw [p2_30]; simp [pk5, adc]; omega
  · rw [p2_31]; simp [pk5, adc]; omega
  · rw [p2_32]; simp [pk5, adc]; omega
  · rw [p2_33]; simp [pk5, adc]; omega
  · rw [p2_34]; simp [pk5, adc]; omega
theorem NB.two {T N : aH} (hN : NB T N) {s a b : Int} (s0 : 0 ≤ s) (s1 : s < T 0 1) (a0 : 0 ≤ a) (a1 : a ≤ T 0 2) (b0 : 0 ≤ b) (b1 : b ≤ T 0 2) (hab : a ≠ b) : N 0 (5 * s + a) + N 0 (5 * s + b) ≤ T 2 (4 * s) := by
  have e := hN.2.1 s s0 s1
  have m := sI_mem (f := fun p => if p = a then N 0 (5 * s + a) + N 0 (5 * s + b) else if p = b then 0 else N 0 (5 * s + p)) (n := T 0 2 + 1) (fun k k0 k1 => by
    have h1 := hN.1 s a s0 s1 a0 a1
    have h2 := hN.1 s b s0 s1 b0 b1
    have h3 := hN.1 s k s0 s1 k0 (by omega)
    try simp only
    repeat' split
    all_goals omega) a0 (by omega)
  simp only [if_true] at m
  have key : ∀ n : Nat, smN (fun p => if p = a then N 0 (5 * s + a) + N 0 (5 * s + b) else if p = b then 0 else N 0 (5 * s + p)) n = smN (fun p => N 0 (5 * s + p)) n + (if a < n then N 0 (5 * s + b) else 0) - (if b < n then N 0 (5 * s + b) else 0) := by
    intro n
    induction n with
    | zero => simp [smN, show ¬ a < 0 by omega, show ¬ b < 0 by omega]
    | succ n ih =>
      unfold smN
      rw [ih]
      by_cases h1 : (n : Int) = a
      · subst h1
        simp only [if_true, Int.lt_irrefl, if_false, show ((n : Int) < ((n + 1 : Nat) : Int)) by omega]
        by_cases h2 : b < (n : Int)
        · rw [if_pos h2, if_pos (by omega)]; omega
        · rw [if_neg h2, if_neg (by omega)]; omega
      · by_cases h2 : (n : Int) = b
        · subst h2
          simp only [if_neg h1, if_true, Int.lt_irrefl, if_false, show ((n : Int) < ((n + 1 : Nat) : Int)) by omega]
          by_cases h3 : a < (n : Int)
          · rw [if_pos h3, if_pos (by omega)]; omega
          · rw [if_neg h3, if_neg (by omega)]; omega
        · simp only [if_neg h1, if_neg h2]
          by_cases h3 : a < (n : Int) <;> by_cases h4 : b < (n : Int)
          · rw [if_pos h3, if_pos h4, if_pos (by omega), if_pos (by omega)]; omega
          · rw [if_pos h3, if_neg h4, if_pos (by omega), if_neg (by omega)]; omega
          · rw [if_neg h3, if_pos h4, if_neg (by omega), if_pos (by omega)]; omega
          · rw [if_neg h3, if_neg h4, if_neg (by omega), if_neg (by omega)]; omega
  have k2 := key (T 0 2 + 1).toNat
  rw [if_pos (by omega), if_pos (by omega)] at k2
  unfold sI at m e
  omega
theorem adc_BF {T N : aH} (hN : NB T N) (hB : TB T) {s a b : Int} (s0 : 0 ≤ s) (s1 : s < T 0 1) (a0 : 0 ≤ a) (a1 : a ≤ T 0 2) (b0 : 0 ≤ b) (b1 : b ≤ T 0 2) (hab : a ≠ b) (h : 0 < N 0 (5 * s + a)) : BF T (adc (ctn T N b) s) := by
  have c := hN.two s0 s1 a0 a1 b0 b1 hab
  constructor
  · intro k k0 k1
    have d := ctn_bd hN hB b0 b1 k
    unfold adc
    by_cases e : k = s
    · subst e
      rw [if_pos rfl]
      rw [ctn_in N b s0 s1, hsf_in s0 s1] at *
      omega
    · rw [if_neg e]; omega
  · intro k hk
    unfold adc
    rw [if_neg (fun e => hk (by omega))]
    exact if_neg hk
theorem one_BF {T : aH} (hB : TB T) {s : Int} (s0 : 0 ≤ s) (s1 : s < T 0 1) : BF T (on1 s) := by
  constructor
  · intro k k0 k1
    have d := hsf_bd hB k
    rw [on1_eq]
    by_cases e : k = s
    · subst e
      rw [if_pos rfl, hsf_in s0 s1]
      have := (hB.2.2.2.2.2.1 k s0 s1).1
      omega
    · rw [if_neg e]; omega
  · intro k hk
    rw [on1_eq]
    rw [if_neg (fun e => hk (by omega))]
theorem pk5_one {s : Int} (s0 : 0 ≤ s) (s1 : s < 5) : p2 (3 * s) = pk5 (on1 s) := by
  have := pk5_adc (f := fun _ => 0) s0 s1
  unfold on1
  rw [← this]; simp [pk5]
theorem cvf_one {T N : aH} (hN : NB T N) (hB : TB T) {s p : Int} (s0 : 0 ≤ s) (s1 : s < T 0 1) (p0 : 0 ≤ p) (p1 : p ≤ T 0 2) : cvf (ctn T N p) (on1 s) = decide (0 < N 0 (5 * s + p)) := by
  have h5 := hB.2.1
  by_cases h : 0 < N 0 (5 * s + p)
  · rw [decide_eq_true h, cvf_iff]
    intro k k0 k1
    have d := ctn_bd hN hB p0 p1 k
    rw [on1_eq]
    by_cases e : k = s
    · subst e
      rw [if_pos rfl, ctn_in N p s0 s1]; omega
    · rw [if_neg e]; omega
  · rw [decide_eq_false h]
    cases hc : cvf (ctn T N p) (on1 s) with
    | false => rfl
    | true =>
      have := cvf_iff.mp hc s s0 (by omega)
      rw [on1_eq] at this
      rw [if_pos rfl, ctn_in N p s0 s1] at this
      omega
