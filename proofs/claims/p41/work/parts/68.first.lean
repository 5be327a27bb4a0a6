/-! the class's half of whole's part of this name -/
theorem acmp_p (a b : Int) : (0 < acmp a b) = (b < a) := by
  unfold acmp
  split
  · simp; omega
  · split
    · simp; omega
    · simp; omega
theorem acmp_n (a b : Int) : (acmp a b < 0) = (a < b) := by
  unfold acmp
  split
  · simp; omega
  · split
    · simp; omega
    · simp; omega
theorem acmp_z (a b : Int) : (acmp a b = 0) = (a = b) := by
  unfold acmp
  split
  · simp; omega
  · split
    · simp_all
    · simp_all
theorem bnI_bit {T N : aH} (hN : NB T N) (hB : TB T) {p : Int} (p0 : 0 ≤ p) (p1 : p ≤ T 0 2) : bI (bnI T N) p = bnd T N p ∧ 0 ≤ bnI T N ∧ bnI T N < 16 := by
  have ht := hB.2.2.1
  have hb := hN.2.2.2.2.1
  unfold bnI bnd
  rcases (show T 0 2 = 0 ∨ T 0 2 = 1 ∨ T 0 2 = 2 ∨ T 0 2 = 3 ∨ T 0 2 = 4 by omega) with h | h | h | h | h <;> rw [h] at p1 hb ⊢
  · rw [sI_0, show p = 0 by omega]; simp [bI]
  · have b0 := hb 0 (by omega) (by omega)
    rw [sI_1, p2_0]
    rcases (show p = 0 ∨ p = 1 by omega) with rfl | rfl
    · rw [if_pos (by omega)]; unfold bI; rw [p2_0]; omega
    · rw [if_neg (by omega)]; unfold bI; rw [p2_1]; omega
  · have b0 := hb 0 (by omega) (by omega)
    have b1 := hb 1 (by omega) (by omega)
    rw [sI_2, p2_0, p2_1]
    rcases (show p = 0 ∨ p = 1 ∨ p = 2 by omega) with rfl | rfl | rfl
    · rw [if_pos (by omega)]; unfold bI; rw [p2_0]; omega
    · rw [if_pos (by omega)]; unfold bI; rw [p2_1]; omega
    · rw [if_neg (by omega)]; unfold bI; rw [p2_2]; omega
  · have b0 := hb 0 (by omega) (by omega)
    have b1 := hb 1 (by omega) (by omega)
    have b2 := hb 2 (by omega) (by omega)
    rw [sI_3, p2_0, p2_1, p2_2]
    rcases (show p = 0 ∨ p = 1 ∨ p = 2 ∨ p = 3 by omega) with rfl | rfl | rfl | rfl
    · rw [if_pos (by omega)]; unfold bI; rw [p2_0]; omega
    · rw [if_pos (by omega)]; unfold bI; rw [p2_1]; omega
    · rw [if_pos (by omega)]; unfold bI; rw [p2_2]; omega
    · rw [if_neg (by omega)]; unfold bI; rw [p2_3]; omega
  · have b0 := hb 0 (by omega) (by omega)
    have b1 := hb 1 (by omega) (by omega)
    have b2 := hb 2 (by omega) (by omega)
    have b3 := hb 3 (by omega) (by omega)
    rw [sI_4, p2_0, p2_1, p2_2, p2_3]
    rcases (show p = 0 ∨ p = 1 ∨ p = 2 ∨ p = 3 ∨ p = 4 by omega) with rfl | rfl | rfl | rfl | rfl
    · rw [if_pos (by omega)]; unfold bI; rw [p2_0]; omega
    · rw [if_pos (by omega)]; unfold bI; rw [p2_1]; omega
    · rw [if_pos (by omega)]; unfold bI; rw [p2_2]; omega
    · rw [if_pos (by omega)]; unfold bI; rw [p2_3]; omega
    · rw [if_neg (by omega)]; unfold bI; rw [p2_4]; omega
theorem bnd_01 {T N : aH} (hN : NB T N) {p : Int} (p0 : 0 ≤ p) : 0 ≤ bnd T N p ∧ bnd T N p ≤ 1 := by
  unfold bnd
  by_cases h : p < T 0 2
  · rw [if_pos h]; exact hN.2.2.2.2.1 p p0 h
  · rw [if_neg h]; omega
theorem c8_isBound_ok {T N : aH} {σ : aS} (hN : NB T N) (hB : TB T) {sc : Int} (hS : SC T N sc σ) {p : Int} (p0 : 0 ≤ p) (p1 : p ≤ T 0 2) : c8_isBound sc p σ = some (0, [bnd T N p], σ) := by
  have hb := bnI_bit hN hB p0 p1
  have h1 := bnd_01 hN p0
  have ht := hB.2.2.1
  unfold c8_isBound
  rw [hS.2.2.1, bI_shr hb.2.1 (by omega) p0 (by omega), hb.1]
  by_cases h : bnd T N p = 0
  · simp only [h, ↓reduceIte, acall1_some, acall0_some, q_lt, q_nlt, q_le, q_nle, q_eq, q_ne, q_01, true_or, or_true, false_or, or_false, false_and, and_false, and_self, and_true, true_and, wq, wQ, alen_aput, ag_s, ag_x, ag_j, ag_e]
  · simp (disch := omega) only [show bnd T N p = 1 by omega, ↓reduceIte, acall1_some, acall0_some, q_lt, q_nlt, q_le, q_nle, q_eq, q_ne, q_01, true_or, or_true, false_or, or_false, false_and, and_false, and_self, and_true, true_and, wq, wQ, alen_aput, ag_s, ag_x, ag_j, ag_e]
theorem c7_canLeave_ok {pl : Int} {T N : aH} {σ : aS} (hC : CI pl T σ) (hN : NB T N) {sc : Int} (hS : SC T N sc σ) {g : Int → Int} (hg : BF T g) {a : Int} (a0 : 0 ≤ a) (a1 : a ≤ T 0 2) :
    c7_canLeave 8 sc (pk5 g) a σ = some (0, [if bnd T N a = 0 ∧ cvf (ctn T N a) g = true then 1 else 0], σ) := by
  have hB := hC.2.2.2.2.2
  have hcr := c4_crewAt_ok hC hN a0 a1
  have hib := c8_isBound_ok hN hB hS a0 a1
  have hcv := c11_covers_ok ((ctn_BF hN hB a0 a1).b7 hB) (hg.b7 hB) σ
  have h1 := bnd_01 hN (p := a) (T := T) a0
  have hp := hC.2.1
  have q := hC.2.2.1.1
  by_cases h : bnd T N a = 0
  · cases hc : cvf (ctn T N a) g with
    | true =>
      rw [hc] at hcv
      simp (disch := omega) only [c7_canLeave, hib, ↓reduceIte, acall1_some, acall0_some, q_lt, q_nlt, q_le, q_nle, q_eq, q_ne, q_01, true_or, or_true, false_or, or_false, false_and, and_false, and_self, and_true, true_and, wq, wQ, alen_aput, ag_s, ag_x, ag_j, ag_e, q, hS.1, hcr, hcv, h, hc]
    | false =>
      rw [hc] at hcv
      simp (disch := omega) only [c7_canLeave, hib, ↓reduceIte, acall1_some, acall0_some, q_lt, q_nlt, q_le, q_nle, q_eq, q_ne, q_01, true_or, or_true, false_or, or_false, false_and, and_false, and_self, and_true, true_and, wq, wQ, alen_aput, ag_s, ag_x, ag_j, ag_e, q, hS.1, hcr, hcv, h, hc]
      rfl
  · simp (disch := omega) only [c7_canLeave, hib, ↓reduceIte, acall1_some, acall0_some, q_lt, q_nlt, q_le, q_nle, q_eq, q_ne, q_01, true_or, or_true, false_or, or_false, false_and, and_false, and_self, and_true, true_and, wq, wQ, alen_aput, ag_s, ag_x, ag_j, ag_e, h, false_and]
theorem wstay {T N : aH} {s a b : Int} : (wrA T N s a (ctn T N a) + 27720 * T 2 (4 * s + 3) < wrA T N s b (adc (ctn T N b) s)) = (0 < gai T N s a b) := by
  unfold gai
  exact propext ⟨fun h => by omega, fun h => by omega⟩
theorem fiB_0 (T N : aH) (s a : Int) : 0 ≤ fiB T N s a := ff_0 _
theorem fiB_n {T : aH} (N : aH) (s a : Int) (h : 0 ≤ T 0 2) : fiB T N s a ≤ T 0 2 + 1 := ff_n _ (by omega)
theorem fiB_no {T N : aH} {s a k : Int} (h0 : 0 ≤ k) (h1 : k < fiB T N s a) : (!decide (k = a) && decide (0 < gai T N s a k)) = false := ff_no (P := fun b => !decide (b = a) && decide (0 < gai T N s a b)) h0 h1
theorem fiB_at {T N : aH} {s a : Int} (h : fiB T N s a ≤ T 0 2) : (!decide (fiB T N s a = a) && decide (0 < gai T N s a (fiB T N s a))) = true := ff_at (P := fun b => !decide (b = a) && decide (0 < gai T N s a b)) (by unfold fiB at h; omega)
theorem fiA_0 (T N : aH) (s : Int) : 0 ≤ fiA T N s := ff_0 _
theorem fiA_n {T : aH} (N : aH) (s : Int) (h : 0 ≤ T 0 2) : fiA T N s ≤ T 0 2 + 1 := ff_n _ (by omega)
theorem fiA_no {T N : aH} {s k : Int} (h0 : 0 ≤ k) (h1 : k < fiA T N s) : (decide (0 < N 0 (5 * s + k)) && decide (bnd T N k = 0) && decide (fiB T N s k ≤ T 0 2)) = false := ff_no (P := fun a => decide (0 < N 0 (5 * s + a)) && decide (bnd T N a = 0) && decide (fiB T N s a ≤ T 0 2)) h0 h1
theorem fiA_at {T N : aH} {s : Int} (h : fiA T N s ≤ T 0 2) : (decide (0 < N 0 (5 * s + fiA T N s)) && decide (bnd T N (fiA T N s) = 0) && decide (fiB T N s (fiA T N s) ≤ T 0 2)) = true := ff_at (P := fun a => decide (0 < N 0 (5 * s + a)) && decide (bnd T N a = 0) && decide (fiB T N s a ≤ T 0 2)) (by unfold fiA at h; omega)
theorem fiS_0 (T N : aH) : 0 ≤ fiS T N := ff_0 _
theorem fiS_n {T : aH} (N : aH) (h : 0 ≤ T 0 1) : fiS T N ≤ T 0 1 := ff_n _ h
theorem fiS_no {T N : aH} {k : Int} (h0 : 0 ≤ k) (h1 : k < fiS T N) : ¬ fiA T N k ≤ T 0 2 := of_decide_eq_false (ff_no (P := fun s => decide (fiA T N s ≤ T 0 2)) h0 h1)
theorem fiS_at {T N : aH} (h : fiS T N < T 0 1) : fiA T N (fiS T N) ≤ T 0 2 := of_decide_eq_true (ff_at (P := fun s => decide (fiA T N s ≤ T 0 2)) h)
theorem sf_b {pl : Int} {T N : aH} {σ : aS} (hC : CI pl T σ) (hN : NB T N) {sc : Int} (hs : SH sc) (hS : SC T N sc σ) (hR : RE N σ) {s a : Int} (s0 : 0 ≤ s) (s1 : s < T 0 1) (a0 : 0 ≤ a) (a1 : a ≤ T 0 2) (ha : 0 < N 0 (5 * s + a)) :
    c7_seekFirst_l54 8 sc s a (wrA T N s a (ctn T N a) + 27720 * T 2 (4 * s + 3)) 0 σ = if fiB T N s a ≤ T 0 2 then some (109, [8, s, a, fiB T N s a], σ) else some (16, [8, sc, s, a + 1], σ) := by
  have hB := hC.2.2.2.2.2
  have ht := hB.2.2.1
  have h5 := hB.2.1
  have hal := c4_alone_ok hC
  have hp := hC.2.1
  have q := hC.2.2.1.1
  have n0 := fiB_0 T N s a
  have n1 := fiB_n N s a ht.1
  have body : ∀ b, 0 ≤ b → b ≤ T 0 2 → aU6 c7_seekFirst_b54 [8, sc, s, a, wrA T N s a (ctn T N a) + 27720 * T 2 (4 * s + 3), b] σ = if (!decide (b = a) && decide (0 < gai T N s a b)) = true then some (109, [8, s, a, b], σ) else some (55, [8, sc, s, a, wrA T N s a (ctn T N a) + 27720 * T 2 (4 * s + 3), b + 1], σ) := by
    intro b b0 b1
    have hcr := c4_crewAt_ok hC hN b0 b1
    have h1 := c11_one_ok (s := s) σ s0 (by omega)
    have hk := pk5_bd ((ctn_BF hN hB b0 b1).b7 hB)
    have hpk := pk5_adc (f := ctn T N b) s0 (show s < 5 by omega)
    by_cases e : b = a
    · subst e
      simp (disch := omega) only [aU6, c7_seekFirst_b54, c7_seekFirst_p126, ↓reduceIte, acall1_some, acall0_some, q_lt, q_nlt, q_le, q_nle, q_eq, q_ne, q_01, true_or, or_true, false_or, or_false, false_and, and_false, and_self, and_true, true_and, wq, wQ, alen_aput, ag_s, ag_x, ag_j, ag_e, q, hal, hS.1, hcr, h1]
      simp
    · have hbf := adc_BF hN hB s0 s1 a0 a1 b0 b1 (fun z => e z.symm) ha
      have hw := c7_worthIn_ok hC hN hs hS hR hbf b0 b1 s0 s1
      have hk2 := pk5_bd (hbf.b7 hB)
      by_cases g : 0 < gai T N s a b
      · simp (disch := omega) only [aU6, c7_seekFirst_b54, ↓reduceIte, acall1_some, acall0_some, q_lt, q_nlt, q_le, q_nle, q_eq, q_ne, q_01, true_or, or_true, false_or, or_false, false_and, and_false, and_self, and_true, true_and, wq, wQ, alen_aput, ag_s, ag_x, ag_j, ag_e, q, hal, hS.1, hcr, h1, hpk, hw, acmp_p, wstay, g, e]
        simp
      · simp (disch := omega) only [aU6, c7_seekFirst_b54, c7_seekFirst_p126, ↓reduceIte, acall1_some, acall0_some, q_lt, q_nlt, q_le, q_nle, q_eq, q_ne, q_01, true_or, or_true, false_or, or_false, false_and, and_false, and_self, and_true, true_and, wq, wQ, alen_aput, ag_s, ag_x, ag_j, ag_e, q, hal, hS.1, hcr, h1, hpk, hw, acmp_p, wstay, g, e]
        simp
  have hl := al_0 (c := 55) (B := aU6 c7_seekFirst_b54) (fun k => [8, sc, s, a, wrA T N s a (ctn T N a) + 27720 * T 2 (4 * s + 3), k]) (fun _ => σ) (n := fiB T N s a) (r := if fiB T N s a ≤ T 0 2 then (109, [8, s, a, fiB T N s a], σ) else (133, [8, sc, s, a], σ)) n0 (by omega) ?_ ?_ ?_
  · unfold c7_seekFirst_l54
    rw [hl]
    by_cases h : fiB T N s a ≤ T 0 2
    · simp only [if_pos h, abind, c7_seekFirst_d54]; rfl
    · simp (disch := omega) only [if_neg h, abind, c7_seekFirst_d54, if_true, aU4, c7_seekFirst_p132, wq]
  · intro k k0 k1
    have z := fiB_no k0 k1
    rw [body k k0 (by omega), if_neg (by rw [z]; decide)]
  · by_cases h : fiB T N s a ≤ T 0 2
    · have z := fiB_at h
      rw [if_pos h, body _ n0 h, if_pos z]
    · rw [if_neg h]
      have hn : T 0 2 < fiB T N s a := by omega
      simp (disch := omega) only [aU6, c7_seekFirst_b54, ↓reduceIte, acall1_some, acall0_some, q_lt, q_nlt, q_le, q_nle, q_eq, q_ne, q_01, true_or, or_true, false_or, or_false, false_and, and_false, and_self, and_true, true_and, wq, wQ, alen_aput, ag_s, ag_x, ag_j, ag_e, q, hal]
  · split <;> (intro z; cases z)
theorem sf_a {pl : Int} {T N : aH} {σ : aS} (hC : CI pl T σ) (hN : NB T N) {sc : Int} (hs : SH sc) (hS : SC T N sc σ) (hR : RE N σ) {s : Int} (s0 : 0 ≤ s) (s1 : s < T 0 1) :
    c7_seekFirst_l15 8 sc s 0 σ = if fiA T N s ≤ T 0 2 then some (109, [8, s, fiA T N s, fiB T N s (fiA T N s)], σ) else some (3, [8, sc, s + 1], σ) := by
  have hB := hC.2.2.2.2.2
  have ht := hB.2.2.1
  have h5 := hB.2.1
  have hal := c4_alone_ok hC
  have hp := hC.2.1
  have q := hC.2.2.1.1
  have n0 := fiA_0 T N s
  have n1 := fiA_n N s ht.1
  have body : ∀ a, 0 ≤ a → a ≤ T 0 2 → aU4 c7_seekFirst_b15 [8, sc, s, a] σ = if (decide (0 < N 0 (5 * s + a)) && decide (bnd T N a = 0) && decide (fiB T N s a ≤ T 0 2)) = true then some (109, [8, s, a, fiB T N s a], σ) else some (16, [8, sc, s, a + 1], σ) := by
    intro a a0 a1
    have h1 := c11_one_ok (s := s) σ s0 (by omega)
    have hcl := c7_canLeave_ok hC hN hS (one_BF hB s0 s1) a0 a1
    rw [← pk5_one s0 (by omega), cvf_one hN hB s0 s1 a0 a1] at hcl
    have hst := c7_stayOf_ok hC hN hs hS hR a0 a1 s0 s1
    by_cases g1 : 0 < N 0 (5 * s + a)
    · have hb := sf_b hC hN hs hS hR s0 s1 a0 a1 g1
      by_cases g2 : bnd T N a = 0
      · simp only [g1, g2, decide_true, and_self, if_true] at hcl
        simp (disch := omega) only [aU4, c7_seekFirst_b15, ↓reduceIte, acall1_some, acall0_some, q_lt, q_nlt, q_le, q_nle, q_eq, q_ne, q_01, true_or, or_true, false_or, or_false, false_and, and_false, and_self, and_true, true_and, wq, wQ, alen_aput, ag_s, ag_x, ag_j, ag_e, q, hal, h1, hcl, hst, hb]
        by_cases g3 : fiB T N s a ≤ T 0 2
        · simp [g1, g2, g3]
        · simp [g3]
      · simp only [g2, false_and, if_false] at hcl
        simp (disch := omega) only [aU4, c7_seekFirst_b15, c7_seekFirst_p132, ↓reduceIte, acall1_some, acall0_some, q_lt, q_nlt, q_le, q_nle, q_eq, q_ne, q_01, true_or, or_true, false_or, or_false, false_and, and_false, and_self, and_true, true_and, wq, wQ, alen_aput, ag_s, ag_x, ag_j, ag_e, q, hal, h1, hcl]
        simp [g2]
    · have hcl2 : c7_canLeave 8 sc (p2 (3 * s)) a σ = some (0, [0], σ) := by rw [hcl]; simp [g1]
      simp (disch := omega) only [aU4, c7_seekFirst_b15, c7_seekFirst_p132, ↓reduceIte, acall1_some, acall0_some, q_lt, q_nlt, q_le, q_nle, q_eq, q_ne, q_01, true_or, or_true, false_or, or_false, false_and, and_false, and_self, and_true, true_and, wq, wQ, alen_aput, ag_s, ag_x, ag_j, ag_e, q, hal, h1, hcl2]
      simp [g1]
  have hl := al_0 (c := 16) (B := aU4 c7_seekFirst_b15) (fun k => [8, sc, s, k]) (fun _ => σ) (n := fiA T N s) (r := if fiA T N s ≤ T 0 2 then (109, [8, s, fiA T N s, fiB T N s (fiA T N s)], σ) else (139, [8, sc, s], σ)) n0 (by omega) ?_ ?_ ?_
  · unfold c7_seekFirst_l15
    rw [hl]
    by_cases h : fiA T N s ≤ T 0 2
    · simp only [if_pos h, abind, c7_seekFirst_d15]; rfl
    · simp (disch := omega) only [if_neg h, abind, c7_seekFirst_d15, if_true, aU3, c7_seekFirst_p138, wq]
  · intro k k0 k1
    have z := fiA_no k0 k1
    rw [body k k0 (by omega), if_neg (by rw [z]; decide)]
  · by_cases h : fiA T N s ≤ T 0 2
    · have z := fiA_at h
      rw [if_pos h, body _ n0 h, if_pos z]
    · rw [if_neg h]
      have hn : T 0 2 < fiA T N s := by omega
      simp (disch := omega) only [aU4, c7_seekFirst_b15, ↓reduceIte, acall1_some, acall0_some, q_lt, q_nlt, q_le, q_nle, q_eq, q_ne, q_01, true_or, or_true, false_or, or_false, false_and, and_false, and_self, and_true, true_and, wq, wQ, alen_aput, ag_s, ag_x, ag_j, ag_e, q, hal]
  · split <;> (intro z; cases z)
theorem c7_seekFirst_ok {pl : Int} {T N : aH} {σ : aS} (hC : CI pl T σ) (hN : NB T N) {sc : Int} (hs : SH sc) (hS : SC T N sc σ) (hR : RE N σ) :
    c7_seekFirst 8 sc σ = if fiS T N < T 0 1 then some (0, [1], aput (aput (aput σ 8 1 (fiS T N)) 8 3 (fiA T N (fiS T N))) 8 4 (fiB T N (fiS T N) (fiA T N (fiS T N)))) else some (0, [0], σ) := by
  have hB := hC.2.2.2.2.2
  have h5 := hB.2.1
  have hal := c4_sorts_ok hC
  have hp := hC.2.1
  have q := hC.2.2.1.1
  have n0 := fiS_0 T N
  have n1 := fiS_n N h5.1
  have hl := al_0 (c := 3) (B := aU3 c7_seekFirst_b2) (fun k => [8, sc, k]) (fun _ => σ) (n := fiS T N) (r := if fiS T N < T 0 1 then (109, [8, fiS T N, fiA T N (fiS T N), fiB T N (fiS T N) (fiA T N (fiS T N))], σ) else (0, [0], σ)) n0 (by omega) ?_ ?_ ?_
  · unfold c7_seekFirst c7_seekFirst_l2
    rw [hl]
    by_cases h : fiS T N < T 0 1
    · simp only [if_pos h, abind, c7_seekFirst_d2, if_true, aU4, c7_seekFirst_p108]; rfl
    · simp only [if_neg h, abind, c7_seekFirst_d2]; rfl
  · intro k k0 k1
    have z := fiS_no k0 k1
    have k2 : k < T 0 1 := by omega
    have ha := sf_a hC hN hs hS hR k0 k2
    rw [if_neg z] at ha
    simp (disch := omega) only [aU3, c7_seekFirst_b2, ↓reduceIte, acall1_some, acall0_some, q_lt, q_nlt, q_le, q_nle, q_eq, q_ne, q_01, true_or, or_true, false_or, or_false, false_and, and_false, and_self, and_true, true_and, wq, wQ, alen_aput, ag_s, ag_x, ag_j, ag_e, q, hal, ha]
  · by_cases h : fiS T N < T 0 1
    · have z := fiS_at h
      have ha := sf_a hC hN hs hS hR n0 h
      rw [if_pos z] at ha
      rw [if_pos h]
      simp (disch := omega) only [aU3, c7_seekFirst_b2, ↓reduceIte, acall1_some, acall0_some, q_lt, q_nlt, q_le, q_nle, q_eq, q_ne, q_01, true_or, or_true, false_or, or_false, false_and, and_false, and_self, and_true, true_and, wq, wQ, alen_aput, ag_s, ag_x, ag_j, ag_e, q, hal, ha]
    · rw [if_neg h]
      simp (disch := omega) only [aU3, c7_seekFirst_b2, ↓reduceIte, acall1_some, acall0_some, q_lt, q_nlt, q_le, q_nle, q_eq, q_ne, q_01, true_or, or_true, false_or, or_false, false_and, and_false, and_self, and_true, true_and, wq, wQ, alen_aput, ag_s, ag_x, ag_j, ag_e, q, hal]
  · split <;> (intro z; cases z)
