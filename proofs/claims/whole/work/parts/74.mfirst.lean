/-! the reference: who would go first, a going -/
theorem c12_isFast_ok {T N : aH} {σ : aS} (hM : MI T σ) (hN : NB T N) (hS : MN T N σ) {p : Int} (p0 : 0 ≤ p) : c12_isFast 130 p σ = some (0, [bnd T N p], σ) := by
  have hB := hM.2.2
  have ht := hB.2.2.1
  have hL := hM.1
  have h14 := hM.2.1.1.2.2.1
  unfold bnd
  by_cases h : p < T 0 2
  · have hc := hS.2.2.1 p p0 h
    have hb := hN.2.2.2.2.1 p p0 h
    rw [if_pos h]
    by_cases e : N 2 p = 1
    · simp (disch := omega) only [c12_isFast, ↓reduceIte, acall1_some, acall0_some, q_lt, q_nlt, q_le, q_nle, q_eq, q_ne, q_01, true_or, or_true, false_or, or_false, false_and, and_false, and_self, and_true, true_and, wq, wQ, alen_aput, ag_s, ag_x, ag_j, ag_e, h14, r_130_35 hL, n_144 hL, hc, e]
    · simp (disch := omega) only [c12_isFast, ↓reduceIte, acall1_some, acall0_some, q_lt, q_nlt, q_le, q_nle, q_eq, q_ne, q_01, true_or, or_true, false_or, or_false, false_and, and_false, and_self, and_true, true_and, wq, wQ, alen_aput, ag_s, ag_x, ag_j, ag_e, h14, r_130_35 hL, n_144 hL, hc, e]
      rw [show N 2 p = 0 by omega]
  · rw [if_neg h]
    simp (disch := omega) only [c12_isFast, ↓reduceIte, acall1_some, acall0_some, q_lt, q_nlt, q_le, q_nle, q_eq, q_ne, q_01, true_or, or_true, false_or, or_false, false_and, and_false, and_self, and_true, true_and, wq, wQ, alen_aput, ag_s, ag_x, ag_j, ag_e, h14]
theorem mf_b {T N : aH} {σ : aS} (hM : MI T σ) (hN : NB T N) (hS : MN T N σ) {s a : Int} (s0 : 0 ≤ s) (s1 : s < T 0 1) (a0 : 0 ≤ a) (a1 : a ≤ T 0 2) :
    ∃ τ, Fr wwor σ τ ∧ c12_findFirst_l46 130 s a 0 σ = if fiB T N s a ≤ T 0 2 then some (75, [130, s, a, fiB T N s a], τ) else some (13, [130, s, a + 1], τ) := by
  have hB := hM.2.2
  have ht := hB.2.2.1
  have h5 := hB.2.1
  have n0 := fiB_0 T N s a
  have n1 := fiB_n N s a ht.1
  have body : ∀ b τ, 0 ≤ b → b ≤ T 0 2 → Fr wwor σ τ → ∃ υ, Fr wwor σ υ ∧ aU4 c12_findFirst_b46 [130, s, a, b] τ = if (!decide (b = a) && decide (0 < gai T N s a b)) = true then some (75, [130, s, a, b], υ) else some (47, [130, s, a, b + 1], υ) := by
    intro b τ b0 b1 hF
    have hM2 := hM.fr hF (by decide +kernel) (wdj_spec (by decide +kernel))
    have hS2 := hS.fr hF (wdj_spec (by decide +kernel))
    have h14 := hM2.2.1.1.2.2.1
    by_cases e : b = a
    · subst e
      refine ⟨τ, hF, ?_⟩
      simp (disch := omega) only [aU4, c12_findFirst_b46, c12_findFirst_p91, ↓reduceIte, acall1_some, acall0_some, q_lt, q_nlt, q_le, q_nle, q_eq, q_ne, q_01, true_or, or_true, false_or, or_false, false_and, and_false, and_self, and_true, true_and, wq, wQ, alen_aput, ag_s, ag_x, ag_j, ag_e, h14]
      simp
    · obtain ⟨υ, hg, hF2⟩ := c12_gainOf_ok hM2 hN hS2 s0 s1 a0 a1 b0 b1
      refine ⟨υ, hF.tr hF2, ?_⟩
      by_cases g : 0 < gai T N s a b
      · simp (disch := omega) only [aU4, c12_findFirst_b46, c12_findFirst_p91, ↓reduceIte, acall1_some, acall0_some, q_lt, q_nlt, q_le, q_nle, q_eq, q_ne, q_01, true_or, or_true, false_or, or_false, false_and, and_false, and_self, and_true, true_and, wq, wQ, alen_aput, ag_s, ag_x, ag_j, ag_e, h14, hg, acmp_p, g, e]
        simp
      · simp (disch := omega) only [aU4, c12_findFirst_b46, c12_findFirst_p91, ↓reduceIte, acall1_some, acall0_some, q_lt, q_nlt, q_le, q_nle, q_eq, q_ne, q_01, true_or, or_true, false_or, or_false, false_and, and_false, and_self, and_true, true_and, wq, wQ, alen_aput, ag_s, ag_x, ag_j, ag_e, h14, hg, acmp_p, g, e]
        simp
  obtain ⟨r, hr, τ, hF, hQ⟩ := al_I (c := 47) (B := aU4 c12_findFirst_b46) (n := fiB T N s a) (i := 0) (vs := [130, s, a, 0]) (σ := σ)
    (fun k vs τ => 0 ≤ k ∧ vs = [130, s, a, k] ∧ Fr wwor σ τ) (fun r => ∃ τ, Fr wwor σ τ ∧ r = if fiB T N s a ≤ T 0 2 then (75, [130, s, a, fiB T N s a], τ) else (98, [130, s, a], τ)) n0 (by omega) ⟨Int.le_refl _, rfl, Fr.rf _ _⟩ (by
      rintro k vs τ hk ⟨k0, rfl, hF⟩
      by_cases hk2 : k < fiB T N s a
      · have z := fiB_no k0 hk2
        obtain ⟨υ, hF2, hb⟩ := body k τ k0 (by omega) hF
        rw [if_neg (by rw [z]; decide)] at hb
        exact Or.inl ⟨hk2, _, υ, hb, by omega, rfl, hF2⟩
      · have hke : k = fiB T N s a := by omega
        by_cases h : fiB T N s a ≤ T 0 2
        · have z := fiB_at h
          obtain ⟨υ, hF2, hb⟩ := body k τ k0 (by omega) hF
          rw [hke] at hb
          rw [if_pos z] at hb
          rw [hke]
          exact Or.inr ⟨_, hb, Nat.ne_of_beq_eq_false rfl, υ, hF2, by rw [if_pos h]⟩
        · have hM2 := hM.fr hF (by decide +kernel) (wdj_spec (by decide +kernel))
          have h14 := hM2.2.1.1.2.2.1
          refine Or.inr ⟨(98, [130, s, a], τ), ?_, Nat.ne_of_beq_eq_false rfl, τ, hF, by rw [if_neg h]⟩
          simp (disch := omega) only [aU4, c12_findFirst_b46, ↓reduceIte, acall1_some, acall0_some, q_lt, q_nlt, q_le, q_nle, q_eq, q_ne, q_01, true_or, or_true, false_or, or_false, false_and, and_false, and_self, and_true, true_and, wq, wQ, alen_aput, ag_s, ag_x, ag_j, ag_e, h14])
  refine ⟨τ, hF, ?_⟩
  unfold c12_findFirst_l46
  rw [hr, hQ]
  by_cases h : fiB T N s a ≤ T 0 2
  · simp only [if_pos h, abind, c12_findFirst_d46]; rfl
  · simp (disch := omega) only [if_neg h, abind, c12_findFirst_d46, if_true, aU3, c12_findFirst_p97, wq]
theorem mf_a {T N : aH} {σ : aS} (hM : MI T σ) (hN : NB T N) (hS : MN T N σ) {s : Int} (s0 : 0 ≤ s) (s1 : s < T 0 1) :
    ∃ τ, Fr wwor σ τ ∧ c12_findFirst_l12 130 s 0 σ = if fiA T N s ≤ T 0 2 then some (75, [130, s, fiA T N s, fiB T N s (fiA T N s)], τ) else some (3, [130, s + 1], τ) := by
  have hB := hM.2.2
  have ht := hB.2.2.1
  have h5 := hB.2.1
  have n0 := fiA_0 T N s
  have n1 := fiA_n N s ht.1
  have body : ∀ a τ, 0 ≤ a → a ≤ T 0 2 → Fr wwor σ τ → ∃ υ, Fr wwor σ υ ∧ aU3 c12_findFirst_b12 [130, s, a] τ = if (decide (0 < N 0 (5 * s + a)) && decide (bnd T N a = 0) && decide (fiB T N s a ≤ T 0 2)) = true then some (75, [130, s, a, fiB T N s a], υ) else some (13, [130, s, a + 1], υ) := by
    intro a τ a0 a1 hF
    have hM2 := hM.fr hF (by decide +kernel) (wdj_spec (by decide +kernel))
    have hS2 := hS.fr hF (wdj_spec (by decide +kernel))
    have hL := hM2.1
    have h14 := hM2.2.1.1.2.2.1
    have hn := hS2.1 s a s0 s1 a0 a1
    have hnb := hN.le hB s0 s1 a0 a1
    by_cases g1 : N 0 (5 * s + a) = 0
    · refine ⟨τ, hF, ?_⟩
      simp (disch := omega) only [aU3, c12_findFirst_b12, c12_findFirst_p97, ↓reduceIte, acall1_some, acall0_some, q_lt, q_nlt, q_le, q_nle, q_eq, q_ne, q_01, true_or, or_true, false_or, or_false, false_and, and_false, and_self, and_true, true_and, wq, wQ, alen_aput, ag_s, ag_x, ag_j, ag_e, h14, r_130_51 hL, n_155 hL, hn]
      simp [g1]
    · have hfa := c12_isFast_ok hM2 hN hS2 a0
      by_cases g2 : bnd T N a = 0
      · obtain ⟨υ, hF2, hb⟩ := mf_b hM2 hN hS2 s0 s1 a0 a1
        refine ⟨υ, hF.tr hF2, ?_⟩
        simp (disch := omega) only [aU3, c12_findFirst_b12, c12_findFirst_p97, ↓reduceIte, acall1_some, acall0_some, q_lt, q_nlt, q_le, q_nle, q_eq, q_ne, q_01, true_or, or_true, false_or, or_false, false_and, and_false, and_self, and_true, true_and, wq, wQ, alen_aput, ag_s, ag_x, ag_j, ag_e, h14, r_130_51 hL, n_155 hL, hn, hfa, g2, hb]
        by_cases g3 : fiB T N s a ≤ T 0 2
        · simp [g2, g3, show 0 < N 0 (5 * s + a) by omega]
        · simp [g3]
      · have hbb := bnd_01 hN (T := T) a0
        refine ⟨τ, hF, ?_⟩
        simp (disch := omega) only [aU3, c12_findFirst_b12, c12_findFirst_p97, ↓reduceIte, acall1_some, acall0_some, q_lt, q_nlt, q_le, q_nle, q_eq, q_ne, q_01, true_or, or_true, false_or, or_false, false_and, and_false, and_self, and_true, true_and, wq, wQ, alen_aput, ag_s, ag_x, ag_j, ag_e, h14, r_130_51 hL, n_155 hL, hn, hfa]
        simp [g2]
  obtain ⟨r, hr, τ, hF, hQ⟩ := al_I (c := 13) (B := aU3 c12_findFirst_b12) (n := fiA T N s) (i := 0) (vs := [130, s, 0]) (σ := σ)
    (fun k vs τ => 0 ≤ k ∧ vs = [130, s, k] ∧ Fr wwor σ τ) (fun r => ∃ τ, Fr wwor σ τ ∧ r = if fiA T N s ≤ T 0 2 then (75, [130, s, fiA T N s, fiB T N s (fiA T N s)], τ) else (104, [130, s], τ)) n0 (by omega) ⟨Int.le_refl _, rfl, Fr.rf _ _⟩ (by
      rintro k vs τ hk ⟨k0, rfl, hF⟩
      by_cases hk2 : k < fiA T N s
      · have z := fiA_no k0 hk2
        obtain ⟨υ, hF2, hb⟩ := body k τ k0 (by omega) hF
        rw [if_neg (by rw [z]; decide)] at hb
        exact Or.inl ⟨hk2, _, υ, hb, by omega, rfl, hF2⟩
      · have hke : k = fiA T N s := by omega
        by_cases h : fiA T N s ≤ T 0 2
        · have z := fiA_at h
          obtain ⟨υ, hF2, hb⟩ := body k τ k0 (by omega) hF
          rw [hke] at hb
          rw [if_pos z] at hb
          rw [hke]
          exact Or.inr ⟨_, hb, Nat.ne_of_beq_eq_false rfl, υ, hF2, by rw [if_pos h]⟩
        · have hM2 := hM.fr hF (by decide +kernel) (wdj_spec (by decide +kernel))
          have h14 := hM2.2.1.1.2.2.1
          refine Or.inr ⟨(104, [130, s], τ), ?_, Nat.ne_of_beq_eq_false rfl, τ, hF, by rw [if_neg h]⟩
          simp (disch := omega) only [aU3, c12_findFirst_b12, ↓reduceIte, acall1_some, acall0_some, q_lt, q_nlt, q_le, q_nle, q_eq, q_ne, q_01, true_or, or_true, false_or, or_false, false_and, and_false, and_self, and_true, true_and, wq, wQ, alen_aput, ag_s, ag_x, ag_j, ag_e, h14])
  refine ⟨τ, hF, ?_⟩
  unfold c12_findFirst_l12
  rw [hr, hQ]
  by_cases h : fiA T N s ≤ T 0 2
  · simp only [if_pos h, abind, c12_findFirst_d12]; rfl
  · simp (disch := omega) only [if_neg h, abind, c12_findFirst_d12, if_true, aU2, c12_findFirst_p103, wq]
theorem c12_findFirst_ok {T N : aH} {σ : aS} (hM : MI T σ) (hN : NB T N) (hS : MN T N σ) :
    ∃ τ, Fr wwor σ τ ∧ c12_findFirst 130 σ = if fiS T N < T 0 1 then some (0, [1], aput (aput (aput τ 130 62 (fiS T N)) 130 63 (fiA T N (fiS T N))) 130 64 (fiB T N (fiS T N) (fiA T N (fiS T N)))) else some (0, [0], τ) := by
  have hB := hM.2.2
  have h5 := hB.2.1
  have n0 := fiS_0 T N
  have n1 := fiS_n N h5.1
  obtain ⟨r, hr, τ, hF, hQ⟩ := al_I (c := 3) (B := aU2 c12_findFirst_b2) (n := fiS T N) (i := 0) (vs := [130, 0]) (σ := σ)
    (fun k vs τ => 0 ≤ k ∧ vs = [130, k] ∧ Fr wwor σ τ) (fun r => ∃ τ, Fr wwor σ τ ∧ r = if fiS T N < T 0 1 then (75, [130, fiS T N, fiA T N (fiS T N), fiB T N (fiS T N) (fiA T N (fiS T N))], τ) else (0, [0], τ)) n0 (by omega) ⟨Int.le_refl _, rfl, Fr.rf _ _⟩ (by
      rintro k vs τ hk ⟨k0, rfl, hF⟩
      have hM2 := hM.fr hF (by decide +kernel) (wdj_spec (by decide +kernel))
      have hS2 := hS.fr hF (wdj_spec (by decide +kernel))
      have h13 := hM2.2.1.1.2.1
      by_cases hk2 : k < fiS T N
      · have z := fiS_no k0 hk2
        have k2 : k < T 0 1 := by omega
        obtain ⟨υ, hF2, hb⟩ := mf_a hM2 hN hS2 k0 k2
        rw [if_neg z] at hb
        refine Or.inl ⟨hk2, _, υ, ?_, by omega, rfl, hF.tr hF2⟩
        simp (disch := omega) only [aU2, c12_findFirst_b2, ↓reduceIte, acall1_some, acall0_some, q_lt, q_nlt, q_le, q_nle, q_eq, q_ne, q_01, true_or, or_true, false_or, or_false, false_and, and_false, and_self, and_true, true_and, wq, wQ, alen_aput, ag_s, ag_x, ag_j, ag_e, h13, hb]
      · have hke : k = fiS T N := by omega
        by_cases h : fiS T N < T 0 1
        · have z := fiS_at h
          obtain ⟨υ, hF2, hb⟩ := mf_a hM2 hN hS2 k0 (by omega)
          rw [hke, if_pos z] at hb
          rw [hke]
          refine Or.inr ⟨_, ?_, Nat.ne_of_beq_eq_false rfl, υ, hF.tr hF2, by rw [if_pos h]⟩
          simp (disch := omega) only [aU2, c12_findFirst_b2, ↓reduceIte, acall1_some, acall0_some, q_lt, q_nlt, q_le, q_nle, q_eq, q_ne, q_01, true_or, or_true, false_or, or_false, false_and, and_false, and_self, and_true, true_and, wq, wQ, alen_aput, ag_s, ag_x, ag_j, ag_e, h13, hb]
        · refine Or.inr ⟨(0, [0], τ), ?_, Nat.ne_of_beq_eq_false rfl, τ, hF, by rw [if_neg h]⟩
          simp (disch := omega) only [aU2, c12_findFirst_b2, ↓reduceIte, acall1_some, acall0_some, q_lt, q_nlt, q_le, q_nle, q_eq, q_ne, q_01, true_or, or_true, false_or, or_false, false_and, and_false, and_self, and_true, true_and, wq, wQ, alen_aput, ag_s, ag_x, ag_j, ag_e, h13])
  refine ⟨τ, hF, ?_⟩
  unfold c12_findFirst c12_findFirst_l2
  rw [hr, hQ]
  by_cases h : fiS T N < T 0 1
  · simp only [if_pos h, abind, c12_findFirst_d2, if_true, aU4, c12_findFirst_p74]; rfl
  · simp only [if_neg h, abind, c12_findFirst_d2]; rfl
/-- one goes -/
def wgo : List (Int × List Int) := [(155, [])]
theorem c12_goes_ok {T N : aH} {σ : aS} (hM : MI T σ) (hN : NB T N) (hS : MN T N σ) {s a b : Int} (s0 : 0 ≤ s) (s1 : s < T 0 1) (a0 : 0 ≤ a) (a1 : a ≤ T 0 2) (b0 : 0 ≤ b) (b1 : b ≤ T 0 2) (hab : a ≠ b) :
    ∃ τ, c12_goes 130 s a b σ = some (0, [], τ) ∧ MN T (mvN N (on1 s) a b) τ ∧ Fr wgo σ τ := by
  obtain ⟨hL, hT, hB⟩ := hM
  have h5 := hB.2.1
  have h4 := hB.2.2.1
  have ha := hS.1 s a s0 s1 a0 a1
  have hb := hS.1 s b s0 s1 b0 b1
  have la := hN.le hB s0 s1 a0 a1
  have lb := hN.le hB s0 s1 b0 b1
  have hF : Fr wgo σ (aput (aput σ 155 (5 * s + a) (N 0 (5 * s + a) - 1)) 155 (5 * s + b) (N 0 (5 * s + b) + 1)) := Fr.put (Fr.put (Fr.rf _ _) _ rfl) _ rfl
  refine ⟨aput (aput σ 155 (5 * s + a) (N 0 (5 * s + a) - 1)) 155 (5 * s + b) (N 0 (5 * s + b) + 1), ?_, ⟨?_, ?_, ?_, ?_, ?_, ?_, ?_⟩, hF⟩
  · simp (disch := omega) only [c12_goes, c12_goes_p28, ↓reduceIte, acall1_some, acall0_some, q_lt, q_nlt, q_le, q_nle, q_eq, q_ne, q_01, true_or, or_true, false_or, or_false, false_and, and_false, and_self, and_true, true_and, wq, wQ, alen_aput, ag_s, ag_x, ag_j, ag_e, r_130_51 hL, n_155 hL, ha, hb]
  · intro u p u0 u1 p0 p1
    have hu := hS.1 u p u0 u1 p0 p1
    rw [mvN_0 _ _ _ _ p0 (by omega)]
    rw [on1_eq]
    by_cases q1 : 5 * u + p = 5 * s + b
    · rw [q1, ag_s, if_neg (show ¬ p = a by omega), if_pos (show p = b by omega), if_pos (show u = s by omega)]
      have : N 0 (5 * u + p) = N 0 (5 * s + b) := by rw [q1]
      omega
    · rw [ag_j q1]
      by_cases q2 : 5 * u + p = 5 * s + a
      · rw [q2, ag_s, if_pos (show p = a by omega), if_neg (show ¬ p = b by omega), if_pos (show u = s by omega)]
        omega
      · rw [ag_j q2, hu]
        by_cases e1 : u = s
        · rw [if_neg (show ¬ p = a by omega), if_neg (show ¬ p = b by omega)]; omega
        · rw [if_neg e1]; split <;> split <;> omega
  · intro t t0 t1; rw [hF.g rfl]; exact hS.2.1 t t0 t1
  · intro t t0 t1; rw [hF.g rfl]; exact hS.2.2.1 t t0 t1
  · rw [hF.g rfl]; exact hS.2.2.2.1
  · rw [hF.g rfl]; exact hS.2.2.2.2.1
  · rw [hF.g rfl]; exact hS.2.2.2.2.2.1
  · rw [hF.g rfl, hF.g rfl]; exact hS.2.2.2.2.2.2
