/-! goings: the reference -/
def wff : List (Int × List Int) := [(157, []), (158, []), (130, [54, 55, 56, 58, 62, 63, 64])]
def wst : List (Int × List Int) := [(155, []), (157, []), (158, []), (130, [54, 55, 56, 58, 62, 63, 64])]
theorem msail1 {T N : aH} {σ : aS} (hM : MI T σ) (hN : NB T N) (hS : MN T N σ) :
    (¬ fiS T N < T 0 1 ∧ ∃ τ, c12_findFirst 130 σ = some (0, [0], τ) ∧ Fr wff σ τ) ∨
    (fiS T N < T 0 1 ∧ ∃ τ υ, c12_findFirst 130 σ = some (0, [1], τ) ∧ c12_goes 130 (aget τ 130 62) (aget τ 130 63) (aget τ 130 64) τ = some (0, [], υ) ∧ MN T (nxt T N) υ ∧ NB T (nxt T N) ∧ Fr wst σ υ ∧ Fr wff σ τ ∧
      (aget τ 130 62 = fiS T N ∧ aget τ 130 63 = fiA T N (fiS T N) ∧ aget τ 130 64 = fiB T N (fiS T N) (fiA T N (fiS T N))) ∧ (∀ j, ¬ (0 ≤ j % 5 ∧ j % 5 ≤ T 0 2 ∧ 0 ≤ j / 5 ∧ j / 5 < T 0 1) → aget υ 155 j = aget σ 155 j)) := by
  have hB := hM.2.2
  obtain ⟨τ, hF, h⟩ := c12_findFirst_ok hM hN hS
  by_cases c : fiS T N < T 0 1
  · rw [if_pos c] at h
    obtain ⟨⟨s0, s1⟩, ⟨a0, a1⟩, ⟨b0, b1⟩, hab, hp⟩ := fi_in hB c
    have hF2 : Fr wff σ (aput (aput (aput τ 130 62 (fiS T N)) 130 63 (fiA T N (fiS T N))) 130 64 (fiB T N (fiS T N) (fiA T N (fiS T N)))) := (((hF.mono rfl).put _ rfl).put _ rfl).put _ rfl
    have e1 : aget (aput (aput (aput τ 130 62 (fiS T N)) 130 63 (fiA T N (fiS T N))) 130 64 (fiB T N (fiS T N) (fiA T N (fiS T N)))) 130 62 = fiS T N := by rw [ag_j (by omega), ag_j (by omega), ag_s]
    have e2 : aget (aput (aput (aput τ 130 62 (fiS T N)) 130 63 (fiA T N (fiS T N))) 130 64 (fiB T N (fiS T N) (fiA T N (fiS T N)))) 130 63 = fiA T N (fiS T N) := by rw [ag_j (by omega), ag_s]
    have e3 : aget (aput (aput (aput τ 130 62 (fiS T N)) 130 63 (fiA T N (fiS T N))) 130 64 (fiB T N (fiS T N) (fiA T N (fiS T N)))) 130 64 = fiB T N (fiS T N) (fiA T N (fiS T N)) := ag_s _ _ _ _
    have hM2 := hM.fr hF2 (by decide +kernel) (wdj_spec (by decide +kernel))
    have hS2 := hS.fr hF2 (wdj_spec (by decide +kernel))
    obtain ⟨υ, g1, g2, g3⟩ := c12_goes_ok hM2 hN hS2 s0 s1 a0 a1 b0 b1 hab
    refine Or.inr ⟨c, _, υ, h, by rw [e1, e2, e3]; exact g1, g2, nxt_NB hN hB c, (hF2.mono rfl).tr (g3.mono rfl), hF2, ⟨e1, e2, e3⟩, ?_⟩
    intro j hj
    have h5 := hB.2.1
    have h4 := hB.2.2.1
    have n1 := hS2.1 _ _ s0 s1 a0 a1
    have n2 := hS2.1 _ _ s0 s1 b0 b1
    have l1 := hN.le hB s0 s1 a0 a1
    have l2 := hN.le hB s0 s1 b0 b1
    have hL2 := hM2.1
    generalize hτ : aput (aput (aput τ 130 62 (fiS T N)) 130 63 (fiA T N (fiS T N))) 130 64 (fiB T N (fiS T N) (fiA T N (fiS T N))) = φ at *
    have g0 : c12_goes 130 (fiS T N) (fiA T N (fiS T N)) (fiB T N (fiS T N) (fiA T N (fiS T N))) φ = some (0, [], aput (aput φ 155 (5 * fiS T N + fiA T N (fiS T N)) (N 0 (5 * fiS T N + fiA T N (fiS T N)) - 1)) 155 (5 * fiS T N + fiB T N (fiS T N) (fiA T N (fiS T N))) (N 0 (5 * fiS T N + fiB T N (fiS T N) (fiA T N (fiS T N))) + 1)) := by
      have hL := hL2
      generalize fiS T N = s at *
      generalize fiB T N s (fiA T N s) = b at *
      generalize fiA T N s = a at *
      clear hj h e1 e2 e3 g1 g2 g3 hF hF2 hS2 hM2 hS hM
      simp (disch := omega) only [c12_goes, c12_goes_p28, ↓reduceIte, acall1_some, acall0_some, q_lt, q_nlt, q_le, q_nle, q_eq, q_ne, q_01, true_or, or_true, false_or, or_false, false_and, and_false, and_self, and_true, true_and, wq, wQ, alen_aput, ag_s, ag_x, ag_j, ag_e, r_130_51 hL, n_155 hL, n1, n2]
    rw [g0] at g1
    have g4 : υ = aput (aput φ 155 (5 * fiS T N + fiA T N (fiS T N)) (N 0 (5 * fiS T N + fiA T N (fiS T N)) - 1)) 155 (5 * fiS T N + fiB T N (fiS T N) (fiA T N (fiS T N))) (N 0 (5 * fiS T N + fiB T N (fiS T N) (fiA T N (fiS T N))) + 1) := by cases g1; rfl
    rw [g4, ag_j (fun q => hj (by omega)), ag_j (fun q => hj (by omega))]
    exact hF2.g rfl
  · rw [if_neg c] at h
    exact Or.inl ⟨c, τ, h, hF.mono rfl⟩
theorem wff_MI {T : aH} {σ τ : aS} (hM : MI T σ) (hF : Fr wff σ τ) : MI T τ := hM.fr hF (by decide +kernel) (wdj_spec (by decide +kernel))
theorem wst_MI {T : aH} {σ τ : aS} (hM : MI T σ) (hF : Fr wst σ τ) : MI T τ := hM.fr hF (by decide +kernel) (wdj_spec (by decide +kernel))
theorem wff_MN {T N : aH} {σ τ : aS} (hS : MN T N σ) (hF : Fr wff σ τ) : MN T N τ := hS.fr hF (wdj_spec (by decide +kernel))
theorem c12_goingsNow_ok {T N : aH} {σ : aS} (hM : MI T σ) (hN : NB T N) (hS : MN T N σ) {n : Int} (n0 : 0 ≤ n) (n1 : n ≤ 300) :
    ∃ τ, c12_goingsNow 130 n σ = some (0, [stN T N n], τ) ∧ MN T (itN T N (stN T N n)) τ ∧ Fr wst σ τ := by
  have hB := hM.2.2
  have z0 := ff_0 (fun k => !decide (fiS T (itN T N k) < T 0 1)) (n := n)
  have z1 := ff_n (fun k => !decide (fiS T (itN T N k) < T 0 1)) (n := n) n0
  obtain ⟨r, hr, τ, hQ, h1, h2⟩ := al_I (c := 3) (B := aU3 c12_goingsNow_b2) (n := stN T N n) (i := 0) (vs := [130, n, 0]) (σ := σ)
    (fun k vs τ => 0 ≤ k ∧ vs = [130, n, k] ∧ MN T (itN T N k) τ ∧ Fr wst σ τ) (fun r => ∃ τ, r = (0, [stN T N n], τ) ∧ MN T (itN T N (stN T N n)) τ ∧ Fr wst σ τ)
    z0 (by unfold stN; omega) ⟨Int.le_refl _, rfl, hS, Fr.rf _ _⟩ (by
      rintro k vs τ hk ⟨k0, rfl, hS2, hF⟩
      have hM2 := wst_MI hM hF
      have hN2 := itN_NB hN hB (n := n) k k0 hk
      have hs1 := msail1 hM2 hN2 hS2
      by_cases hkn : k < stN T N n
      · have z := ff_no (P := fun k => !decide (fiS T (itN T N k) < T 0 1)) (n := n) (k := k) k0 hkn
        simp only [Bool.not_eq_false', decide_eq_true_iff] at z
        rcases hs1 with ⟨c, -⟩ | ⟨c, τ1, υ, e1, e2, e3, e4, e5, e6, e7, e8⟩
        · exact absurd z c
        · refine Or.inl ⟨hkn, [130, n, k + 1], υ, ?_, by omega, rfl, by rw [itN_s k0]; exact e3, hF.tr e5⟩
          unfold stN at hkn
          simp (disch := omega) only [aU3, c12_goingsNow_b2, ↓reduceIte, acall1_some, acall0_some, q_lt, q_nlt, q_le, q_nle, q_eq, q_ne, q_01, true_or, or_true, false_or, or_false, false_and, and_false, and_self, and_true, true_and, wq, wQ, alen_aput, ag_s, ag_x, ag_j, ag_e, e1, e2]
      · have hke : k = stN T N n := by omega
        subst hke
        by_cases hn : stN T N n < n
        · have z := ff_at (P := fun k => !decide (fiS T (itN T N k) < T 0 1)) (n := n) hn
          simp only [Bool.not_eq_true', decide_eq_false_iff_not] at z
          rcases hs1 with ⟨c, υ, e1, e2⟩ | ⟨c, -⟩
          · refine Or.inr ⟨(0, [stN T N n], υ), ?_, Nat.ne_of_beq_eq_false rfl, υ, rfl, wff_MN hS2 e2, hF.tr (e2.mono rfl)⟩
            simp (disch := omega) only [aU3, c12_goingsNow_b2, ↓reduceIte, acall1_some, acall0_some, q_lt, q_nlt, q_le, q_nle, q_eq, q_ne, q_01, true_or, or_true, false_or, or_false, false_and, and_false, and_self, and_true, true_and, wq, wQ, alen_aput, ag_s, ag_x, ag_j, ag_e, e1]
          · exact absurd c z
        · refine Or.inr ⟨(0, [stN T N n], τ), ?_, Nat.ne_of_beq_eq_false rfl, τ, rfl, hS2, hF⟩
          simp (disch := omega) only [aU3, c12_goingsNow_b2, ↓reduceIte, acall1_some, acall0_some, q_lt, q_nlt, q_le, q_nle, q_eq, q_ne, q_01, true_or, or_true, false_or, or_false, false_and, and_false, and_self, and_true, true_and, wq, wQ, alen_aput, ag_s, ag_x, ag_j, ag_e])
  refine ⟨τ, ?_, h1, h2⟩
  unfold c12_goingsNow c12_goingsNow_l2
  rw [hr, hQ]
  rfl
theorem c12_keepNow_ok {σ : aS} (hL : LR σ) : c12_keepNow 130 σ = some (0, [], apf σ 162 (aget σ 155) 25) := by
  have hl := al_0 (c := 3) (B := aU2 c12_keepNow_b2) (fun k => [130, k]) (fun k => apf σ 162 (aget σ 155) k) (n := 25) (r := (0, [], apf σ 162 (aget σ 155) 25)) (by omega) (by omega) ?_ ?_ (Nat.ne_of_beq_eq_false rfl)
  · unfold c12_keepNow c12_keepNow_l2
    simp only [apf_0] at hl
    rw [hl]; rfl
  · intro k k0 k1
    have e := apf_s (σ := σ) (x := 162) (f := aget σ 155) k0
    simp (disch := omega) only [aU2, c12_keepNow_b2, ↓reduceIte, acall1_some, acall0_some, q_lt, q_nlt, q_le, q_nle, q_eq, q_ne, q_01, true_or, or_true, false_or, or_false, false_and, and_false, and_self, and_true, true_and, wq, wQ, alen_aput, ag_s, ag_x, ag_j, ag_e, apf_x, apf_n, r_130_51 hL, n_155 hL, r_130_70 hL, n_162 hL, e]
  · simp (disch := omega) only [aU2, c12_keepNow_b2, ↓reduceIte, acall1_some, acall0_some, q_lt, q_nlt, q_le, q_nle, q_eq, q_ne, q_01, true_or, or_true, false_or, or_false, false_and, and_false, and_self, and_true, true_and, wq, wQ, alen_aput, ag_s, ag_x, ag_j, ag_e]
theorem c12_takeKept_ok {σ : aS} (hL : LR σ) : c12_takeKept 130 σ = some (0, [], apf σ 155 (aget σ 162) 25) := by
  have hl := al_0 (c := 3) (B := aU2 c12_takeKept_b2) (fun k => [130, k]) (fun k => apf σ 155 (aget σ 162) k) (n := 25) (r := (0, [], apf σ 155 (aget σ 162) 25)) (by omega) (by omega) ?_ ?_ (Nat.ne_of_beq_eq_false rfl)
  · unfold c12_takeKept c12_takeKept_l2
    simp only [apf_0] at hl
    rw [hl]; rfl
  · intro k k0 k1
    have e := apf_s (σ := σ) (x := 155) (f := aget σ 162) k0
    simp (disch := omega) only [aU2, c12_takeKept_b2, ↓reduceIte, acall1_some, acall0_some, q_lt, q_nlt, q_le, q_nle, q_eq, q_ne, q_01, true_or, or_true, false_or, or_false, false_and, and_false, and_self, and_true, true_and, wq, wQ, alen_aput, ag_s, ag_x, ag_j, ag_e, apf_x, apf_n, r_130_51 hL, n_155 hL, r_130_70 hL, n_162 hL, e]
  · simp (disch := omega) only [aU2, c12_takeKept_b2, ↓reduceIte, acall1_some, acall0_some, q_lt, q_nlt, q_le, q_nle, q_eq, q_ne, q_01, true_or, or_true, false_or, or_false, false_and, and_false, and_self, and_true, true_and, wq, wQ, alen_aput, ag_s, ag_x, ag_j, ag_e]
/-- kept and taken again: the parting is as it was -/
theorem kept_MN {T N : aH} {σ τ : aS} (hB : TB T) (hS : MN T N σ) (hk : ∀ j, 0 ≤ j → j < 25 → aget τ 162 j = aget σ 155 j) (g : ∀ x j, wm [(156, []), (144, []), (130, [80, 81, 59, 60, 61])] x j = true → aget τ x j = aget σ x j) : MN T N (apf τ 155 (aget τ 162) 25) := by
  have h5 := hB.2.1
  have h4 := hB.2.2.1
  refine ⟨?_, ?_, ?_, ?_, ?_, ?_, ?_⟩
  · intro s p a b c d
    rw [apf_i (by omega) (by omega), hk _ (by omega) (by omega)]; exact hS.1 s p a b c d
  · intro t a b; rw [apf_x (by omega), g 156 _ rfl]; exact hS.2.1 t a b
  · intro t a b; rw [apf_x (by omega), g 144 _ rfl]; exact hS.2.2.1 t a b
  · rw [apf_x (by omega), g 130 80 rfl]; exact hS.2.2.2.1
  · rw [apf_x (by omega), g 130 81 rfl]; exact hS.2.2.2.2.1
  · rw [apf_x (by omega), g 130 59 rfl]; exact hS.2.2.2.2.2.1
  · rw [apf_x (by omega), g 130 60 rfl, apf_x (by omega), g 130 61 rfl]; exact hS.2.2.2.2.2.2
/-! the same parting -/
theorem same_iff {T N M : aH} (hN : NB T N) (hM : NB T M) (hB : TB T) : same T N M = true ↔ ∀ s p, 0 ≤ s → s < T 0 1 → 0 ≤ p → p ≤ T 0 2 → N 0 (5 * s + p) = M 0 (5 * s + p) := by
  have h5 := hB.2.1
  have h4 := hB.2.2.1
  unfold same
  rw [decide_eq_true_iff]
  constructor
  · intro h
    have dig : ∀ t, 0 ≤ t → t < 4 → pkT T N t = pkT T M t := by
      have a0 := pkT_bd hN hB (t := 0) (by omega)
      have a1 := pkT_bd hN hB (t := 1) (by omega)
      have a2 := pkT_bd hN hB (t := 2) (by omega)
      have a3 := pkT_bd hN hB (t := 3) (by omega)
      have b0 := pkT_bd hM hB (t := 0) (by omega)
      have b1 := pkT_bd hM hB (t := 1) (by omega)
      have b2 := pkT_bd hM hB (t := 2) (by omega)
      have b3 := pkT_bd hM hB (t := 3) (by omega)
      unfold pkP at h
      intro t t0 t1
      rcases cs4 t0 t1 with rfl | rfl | rfl | rfl <;> omega
    have town : ∀ s p, 0 ≤ s → s < T 0 1 → 0 ≤ p → p < T 0 2 → N 0 (5 * s + p) = M 0 (5 * s + p) := by
      intro s p s0 s1 p0 p1
      have d := dig p p0 (by omega)
      unfold pkT at d
      rw [if_pos p1, if_pos p1] at d
      have cN := fun k => ctn_bd hN hB p0 (Int.le_of_lt p1) k
      have cM := fun k => ctn_bd hM hB p0 (Int.le_of_lt p1) k
      have n0 := cN 0
      have n1 := cN 1
      have n2 := cN 2
      have n3 := cN 3
      have n4 := cN 4
      have m0 := cM 0
      have m1 := cM 1
      have m2 := cM 2
      have m3 := cM 3
      have m4 := cM 4
      have e : ctn T N p s = ctn T M p s := by
        unfold pk5 at d
        rcases cs5 s0 (show s < 5 by omega) with rfl | rfl | rfl | rfl | rfl <;> omega
      rw [ctn_in N p s0 s1, ctn_in M p s0 s1] at e
      exact e
    intro s p s0 s1 p0 p1
    by_cases c : p < T 0 2
    · exact town s p s0 s1 p0 c
    · have e1 := hN.2.1 s s0 s1
      have e2 := hM.2.1 s s0 s1
      rw [sI_s h4.1] at e1 e2
      have e3 : sI (fun p => N 0 (5 * s + p)) (T 0 2) = sI (fun p => M 0 (5 * s + p)) (T 0 2) := sI_congr (fun p p0 p1 => town s p s0 s1 p0 p1)
      rw [show p = T 0 2 by omega]
      omega
  · intro h
    have e : ∀ p, 0 ≤ p → p ≤ T 0 2 → ctn T N p = ctn T M p := fun p p0 p1 => by
      funext s
      unfold ctn
      by_cases c : 0 ≤ s ∧ s < T 0 1
      · rw [if_pos c, if_pos c, h s p c.1 c.2 p0 p1]
      · rw [if_neg c, if_neg c]
    have d : ∀ t, 0 ≤ t → pkT T N t = pkT T M t := fun t t0 => by
      unfold pkT
      by_cases c : t < T 0 2
      · rw [if_pos c, if_pos c, e t t0 (Int.le_of_lt c)]
      · rw [if_neg c, if_neg c]
    unfold pkP
    rw [d 0 (by omega), d 1 (by omega), d 2 (by omega), d 3 (by omega)]
