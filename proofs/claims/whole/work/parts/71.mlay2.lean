/-! the reference lays a crew -/
def CR (f : Int → Int) (σ : aS) : Prop := ∀ s, 0 ≤ s → s < 5 → aget σ 157 s = f s
theorem c12_isVoted_ok {T : aH} {σ : aS} (hM : MI T σ) {f : Int → Int} (hf : B7 T f) (hc : CR f σ) (h54 : aget σ 130 54 = szf f) {g : Int} (g0 : 0 ≤ g) (g1 : g < T 0 0) :
    c12_isVoted 130 g σ = some (0, [if szf f < 2 * vot T f g then 1 else 0], σ) := by
  obtain ⟨hL, hT, hB⟩ := hM
  have hs := hB.2.1
  have hg := hB.1
  have hcost := hT.2.1 g g0 (by omega)
  have hv := vot_bd hB hf.1 g hB.2.1.1 (Int.le_refl _)
  have hz := hf.2.1
  have hl := al_0 (c := 5) (B := aU4 c12_isVoted_b4) (fun k => [130, g, sI (fun s => if T 1 g < T 3 (5 * s + g) * szf f then f s else 0) k, k]) (fun _ => σ) (n := T 0 1) (r := (56, [130, vot T f g], σ)) (by omega) (by omega) ?_ ?_ (Nat.ne_of_beq_eq_false rfl)
  · unfold c12_isVoted c12_isVoted_l4
    simp only [sI_0] at hl
    rw [hl]
    have hv2 : 0 ≤ vot T f g ∧ vot T f g ≤ 35 := hv
    by_cases h : szf f < 2 * vot T f g
    · simp (disch := omega) only [abind, c12_isVoted_d4, if_true, aU2, c12_isVoted_p55, ↓reduceIte, acall1_some, acall0_some, q_lt, q_nlt, q_le, q_nle, q_eq, q_ne, q_01, true_or, or_true, false_or, or_false, false_and, and_false, and_self, and_true, true_and, wq, wQ, alen_aput, ag_s, ag_x, ag_j, ag_e, h54, h]
    · simp (disch := omega) only [abind, c12_isVoted_d4, if_true, aU2, c12_isVoted_p55, ↓reduceIte, acall1_some, acall0_some, q_lt, q_nlt, q_le, q_nle, q_eq, q_ne, q_01, true_or, or_true, false_or, or_false, false_and, and_false, and_self, and_true, true_and, wq, wQ, alen_aput, ag_s, ag_x, ag_j, ag_e, h54, h]
  · intro k k0 k1
    have hw := hT.2.2.2.1 (5 * k + g) (by omega) (by omega)
    have hwb := hB.2.2.2.2.2.2.2.1 k g k0 k1 g0 g1
    have hck := hc k k0 (by omega)
    have hfk := hf.1 k k0 (by omega)
    have hz0 : 0 ≤ szf f := by
      have a0 := hf.1 0 (by omega) (by omega)
      have a1 := hf.1 1 (by omega) (by omega)
      have a2 := hf.1 2 (by omega) (by omega)
      have a3 := hf.1 3 (by omega) (by omega)
      have a4 := hf.1 4 (by omega) (by omega)
      unfold szf; omega
    have hm := mul_nn hwb.1 hwb.2 hz0 hz
    have hacc := vot_bd hB hf.1 g k0 (by omega)
    by_cases h : T 1 g < T 3 (5 * k + g) * szf f
    · simp (disch := omega) only [aU4, c12_isVoted_b4, c12_isVoted_p47, ↓reduceIte, acall1_some, acall0_some, q_lt, q_nlt, q_le, q_nle, q_eq, q_ne, q_01, true_or, or_true, false_or, or_false, false_and, and_false, and_self, and_true, true_and, wq, wQ, alen_aput, ag_s, ag_x, ag_j, ag_e, r_130_28 hL, n_137 hL, r_130_25 hL, n_134 hL, r_130_53 hL, n_157 hL, hT.1.2.1, hw, hcost, h54, hck, h, sI_s]
    · simp (disch := omega) only [aU4, c12_isVoted_b4, c12_isVoted_p47, ↓reduceIte, acall1_some, acall0_some, q_lt, q_nlt, q_le, q_nle, q_eq, q_ne, q_01, true_or, or_true, false_or, or_false, false_and, and_false, and_self, and_true, true_and, wq, wQ, alen_aput, ag_s, ag_x, ag_j, ag_e, r_130_28 hL, n_137 hL, r_130_25 hL, n_134 hL, r_130_53 hL, n_157 hL, hT.1.2.1, hw, hcost, h54, hck, h, sI_s]
  · simp (disch := omega) only [aU4, c12_isVoted_b4, ↓reduceIte, acall1_some, acall0_some, q_lt, q_nlt, q_le, q_nle, q_eq, q_ne, q_01, true_or, or_true, false_or, or_false, false_and, and_false, and_self, and_true, true_and, wq, wQ, alen_aput, ag_s, ag_x, ag_j, ag_e, hT.1.2.1]
    rfl
theorem p2_small {g : Int} (h0 : 0 ≤ g) (h1 : g ≤ 5) : 1 ≤ p2 g ∧ p2 g ≤ 32 := by
  rcases (show g = 0 ∨ g = 1 ∨ g = 2 ∨ g = 3 ∨ g = 4 ∨ g = 5 by omega) with rfl | rfl | rfl | rfl | rfl | rfl <;> decide
theorem ap3 (σ : aS) (x a b c a' b' : Int) : aput (aput (aput (aput (aput σ x 54 c) x 55 a) x 56 b) x 55 a') x 56 b' = aput (aput (aput σ x 54 c) x 55 a') x 56 b' := by
  refine aS_ext rfl (fun y k => ?_) rfl
  simp only [ag_if]
  by_cases q : y = x
  · by_cases e : k = 56
    · subst e; simp [q]
    · by_cases e2 : k = 55
      · subst e2; simp [q]
      · simp [e, e2]
  · simp [q]
theorem lg_b {T : aH} {τ : aS} (hM : MI T τ) {f : Int → Int} {t k A D : Int} (t0 : 0 ≤ t) (t1 : t < 4) (k0 : 0 ≤ k) (k1 : k < T 0 0) (k5 : k < 5) (a0 : 0 ≤ A) (a1 : A < p2 k) (p5 : p2 k ≤ 32) (d0 : 0 ≤ D) (d1 : D ≤ 4995) (c0 : 0 ≤ T 1 k) (c1 : T 1 k ≤ 999) (h55 : aget τ 130 55 = A) (h56 : aget τ 130 56 = D)
    (hof : c12_isOf (T 5 t) k τ = some (0, [bI (T 5 t) k], τ)) (hb01 : 0 ≤ bI (T 5 t) k ∧ bI (T 5 t) k ≤ 1) (hvo : c12_isVoted 130 k τ = some (0, [if szf f < 2 * vot T f k then 1 else 0], τ)) (hv01 : 0 ≤ T 6 t ∧ T 6 t ≤ 1) :
    aU3 c12_layGiven_b48 [130, t, k] τ = some (49, [130, t, k + 1], aput (aput τ 130 55 (A + gvb T t f k * p2 k)) 130 56 (D + gvb T t f k * T 1 k)) := by
  obtain ⟨hL, hT, hB⟩ := hM
  have hcost := hT.2.1 k k0 k5
  have hgi := hT.2.2.2.2.2.1 t t0 t1
  have hor := aor_add a0 a1 k0 (by omega)
  have e1 := hT.1.1
  have e2 := hgi.1
  have e3 := hgi.2.1
  clear hT hgi hB
  by_cases hb : bI (T 5 t) k = 1
  · by_cases hv : T 6 t = 1
    · by_cases hw : szf f < 2 * vot T f k
      · have hgv : gvb T t f k = 1 := by unfold gvb; rw [if_pos ⟨hb, fun _ => hw⟩]
        rw [if_pos hw] at hvo
        simp (disch := omega) only [aU3, c12_layGiven_b48, c12_layGiven_p90, c12_layGiven_p117, ↓reduceIte, acall1_some, acall0_some, q_lt, q_nlt, q_le, q_nle, q_eq, q_ne, q_01, true_or, or_true, false_or, or_false, false_and, and_false, and_self, and_true, true_and, wq, wQ, alen_aput, ag_s, ag_x, ag_j, ag_e, r_130_33 hL, n_142 hL, r_130_34 hL, n_143 hL, r_130_25 hL, n_134 hL, e1, e2, e3, hof, hb, hv, hvo, hcost, h55, h56, hor, hgv, Int.one_mul]
      · have hgv : gvb T t f k = 0 := by unfold gvb; rw [if_neg (fun q => hw (q.2 hv))]
        rw [if_neg hw] at hvo
        simp (disch := omega) only [aU3, c12_layGiven_b48, c12_layGiven_p117, ↓reduceIte, acall1_some, acall0_some, q_lt, q_nlt, q_le, q_nle, q_eq, q_ne, q_01, true_or, or_true, false_or, or_false, false_and, and_false, and_self, and_true, true_and, wq, wQ, alen_aput, ag_s, ag_x, ag_j, ag_e, r_130_33 hL, n_142 hL, r_130_34 hL, n_143 hL, e1, e2, e3, hof, hb, hv, hvo, hgv, Int.zero_mul, Int.add_zero]
        rw [ap_self h55, ap_self h56]
    · have hgv : gvb T t f k = 1 := by unfold gvb; rw [if_pos ⟨hb, fun q => absurd q hv⟩]
      simp (disch := omega) only [aU3, c12_layGiven_b48, c12_layGiven_p90, c12_layGiven_p117, ↓reduceIte, acall1_some, acall0_some, q_lt, q_nlt, q_le, q_nle, q_eq, q_ne, q_01, true_or, or_true, false_or, or_false, false_and, and_false, and_self, and_true, true_and, wq, wQ, alen_aput, ag_s, ag_x, ag_j, ag_e, r_130_33 hL, n_142 hL, r_130_34 hL, n_143 hL, r_130_25 hL, n_134 hL, e1, e2, e3, hof, hb, hv, hcost, h55, h56, hor, hgv, Int.one_mul]
  · have hgv : gvb T t f k = 0 := by unfold gvb; rw [if_neg (fun q => hb q.1)]
    have hb0 : bI (T 5 t) k = 0 := by omega
    simp (disch := omega) only [aU3, c12_layGiven_b48, c12_layGiven_p117, ↓reduceIte, acall1_some, acall0_some, q_lt, q_nlt, q_le, q_nle, q_eq, q_ne, q_01, true_or, or_true, false_or, or_false, false_and, and_false, and_self, and_true, true_and, wq, wQ, alen_aput, ag_s, ag_x, ag_j, ag_e, r_130_33 hL, n_142 hL, r_130_34 hL, n_143 hL, e1, e2, e3, hof, hb0, hgv, Int.zero_mul, Int.add_zero]
    rw [ap_self h55, ap_self h56]
theorem c12_layGiven_ok {T : aH} {σ : aS} (hM : MI T σ) {f : Int → Int} (hf : B7 T f) (hc : CR f σ) {t : Int} (t0 : 0 ≤ t) (t1 : t < T 0 2) :
    c12_layGiven 130 t σ = some (0, [], aput (aput (aput σ 130 54 (szf f)) 130 55 (gvn T t f)) 130 56 (gco T t f)) := by
  have hM0 := hM
  obtain ⟨hL, hT, hB⟩ := hM
  have hs := hB.2.1
  have hg := hB.1
  have ht := hB.2.2.1
  have hz : 0 ≤ szf f ∧ szf f ≤ 13 := by
    have a0 := hf.1 0 (by omega) (by omega)
    have a1 := hf.1 1 (by omega) (by omega)
    have a2 := hf.1 2 (by omega) (by omega)
    have a3 := hf.1 3 (by omega) (by omega)
    have a4 := hf.1 4 (by omega) (by omega)
    have := hf.2.1
    unfold szf at *; omega
  have htt := hB.2.2.2.2.2.2.2.2.2 t t0 t1
  have hgi := hT.2.2.2.2.2.1 t t0 (by omega)
  have hp2 := p2_small hg.1 hg.2
  -- the second loop, behind the first
  have hl2 := al_0 (c := 49) (B := aU3 c12_layGiven_b48) (fun k => [130, t, k]) (fun k => aput (aput (aput σ 130 54 (szf f)) 130 55 (sI (fun g => gvb T t f g * p2 g) k)) 130 56 (sI (fun g => gvb T t f g * T 1 g) k)) (n := T 0 0) (r := (0, [], aput (aput (aput σ 130 54 (szf f)) 130 55 (gvn T t f)) 130 56 (gco T t f))) (by omega) (by omega) ?_ ?_ (Nat.ne_of_beq_eq_false rfl)
  · have hl1 := al_0 (c := 8) (B := aU3 c12_layGiven_b7) (fun k => [130, t, k]) (fun k => aput σ 130 54 (sI f k)) (n := T 0 1) (r := (37, [130, t], aput σ 130 54 (szf f))) (by omega) (by omega) ?_ ?_ (Nat.ne_of_beq_eq_false rfl)
    · unfold c12_layGiven c12_layGiven_l7
      simp only [sI_0] at hl1 hl2
      rw [hl1]
      simp only [abind, c12_layGiven_d7, if_true, aU2, c12_layGiven_p36, c12_layGiven_l48]
      rw [hl2]
      rfl
    · intro k k0 k1
      have hck := hc k k0 (by omega)
      have hfk := hf.1 k k0 (by omega)
      have hb := sI_bd (f := f) (a := 0) (b := 7) (n := k) k0 (fun j j0 j1 => hf.1 j j0 (by omega))
      simp (disch := omega) only [aU3, c12_layGiven_b7, ↓reduceIte, acall1_some, acall0_some, q_lt, q_nlt, q_le, q_nle, q_eq, q_ne, q_01, true_or, or_true, false_or, or_false, false_and, and_false, and_self, and_true, true_and, wq, wQ, alen_aput, ag_s, ag_x, ag_j, ag_e, r_130_53 hL, n_157 hL, hT.1.2.1, hck, sI_s, ap_ap]
    · simp (disch := omega) only [aU3, c12_layGiven_b7, ↓reduceIte, acall1_some, acall0_some, q_lt, q_nlt, q_le, q_nle, q_eq, q_ne, q_01, true_or, or_true, false_or, or_false, false_and, and_false, and_self, and_true, true_and, wq, wQ, alen_aput, ag_s, ag_x, ag_j, ag_e, hT.1.2.1]
      rw [szf_sI hB hf.2.2]
  · intro k k0 k1
    have hcb := hB.2.2.2.2.1 k k0 k1
    have e1 := gsum_lt' T t f (n := k) k0
    have e2 := gco_bd hB t f (n := k) k0 (by omega)
    have hpk := p2_small k0 (show k ≤ 5 by omega)
    have hof := c12_isOf_ok (x := T 5 t) (k := k) (by omega) (by omega) k0 (by omega)
    have hbi := bI_01 (T 5 t) k
    have hF : Fr [(130, [54, 55, 56])] σ (aput (aput (aput σ 130 54 (szf f)) 130 55 (sI (fun g => gvb T t f g * p2 g) k)) 130 56 (sI (fun g => gvb T t f g * T 1 g) k)) := Fr.put (Fr.put (Fr.put (Fr.rf _ _) _ rfl) _ rfl) _ rfl
    have hM2 := hM0.fr hF (by decide +kernel) (wdj_spec (by decide +kernel))
    have hvo := c12_isVoted_ok hM2 hf (fun s s0 s1 => by rw [hF.g rfl]; exact hc s s0 s1) (by rw [ag_j (by omega), ag_j (by omega), ag_s]) k0 k1
    have hst := lg_b hM2 (f := f) (t := t) (k := k) t0 (by omega) k0 k1 (by omega) e1.1 e1.2 hpk.2 e2.1 e2.2 hcb.1 hcb.2 (by rw [ag_j (by omega), ag_s]) (by rw [ag_s]) (hof _) hbi hvo htt.2.1
    rw [ap3] at hst
    rw [hst, sI_s k0, sI_s k0]
  · simp (disch := omega) only [aU3, c12_layGiven_b48, ↓reduceIte, acall1_some, acall0_some, q_lt, q_nlt, q_le, q_nle, q_eq, q_ne, q_01, true_or, or_true, false_or, or_false, false_and, and_false, and_self, and_true, true_and, wq, wQ, alen_aput, ag_s, ag_x, ag_j, ag_e, hT.1.1]
    rfl
theorem B7.of {T : aH} (hB : TB T) {f : Int → Int} (hf : BF T f) : B7 T f := ⟨hf.b7 hB, by have := (hf.sz hB).2; omega, hf.2⟩
/-- one more of a sort, even if all of it are there -/
theorem B7.ad1 {T : aH} (hB : TB T) {f : Int → Int} (hf : BF T f) {s : Int} (s0 : 0 ≤ s) (s1 : s < T 0 1) : B7 T (adc f s) := by
  have h5 := hB.2.1
  have hz := hf.sz hB
  refine ⟨fun k k0 k1 => ?_, ?_, fun k hk => ?_⟩
  · have a := hf.1 k k0 k1
    have b := hsf_bd hB k
    unfold adc; split <;> omega
  · rcases cs5 s0 (show s < 5 by omega) with rfl | rfl | rfl | rfl | rfl <;> · unfold szf at *; simp [adc]; omega
  · unfold adc; rw [if_neg (fun e => hk (by omega))]; exact hf.2 k hk
theorem c12_layCrew_ok {T N : aH} {σ : aS} (hM : MI T σ) (hN : NB T N) (hS : MN T N σ) {t : Int} (t0 : 0 ≤ t) (t1 : t < T 0 2) :
    c12_layCrew 130 t σ = some (0, [], lay T t (ctn T N t) σ) := by
  have hM0 := hM
  obtain ⟨hL, hT, hB⟩ := hM
  have hs := hB.2.1
  have ht := hB.2.2.1
  have hl := al_0 (c := 3) (B := aU3 c12_layCrew_b2) (fun k => [130, t, k]) (fun k => apf σ 157 (ctn T N t) k) (n := 5) (r := (42, [130, t], apf σ 157 (ctn T N t) 5)) (by omega) (by omega) ?_ ?_ (Nat.ne_of_beq_eq_false rfl)
  · have hF : Fr [(157, [])] σ (apf σ 157 (ctn T N t) 5) := Fr.apf (Fr.rf _ _) _ _ (fun _ => rfl)
    have hg := c12_layGiven_ok (hM0.fr hF (by decide +kernel) (wdj_spec (by decide +kernel))) (B7.of hB (ctn_BF hN hB t0 (by omega))) (fun s s0 s1 => apf_i s0 s1) t0 t1
    unfold c12_layCrew c12_layCrew_l2
    simp only [apf_0] at hl
    rw [hl]
    simp only [abind, c12_layCrew_d2, if_true, aU2, c12_layCrew_p41, hg, acall0_some]
    rfl
  · intro k k0 k1
    by_cases h : k < T 0 1
    · have hn := hS.1 k t k0 h t0 (by omega)
      have e := apf_s (σ := σ) (x := 157) (f := ctn T N t) k0
      rw [ctn_in N t k0 h] at e
      simp (disch := omega) only [aU3, c12_layCrew_b2, c12_layCrew_p34, ↓reduceIte, acall1_some, acall0_some, q_lt, q_nlt, q_le, q_nle, q_eq, q_ne, q_01, true_or, or_true, false_or, or_false, false_and, and_false, and_self, and_true, true_and, wq, wQ, alen_aput, ag_s, ag_x, ag_j, ag_e, apf_x, apf_n, r_130_53 hL, n_157 hL, r_130_51 hL, n_155 hL, hT.1.2.1, hn, e]
    · have e := apf_s (σ := σ) (x := 157) (f := ctn T N t) k0
      rw [show ctn T N t k = 0 from if_neg (fun q => h q.2)] at e
      simp (disch := omega) only [aU3, c12_layCrew_b2, c12_layCrew_p34, ↓reduceIte, acall1_some, acall0_some, q_lt, q_nlt, q_le, q_nle, q_eq, q_ne, q_01, true_or, or_true, false_or, or_false, false_and, and_false, and_self, and_true, true_and, wq, wQ, alen_aput, ag_s, ag_x, ag_j, ag_e, apf_x, apf_n, r_130_53 hL, n_157 hL, hT.1.2.1, e]
  · simp (disch := omega) only [aU3, c12_layCrew_b2, ↓reduceIte, acall1_some, acall0_some, q_lt, q_nlt, q_le, q_nle, q_eq, q_ne, q_01, true_or, or_true, false_or, or_false, false_and, and_false, and_self, and_true, true_and, wq, wQ, alen_aput, ag_s, ag_x, ag_j, ag_e]
