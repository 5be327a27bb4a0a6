/-! the class's half of whole's part of this name -/
def sbg (f g : Int → Int) : Int → Int := fun s => f s - g s
def spV (T N : aH) (t u : Int) (g : Int → Int) : Int := suW T N t (sbg (ctn T N t) g) + suW T N u g - 27720 * mvc T g - suW T N t (ctn T N t)
def spN (T N : aH) (t u : Int) : Nat → Int × Int
  | 0 => (0, 0)
  | n + 1 => if 1 ≤ n ∧ cvf (ctn T N t) (crf T n) = true ∧ (spN T N t u n).1 < spV T N t u (crf T n) then (spV T N t u (crf T n), n) else spN T N t u n
theorem crf_0 (T : aH) : ∀ s, crf T 0 s = 0 := by
  intro s
  unfold crf
  simp only [Int.zero_ediv, Int.zero_emod, ite_self]
theorem pk5_sbg (f g : Int → Int) : pk5 f - pk5 g = pk5 (sbg f g) := by unfold pk5 sbg; omega
theorem sbg_BF {T : aH} {f g : Int → Int} (hf : BF T f) (hg : BF T g) (h : cvf f g = true) : BF T (sbg f g) := by
  refine ⟨fun s s0 s5 => ?_, fun s hs => by unfold sbg; rw [hf.2 s hs, hg.2 s hs]; rfl⟩
  have a := cvf_iff.mp h s s0 s5
  have b := hf.1 s s0 s5
  have c := hg.1 s s0 s5
  unfold sbg; omega
theorem suW_bd' {T N : aH} (hB : TB T) (hN : NB T N) {p : Int} (p0 : 0 ≤ p) (p1 : p ≤ T 0 2) {f : Int → Int} (hf : BF T f) : -42000000000000 ≤ suW T N p f ∧ suW T N p f ≤ 42000000000000 := suW_bd hB hN p0 p1 (hf.b7 hB) hB.2.1.1 (Int.le_refl _)
theorem spV_bd {T N : aH} (hB : TB T) (hN : NB T N) {t u : Int} (t0 : 0 ≤ t) (t1 : t ≤ T 0 2) (u0 : 0 ≤ u) (u1 : u ≤ T 0 2) {g : Int → Int} (hg : BF T g) (h : cvf (ctn T N t) g = true) : -200000000000000 ≤ spV T N t u g ∧ spV T N t u g ≤ 200000000000000 := by
  have hf := ctn_BF hN hB t0 t1
  have a := suW_bd' hB hN t0 t1 (sbg_BF hf hg h)
  have b := suW_bd' hB hN u0 u1 hg
  have c := suW_bd' hB hN t0 t1 hf
  have d := mvc_bd hB (hg.b7 hB) hB.2.1.1 (Int.le_refl _)
  have d' : 0 ≤ mvc T g ∧ mvc T g ≤ 3500 := d
  unfold spV; omega
def wsp (x j : Int) : Prop := x = 8 ∧ (j = 2 ∨ j = 7)
theorem sl_1 {σ : aS} {sc t u c a n v cr w1 w2 w3 pl best : Int} (hL : LR σ) (hp : pl = 90 ∨ pl = 110) (h80 : aget σ 8 0 = pl) (hcr : aget σ 9 1 = cr) (n0 : 1 ≤ n) (n1 : n < cr) (n2 : cr ≤ 432) (hcn : c3_crewOfNumber 9 n σ = some (0, [v], σ)) (hcv : c11_covers c v σ = some (0, [1], σ)) (hv0 : 0 ≤ c - v) (hv1 : c - v ≤ 32767)
    (h1 : c7_sumIn 8 sc t (c - v) σ = some (0, [w1], σ)) (h2 : c7_sumIn 8 sc u v σ = some (0, [w2], σ)) (h3 : c4_sumOf pl v 3 σ = some (0, [w3], σ)) (b1 : -42000000000000 ≤ w1 ∧ w1 ≤ 42000000000000) (b2 : -42000000000000 ≤ w2 ∧ w2 ≤ 42000000000000) (b3 : 0 ≤ w3 ∧ w3 ≤ 3500) (b4 : -42000000000000 ≤ a ∧ a ≤ 42000000000000) (hb : aget σ 8 7 = best) :
    aU7 c7_seekSplit_b37 [8, sc, t, u, c, a, n] σ = some (38, [8, sc, t, u, c, a, n + 1], if best < w1 + w2 - 27720 * w3 - a then aput (aput σ 8 7 (w1 + w2 - 27720 * w3 - a)) 8 2 v else σ) := by
  have e : w3 * 27720 = 27720 * w3 := by omega
  by_cases d : best < w1 + w2 - 27720 * w3 - a
  · simp (disch := omega) only [aU7, c7_seekSplit_b37, c7_seekSplit_p136, ↓reduceIte, acall1_some, acall0_some, q_lt, q_nlt, q_le, q_nle, q_eq, q_ne, q_01, true_or, or_true, false_or, or_false, false_and, and_false, and_self, and_true, true_and, wq, wQ, alen_aput, ag_s, ag_x, ag_j, ag_e, r_8_8 hL, hcr, hcn, hcv, h1, h2, h80, h3, acmp_p, hb, e]
  · simp (disch := omega) only [aU7, c7_seekSplit_b37, c7_seekSplit_p136, ↓reduceIte, acall1_some, acall0_some, q_lt, q_nlt, q_le, q_nle, q_eq, q_ne, q_01, true_or, or_true, false_or, or_false, false_and, and_false, and_self, and_true, true_and, wq, wQ, alen_aput, ag_s, ag_x, ag_j, ag_e, r_8_8 hL, hcr, hcn, hcv, h1, h2, h80, h3, acmp_p, hb, e]
theorem sl_0 {σ : aS} {sc t u c a n v cr : Int} (hL : LR σ) (hcr : aget σ 9 1 = cr) (n0 : 1 ≤ n) (n1 : n < cr) (n2 : cr ≤ 432) (hcn : c3_crewOfNumber 9 n σ = some (0, [v], σ)) (hcv : c11_covers c v σ = some (0, [0], σ)) :
    aU7 c7_seekSplit_b37 [8, sc, t, u, c, a, n] σ = some (38, [8, sc, t, u, c, a, n + 1], σ) := by
  simp (disch := omega) only [aU7, c7_seekSplit_b37, c7_seekSplit_p136, ↓reduceIte, acall1_some, acall0_some, q_lt, q_nlt, q_le, q_nle, q_eq, q_ne, q_01, true_or, or_true, false_or, or_false, false_and, and_false, and_self, and_true, true_and, wq, wQ, alen_aput, ag_s, ag_x, ag_j, ag_e, r_8_8 hL, hcr, hcn, hcv]
set_option maxHeartbeats 4000000 in
theorem c7_seekSplit_ok {pl : Int} {T N : aH} {σ : aS} (hC : CI pl T σ) (hN : NB T N) {sc : Int} (hs : SH sc) (hS : SC T N sc σ) (hR : RE N σ) {t u : Int} (t0 : 0 ≤ t) (t1 : t < T 0 2) (u0 : 0 ≤ u) (u1 : u < T 0 2) :
    ∃ τ, c7_seekSplit 8 sc t u σ = some (0, [], τ) ∧ Fp wsp σ τ ∧ aget τ 8 7 = (spN T N t u (crw T).toNat).1 ∧ aget τ 8 2 = pk5 (crf T (spN T N t u (crw T).toNat).2) := by
  have hsp := hs
  unfold SH at hsp
  have hB := hC.2.2.2.2.2
  have hcl := crw_le hB
  have hcp := (wt_pos hB).2.2.2.2
  have hf := ctn_BF hN hB t0 (Int.le_of_lt t1)
  have hf7 := hf.b7 hB
  have hp := hC.2.1
  have q := hC.2.2.1.1
  have hcrA := c4_crewAt_ok hC hN t0 (Int.le_of_lt t1)
  have hsu := c7_sumIn_ok hC hN hs hS hR hf t0 (Int.le_of_lt t1)
  have hab := suW_bd' hB hN t0 (Int.le_of_lt t1) hf
  have hal := al_I (c := 38) (B := aU7 c7_seekSplit_b37) (n := crw T) (i := 1) (vs := [8, sc, t, u, pk5 (ctn T N t), suW T N t (ctn T N t), 1]) (σ := aput (aput σ 8 2 0) 8 7 0)
    (fun k vs τ => 1 ≤ k ∧ vs = [8, sc, t, u, pk5 (ctn T N t), suW T N t (ctn T N t), k] ∧ Fp wsp σ τ ∧ aget τ 8 7 = (spN T N t u k.toNat).1 ∧ aget τ 8 2 = pk5 (crf T (spN T N t u k.toNat).2))
    (fun r => ∃ τ, r = (0, [], τ) ∧ Fp wsp σ τ ∧ aget τ 8 7 = (spN T N t u (crw T).toNat).1 ∧ aget τ 8 2 = pk5 (crf T (spN T N t u (crw T).toNat).2))
    (by omega) (by omega) ⟨Int.le_refl _, rfl, ((Fp.rf _ _).put _ ⟨rfl, Or.inl rfl⟩).put _ ⟨rfl, Or.inr rfl⟩, by rw [ag_s]; rfl, by rw [ag_j (by omega), ag_s]; show (0 : Int) = pk5 (crf T 0); unfold pk5; simp only [crf_0]; rfl⟩ (by
      rintro k vs τ hk ⟨k0, rfl, hF, h7, h2⟩
      have hC2 := hC.fp hF (by intro x j; unfold wsp wkc; omega)
      have hL2 := hC2.1
      have hcr2 := hC2.2.2.2.2.1.1.2.2.2.2.2
      by_cases hkn : k < crw T
      · obtain ⟨n, rfl⟩ := Int.eq_ofNat_of_zero_le (show 0 ≤ k by omega)
        have e1 : ((n : Int) + 1).toNat = n + 1 := by omega
        rw [Int.toNat_natCast] at h7 h2
        obtain ⟨hg, -⟩ := crf_BF hB (n := (n : Int)) (by omega) hkn
        have hcn := c3_crewOfNumber_ok hC2 (n := (n : Int)) (by omega) hkn
        have hcv := c11_covers_ok hf7 (hg.b7 hB) τ
        have hst : spN T N t u (n + 1) = if 1 ≤ n ∧ cvf (ctn T N t) (crf T n) = true ∧ (spN T N t u n).1 < spV T N t u (crf T n) then (spV T N t u (crf T n), (n : Int)) else spN T N t u n := rfl
        cases hc : cvf (ctn T N t) (crf T n) with
        | true =>
          rw [hc] at hcv
          have hS2 : SC T N sc τ := hS.fp hF (by intro j; unfold wsp; omega) (by intro j _; unfold wsp; omega)
          have hR2 := hR.fp hF (by unfold wsp; omega) (by unfold wsp; omega) (by unfold wsp; omega)
          have hsb := sbg_BF hf hg hc
          have hpk := pk5_sbg (ctn T N t) (crf T n)
          have hpb := pk5_bd (hsb.b7 hB)
          have s1 := c7_sumIn_ok hC2 hN hs hS2 hR2 hsb t0 (Int.le_of_lt t1)
          have s2 := c7_sumIn_ok hC2 hN hs hS2 hR2 hg u0 (Int.le_of_lt u1)
          have s3 := c4_sumOf_ok hC2 (hg.b7 hB)
          rw [← hpk] at s1 hpb
          have b3 : 0 ≤ mvc T (crf T n) ∧ mvc T (crf T n) ≤ 3500 := mvc_bd hB (hg.b7 hB) hB.2.1.1 (Int.le_refl _)
          have hb := sl_1 hL2 hC2.2.1 hC2.2.2.1.1 hcr2 k0 hkn hcl hcn hcv hpb.1 hpb.2 s1 s2 s3 (suW_bd' hB hN t0 (Int.le_of_lt t1) hsb) (suW_bd' hB hN u0 (Int.le_of_lt u1) hg) b3 hab h7
          have hvv : suW T N t (sbg (ctn T N t) (crf T n)) + suW T N u (crf T n) - 27720 * mvc T (crf T n) - suW T N t (ctn T N t) = spV T N t u (crf T n) := rfl
          rw [hvv] at hb
          by_cases d : (spN T N t u n).1 < spV T N t u (crf T n)
          · rw [if_pos d] at hb
            rw [if_pos ⟨by omega, hc, d⟩] at hst
            refine Or.inl ⟨hkn, _, _, hb, by omega, rfl, (hF.put _ ⟨rfl, Or.inr rfl⟩).put _ ⟨rfl, Or.inl rfl⟩, ?_, ?_⟩
            · rw [e1, hst, ag_j (by omega), ag_s]
            · rw [e1, hst, ag_s]
          · rw [if_neg d] at hb
            rw [if_neg (fun z => d z.2.2)] at hst
            exact Or.inl ⟨hkn, _, _, hb, by omega, rfl, hF, by rw [e1, hst]; exact h7, by rw [e1, hst]; exact h2⟩
        | false =>
          rw [hc] at hcv
          have hb := sl_0 (sc := sc) (t := t) (u := u) (a := suW T N t (ctn T N t)) hL2 hcr2 k0 hkn hcl hcn hcv
          rw [if_neg (fun z => by rw [hc] at z; cases z.2.1)] at hst
          exact Or.inl ⟨hkn, _, _, hb, by omega, rfl, hF, by rw [e1, hst]; exact h7, by rw [e1, hst]; exact h2⟩
      · have hke : k = crw T := by omega
        subst hke
        refine Or.inr ⟨(0, [], τ), ?_, Nat.ne_of_beq_eq_false rfl, τ, rfl, hF, h7, h2⟩
        simp (disch := omega) only [aU7, c7_seekSplit_b37, ↓reduceIte, acall1_some, acall0_some, q_lt, q_nlt, q_le, q_nle, q_eq, q_ne, q_01, true_or, or_true, false_or, or_false, false_and, and_false, and_self, and_true, true_and, wq, wQ, alen_aput, ag_s, ag_x, ag_j, ag_e, r_8_8 hL2, hcr2])
  obtain ⟨r, hr, τ, hQ, h1, h2, h3⟩ := hal
  refine ⟨τ, ?_, h1, h2, h3⟩
  simp (disch := omega) only [c7_seekSplit, ↓reduceIte, acall1_some, acall0_some, q_lt, q_nlt, q_le, q_nle, q_eq, q_ne, q_01, true_or, or_true, false_or, or_false, false_and, and_false, and_self, and_true, true_and, wq, wQ, alen_aput, ag_s, ag_x, ag_j, ag_e, q, hS.1, hcrA, hsu, c7_seekSplit_l37, hr, hQ, abind, c7_seekSplit_d37]
