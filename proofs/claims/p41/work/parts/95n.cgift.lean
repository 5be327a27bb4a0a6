/-! the class's half of whole's part of this name -/
def BGk (T : aH) : Prop := ∀ t, 0 ≤ t → t < 4 → 0 ≤ T 5 t ∧ T 5 t < p2 (T 0 0)
theorem BGk.u {T : aH} (h : BGk T) (hB : BTk T) {t : Int} (t0 : 0 ≤ t) (t1 : t < 4) : 0 ≤ T 5 t ∧ T 5 t < 32 ∧ T 5 t < p2 (T 0 0) := by
  have := h t t0 t1
  have e := p2_small hB.1.1 hB.1.2
  omega
theorem ctm_6 {j : Int} (j0 : 0 ≤ j) (j1 : j < 4) : ctm 6 j = some (5, j) := by
  unfold ctm
  repeat (rw [if_neg (by omega)])
  rw [if_pos (by omega)]
def lnI (b : Int → Int) (n t P : Int) (T : aH) : Int × Int × aH :=
  if odF b n T 0 (nxp b n P) ≠ 0 then (odF b n T 0 (nxp b n P), nxp b n P, T) else
  if bI (T 5 t) (aNamed T 0 (vlt b n (nxp b n P))) ≠ 0 then (3, nxp b n P, T) else
  (0, nxp b n (nxp b n P), stv T 5 t (aor (T 5 t) (ashl 1 (aNamed T 0 (vlt b n (nxp b n P))))))
theorem lnI_B {b : Int → Int} {n t P : Int} {T : aH} (hB : BTk T) (hG : BGk T) (t0 : 0 ≤ t) (t1 : t < 4) (hz : (lnI b n t P T).1 = 0) : BTk (lnI b n t P T).2.2 ∧ BGk (lnI b n t P T).2.2 := by
  unfold lnI at hz ⊢
  by_cases a : odF b n T 0 (nxp b n P) ≠ 0
  · rw [if_pos a] at hz; exact absurd hz a
  · rw [if_neg a] at hz ⊢
    have hg : 0 ≤ aNamed T 0 (vlt b n (nxp b n P)) ∧ aNamed T 0 (vlt b n (nxp b n P)) < T 0 0 := by
      refine aNamed_bd (fun q => a ?_) (by omega) (by omega)
      unfold odF
      by_cases k3 : kd b n (nxp b n P) ≠ 3
      · rw [if_pos k3]; omega
      · rw [if_neg k3, if_pos q]; omega
    by_cases c : bI (T 5 t) (aNamed T 0 (vlt b n (nxp b n P))) ≠ 0
    · rw [if_pos c] at hz; exact absurd (show (3 : Int) = 0 from hz) (by decide)
    · rw [if_neg c]
      have hu := hG.u hB t0 t1
      have hb := aor_bd (x := T 5 t) (k := aNamed T 0 (vlt b n (nxp b n P))) (b := (T 0 0).toNat) hu.1 (by rw [Int.toNat_of_nonneg hB.1.1]; exact hu.2.2) hg.1 (by rw [Int.toNat_of_nonneg hB.1.1]; exact hg.2) (by have := hB.1.2; omega)
      rw [Int.toNat_of_nonneg hB.1.1] at hb
      show BTk (stv T 5 t _) ∧ BGk (stv T 5 t _)
      refine ⟨hB.of (fun i _ _ => stv_x (show (0 : Int) ≠ 5 by omega) _), fun u u0 u1 => ?_⟩
      show 0 ≤ stv T 5 t _ 5 u ∧ stv T 5 t _ 5 u < p2 (stv T 5 t _ 0 0)
      rw [stv_x (show (0 : Int) ≠ 5 by omega)]
      by_cases e : u = t
      · rw [e, stv_s]; exact hb
      · rw [stv_j e]; exact hG u u0 u1
theorem c5_readGift_ok {pl : Int} {b : Int → Int} {n P : Int} {T : aH} {σ : aS} (h : RC pl b n P T σ) (hB : BTk T) (hG : BGk T) {t : Int} (t0 : 0 ≤ t) (t1 : t < 4) : ∃ τ, c5_readGift 7 t σ = some (0, [], τ) ∧ Fp (wrd pl) σ τ ∧ OKc pl b n (lnI b n t P T) τ := by
  have hp := h.2.2.1
  have hL := h.lr
  have hg5 := hB.1
  obtain ⟨σ1, h1, hF1, hK1⟩ := c10_step_p h.1
  have hR1 := h.tq hF1 hK1
  have hL1 := hR1.lr
  unfold c5_readGift lnI
  rw [r_7_0 hL, if_neg (show ¬ (2 : Int) = 0 by omega), h1, acall0_some]
  rcases c5_oldOne_ok hR1 hB (w := 0) (by omega) (by omega) with ⟨z, hg, h2⟩ | ⟨z, σ2, h2, hF2, hX2⟩
  · rw [if_neg (show ¬ odF b n T 0 (nxp b n P) ≠ 0 from fun q => q z), h2, acall1_some, if_neg (show ¬ aNamed T 0 (vlt b n (nxp b n P)) = -1 by omega)]
    generalize aNamed T 0 (vlt b n (nxp b n P)) = g at hg
    have e5 : aget σ1 (pl + 6) t = T 5 t := hR1.2.2.2.1 6 t 5 t (ctm_6 t0 t1)
    have hu := hG.u hB t0 t1
    rw [hR1.2.1, rp_5 hL1 hp, np_6 hL1 hp, e5, bI_shr hu.1 (by omega) hg.1 (by omega), if_neg (show ¬ pl = 0 by omega), if_neg (show ¬ pl + 6 = 0 by omega), if_pos (show 0 ≤ t ∧ t < 4 from ⟨t0, t1⟩), r_7_0 hL1]
    by_cases c : bI (T 5 t) g = 0
    · rw [if_pos c, if_neg (show ¬ bI (T 5 t) g ≠ 0 from fun q => q c)]
      obtain ⟨hR2, hF2⟩ := hR1.put (x := 6) (j := t) (ctm_6 t0 t1) (aor (T 5 t) (ashl 1 g)) (by rw [hsf_ne (by omega) (by omega)])
      obtain ⟨σ2, hσ2⟩ : ∃ σ2, σ2 = aput σ1 (pl + 6) t (aor (T 5 t) (ashl 1 g)) := ⟨_, rfl⟩
      rw [← hσ2] at hR2 hF2 ⊢
      obtain ⟨σ3, h3, hF3, hK3⟩ := c10_step_p hR2.1
      have hR3 := hR2.tq hF3 hK3
      refine ⟨σ3, ?_, (wtq_d hF1).tr (hF2.tr (wtq_d hF3)), Or.inl ⟨rfl, hR3⟩⟩
      rw [r_7_0 hR2.lr, h3, acall0_some]
      exact ite_n (by omega) (ite_n (by omega) (ite_p ⟨t0, t1⟩ (ite_p ⟨t0, t1⟩ (ite_n (by omega) rfl))))
    · rw [if_neg c, if_pos (show bI (T 5 t) g ≠ 0 from c)]
      obtain ⟨τ, h3, hF3, hX3⟩ := c10_refuse_p hR1.1 (f := 3) (by omega)
      refine ⟨τ, ?_, (wtq_d hF1).tr (wtq_d hF3), Or.inr ⟨by show (3 : Int) ≠ 0; omega, hX3, by rw [hF3.g (by unfold wtq; omega)]; exact hR1.2.1⟩⟩
      rw [h3, acall0_some]
      exact ite_n (by omega) rfl
  · rw [if_pos z, h2, acall1_some, if_pos rfl]
    exact ⟨σ2, rfl, (wtq_d hF1).tr (wtq_d hF2), Or.inr ⟨z, hX2, by rw [hF2.g (by unfold wtq; omega)]; exact hR1.2.1⟩⟩
def lnIs (b : Int → Int) (n t : Int) : Nat → Int → aH → Int × Int × aH
  | 0, P, T => (0, P, T)
  | k + 1, P, T => if kd b n P = 105 then (if (lnI b n t P T).1 ≠ 0 then lnI b n t P T else lnIs b n t k (lnI b n t P T).2.1 (lnI b n t P T).2.2) else (0, P, T)
theorem gifts_loop {pl : Int} {b : Int → Int} {n t : Int} (t0 : 0 ≤ t) (t1 : t < 4) {P : Int} {T : aH} {σ : aS} (h : RC pl b n P T σ) (hB : BTk T) (hG : BGk T) :
    ∃ τ, aloop 16 (aU3 c5_readTown_b15) aBig [7, t, 0] σ = some (56, [7, t], τ) ∧ Fp (wrd pl) σ τ ∧ OKc pl b n (lnIs b n t 800 P T) τ := by
  have hal := al_I (c := 16) (B := aU3 c5_readTown_b15) (n := 800) (i := 0) (vs := [7, t, 0]) (σ := σ)
    (fun i vs τ => 0 ≤ i ∧ vs = [7, t, i] ∧ Fp (wrd pl) σ τ ∧ ((∃ P' T', RC pl b n P' T' τ ∧ BTk T' ∧ BGk T' ∧ lnIs b n t (800 - i).toNat P' T' = lnIs b n t 800 P T) ∨ ((lnIs b n t 800 P T).1 ≠ 0 ∧ FTc (lnIs b n t 800 P T).1 (lnIs b n t 800 P T).2.1 τ ∧ aget τ 7 1 = pl)))
    (fun r => ∃ τ, r = (56, [7, t], τ) ∧ Fp (wrd pl) σ τ ∧ OKc pl b n (lnIs b n t 800 P T) τ) (by omega) (by omega) ⟨Int.le_refl _, rfl, Fp.rf _ _, Or.inl ⟨P, T, h, hB, hG, rfl⟩⟩ ?_
  · obtain ⟨r, hr, τ, rfl, h1, h2⟩ := hal
    exact ⟨τ, hr, h1, h2⟩
  · rintro i vs τ hi ⟨i0, rfl, hF, ⟨P', T', hR, hB', hG', he⟩ | ⟨hne, hX, e71⟩⟩
    · have hL := hR.lr
      by_cases c : i < 800
      · have ef : (800 - i).toNat = (800 - (i + 1)).toNat + 1 := by omega
        rw [ef] at he
        have eu : lnIs b n t ((800 - (i + 1)).toNat + 1) P' T' = if kd b n P' = 105 then (if (lnI b n t P' T').1 ≠ 0 then lnI b n t P' T' else lnIs b n t (800 - (i + 1)).toNat (lnI b n t P' T').2.1 (lnI b n t P' T').2.2) else (0, P', T') := rfl
        rw [eu] at he
        by_cases d : kd b n P' = 105
        · rw [if_pos d] at he
          obtain ⟨υ, h1, hF1, ho⟩ := c5_readGift_ok hR hB' hG' t0 t1
          have st : aU3 c5_readTown_b15 [7, t, i] τ = some (16, [7, t, i + 1], υ) := by
            show c5_readTown_b15 7 t i τ = _
            unfold c5_readTown_b15
            rw [r_7_0 hL, c10_isSound_p hR.1, acall1_some, r_7_0 hL, hR.1.kd.1, h1, acall0_some, wq (by omega) (by omega)]
            exact ite_p c (ite_n (by omega) (ite_n (by omega) (ite_n (by omega) (ite_p d rfl))))
          rcases ho with ⟨z, hR2⟩ | ⟨z, hX2, e71⟩
          · rw [if_neg (fun q => q z)] at he
            have hbg := lnI_B hB' hG' t0 t1 z
            exact Or.inl ⟨c, _, υ, st, by omega, rfl, hF.tr hF1, Or.inl ⟨_, _, hR2, hbg.1, hbg.2, he⟩⟩
          · rw [if_pos z] at he
            exact Or.inl ⟨c, _, υ, st, by omega, rfl, hF.tr hF1, Or.inr ⟨by rw [← he]; exact z, by rw [← he]; exact hX2, e71⟩⟩
        · rw [if_neg d] at he
          refine Or.inr ⟨(56, [7, t], τ), ?_, Nat.ne_of_beq_eq_false rfl, τ, rfl, hF, Or.inl ⟨by rw [← he], by rw [← he]; exact hR⟩⟩
          show c5_readTown_b15 7 t i τ = _
          unfold c5_readTown_b15
          rw [r_7_0 hL, c10_isSound_p hR.1, acall1_some, r_7_0 hL, hR.1.kd.1]
          exact ite_p c (ite_n (by omega) (ite_n (by omega) (ite_n (by omega) (ite_n d rfl))))
      · have e8 : (800 - i).toNat = 0 := by omega
        rw [e8] at he
        have eu : lnIs b n t 0 P' T' = (0, P', T') := rfl
        rw [eu] at he
        refine Or.inr ⟨(56, [7, t], τ), ?_, Nat.ne_of_beq_eq_false rfl, τ, rfl, hF, Or.inl ⟨by rw [← he], by rw [← he]; exact hR⟩⟩
        show c5_readTown_b15 7 t i τ = _
        unfold c5_readTown_b15
        exact ite_n c rfl
    · refine Or.inr ⟨(56, [7, t], τ), ?_, Nat.ne_of_beq_eq_false rfl, τ, rfl, hF, Or.inr ⟨hne, hX, e71⟩⟩
      show c5_readTown_b15 7 t i τ = _
      unfold c5_readTown_b15
      by_cases c : i < 800
      · rw [r_7_0 hX.1, c10_isSound_f hX, acall1_some]
        exact ite_p c (ite_n (by omega) (ite_p rfl rfl))
      · exact ite_n c rfl
