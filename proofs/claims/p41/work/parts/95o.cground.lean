/-! the class's half of whole's part of this name -/
def lnRs (b : Int → Int) (n t w : Int) : Nat → Int → Int → aH → Int × Int × aH
  | 0, _, P, T => (0, P, T)
  | k + 1, i, P, T => if kd b n P = 2 then (if i = 6 then (2, P, T) else if pNum b n 0 (p2 w - 1) P ≠ 0 then (pNum b n 0 (p2 w - 1) P, P, T) else lnRs b n t w k (i + 1) (nxp b n P) (stv (stv T 14 (6 * t + i) (vlt b n P)) 13 t (i + 1))) else (0, P, T)
def lnD (b : Int → Int) (n P : Int) (T : aH) : Int × Int × aH :=
  if odF b n T 2 (nxp b n P) ≠ 0 then (odF b n T 2 (nxp b n P), nxp b n P, T) else
  if 0 < T 12 (aNamed T 2 (vlt b n (nxp b n P))) then (3, nxp b n P, T) else
  if pNum b n 1 6 (nxp b n (nxp b n P)) ≠ 0 then (pNum b n 1 6 (nxp b n (nxp b n P)), nxp b n (nxp b n P), T) else
  lnRs b n (aNamed T 2 (vlt b n (nxp b n P))) (vlt b n (nxp b n (nxp b n P))) 7 0 (nxp b n (nxp b n (nxp b n P))) (stv T 12 (aNamed T 2 (vlt b n (nxp b n P))) (vlt b n (nxp b n (nxp b n P))))
theorem ctm_gr {j : Int} : (0 ≤ j → j < 4 → ctm 15 j = some (12, j)) ∧ (0 ≤ j → j < 4 → ctm 16 j = some (13, j)) ∧ (0 ≤ j → j < 24 → ctm 17 j = some (14, j)) := by
  refine ⟨fun j0 j1 => ?_, fun j0 j1 => ?_, fun j0 j1 => ?_⟩
  all_goals
    unfold ctm
    repeat (rw [if_neg (by omega)])
    rw [if_pos (by omega)]
theorem rows_loop {pl : Int} {b : Int → Int} {n t w : Int} (t0 : 0 ≤ t) (t1 : t < 4) (w0 : 1 ≤ w) (w6 : w ≤ 6) {P : Int} {T : aH} {σ : aS} (h : RC pl b n P T σ) :
    ∃ τ, c1_readRows_l24 (pl + 14) 2 t w 0 σ = some (0, [], τ) ∧ Fp (wrd pl) σ τ ∧ OKc pl b n (lnRs b n t w 7 0 P T) τ := by
  have hp := h.2.2.1
  have hw : p2 w ≤ 64 ∧ 2 ≤ p2 w := by
    rcases (show w = 1 ∨ w = 2 ∨ w = 3 ∨ w = 4 ∨ w = 5 ∨ w = 6 by omega) with rfl | rfl | rfl | rfl | rfl | rfl <;> exact ⟨by decide, by decide⟩
  have hsh : w32 ((ashl 1 w) - 1) = p2 w - 1 := by rw [ashl_1 (by omega) (by omega), wq (by omega) (by omega)]
  have hal := al_I (c := 25) (B := aU5 c1_readRows_b24) (n := 7) (i := 0) (vs := [pl + 14, 2, t, w, 0]) (σ := σ)
    (fun i vs τ => 0 ≤ i ∧ vs = [pl + 14, 2, t, w, i] ∧ Fp (wrd pl) σ τ ∧ ((∃ P' T', RC pl b n P' T' τ ∧ lnRs b n t w (7 - i).toNat i P' T' = lnRs b n t w 7 0 P T) ∨ ((lnRs b n t w 7 0 P T).1 ≠ 0 ∧ FTc (lnRs b n t w 7 0 P T).1 (lnRs b n t w 7 0 P T).2.1 τ ∧ aget τ 7 1 = pl)))
    (fun r => (∃ τ, r = (0, [], τ) ∧ Fp (wrd pl) σ τ ∧ OKc pl b n (lnRs b n t w 7 0 P T) τ) ∨ (∃ τ P' T', r = (54, [2], τ) ∧ Fp (wrd pl) σ τ ∧ RC pl b n P' T' τ ∧ lnRs b n t w 7 0 P T = (2, P', T'))) (by omega) (by omega) ⟨Int.le_refl _, rfl, Fp.rf _ _, Or.inl ⟨P, T, h, rfl⟩⟩ ?_
  · obtain ⟨r, hr, ⟨τ, rfl, h1, h2⟩ | ⟨τ, P', T', rfl, h1, h2, h3⟩⟩ := hal
    · refine ⟨τ, ?_, h1, h2⟩
      unfold c1_readRows_l24
      rw [hr]; rfl
    · obtain ⟨υ, e1, e2, e3⟩ := c10_refuse_p h2.1 (f := 2) (by omega)
      refine ⟨υ, ?_, h1.tr (wtq_d e2), Or.inr ⟨by rw [h3]; show (2 : Int) ≠ 0; omega, by rw [h3]; exact e3, by rw [e2.g (by unfold wtq; omega)]; exact h2.2.1⟩⟩
      unfold c1_readRows_l24
      rw [hr]
      show c1_readRows_p53 2 τ = _
      unfold c1_readRows_p53
      rw [e1, acall0_some]
  · rintro i vs τ hi ⟨i0, rfl, hF, ⟨P', T', hR, he⟩ | ⟨hne, hX, e71⟩⟩
    · have hL := hR.lr
      by_cases c : i < 7
      · have ef : (7 - i).toNat = (7 - (i + 1)).toNat + 1 := by omega
        rw [ef] at he
        have eu : lnRs b n t w ((7 - (i + 1)).toNat + 1) i P' T' = if kd b n P' = 2 then (if i = 6 then (2, P', T') else if pNum b n 0 (p2 w - 1) P' ≠ 0 then (pNum b n 0 (p2 w - 1) P', P', T') else lnRs b n t w (7 - (i + 1)).toNat (i + 1) (nxp b n P') (stv (stv T' 14 (6 * t + i) (vlt b n P')) 13 t (i + 1))) else (0, P', T') := rfl
        rw [eu] at he
        have start : ∀ r : aR, (if kd b n P' = 2 then (if i = 6 then some (54, [2], τ) else (if aget τ (pl + 14) 2 = 0 then none else (acall1 (c10_takeNumber 2 0 (p2 w - 1) τ) fun v2 σ2 => (acall1 (jmax 0 v2 σ2) fun v3 σ3 => (if (0 : Int) ≤ w32 ((w32 (t * 6)) + i) ∧ w32 ((w32 (t * 6)) + i) < alen σ3 (aget τ (pl + 14) 2) then (if aget (aput σ3 (aget τ (pl + 14) 2) (w32 ((w32 (t * 6)) + i)) v3) (pl + 14) 1 = 0 then none else (if (0 : Int) ≤ t ∧ t < alen (aput σ3 (aget τ (pl + 14) 2) (w32 ((w32 (t * 6)) + i)) v3) (aget (aput σ3 (aget τ (pl + 14) 2) (w32 ((w32 (t * 6)) + i)) v3) (pl + 14) 1) then some (25, [pl + 14, 2, t, w, w32 (i + 1)], aput (aput σ3 (aget τ (pl + 14) 2) (w32 ((w32 (t * 6)) + i)) v3) (aget (aput σ3 (aget τ (pl + 14) 2) (w32 ((w32 (t * 6)) + i)) v3) (pl + 14) 1) t (w32 (i + 1))) else none)) else none))))) else some (0, [], τ)) = r → aU5 c1_readRows_b24 [pl + 14, 2, t, w, i] τ = r := by
          intro r hr
          show c1_readRows_b24 (pl + 14) 2 t w i τ = r
          unfold c1_readRows_b24
          rw [c10_isSound_p hR.1, acall1_some, hR.1.kd.1, hsh]
          exact ite_n (by omega) (ite_n (by omega) hr)
        by_cases d : kd b n P' = 2
        · rw [if_pos d] at he
          by_cases e : i = 6
          · rw [if_pos e] at he
            refine Or.inr ⟨(54, [2], τ), start _ (ite_p d (ite_p e rfl)), Nat.ne_of_beq_eq_false rfl, Or.inr ⟨τ, P', T', rfl, hF, hR, he.symm⟩⟩
          · rw [if_neg e] at he
            have w6x : w32 ((w32 (t * 6)) + i) = 6 * t + i := by rw [wq (x := t * 6) (by omega) (by omega), wq (by omega) (by omega)]; omega
            rcases c10_takeNumber_p hR.1 0 (p2 w - 1) with ⟨y, hv, σ1, h1, hF1, hK1⟩ | ⟨y, σ1, h1, hF1, hX1⟩
            · have hR1 := hR.tq hF1 hK1
              rw [if_neg (fun q => q y)] at he
              obtain ⟨hR2, hF2⟩ := hR1.put (x := 17) (j := 6 * t + i) (ctm_gr.2.2 (by omega) (by omega)) (vlt b n P') (by rw [hsf_ne (by omega) (by omega)])
              obtain ⟨σ2, hσ2⟩ : ∃ σ2, σ2 = aput σ1 (pl + 17) (6 * t + i) (vlt b n P') := ⟨_, rfl⟩
              rw [← hσ2] at hR2 hF2
              obtain ⟨hR3, hF3⟩ := hR2.put (x := 16) (j := t) (ctm_gr.2.1 t0 t1) (i + 1) (by rw [hsf_ne (by omega) (by omega)])
              have hj : jmax 0 (vlt b n P') σ1 = some (0, [vlt b n P'], σ1) := by
                unfold jmax
                by_cases e : 0 < vlt b n P'
                · exact if_pos e
                · rw [if_neg e, show vlt b n P' = 0 by omega]
              refine Or.inl ⟨c, _, _, start _ ?_, by omega, rfl, hF.tr ((wtq_d hF1).tr (hF2.tr hF3)), Or.inl ⟨_, _, hR3, he⟩⟩
              rw [h1, acall1_some, hj, acall1_some, rg_2 hL hp, w6x, np_17 hR1.lr hp, ← hσ2, rg_1 hR2.lr hp, np_16 hR2.lr hp, wq (x := i + 1) (by omega) (by omega)]
              exact ite_p d (ite_n e (ite_n (by omega) (ite_p (by omega) (ite_n (by omega) (ite_p (by omega) rfl)))))
            · rw [if_pos y] at he
              obtain ⟨hX2, hF2, e2⟩ := hX1.put hp (x := pl + 17) (j := 6 * t + i) (by unfold wrp; omega) 0
              obtain ⟨σ2, hσ2⟩ : ∃ σ2, σ2 = aput σ1 (pl + 17) (6 * t + i) 0 := ⟨_, rfl⟩
              rw [← hσ2] at hX2 hF2 e2
              obtain ⟨hX3, hF3, e3⟩ := hX2.put hp (x := pl + 16) (j := t) (by unfold wrp; omega) (i + 1)
              have hj : jmax 0 (-1) σ1 = some (0, [0], σ1) := by unfold jmax; exact if_neg (by omega)
              have e71 : aget σ1 7 1 = pl := by rw [hF1.g (by unfold wtq; omega)]; exact hR.2.1
              refine Or.inl ⟨c, _, _, start _ ?_, by omega, rfl, hF.tr ((wtq_d hF1).tr (hF2.tr hF3)), Or.inr ⟨by rw [← he]; exact y, by rw [← he]; exact hX3, by rw [e3, e2, e71]⟩⟩
              rw [h1, acall1_some, hj, acall1_some, rg_2 hL hp, w6x, np_17 hX1.1 hp, ← hσ2, rg_1 hX2.1 hp, np_16 hX2.1 hp, wq (x := i + 1) (by omega) (by omega)]
              exact ite_p d (ite_n e (ite_n (by omega) (ite_p (by omega) (ite_n (by omega) (ite_p (by omega) rfl)))))
        · rw [if_neg d] at he
          exact Or.inr ⟨(0, [], τ), start _ (ite_n d rfl), Nat.ne_of_beq_eq_false rfl, Or.inl ⟨τ, rfl, hF, Or.inl ⟨by rw [← he], by rw [← he]; exact hR⟩⟩⟩
      · have e8 : (7 - i).toNat = 0 := by omega
        rw [e8] at he
        have eu : lnRs b n t w 0 i P' T' = (0, P', T') := rfl
        rw [eu] at he
        refine Or.inr ⟨(0, [], τ), ?_, Nat.ne_of_beq_eq_false rfl, Or.inl ⟨τ, rfl, hF, Or.inl ⟨by rw [← he], by rw [← he]; exact hR⟩⟩⟩
        show c1_readRows_b24 (pl + 14) 2 t w i τ = _
        unfold c1_readRows_b24
        exact ite_p (by omega) rfl
    · refine Or.inr ⟨(0, [], τ), ?_, Nat.ne_of_beq_eq_false rfl, Or.inl ⟨τ, rfl, hF, Or.inr ⟨hne, hX, e71⟩⟩⟩
      show c1_readRows_b24 (pl + 14) 2 t w i τ = _
      unfold c1_readRows_b24
      by_cases c : 6 < i
      · exact ite_p c rfl
      · rw [c10_isSound_f hX, acall1_some]
        exact ite_n c (ite_p rfl rfl)
theorem c5_readGround_ok {pl : Int} {b : Int → Int} {n P : Int} {T : aH} {σ : aS} (h : RC pl b n P T σ) (hB : BTk T) : ∃ τ, c5_readGround 7 σ = some (0, [], τ) ∧ Fp (wrd pl) σ τ ∧ OKc pl b n (lnD b n P T) τ := by
  have hp := h.2.2.1
  have hL := h.lr
  have h4 := hB.2.2.1
  obtain ⟨σ1, h1, hF1, hK1⟩ := c10_step_p h.1
  have hR1 := h.tq hF1 hK1
  have hL1 := hR1.lr
  unfold c5_readGround lnD
  rw [r_7_0 hL, if_neg (show ¬ (2 : Int) = 0 by omega), h1, acall0_some]
  rcases c5_oldOne_ok hR1 hB (w := 2) (by omega) (by omega) with ⟨z, hg, h2⟩ | ⟨z, σ2, h2, hF2, hX2⟩
  · rw [if_neg (show ¬ odF b n T 2 (nxp b n P) ≠ 0 from fun q => q z), h2, acall1_some, if_neg (show ¬ aNamed T 2 (vlt b n (nxp b n P)) = -1 by omega)]
    generalize aNamed T 2 (vlt b n (nxp b n P)) = t at hg
    have e12 : aget σ1 (pl + 15) t = T 12 t := hR1.2.2.2.1 15 t 12 t (ctm_gr.1 hg.1 (by omega))
    have htold : c1_isTold (pl + 14) t σ1 = some (0, [if 0 < T 12 t then 1 else 0], σ1) := by
      unfold c1_isTold
      rw [rg_0 hL1 hp, np_15 hL1 hp, e12]
      refine ite_n (by omega) (ite_p (by omega) ?_)
      by_cases c : 0 < T 12 t
      · rw [if_pos c, if_pos c]; exact ite_p (by omega) rfl
      · rw [if_neg c, if_neg c]; exact ite_p (by omega) rfl
    rw [hR1.2.1, rp_7 hL1 hp, htold, acall1_some, if_neg (show ¬ pl = 0 by omega), if_neg (show ¬ pl + 14 = 0 by omega), r_7_0 hL1]
    by_cases c : 0 < T 12 t
    · rw [if_pos c, if_pos c, if_neg (show ¬ (1 : Int) = 0 by omega), if_neg (show ¬ (2 : Int) = 0 by omega)]
      obtain ⟨τ, h3, hF3, hX3⟩ := c10_refuse_p hR1.1 (f := 3) (by omega)
      refine ⟨τ, ?_, (wtq_d hF1).tr (wtq_d hF3), Or.inr ⟨by show (3 : Int) ≠ 0; omega, hX3, by rw [hF3.g (by unfold wtq; omega)]; exact hR1.2.1⟩⟩
      rw [h3, acall0_some]
    · rw [if_neg c, if_neg c, if_pos rfl, if_neg (show ¬ (2 : Int) = 0 by omega)]
      obtain ⟨σ2, h3, hF2, hK2⟩ := c10_step_p hR1.1
      have hR2 := hR1.tq hF2 hK2
      have hL2 := hR2.lr
      rw [h3, acall0_some, hR2.2.1, rp_7 hL2 hp, r_7_0 hL2, if_neg (show ¬ pl = 0 by omega), if_neg (show ¬ pl + 14 = 0 by omega), if_neg (show ¬ (2 : Int) = 0 by omega)]
      unfold c1_readRows
      rcases c10_takeNumber_p hR2.1 1 6 with ⟨y, hv, σ3, h4', hF3, hK3⟩ | ⟨y, σ3, h4', hF3, hX3⟩
      · have hR3 := hR2.tq hF3 hK3
        have hL3 := hR3.lr
        obtain ⟨hR4, hF4⟩ := hR3.put (x := 15) (j := t) (ctm_gr.1 hg.1 (by omega)) (vlt b n (nxp b n (nxp b n P))) (by rw [hsf_ne (by omega) (by omega)])
        obtain ⟨τ, e1, e2, e3⟩ := rows_loop hg.1 (show t < 4 by omega) hv.1 hv.2 hR4
        rw [if_neg (show ¬ pNum b n 1 6 (nxp b n (nxp b n P)) ≠ 0 from fun q => q y), h4', acall1_some, if_neg (show ¬ vlt b n (nxp b n (nxp b n P)) = -1 by omega), rg_0 hL3 hp, np_15 hL3 hp, if_neg (show ¬ pl + 15 = 0 by omega), if_pos (show 0 ≤ t ∧ t < 4 by omega), e1, acall0_some]
        exact ⟨τ, rfl, (wtq_d hF1).tr ((wtq_d hF2).tr ((wtq_d hF3).tr (hF4.tr e2))), e3⟩
      · rw [if_pos y, h4', acall1_some, if_pos rfl, acall0_some]
        exact ⟨σ3, rfl, (wtq_d hF1).tr ((wtq_d hF2).tr (wtq_d hF3)), Or.inr ⟨y, hX3, by rw [hF3.g (by unfold wtq; omega)]; exact hR2.2.1⟩⟩
  · rw [if_pos z, h2, acall1_some, if_pos rfl]
    exact ⟨σ2, rfl, (wtq_d hF1).tr (wtq_d hF2), Or.inr ⟨z, hX2, by rw [hF2.g (by unfold wtq; omega)]; exact hR1.2.1⟩⟩
