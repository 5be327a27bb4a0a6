/-! the class's half of whole's part of this name -/
theorem FTc.pf {f P : Int} {σ τ : aS} {Q : Int → Int → Prop} (h : FTc f P σ) (hL : LR τ) (hF : Fp Q σ τ) (hQ : ∀ x j, Q x j → ¬ (x = 2 ∧ (j = 9 ∨ j = 10))) : FTc f P τ :=
  ⟨hL, by rw [hF.g (fun q => hQ _ _ q (by omega))]; exact h.2.1, h.2.2.1, by rw [hF.g (fun q => hQ _ _ q (by omega))]; exact h.2.2.2⟩
/-- what a line comes to: its fault, the place, the text -/
def OKc (pl : Int) (b : Int → Int) (n : Int) (o : Int × Int × aH) (σ : aS) : Prop := (o.1 = 0 ∧ RC pl b n o.2.1 o.2.2 σ) ∨ (o.1 ≠ 0 ∧ FTc o.1 o.2.1 σ ∧ aget σ 7 1 = pl)
theorem OKc.of {pl : Int} {b : Int → Int} {n : Int} {o o' : Int × Int × aH} {σ : aS} (h : OKc pl b n o σ) (e : o' = o) : OKc pl b n o' σ := e ▸ h
def lnG (b : Int → Int) (n P : Int) (T : aH) : Int × Int × aH :=
  if (nwF b n T 0 5 P).1 ≠ 0 then ((nwF b n T 0 5 P).1, (nwF b n T 0 5 P).2, T) else
  if pNum b n 0 999 (nxp b n (nxp b n P)) ≠ 0 then (pNum b n 0 999 (nxp b n (nxp b n P)), nxp b n (nxp b n P), T) else
  (0, nxp b n (nxp b n (nxp b n P)), stv (nwT b n T 0 P) 1 (T 0 0) (vlt b n (nxp b n (nxp b n P))))
theorem ctm_2 {j : Int} (j0 : 0 ≤ j) (j1 : j < 5) : ctm 2 j = some (1, j) := by
  unfold ctm
  repeat (rw [if_neg (by omega)])
  rw [if_pos (by omega)]
theorem nwF_2 {b : Int → Int} {n : Int} {T : aH} {w most P : Int} (h : (nwF b n T w most P).1 = 0) : T 0 w < most := by
  unfold nwF at h
  by_cases c : most ≤ T 0 w
  · rw [if_pos c] at h
    have h' : (2 : Int) = 0 := h
    omega
  · omega
theorem c5_readGood_ok {pl : Int} {b : Int → Int} {n P : Int} {T : aH} {σ : aS} (h : RC pl b n P T σ) (hB : BTk T) : ∃ τ, c5_readGood 7 σ = some (0, [], τ) ∧ Fp (wrd pl) σ τ ∧ OKc pl b n (lnG b n P T) τ := by
  have hp := h.2.2.1
  have hk := hB.1
  unfold lnG
  rcases c5_newOne_ok h hB (w := 0) (most := 5) (by omega) (by omega) (by omega) (fun q => by omega) with ⟨z, σ1, h1, hF1, hR1⟩ | ⟨z, σ1, h1, hF1, e1, hX1⟩
  · have hk5 := nwF_2 z
    rw [if_neg (show ¬ (nwF b n T 0 5 P).1 ≠ 0 from fun q => q z)]
    rcases c10_takeNumber_p hR1.1 0 999 with ⟨y, hv, σ2, h2, hF2, hK2⟩ | ⟨y, σ2, h2, hF2, hX2⟩
    · have hR2 := hR1.tq hF2 hK2
      rw [if_neg (show ¬ pNum b n 0 999 (nxp b n (nxp b n P)) ≠ 0 from fun q => q y)]
      obtain ⟨hR3, hF3⟩ := hR2.put (x := 2) (j := T 0 0) (ctm_2 hk.1 hk5) (vlt b n (nxp b n (nxp b n P))) (by rw [hsf_ne (by omega) (by omega)])
      refine ⟨_, ?_, hF1.tr ((wtq_d hF2).tr hF3), Or.inl ⟨rfl, hR3⟩⟩
      unfold c5_readGood
      rw [h1, acall1_some, r_7_0 hR1.lr, h2, acall1_some, hR2.2.1, rp_1 hR2.lr hp, np_2 hR2.lr hp]
      exact ite_n (by omega) (ite_n (by omega) (ite_n (by omega) (ite_n (by omega) (ite_n (by omega) (ite_p (by omega) rfl)))))
    · rw [if_pos y]
      refine ⟨σ2, ?_, hF1.tr (wtq_d hF2), Or.inr ⟨y, hX2, by rw [hF2.g (by unfold wtq; omega)]; exact hR1.2.1⟩⟩
      unfold c5_readGood
      rw [h1, acall1_some, r_7_0 hR1.lr, h2, acall1_some]
      exact ite_n (by omega) (ite_n (by omega) (ite_p rfl rfl))
  · rw [if_pos z]
    refine ⟨σ1, ?_, hF1, Or.inr ⟨z, hX1, e1⟩⟩
    unfold c5_readGood
    rw [h1, acall1_some, r_7_0 hX1.1, c10_takeNumber_f hX1, acall1_some]
    exact ite_n (by omega) (ite_p rfl rfl)
def lnS (b : Int → Int) (n P : Int) (T : aH) : Int × Int × aH :=
  if T 0 5 ≠ 0 then (3, P, T) else
  if pNum b n 2 99 (nxp b n P) ≠ 0 then (pNum b n 2 99 (nxp b n P), nxp b n P, T) else
  (0, nxp b n (nxp b n P), stv T 0 5 (vlt b n (nxp b n P)))
theorem c5_readStorm_ok {pl : Int} {b : Int → Int} {n P : Int} {T : aH} {σ : aS} (h : RC pl b n P T σ) : ∃ τ, c5_readStorm 7 σ = some (0, [], τ) ∧ Fp (wrd pl) σ τ ∧ OKc pl b n (lnS b n P T) τ := by
  have hp := h.2.2.1
  have hL := h.lr
  have e12 : aget σ pl 12 = T 0 5 := by have := h.2.2.2.1 0 12 0 5 rfl; rw [Int.add_zero] at this; exact this
  unfold lnS c5_readStorm
  rw [h.2.1, e12, r_7_0 hL, if_neg (show ¬ pl = 0 by omega)]
  by_cases c : T 0 5 = 0
  · rw [if_pos c, if_neg (show ¬ T 0 5 ≠ 0 from fun q => q c), if_neg (show ¬ (2 : Int) = 0 by omega)]
    obtain ⟨σ1, h1, hF1, hK1⟩ := c10_step_p h.1
    have hR1 := h.tq hF1 hK1
    rw [h1, acall0_some, hR1.2.1, r_7_0 hR1.lr, if_neg (show ¬ pl = 0 by omega), if_neg (show ¬ (2 : Int) = 0 by omega)]
    rcases c10_takeNumber_p hR1.1 2 99 with ⟨y, hv, σ2, h2, hF2, hK2⟩ | ⟨y, σ2, h2, hF2, hX2⟩
    · have hR2 := hR1.tq hF2 hK2
      rw [if_neg (show ¬ pNum b n 2 99 (nxp b n P) ≠ 0 from fun q => q y)]
      obtain ⟨hR3, hF3⟩ := hR2.put (x := 0) (j := 12) rfl (vlt b n (nxp b n P)) (by rw [hsf_01 (by omega)])
      rw [Int.add_zero] at hR3 hF3
      have hj : jmax 0 (vlt b n (nxp b n P)) σ2 = some (0, [vlt b n (nxp b n P)], σ2) := by unfold jmax; exact if_pos (by omega)
      refine ⟨_, ?_, (wtq_d hF1).tr ((wtq_d hF2).tr hF3), Or.inl ⟨rfl, hR3⟩⟩
      rw [h2, acall1_some, hj, acall1_some]
    · rw [if_pos y]
      have hj : jmax 0 (-1) σ2 = some (0, [0], σ2) := by unfold jmax; exact if_neg (by omega)
      have hF3 : Fp (fun x j => x = pl ∧ j = 12) σ2 (aput σ2 pl 12 0) := (Fp.rf _ _).put _ ⟨rfl, rfl⟩
      have hF4 : Fp (wrd pl) σ2 (aput σ2 pl 12 0) := hF3.mono (fun x j q => Or.inr (by unfold wrp; omega))
      refine ⟨aput σ2 pl 12 0, ?_, (wtq_d hF1).tr ((wtq_d hF2).tr hF4), Or.inr ⟨y, hX2.pf (hX2.1.rd hp hF4 (fun _ _ q => q)) hF3 (fun x j q => by omega), by rw [ag_x (by omega), hF2.g (by unfold wtq; omega)]; exact hR1.2.1⟩⟩
      rw [h2, acall1_some, hj, acall1_some]
  · rw [if_neg c, if_pos (show T 0 5 ≠ 0 from c), if_neg (show ¬ (2 : Int) = 0 by omega)]
    obtain ⟨τ, h1, hF1, hX1⟩ := c10_refuse_p h.1 (f := 3) (by omega)
    refine ⟨τ, ?_, wtq_d hF1, Or.inr ⟨by show (3 : Int) ≠ 0; omega, hX1, by rw [hF1.g (by unfold wtq; omega)]; exact h.2.1⟩⟩
    rw [h1, acall0_some]
