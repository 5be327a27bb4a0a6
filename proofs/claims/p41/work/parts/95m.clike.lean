/-! the class's half of whole's part of this name -/
/-- a figure written while there is a fault -/
theorem FTc.put {pl f P : Int} {σ : aS} (h : FTc f P σ) (hp : pl = 90 ∨ pl = 110) {x j : Int} (hx : wrp pl x j) (v : Int) : FTc f P (aput σ x j v) ∧ Fp (wrd pl) σ (aput σ x j v) ∧ aget (aput σ x j v) 7 1 = aget σ 7 1 := by
  have hF : Fp (fun y k => y = x ∧ k = j) σ (aput σ x j v) := (Fp.rf _ _).put _ ⟨rfl, rfl⟩
  have hF2 : Fp (wrd pl) σ (aput σ x j v) := hF.mono (fun y k q => by rw [q.1, q.2]; exact Or.inr hx)
  have hx90 : 90 ≤ x := by unfold wrp at hx; omega
  exact ⟨h.pf (h.1.rd hp hF2 (fun _ _ q => q)) hF (fun y k q => by omega), hF2, ag_x (by omega)⟩
theorem ctm_5 {j : Int} (j0 : 0 ≤ j) (j1 : j < 25) : ctm 5 j = some (4, j) := by
  unfold ctm
  repeat (rw [if_neg (by omega)])
  rw [if_pos (by omega)]
def lkP (b : Int → Int) (n P : Int) : Int := if kd b n (nxp b n (nxp b n (nxp b n P))) = 45 then nxp b n (nxp b n (nxp b n (nxp b n P))) else nxp b n (nxp b n (nxp b n P))
def lkV (b : Int → Int) (n P : Int) : Int := if kd b n (nxp b n (nxp b n (nxp b n P))) = 45 then -vlt b n (lkP b n P) else vlt b n (lkP b n P)
def lkI (b : Int → Int) (n P : Int) (T : aH) : Int := 5 * aNamed T 1 (vlt b n (nxp b n P)) + aNamed T 1 (vlt b n (nxp b n (nxp b n P)))
def lnL (b : Int → Int) (n P : Int) (T : aH) : Int × Int × aH :=
  if odF b n T 1 (nxp b n P) ≠ 0 then (odF b n T 1 (nxp b n P), nxp b n P, T) else
  if odF b n T 1 (nxp b n (nxp b n P)) ≠ 0 then (odF b n T 1 (nxp b n (nxp b n P)), nxp b n (nxp b n P), T) else
  if T 21 (lkI b n P T) ≠ 0 then (3, nxp b n (nxp b n P), T) else
  if pNum b n 0 20 (lkP b n P) ≠ 0 then (pNum b n 0 20 (lkP b n P), lkP b n P, T) else
  (0, nxp b n (lkP b n P), stv (stv T 21 (lkI b n P T) 1) 4 (lkI b n P T) (lkV b n P))
theorem c5_readLiking_ok {pl : Int} {b : Int → Int} {n P : Int} {T : aH} {σ : aS} (h : RC pl b n P T σ) (hB : BTk T) : ∃ τ, c5_readLiking 7 σ = some (0, [], τ) ∧ Fp (wrd pl) σ τ ∧ OKc pl b n (lnL b n P T) τ := by
  have hp := h.2.2.1
  have hL := h.lr
  have hs5 := hB.2.1
  obtain ⟨σ1, h1, hF1, hK1⟩ := c10_step_p h.1
  have hR1 := h.tq hF1 hK1
  unfold c5_readLiking lnL
  rw [r_7_0 hL, if_neg (show ¬ (2 : Int) = 0 by omega), h1, acall0_some]
  rcases c5_oldOne_ok hR1 hB (w := 1) (by omega) (by omega) with ⟨z, hg, h2⟩ | ⟨z, σ2, h2, hF2, hX2⟩
  · rw [if_neg (show ¬ odF b n T 1 (nxp b n P) ≠ 0 from fun q => q z), h2, acall1_some, if_neg (show ¬ aNamed T 1 (vlt b n (nxp b n P)) = -1 by omega), r_7_0 hR1.lr, if_neg (show ¬ (2 : Int) = 0 by omega)]
    obtain ⟨σ2, h3, hF2, hK2⟩ := c10_step_p hR1.1
    have hR2 := hR1.tq hF2 hK2
    have hF2' := (wtq_d (pl := pl) hF1).tr (wtq_d hF2)
    rw [h3, acall0_some]
    rcases c5_oldOne_ok hR2 hB (w := 1) (by omega) (by omega) with ⟨z2, ho, h4⟩ | ⟨z2, σ3, h4, hF3, hX3⟩
    · rw [if_neg (show ¬ odF b n T 1 (nxp b n (nxp b n P)) ≠ 0 from fun q => q z2), h4, acall1_some, if_neg (show ¬ aNamed T 1 (vlt b n (nxp b n (nxp b n P))) = -1 by omega), hR2.2.1, if_neg (show ¬ pl = 0 by omega)]
      unfold lkI
      generalize aNamed T 1 (vlt b n (nxp b n P)) = s at hg
      generalize aNamed T 1 (vlt b n (nxp b n (nxp b n P))) = o at ho
      have hbw := hR2.2.2.bw (w := 9) (a := 21) (m := 25) (Or.inr (Or.inl ⟨rfl, rfl, rfl⟩))
      have ht := bw_tst hbw (by omega) (show 0 ≤ 5 * s + o by omega) (show 5 * s + o < 25 by omega)
      rw [w5' (by omega) (by omega) (by omega) (by omega), r_7_0 hR2.lr]
      by_cases c : T 21 (5 * s + o) = 0
      · rw [if_neg (show ¬ T 21 (5 * s + o) ≠ 0 from fun q => q c), if_pos (show aand (aget σ2 pl 9) (ashl 1 (5 * s + o)) = 0 by rw [ht]; exact c), if_neg (show ¬ pl = 0 by omega)]
        obtain ⟨hR3, hF3⟩ := hR2.set (w := 9) (a := 21) (m := 25) (k := 5 * s + o) (Or.inr (Or.inl ⟨rfl, rfl, rfl⟩)) (by omega) (by omega)
        obtain ⟨σ3, hσ3⟩ : ∃ σ3, σ3 = aput σ2 pl 9 (aor (aget σ2 pl 9) (ashl 1 (5 * s + o))) := ⟨_, rfl⟩
        rw [← hσ3] at hR3 hF3 ⊢
        obtain ⟨σ4, h5, hF4, hK4⟩ := c10_step_p hR3.1
        have hR4 := hR3.tq hF4 hK4
        have hL4 := hR4.lr
        have hF4' := hF2'.tr (hF3.tr (wtq_d hF4))
        rw [r_7_0 hR3.lr, if_neg (show ¬ (2 : Int) = 0 by omega), h5, acall0_some, r_7_0 hL4, if_neg (show ¬ (2 : Int) = 0 by omega), hK4.kd.1]
        -- behind the sign
        have fin : ∀ (k P4 : Int) (σ5 : aS), RC pl b n P4 (stv T 21 (5 * s + o) 1) σ5 → Fp (wrd pl) σ σ5 → ∃ τ, c5_readLiking_p118 7 s o k σ5 = some (0, [], τ) ∧ Fp (wrd pl) σ τ ∧
            OKc pl b n (if pNum b n 0 20 P4 ≠ 0 then (pNum b n 0 20 P4, P4, T) else (0, nxp b n P4, stv (stv T 21 (5 * s + o) 1) 4 (5 * s + o) (if k = 0 then vlt b n P4 else -vlt b n P4))) τ := by
          intro k P4 σ5 hR5 hF5
          have w5x : w32 ((w32 (s * 5)) + o) = 5 * s + o := w5' (by omega) (by omega) (by omega) (by omega)
          unfold c5_readLiking_p118
          rw [r_7_0 hR5.lr, if_neg (show ¬ (2 : Int) = 0 by omega)]
          rcases c10_takeNumber_p hR5.1 0 20 with ⟨y, hv, σ6, h6, hF6, hK6⟩ | ⟨y, σ6, h6, hF6, hX6⟩
          · have hR6 := hR5.tq hF6 hK6
            have hL6 := hR6.lr
            rw [if_neg (show ¬ pNum b n 0 20 P4 ≠ 0 from fun q => q y), h6, acall1_some, hR6.2.1, rp_4 hL6 hp, if_neg (show ¬ pl = 0 by omega), if_neg (show ¬ pl + 5 = 0 by omega), w5x]
            by_cases k0 : k = 0
            · obtain ⟨hR7, hF7⟩ := hR6.put (x := 5) (j := 5 * s + o) (ctm_5 (by omega) (by omega)) (vlt b n P4) (by rw [hsf_ne (by omega) (by omega)])
              rw [if_pos k0, if_pos k0]
              refine ⟨_, ?_, hF5.tr ((wtq_d hF6).tr hF7), Or.inl ⟨rfl, hR7⟩⟩
              unfold c5_readLiking_p155
              rw [np_5 hL6 hp]
              exact ite_p (by omega) rfl
            · obtain ⟨hR7, hF7⟩ := hR6.put (x := 5) (j := 5 * s + o) (ctm_5 (by omega) (by omega)) (-vlt b n P4) (by rw [hsf_ne (by omega) (by omega)])
              rw [if_neg k0, if_neg k0, wq (by omega) (by omega)]
              refine ⟨_, ?_, hF5.tr ((wtq_d hF6).tr hF7), Or.inl ⟨rfl, hR7⟩⟩
              unfold c5_readLiking_p155
              rw [np_5 hL6 hp]
              exact ite_p (by omega) rfl
          · have hL6 := hX6.1
            have e71 : aget σ6 7 1 = pl := by rw [hF6.g (by unfold wtq; omega)]; exact hR5.2.1
            rw [if_pos y, h6, acall1_some, e71, rp_4 hL6 hp, if_neg (show ¬ pl = 0 by omega), if_neg (show ¬ pl + 5 = 0 by omega), w5x]
            have pt := fun v : Int => hX6.put hp (x := pl + 5) (j := 5 * s + o) (by unfold wrp; omega) v
            have run : ∀ v : Int, c5_readLiking_p155 v (5 * s + o) (pl + 5) σ6 = some (0, [], aput σ6 (pl + 5) (5 * s + o) v) := fun v => by
              unfold c5_readLiking_p155
              rw [np_5 hL6 hp]
              exact ite_p (by omega) rfl
            by_cases k0 : k = 0
            · rw [if_pos k0]
              exact ⟨_, run _, hF5.tr ((wtq_d hF6).tr (pt _).2.1), Or.inr ⟨y, (pt _).1, by rw [(pt _).2.2]; exact e71⟩⟩
            · rw [if_neg k0]
              exact ⟨_, run _, hF5.tr ((wtq_d hF6).tr (pt _).2.1), Or.inr ⟨y, (pt _).1, by rw [(pt _).2.2]; exact e71⟩⟩
        by_cases d : kd b n (nxp b n (nxp b n (nxp b n P))) = 45
        · rw [if_pos d]
          unfold lkP lkV c5_readLiking_p104
          obtain ⟨σ5, h6, hF5, hK5⟩ := c10_step_p hR4.1
          have hR5 := hR4.tq hF5 hK5
          obtain ⟨τ, e1, e2, e3⟩ := fin 1 _ σ5 hR5 (hF4'.tr (wtq_d hF5))
          refine ⟨τ, ?_, e2, ?_⟩
          · rw [r_7_0 hL4, h6, acall0_some, e1]; rfl
          · unfold lkP
            rw [if_pos d, if_pos d]
            exact e3
        · rw [if_neg d]
          unfold lkP lkV c5_readLiking_p104
          obtain ⟨τ, e1, e2, e3⟩ := fin 0 _ σ4 hR4 hF4'
          refine ⟨τ, ?_, e2, ?_⟩
          · rw [e1]; rfl
          · unfold lkP
            rw [if_neg d, if_neg d]
            exact e3
      · rw [if_pos (show T 21 (5 * s + o) ≠ 0 from c), if_neg (show ¬ aand (aget σ2 pl 9) (ashl 1 (5 * s + o)) = 0 by rw [ht]; exact c), if_neg (show ¬ (2 : Int) = 0 by omega)]
        obtain ⟨τ, h5, hF5, hX5⟩ := c10_refuse_p hR2.1 (f := 3) (by omega)
        refine ⟨τ, ?_, hF2'.tr (wtq_d hF5), Or.inr ⟨by show (3 : Int) ≠ 0; omega, hX5, by rw [hF5.g (by unfold wtq; omega)]; exact hR2.2.1⟩⟩
        rw [h5, acall0_some]
    · rw [if_pos z2, h4, acall1_some, if_pos rfl]
      exact ⟨σ3, rfl, hF2'.tr (wtq_d hF3), Or.inr ⟨z2, hX3, by rw [hF3.g (by unfold wtq; omega)]; exact hR2.2.1⟩⟩
  · rw [if_pos z, h2, acall1_some, if_pos rfl]
    exact ⟨σ2, rfl, (wtq_d hF1).tr (wtq_d hF2), Or.inr ⟨z, hX2, by rw [hF2.g (by unfold wtq; omega)]; exact hR1.2.1⟩⟩
