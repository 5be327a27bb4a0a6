/-! the class's half of whole's part of this name -/
theorem ctm_a {x j a i : Int} (h : ctm x j = some (a, i)) : a ≠ 20 ∧ a ≠ 21 ∧ a ≠ 6 ∧ a ≠ 23 := by
  unfold ctm at h
  iterate 18 (replace h := its.1 h; rcases h with ⟨q, e⟩ | ⟨-, h⟩; · (cases e; omega))
  cases h
theorem ctm_w {w : Int} (h : w = 8 ∨ w = 9 ∨ w = 10 ∨ w = 11 ∨ w = 15) : ctm 0 w = none := by
  rcases h with rfl | rfl | rfl | rfl | rfl <;> rfl
/-- a word of bits of the plan: its cell, its row of the text, its bits -/
def bwt (w a m : Int) : Prop := (w = 8 ∧ a = 20 ∧ m = 25) ∨ (w = 9 ∧ a = 21 ∧ m = 25) ∨ (w = 10 ∧ a = 6 ∧ m = 4) ∨ (w = 11 ∧ a = 23 ∧ m = 4)
theorem PLc.bw {pl : Int} {T : aH} {σ : aS} (h : PLc pl T σ) {w a m : Int} (hw : bwt w a m) : BWc pl w a m T σ := by
  rcases hw with ⟨rfl, rfl, rfl⟩ | ⟨rfl, rfl, rfl⟩ | ⟨rfl, rfl, rfl⟩ | ⟨rfl, rfl, rfl⟩
  · exact h.2.2.1
  · exact h.2.2.2.1
  · exact h.2.2.2.2.1
  · exact h.2.2.2.2.2.1
theorem PLc.set {pl : Int} {T : aH} {σ : aS} (h : PLc pl T σ) {w a m k : Int} (hw : bwt w a m) (k0 : 0 ≤ k) (k1 : k < m) : PLc pl (stv T a k 1) (aput σ pl w (aor (aget σ pl w) (ashl 1 k))) := by
  have hb := (h.bw hw).set (k := k) (by unfold bwt at hw; omega) k0 k1
  obtain ⟨hp, h1, h2, h3, h4, h5, h6⟩ := h
  have hw' := hw
  unfold bwt at hw'
  have g : ∀ v, v ≠ w → aget (aput σ pl w (aor (aget σ pl w) (ashl 1 k))) pl v = aget σ pl v := fun v hv => ag_j hv
  have o : ∀ v c m', v ≠ w → c ≠ a → BWc pl v c m' T σ → BWc pl v c m' (stv T a k 1) (aput σ pl w (aor (aget σ pl w) (ashl 1 k))) := fun v c m' hv hc hb' => hb'.ot (g v hv) (fun j _ _ => stv_x hc _)
  refine ⟨hp, fun x j a' i hc => ?_, ?_, ?_, ?_, ?_, ?_⟩
  · have na := ctm_a hc
    rw [stv_x (by omega)]
    by_cases e : pl + x = pl ∧ j = w
    · have := ctm_w (w := w) (by omega)
      rw [show x = 0 by omega, e.2, this] at hc; cases hc
    · have := h1 x j a' i hc
      by_cases ex : x = 0
      · rw [ex, Int.add_zero] at this ⊢
        rw [ag_j (by omega)]; exact this
      · rw [ag_x (by omega)]; exact this
  · rcases hw' with ⟨rfl, rfl, rfl⟩ | ⟨rfl, rfl, rfl⟩ | ⟨rfl, rfl, rfl⟩ | ⟨rfl, rfl, rfl⟩
    · exact hb
    · exact o 8 20 25 (by omega) (by omega) h2
    · exact o 8 20 25 (by omega) (by omega) h2
    · exact o 8 20 25 (by omega) (by omega) h2
  · rcases hw' with ⟨rfl, rfl, rfl⟩ | ⟨rfl, rfl, rfl⟩ | ⟨rfl, rfl, rfl⟩ | ⟨rfl, rfl, rfl⟩
    · exact o 9 21 25 (by omega) (by omega) h3
    · exact hb
    · exact o 9 21 25 (by omega) (by omega) h3
    · exact o 9 21 25 (by omega) (by omega) h3
  · rcases hw' with ⟨rfl, rfl, rfl⟩ | ⟨rfl, rfl, rfl⟩ | ⟨rfl, rfl, rfl⟩ | ⟨rfl, rfl, rfl⟩
    · exact o 10 6 4 (by omega) (by omega) h4
    · exact o 10 6 4 (by omega) (by omega) h4
    · exact hb
    · exact o 10 6 4 (by omega) (by omega) h4
  · rcases hw' with ⟨rfl, rfl, rfl⟩ | ⟨rfl, rfl, rfl⟩ | ⟨rfl, rfl, rfl⟩ | ⟨rfl, rfl, rfl⟩
    · exact o 11 23 4 (by omega) (by omega) h5
    · exact o 11 23 4 (by omega) (by omega) h5
    · exact o 11 23 4 (by omega) (by omega) h5
    · exact hb
  · rw [g 15 (by omega), hsf_ne (by omega) (by omega)]; exact h6
theorem RC.set {pl : Int} {b : Int → Int} {n P : Int} {T : aH} {σ : aS} (h : RC pl b n P T σ) {w a m k : Int} (hw : bwt w a m) (k0 : 0 ≤ k) (k1 : k < m) :
    RC pl b n P (stv T a k 1) (aput σ pl w (aor (aget σ pl w) (ashl 1 k))) ∧ Fp (wrd pl) σ (aput σ pl w (aor (aget σ pl w) (ashl 1 k))) := by
  have hp := h.2.2.1
  have hF : Fp (fun y j => y = pl ∧ j = w) σ (aput σ pl w (aor (aget σ pl w) (ashl 1 k))) := (Fp.rf _ _).put _ ⟨rfl, rfl⟩
  have hF2 : Fp (wrd pl) σ (aput σ pl w (aor (aget σ pl w) (ashl 1 k))) := hF.mono (fun y j q => Or.inr (by unfold bwt at hw; unfold wrp; omega))
  exact ⟨⟨h.1.pf (h.lr.rd hp hF2 (fun _ _ q => q)) hF (fun y j q => by omega), by rw [ag_x (by omega)]; exact h.2.1, h.2.2.set hw k0 k1⟩, hF2⟩
def lnW (b : Int → Int) (n s P : Int) (T : aH) : Int × Int × aH :=
  if odF b n T 0 (nxp b n P) ≠ 0 then (odF b n T 0 (nxp b n P), nxp b n P, T) else
  if T 20 (5 * s + aNamed T 0 (vlt b n (nxp b n P))) ≠ 0 then (3, nxp b n P, T) else
  if pNum b n 0 99 (nxp b n (nxp b n P)) ≠ 0 then (pNum b n 0 99 (nxp b n (nxp b n P)), nxp b n (nxp b n P), T) else
  (0, nxp b n (nxp b n (nxp b n P)), stv (stv T 20 (5 * s + aNamed T 0 (vlt b n (nxp b n P))) 1) 3 (5 * s + aNamed T 0 (vlt b n (nxp b n P))) (vlt b n (nxp b n (nxp b n P))))
theorem ctm_4 {j : Int} (j0 : 0 ≤ j) (j1 : j < 25) : ctm 4 j = some (3, j) := by
  unfold ctm
  repeat (rw [if_neg (by omega)])
  rw [if_pos (by omega)]
theorem bw_tst {pl w a m k : Int} {T : aH} {σ : aS} (h : BWc pl w a m T σ) (hm : m ≤ 25) (k0 : 0 ≤ k) (k1 : k < m) : (aand (aget σ pl w) (ashl 1 k) = 0) = (T a k = 0) := by
  have hp : p2 m ≤ 33554432 := by
    unfold p2
    have : 2 ^ m.toNat ≤ 2 ^ 25 := Nat.pow_le_pow_right (by decide) (by omega)
    omega
  rw [← h.2 k k0 k1]
  exact propext (bI_z h.1.1 (by have := h.1.2; omega) k0 (by omega))
theorem c5_readWant_ok {pl : Int} {b : Int → Int} {n P : Int} {T : aH} {σ : aS} (h : RC pl b n P T σ) (hB : BTk T) {s : Int} (s0 : 0 ≤ s) (s1 : s < 5) : ∃ τ, c5_readWant 7 s σ = some (0, [], τ) ∧ Fp (wrd pl) σ τ ∧ OKc pl b n (lnW b n s P T) τ := by
  have hp := h.2.2.1
  have hL := h.lr
  obtain ⟨σ1, h1, hF1, hK1⟩ := c10_step_p h.1
  have hR1 := h.tq hF1 hK1
  have hL1 := hR1.lr
  unfold c5_readWant lnW
  rw [r_7_0 hL, if_neg (show ¬ (2 : Int) = 0 by omega), h1, acall0_some]
  rcases c5_oldOne_ok hR1 hB (w := 0) (by omega) (by omega) with ⟨z, hg, h2⟩ | ⟨z, σ2, h2, hF2, hX2⟩
  · rw [if_neg (show ¬ odF b n T 0 (nxp b n P) ≠ 0 from fun q => q z), h2, acall1_some, if_neg (show ¬ aNamed T 0 (vlt b n (nxp b n P)) = -1 by omega)]
    have hg5 := hB.1
    generalize aNamed T 0 (vlt b n (nxp b n P)) = g at hg
    have hbw := hR1.2.2.bw (w := 8) (a := 20) (m := 25) (Or.inl ⟨rfl, rfl, rfl⟩)
    have ht := bw_tst hbw (by omega) (show 0 ≤ 5 * s + g by omega) (show 5 * s + g < 25 by omega)
    rw [hR1.2.1, w5' (by omega) (by omega) (by omega) (by omega), r_7_0 hL1, if_neg (show ¬ pl = 0 by omega)]
    by_cases c : T 20 (5 * s + g) = 0
    · rw [if_neg (show ¬ T 20 (5 * s + g) ≠ 0 from fun q => q c)]
      obtain ⟨hR2, hF2⟩ := hR1.set (w := 8) (a := 20) (m := 25) (k := 5 * s + g) (Or.inl ⟨rfl, rfl, rfl⟩) (by omega) (by omega)
      obtain ⟨σ2, hσ2⟩ : ∃ σ2, σ2 = aput σ1 pl 8 (aor (aget σ1 pl 8) (ashl 1 (5 * s + g))) := ⟨_, rfl⟩
      rw [← hσ2] at hR2 hF2
      obtain ⟨σ3, h3, hF3, hK3⟩ := c10_step_p hR2.1
      have hR3 := hR2.tq hF3 hK3
      have hL3 := hR3.lr
      have pre : ∀ r : aR, (acall1 (c10_takeNumber 2 0 99 σ3) fun v5 σ5 => (if aget σ5 7 1 = 0 then none else (if aget σ5 (aget σ5 7 1) 3 = 0 then none else (acall1 (jmax 0 v5 σ5) fun v6 σ6 => (if (0 : Int) ≤ 5 * s + g ∧ 5 * s + g < alen σ6 (aget σ5 (aget σ5 7 1) 3) then some (0, [], aput σ6 (aget σ5 (aget σ5 7 1) 3) (5 * s + g) v6) else none))))) = r →
          (if aand (aget σ1 pl 8) (ashl 1 (5 * s + g)) = 0 then (if pl = 0 then none else (if aget (aput σ1 pl 8 (aor (aget σ1 pl 8) (ashl 1 (5 * s + g)))) 7 0 = 0 then none else (acall0 (c10_step (aget (aput σ1 pl 8 (aor (aget σ1 pl 8) (ashl 1 (5 * s + g)))) 7 0) (aput σ1 pl 8 (aor (aget σ1 pl 8) (ashl 1 (5 * s + g))))) fun σ4 => (if aget σ4 7 0 = 0 then none else (acall1 (c10_takeNumber (aget σ4 7 0) 0 99 σ4) fun v5 σ5 => (if aget σ5 7 1 = 0 then none else (if aget σ5 (aget σ5 7 1) 3 = 0 then none else (acall1 (jmax 0 v5 σ5) fun v6 σ6 => (if (0 : Int) ≤ 5 * s + g ∧ 5 * s + g < alen σ6 (aget σ5 (aget σ5 7 1) 3) then some (0, [], aput σ6 (aget σ5 (aget σ5 7 1) 3) (5 * s + g) v6) else none))))))))) else (if (2 : Int) = 0 then none else (acall0 (c10_refuse 2 3 σ1) fun σ3 => some (0, [], σ3)))) = r := by
        intro r hr
        rw [← hσ2, r_7_0 hR2.lr, h3, acall0_some, r_7_0 hL3]
        exact ite_p (by rw [ht]; exact c) (ite_n (by omega) (ite_n (by omega) (ite_n (by omega) hr)))
      rcases c10_takeNumber_p hR3.1 0 99 with ⟨y, hv, σ4, h4, hF4, hK4⟩ | ⟨y, σ4, h4, hF4, hX4⟩
      · have hR4 := hR3.tq hF4 hK4
        have hL4 := hR4.lr
        rw [if_neg (show ¬ pNum b n 0 99 (nxp b n (nxp b n P)) ≠ 0 from fun q => q y)]
        obtain ⟨hR5, hF5⟩ := hR4.put (x := 4) (j := 5 * s + g) (ctm_4 (by omega) (by omega)) (vlt b n (nxp b n (nxp b n P))) (by rw [hsf_ne (by omega) (by omega)])
        have hj : jmax 0 (vlt b n (nxp b n (nxp b n P))) σ4 = some (0, [vlt b n (nxp b n (nxp b n P))], σ4) := by
          unfold jmax
          by_cases e : 0 < vlt b n (nxp b n (nxp b n P))
          · exact if_pos e
          · rw [if_neg e, show vlt b n (nxp b n (nxp b n P)) = 0 by omega]
        refine ⟨_, ?_, (wtq_d hF1).tr (hF2.tr ((wtq_d hF3).tr ((wtq_d hF4).tr hF5))), Or.inl ⟨rfl, hR5⟩⟩
        refine pre _ ?_
        rw [h4, acall1_some, hR4.2.1, rp_3 hL4 hp, hj, acall1_some, np_4 hL4 hp]
        exact ite_n (by omega) (ite_n (by omega) (ite_p (by omega) rfl))
      · rw [if_pos y]
        have hL4 := hX4.1
        have hj : jmax 0 (-1) σ4 = some (0, [0], σ4) := by unfold jmax; exact if_neg (by omega)
        have e71 : aget σ4 7 1 = pl := by rw [hF4.g (by unfold wtq; omega)]; exact hR3.2.1
        have hF5 : Fp (fun x j => x = pl + 4) σ4 (aput σ4 (pl + 4) (5 * s + g) 0) := (Fp.rf _ _).put _ rfl
        have hF6 : Fp (wrd pl) σ4 (aput σ4 (pl + 4) (5 * s + g) 0) := hF5.mono (fun x j q => Or.inr (by unfold wrp; omega))
        refine ⟨_, ?_, (wtq_d hF1).tr (hF2.tr ((wtq_d hF3).tr ((wtq_d hF4).tr hF6))), Or.inr ⟨y, hX4.pf (hX4.1.rd hp hF6 (fun _ _ q => q)) hF5 (fun x j q => by omega), by rw [ag_x (by omega)]; exact e71⟩⟩
        refine pre _ ?_
        rw [h4, acall1_some, e71, rp_3 hL4 hp, hj, acall1_some, np_4 hL4 hp]
        exact ite_n (by omega) (ite_n (by omega) (ite_p (by omega) rfl))
    · rw [if_pos (show T 20 (5 * s + g) ≠ 0 from c)]
      obtain ⟨τ, h3, hF3, hX3⟩ := c10_refuse_p hR1.1 (f := 3) (by omega)
      refine ⟨τ, ?_, (wtq_d hF1).tr (wtq_d hF3), Or.inr ⟨by show (3 : Int) ≠ 0; omega, hX3, by rw [hF3.g (by unfold wtq; omega)]; exact hR1.2.1⟩⟩
      rw [h3, acall0_some]
      exact ite_n (by rw [ht]; exact c) (ite_n (by omega) rfl)
  · rw [if_pos z, h2, acall1_some, if_pos rfl]
    exact ⟨σ2, rfl, (wtq_d hF1).tr (wtq_d hF2), Or.inr ⟨z, hX2, by rw [hF2.g (by unfold wtq; omega)]; exact hR1.2.1⟩⟩
def lnWs (b : Int → Int) (n s : Int) : Nat → Int → aH → Int × Int × aH
  | 0, P, T => (0, P, T)
  | k + 1, P, T => if kd b n P = 102 then (if (lnW b n s P T).1 ≠ 0 then lnW b n s P T else lnWs b n s k (lnW b n s P T).2.1 (lnW b n s P T).2.2) else (0, P, T)
theorem lnW_k {b : Int → Int} {n s P : Int} {T : aH} {i : Int} : (lnW b n s P T).2.2 0 i = T 0 i := by
  unfold lnW
  repeat' split
  all_goals first
    | rfl
    | (show stv _ 3 _ _ 0 i = _; rw [stv_x (by omega), stv_x (by omega)])
theorem wants_loop {pl : Int} {b : Int → Int} {n s : Int} (s0 : 0 ≤ s) (s1 : s < 5) {P : Int} {T : aH} {σ : aS} (h : RC pl b n P T σ) (hB : BTk T) :
    ∃ τ, c5_readFloat_l139 7 s 0 σ = some (0, [], τ) ∧ Fp (wrd pl) σ τ ∧ OKc pl b n (lnWs b n s 800 P T) τ := by
  have hal := al_I (c := 140) (B := aU3 c5_readFloat_b139) (n := 800) (i := 0) (vs := [7, s, 0]) (σ := σ)
    (fun i vs τ => 0 ≤ i ∧ vs = [7, s, i] ∧ Fp (wrd pl) σ τ ∧ ((∃ P' T', RC pl b n P' T' τ ∧ BTk T' ∧ lnWs b n s (800 - i).toNat P' T' = lnWs b n s 800 P T) ∨ ((lnWs b n s 800 P T).1 ≠ 0 ∧ FTc (lnWs b n s 800 P T).1 (lnWs b n s 800 P T).2.1 τ ∧ aget τ 7 1 = pl)))
    (fun r => ∃ τ, r = (0, [], τ) ∧ Fp (wrd pl) σ τ ∧ OKc pl b n (lnWs b n s 800 P T) τ) (by omega) (by omega) ⟨Int.le_refl _, rfl, Fp.rf _ _, Or.inl ⟨P, T, h, hB, rfl⟩⟩ ?_
  · obtain ⟨r, hr, τ, rfl, h1, h2⟩ := hal
    refine ⟨τ, ?_, h1, h2⟩
    unfold c5_readFloat_l139
    rw [hr]; rfl
  · rintro i vs τ hi ⟨i0, rfl, hF, ⟨P', T', hR, hB', he⟩ | ⟨hne, hX, e71⟩⟩
    · have hL := hR.lr
      by_cases c : i < 800
      · have ef : (800 - i).toNat = (800 - (i + 1)).toNat + 1 := by omega
        rw [ef] at he
        have eu : lnWs b n s ((800 - (i + 1)).toNat + 1) P' T' = if kd b n P' = 102 then (if (lnW b n s P' T').1 ≠ 0 then lnW b n s P' T' else lnWs b n s (800 - (i + 1)).toNat (lnW b n s P' T').2.1 (lnW b n s P' T').2.2) else (0, P', T') := rfl
        rw [eu] at he
        by_cases d : kd b n P' = 102
        · rw [if_pos d] at he
          obtain ⟨υ, h1, hF1, ho⟩ := c5_readWant_ok hR hB' s0 s1
          have st : aU3 c5_readFloat_b139 [7, s, i] τ = some (140, [7, s, i + 1], υ) := by
            show c5_readFloat_b139 7 s i τ = _
            unfold c5_readFloat_b139
            rw [r_7_0 hL, c10_isSound_p hR.1, acall1_some, r_7_0 hL, hR.1.kd.1, h1, acall0_some, wq (by omega) (by omega)]
            exact ite_p c (ite_n (by omega) (ite_n (by omega) (ite_n (by omega) (ite_p d rfl))))
          rcases ho with ⟨z, hR2⟩ | ⟨z, hX2, e71⟩
          · rw [if_neg (fun q => q z)] at he
            exact Or.inl ⟨c, _, υ, st, by omega, rfl, hF.tr hF1, Or.inl ⟨_, _, hR2, ⟨by rw [lnW_k]; exact hB'.1, by rw [lnW_k]; exact hB'.2.1, by rw [lnW_k]; exact hB'.2.2.1, by rw [lnW_k]; exact hB'.2.2.2.1, by rw [lnW_k]; exact hB'.2.2.2.2⟩, he⟩⟩
          · rw [if_pos z] at he
            exact Or.inl ⟨c, _, υ, st, by omega, rfl, hF.tr hF1, Or.inr ⟨by rw [← he]; exact z, by rw [← he]; exact hX2, e71⟩⟩
        · rw [if_neg d] at he
          refine Or.inr ⟨(0, [], τ), ?_, Nat.ne_of_beq_eq_false rfl, τ, rfl, hF, Or.inl ⟨by rw [← he], by rw [← he]; exact hR⟩⟩
          show c5_readFloat_b139 7 s i τ = _
          unfold c5_readFloat_b139
          rw [r_7_0 hL, c10_isSound_p hR.1, acall1_some, r_7_0 hL, hR.1.kd.1]
          exact ite_p c (ite_n (by omega) (ite_n (by omega) (ite_n (by omega) (ite_n d rfl))))
      · have e8 : (800 - i).toNat = 0 := by omega
        rw [e8] at he
        have eu : lnWs b n s 0 P' T' = (0, P', T') := rfl
        rw [eu] at he
        refine Or.inr ⟨(0, [], τ), ?_, Nat.ne_of_beq_eq_false rfl, τ, rfl, hF, Or.inl ⟨by rw [← he], by rw [← he]; exact hR⟩⟩
        show c5_readFloat_b139 7 s i τ = _
        unfold c5_readFloat_b139
        exact ite_n c rfl
    · refine Or.inr ⟨(0, [], τ), ?_, Nat.ne_of_beq_eq_false rfl, τ, rfl, hF, Or.inr ⟨hne, hX, e71⟩⟩
      show c5_readFloat_b139 7 s i τ = _
      unfold c5_readFloat_b139
      by_cases c : i < 800
      · rw [r_7_0 hX.1, c10_isSound_f hX, acall1_some]
        exact ite_p c (ite_n (by omega) (ite_p rfl rfl))
      · exact ite_n c rfl
