/-! the class's half of whole's part of this name -/
def ln (b : Int → Int) (n P : Int) (T : aH) : Int × Int × aH :=
  if kd b n P = 100 then lnG b n P T else if kd b n P = 101 then lnF b n P T else if kd b n P = 103 then lnL b n P T else if kd b n P = 104 then lnT b n P T else if kd b n P = 109 then lnD b n P T else if kd b n P = 110 then lnS b n P T else (1, P, T)
def lnZ (b : Int → Int) (n P : Int) (T : aH) : Int × Int × aH :=
  if (ln b n P T).1 ≠ 0 then ln b n P T else if kd b n (ln b n P T).2.1 = 59 then (0, nxp b n (ln b n P T).2.1, stv (ln b n P T).2.2 22 0 ((ln b n P T).2.2 22 0 + 1)) else (1, (ln b n P T).2.1, (ln b n P T).2.2)
def txt (b : Int → Int) (n : Int) : Nat → Int → aH → Int × Int × aH
  | 0, P, T => (0, P, T)
  | k + 1, P, T => if kd b n P = 0 then (0, P, T) else if (lnZ b n P T).1 ≠ 0 then lnZ b n P T else txt b n k (lnZ b n P T).2.1 (lnZ b n P T).2.2
/-- what reading needs of the text so far -/
def IVc (T : aH) : Prop := BTk T ∧ BFk T ∧ BGk T ∧ (0 ≤ T 24 0 ∧ T 24 0 ≤ 64) ∧ (0 ≤ T 22 0 ∧ T 22 0 ≤ 800)
theorem c5_line_ok {pl : Int} {b : Int → Int} {n P i : Int} {T : aH} {σ : aS} (h : RC pl b n P T σ) (hI : IVc T) (hi : i < 800) (h0 : kd b n P ≠ 0) :
    ∃ τ, aU2 c5_reads_b22 [7, i] σ = c5_reads_p166 7 i τ ∧ Fp (wrd pl) σ τ ∧ OKc pl b n (ln b n P T) τ := by
  obtain ⟨hB, hF, hG, h24, -⟩ := hI
  have hL := h.lr
  have hk := h.1.kd.1
  have pre : ∀ τ : aS, (if kd b n P = 100 then (acall0 (c5_readGood 7 σ) fun σ7 => c5_reads_p166 7 i σ7) else (if kd b n P = 101 then (acall0 (c5_readFloat 7 σ) fun σ6 => c5_reads_p166 7 i σ6) else (if kd b n P = 102 then c5_reads_p158 7 i σ else (if kd b n P = 103 then (acall0 (c5_readLiking 7 σ) fun σ5 => c5_reads_p166 7 i σ5) else (if kd b n P = 104 then (acall0 (c5_readTown 7 σ) fun σ4 => c5_reads_p166 7 i σ4) else (if kd b n P = 105 then c5_reads_p158 7 i σ else (if kd b n P = 106 then c5_reads_p158 7 i σ else (if kd b n P = 107 then c5_reads_p158 7 i σ else (if kd b n P = 108 then c5_reads_p158 7 i σ else (if kd b n P = 109 then (acall0 (c5_readGround 7 σ) fun σ3 => c5_reads_p166 7 i σ3) else (if kd b n P = 110 then (acall0 (c5_readStorm 7 σ) fun σ2 => c5_reads_p166 7 i σ2) else c5_reads_p158 7 i σ))))))))))) = c5_reads_p166 7 i τ → aU2 c5_reads_b22 [7, i] σ = c5_reads_p166 7 i τ := by
    intro τ hr
    show c5_reads_b22 7 i σ = _
    unfold c5_reads_b22
    rw [r_7_0 hL, c10_isSound_p h.1, acall1_some, r_7_0 hL, hk]
    exact ite_p hi (ite_n (by omega) (ite_n (by omega) (ite_n (by omega) (ite_n h0 (ite_n (by omega) hr)))))
  unfold ln
  by_cases c0 : kd b n P = 100
  · obtain ⟨τ, e1, e2, e3⟩ := c5_readGood_ok h hB
    rw [if_pos c0]
    exact ⟨τ, pre τ (by rw [if_pos c0, e1, acall0_some]), e2, e3⟩
  · rw [if_neg c0] at pre ⊢
    by_cases c1 : kd b n P = 101
    · obtain ⟨τ, e1, e2, e3⟩ := c5_readFloat_ok h hB hF
      rw [if_pos c1]
      exact ⟨τ, pre τ (by rw [if_pos c1, e1, acall0_some]), e2, e3⟩
    · rw [if_neg c1] at pre ⊢
      by_cases c3 : kd b n P = 103
      · obtain ⟨τ, e1, e2, e3⟩ := c5_readLiking_ok h hB
        rw [if_pos c3]
        exact ⟨τ, pre τ (by rw [if_neg (by omega), if_pos c3, e1, acall0_some]), e2, e3⟩
      · rw [if_neg c3]
        by_cases c4 : kd b n P = 104
        · obtain ⟨τ, e1, e2, e3⟩ := c5_readTown_ok h hB hG h24
          rw [if_pos c4]
          exact ⟨τ, pre τ (by rw [if_neg (by omega), if_neg c3, if_pos c4, e1, acall0_some]), e2, e3⟩
        · rw [if_neg c4]
          by_cases c9 : kd b n P = 109
          · obtain ⟨τ, e1, e2, e3⟩ := c5_readGround_ok h hB
            rw [if_pos c9]
            exact ⟨τ, pre τ (by rw [if_neg (by omega), if_neg c3, if_neg c4, if_neg (by omega), if_neg (by omega), if_neg (by omega), if_neg (by omega), if_pos c9, e1, acall0_some]), e2, e3⟩
          · rw [if_neg c9]
            by_cases ca : kd b n P = 110
            · obtain ⟨τ, e1, e2, e3⟩ := c5_readStorm_ok h
              rw [if_pos ca]
              exact ⟨τ, pre τ (by rw [if_neg (by omega), if_neg c3, if_neg c4, if_neg (by omega), if_neg (by omega), if_neg (by omega), if_neg (by omega), if_neg c9, if_pos ca, e1, acall0_some]), e2, e3⟩
            · rw [if_neg ca]
              obtain ⟨τ, e1, e2, e3⟩ := c10_refuse_p h.1 (f := 1) (by omega)
              have p158 : c5_reads_p158 7 i σ = c5_reads_p166 7 i τ := by
                unfold c5_reads_p158
                rw [r_7_0 hL, if_neg (show ¬ (2 : Int) = 0 by omega), e1, acall0_some]
              refine ⟨τ, pre τ ?_, wtq_d e2, Or.inr ⟨by show (1 : Int) ≠ 0; omega, e3, by rw [e2.g (by unfold wtq; omega)]; exact h.2.1⟩⟩
              rw [p158, if_neg c3, if_neg c4, if_neg c9, if_neg ca, ite_self, ite_self, ite_self, ite_self, ite_self]
theorem c5_lineZ_ok {pl : Int} {b : Int → Int} {n P i : Int} {T : aH} {σ : aS} (h : RC pl b n P T σ) (hI : IVc T) (hi0 : 0 ≤ i) (hi : i < 800) (h0 : kd b n P ≠ 0) (h22 : (ln b n P T).1 = 0 → 0 ≤ (ln b n P T).2.2 22 0 ∧ (ln b n P T).2.2 22 0 ≤ 800) :
    ∃ τ, aU2 c5_reads_b22 [7, i] σ = some (23, [7, i + 1], τ) ∧ Fp (wrd pl) σ τ ∧ OKc pl b n (lnZ b n P T) τ := by
  have hp := h.2.2.1
  obtain ⟨σ1, e1, e2, e3⟩ := c5_line_ok h hI hi h0
  have hi32 : w32 (i + 1) = i + 1 := wq (by omega) (by omega)
  rw [e1]
  unfold c5_reads_p166 lnZ
  generalize ln b n P T = X at e3 h22
  rcases e3 with ⟨z, hR⟩ | ⟨z, hX, e71⟩
  · rw [if_neg (show ¬ X.1 ≠ 0 from fun q => q z), r_7_0 hR.lr, if_neg (show ¬ (2 : Int) = 0 by omega)]
    have h2 := h22 z
    rcases c10_take_p hR.1 59 with ⟨c, σ2, f1, f2, f3⟩ | ⟨c, σ2, f1, f2, f3⟩
    · have hR2 := hR.tq f2 f3
      have e13 : aget σ2 pl 13 = X.2.2 22 0 := by have := hR2.2.2.2.1 0 13 22 0 rfl; rw [Int.add_zero] at this; exact this
      obtain ⟨hR3, hF3⟩ := hR2.put (x := 0) (j := 13) rfl (X.2.2 22 0 + 1) (by rw [hsf_ne (by omega) (by omega)])
      rw [Int.add_zero] at hR3 hF3
      rw [if_pos c, f1, acall1_some, hR2.2.1, e13, wq (x := X.2.2 22 0 + 1) (by omega) (by omega), hi32]
      exact ⟨_, ite_n (by omega) rfl, e2.tr ((wtq_d f2).tr hF3), Or.inl ⟨rfl, hR3⟩⟩
    · have e71 : aget σ2 7 1 = pl := by rw [f2.g (by unfold wtq; omega)]; exact hR.2.1
      obtain ⟨hX3, hF3, e73⟩ := f3.put hp (x := pl) (j := 13) (by unfold wrp; omega) (w32 (aget σ2 pl 13 + 1))
      rw [if_neg c, f1, acall1_some, e71, hi32]
      exact ⟨_, ite_n (by omega) rfl, e2.tr ((wtq_d f2).tr hF3), Or.inr ⟨by show (1 : Int) ≠ 0; omega, hX3, by rw [e73]; exact e71⟩⟩
  · rw [if_pos z, r_7_0 hX.1, if_neg (show ¬ (2 : Int) = 0 by omega), c10_take_f hX, acall1_some, e71, hi32]
    obtain ⟨hX3, hF3, e73⟩ := hX.put hp (x := pl) (j := 13) (by unfold wrp; omega) (w32 (aget σ1 pl 13 + 1))
    exact ⟨_, ite_n (by omega) rfl, e2.tr hF3, Or.inr ⟨z, hX3, by rw [e73]; exact e71⟩⟩
