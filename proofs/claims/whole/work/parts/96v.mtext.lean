/-! the reference's text -/
def wrx (x j : Int) : Prop := wrr x j ∨ (x = 130 ∧ (j = 1 ∨ j = 2 ∨ j = 6))
theorem wrx_hi {x j : Int} (h : wrx x j) : whi x j := by
  rcases h with u | u
  · unfold wrr at u; unfold whi; omega
  · unfold whi; omega
theorem MSt.rr {T : aH} {S : aH × (Int → aH) × Int × Int × aH} {σ τ : aS} (h : MSt T S σ) (hF : Fp wrx σ τ) : MSt T S τ := by
  obtain ⟨⟨hL, hT, hB⟩, hN, hU, hI⟩ := h
  have n : ∀ x j, wrx x j → (x = 130 ∧ (1 ≤ j ∧ j ≤ 11 ∨ (18 ≤ j ∧ j ≤ 23) ∨ (46 ≤ j ∧ j ≤ 50))) ∨ ((133 ≤ x ∧ x ≤ 135) ∧ 5 ≤ j) ∨ (x = 136 ∧ 20 ≤ j) ∨ ((x = 137 ∨ x = 139) ∧ 25 ≤ j) ∨ x = 138 ∨ x = 140 ∨ ((141 ≤ x ∧ x ≤ 148) ∧ 4 ≤ j) ∨ (x = 149 ∧ 24 ≤ j) ∨ ((150 ≤ x ∧ x ≤ 152) ∧ 64 ≤ j) ∨ x = 153 ∨ x = 154 := fun x j q => by
    rcases q with u | u
    · unfold wrr at u; omega
    · omega
  have g : ∀ x j, ¬ ((x = 130 ∧ (1 ≤ j ∧ j ≤ 11 ∨ (18 ≤ j ∧ j ≤ 23) ∨ (46 ≤ j ∧ j ≤ 50))) ∨ ((133 ≤ x ∧ x ≤ 135) ∧ 5 ≤ j) ∨ (x = 136 ∧ 20 ≤ j) ∨ ((x = 137 ∨ x = 139) ∧ 25 ≤ j) ∨ x = 138 ∨ x = 140 ∨ ((141 ≤ x ∧ x ≤ 148) ∧ 4 ≤ j) ∨ (x = 149 ∧ 24 ≤ j) ∨ ((150 ≤ x ∧ x ≤ 152) ∧ 64 ≤ j) ∨ x = 153 ∨ x = 154) → aget τ x j = aget σ x j := fun x j q => hF.g (fun w => q (n x j w))
  have hB' := hB
  obtain ⟨b0, b1, b2, -, -, -, -, -, -, bt⟩ := hB'
  refine ⟨⟨hL.hi hF (fun x j q => wrx_hi q), ⟨⟨?_, ?_, ?_, ?_, ?_, ?_⟩, ?_, ?_, ?_, ?_, ?_, ?_, ?_, ?_, ?_⟩, hB⟩, ⟨?_, ?_, ?_, ?_, ?_, ?_, ?_⟩, ⟨?_, hU.2.1, ?_⟩, ?_, hI.2.1, ?_⟩
  · rw [g 130 12 (by omega)]; exact hT.1.1
  · rw [g 130 13 (by omega)]; exact hT.1.2.1
  · rw [g 130 14 (by omega)]; exact hT.1.2.2.1
  · rw [g 130 15 (by omega)]; exact hT.1.2.2.2.1
  · rw [g 130 17 (by omega)]; exact hT.1.2.2.2.2.1
  · rw [g 130 16 (by omega)]; exact hT.1.2.2.2.2.2
  · intro k h0 h1; rw [g 134 k (by omega)]; exact hT.2.1 k h0 h1
  · intro k h0 h1; rw [g 136 k (by omega)]; exact hT.2.2.1 k h0 h1
  · intro k h0 h1; rw [g 137 k (by omega)]; exact hT.2.2.2.1 k h0 h1
  · intro k h0 h1; rw [g 139 k (by omega)]; exact hT.2.2.2.2.1 k h0 h1
  · intro k h0 h1; rw [g 142 k (by omega), g 143 k (by omega), g 145 k (by omega), g 146 k (by omega), g 147 k (by omega), g 148 k (by omega)]; exact hT.2.2.2.2.2.1 k h0 h1
  · intro k h0 h1; rw [g 149 k (by omega)]; exact hT.2.2.2.2.2.2.1 k h0 h1
  · intro k h0 h1; rw [g 133 k (by omega), g 135 k (by omega)]; exact hT.2.2.2.2.2.2.2.1 k h0 h1
  · intro k h0 h1; rw [g 141 k (by omega)]; exact hT.2.2.2.2.2.2.2.2.1 k h0 h1
  · intro t t0 t1
    have := bt t t0 t1
    exact rok_t (hT.2.2.2.2.2.2.2.2.2 t t0 t1) rfl rfl (fun k ka kb => ⟨rfl, g 150 k (by omega), g 151 k (by omega), g 152 k (by omega)⟩)
  · intro s p a b c d; rw [g 155 _ (by omega)]; exact hN.1 s p a b c d
  · intro t a b; rw [g 156 _ (by omega)]; exact hN.2.1 t a b
  · intro t a b; rw [g 144 _ (by omega)]; exact hN.2.2.1 t a b
  · rw [g 130 80 (by omega)]; exact hN.2.2.2.1
  · rw [g 130 81 (by omega)]; exact hN.2.2.2.2.1
  · rw [g 130 59 (by omega)]; exact hN.2.2.2.2.2.1
  · rw [g 130 60 (by omega), g 130 61 (by omega)]; exact hN.2.2.2.2.2.2
  · rw [g 130 83 (by omega)]; exact hU.1
  · intro i i0 i1; exact (hU.2.2 i i0 i1).co hB (fun j _ _ => g 165 _ (by omega))
  · rw [g 130 85 (by omega)]; exact hI.1
  · intro q; exact (hI.2.2 q).co hB (fun j _ _ => g 166 _ (by omega))
/-- the reference's words -/
def WDr (σ : aS) : Prop := ∀ j, 0 ≤ j → j < 89 → aget σ 132 j = rtx j
def FCr (f p : Int) (σ : aS) : Prop := aget σ 130 4 = f ∧ aget σ 130 5 = p
theorem plain_ok (σ : aS) : ∃ τ, c12_plain 130 σ = some (0, [], τ) ∧ Fp (fun x j => x = 130 ∧ ((18 ≤ j ∧ j ≤ 23) ∨ j = 49)) σ τ ∧ (∀ j, 18 ≤ j → j ≤ 23 → aget τ 130 j = 0) ∧ aget τ 130 49 = 0 := by
  refine ⟨aput (aput (aput (aput (aput (aput (aput σ 130 18 0) 130 19 0) 130 20 0) 130 21 0) 130 22 0) 130 23 0) 130 49 0, rfl, (((((((Fp.rf _ _).put _ (by omega)).put _ (by omega)).put _ (by omega)).put _ (by omega)).put _ (by omega)).put _ (by omega)).put _ (by omega), fun j j0 j1 => ?_, ag_s _ _ _ _⟩
  rcases (show j = 18 ∨ j = 19 ∨ j = 20 ∨ j = 21 ∨ j = 22 ∨ j = 23 by omega) with q | q | q | q | q | q <;> rw [q]
  · rw [ag_j (by omega), ag_j (by omega), ag_j (by omega), ag_j (by omega), ag_j (by omega), ag_j (by omega), ag_s]
  · rw [ag_j (by omega), ag_j (by omega), ag_j (by omega), ag_j (by omega), ag_j (by omega), ag_s]
  · rw [ag_j (by omega), ag_j (by omega), ag_j (by omega), ag_j (by omega), ag_s]
  · rw [ag_j (by omega), ag_j (by omega), ag_j (by omega), ag_s]
  · rw [ag_j (by omega), ag_j (by omega), ag_s]
  · rw [ag_j (by omega), ag_s]
/-- nothing read so far -/
theorem TZ.qr {T : aH} (h : TZ T) {σ : aS} (hz : ∀ j, 18 ≤ j → j ≤ 23 → aget σ 130 j = 0) (h49 : aget σ 130 49 = 0) (hf : FCr 0 (-1) σ) : QR T σ := by
  obtain ⟨-, z, z24, -⟩ := h
  refine ⟨⟨?_, ?_, ?_, ?_, ?_, ?_, ?_, hf.1, hf.2⟩, fun g g0 g1 => ?_, fun s s0 s1 => ?_, fun t t0 t1 => ?_, fun t t0 t1 => ?_⟩
  · rw [hz 18 (by omega) (by omega), z 0 (by omega) (by omega)]
  · rw [hz 19 (by omega) (by omega), z 1 (by omega) (by omega)]; rfl
  · rw [hz 20 (by omega) (by omega), z 2 (by omega) (by omega)]; rfl
  · rw [hz 21 (by omega) (by omega), z 3 (by omega) (by omega)]; rfl
  · rw [hz 22 (by omega) (by omega), z 5 (by omega) (by omega)]
  · rw [hz 23 (by omega) (by omega), z24]
  · rw [h49, z 4 (by omega) (by omega)]
  · rw [z 0 (by omega) (by omega)] at g1; omega
  · rw [z 1 (by omega) (by omega)] at s1; omega
  · rw [z 2 (by omega) (by omega)] at t1; omega
  · rw [z 2 (by omega) (by omega)] at t1; omega
/-- the text as the reference's kept rows tell it -/
def vkT (X : aH) (τ : aS) : aH := fun a i =>
  if a = 1 then aget τ 134 i else if a = 2 then aget τ 136 i else if a = 3 then aget τ 137 i else if a = 4 then aget τ 139 i else if a = 5 then aget τ 142 i else if a = 6 then aget τ 143 i else if a = 9 then aget τ 145 i else if a = 10 then aget τ 146 i
  else if a = 11 then (if i < 5 then aget τ 133 i else if i < 10 then aget τ 135 (i - 5) else aget τ 141 (i - 10)) else if a = 12 then aget τ 147 i else if a = 13 then (if 0 < aget τ 147 i then aget τ 148 i else 0) else if a = 14 then aget τ 149 i else X a i
/-- a kept text, and the reference that has it -/
theorem keep_V {X : aH} {σ τ : aS} (hI : TI X) (hQ : QR X σ) (hL : LR τ) (hv : aget τ 130 12 = aget σ 130 18 ∧ aget τ 130 13 = X 0 1 ∧ aget τ 130 14 = X 0 2 ∧ aget τ 130 15 = aget σ 130 21 ∧ aget τ 130 16 = aget σ 130 22 ∧ aget τ 130 17 = aget σ 130 23)
    (hh : ∀ x j, 0 ≤ j → j < hlf x → aget τ x j = aget σ x (hlf x + j)) : AG X (vkT X τ) ∧ MI (vkT X τ) τ := by
  obtain ⟨hK, h2, h3, h4, h05, hG, h7, h8⟩ := id hI
  obtain ⟨k0, k1, k2, k3, k4⟩ := hK
  have h824 := h8.2.2
  obtain ⟨⟨x1, x2, x3, x4, x5, x6, x7, -, -⟩, hg, hs, ht, hk⟩ := hQ
  have e133 : ∀ j, 0 ≤ j → j < 5 → aget τ 133 j = aget σ 133 (5 + j) := fun j a b => hh 133 j a b
  have e134 : ∀ j, 0 ≤ j → j < 5 → aget τ 134 j = aget σ 134 (5 + j) := fun j a b => hh 134 j a b
  have e135 : ∀ j, 0 ≤ j → j < 5 → aget τ 135 j = aget σ 135 (5 + j) := fun j a b => hh 135 j a b
  have e136 : ∀ j, 0 ≤ j → j < 20 → aget τ 136 j = aget σ 136 (20 + j) := fun j a b => hh 136 j a b
  have e137 : ∀ j, 0 ≤ j → j < 25 → aget τ 137 j = aget σ 137 (25 + j) := fun j a b => hh 137 j a b
  have e139 : ∀ j, 0 ≤ j → j < 25 → aget τ 139 j = aget σ 139 (25 + j) := fun j a b => hh 139 j a b
  have e141 : ∀ j, 0 ≤ j → j < 4 → aget τ 141 j = aget σ 141 (4 + j) := fun j a b => hh 141 j a b
  have e142 : ∀ j, 0 ≤ j → j < 4 → aget τ 142 j = aget σ 142 (4 + j) := fun j a b => hh 142 j a b
  have e143 : ∀ j, 0 ≤ j → j < 4 → aget τ 143 j = aget σ 143 (4 + j) := fun j a b => hh 143 j a b
  have e145 : ∀ j, 0 ≤ j → j < 4 → aget τ 145 j = aget σ 145 (4 + j) := fun j a b => hh 145 j a b
  have e146 : ∀ j, 0 ≤ j → j < 4 → aget τ 146 j = aget σ 146 (4 + j) := fun j a b => hh 146 j a b
  have e147 : ∀ j, 0 ≤ j → j < 4 → aget τ 147 j = aget σ 147 (4 + j) := fun j a b => hh 147 j a b
  have e148 : ∀ j, 0 ≤ j → j < 4 → aget τ 148 j = aget σ 148 (4 + j) := fun j a b => hh 148 j a b
  have e149 : ∀ j, 0 ≤ j → j < 24 → aget τ 149 j = aget σ 149 (24 + j) := fun j a b => hh 149 j a b
  have e150 : ∀ j, 0 ≤ j → j < 64 → aget τ 150 j = aget σ 150 (64 + j) := fun j a b => hh 150 j a b
  have e151 : ∀ j, 0 ≤ j → j < 64 → aget τ 151 j = aget σ 151 (64 + j) := fun j a b => hh 151 j a b
  have e152 : ∀ j, 0 ≤ j → j < 64 → aget τ 152 j = aget σ 152 (64 + j) := fun j a b => hh 152 j a b
  obtain ⟨V, hV⟩ : ∃ V, V = vkT X τ := ⟨_, rfl⟩
  rw [← hV]
  have v1 : ∀ i, V 1 i = aget τ 134 i := fun i => by rw [hV]; rfl
  have v2 : ∀ i, V 2 i = aget τ 136 i := fun i => by rw [hV]; rfl
  have v3 : ∀ i, V 3 i = aget τ 137 i := fun i => by rw [hV]; rfl
  have v4 : ∀ i, V 4 i = aget τ 139 i := fun i => by rw [hV]; rfl
  have v5 : ∀ i, V 5 i = aget τ 142 i := fun i => by rw [hV]; rfl
  have v6 : ∀ i, V 6 i = aget τ 143 i := fun i => by rw [hV]; rfl
  have v9 : ∀ i, V 9 i = aget τ 145 i := fun i => by rw [hV]; rfl
  have v10 : ∀ i, V 10 i = aget τ 146 i := fun i => by rw [hV]; rfl
  have v11 : ∀ i, V 11 i = if i < 5 then aget τ 133 i else if i < 10 then aget τ 135 (i - 5) else aget τ 141 (i - 10) := fun i => by rw [hV]; rfl
  have v12 : ∀ i, V 12 i = aget τ 147 i := fun i => by rw [hV]; rfl
  have v13 : ∀ i, V 13 i = if 0 < aget τ 147 i then aget τ 148 i else 0 := fun i => by rw [hV]; rfl
  have v14 : ∀ i, V 14 i = aget τ 149 i := fun i => by rw [hV]; rfl
  have v0 : ∀ i, V 0 i = X 0 i := fun i => by rw [hV]; rfl
  have v8 : ∀ i, V 8 i = X 8 i := fun i => by rw [hV]; rfl
  have hAG : AG X V := by
    refine ⟨fun k _ _ => v0 k, fun g g0 g1 => ?_, fun s w s0 s1 w0 w4 => ?_, fun s g s0 s1 g0 g5 => ?_, fun t t0 t1 => ?_, fun k _ _ => v8 k, fun k i kk0 kk3 i0 i1 => ?_, fun t y t0 t1 y0 y1 => ?_⟩
    · rw [v1, e134 g g0 (by omega)]; exact (hg g g0 g1).2
    · rw [v2, e136 _ (by omega) (by omega)]; exact (hs s s0 s1).2.1 w w0 w4
    · rw [v3, v4, e137 _ (by omega) (by omega), e139 _ (by omega) (by omega)]
      have := (hs s s0 s1).2.2.1 g g0 g5
      exact ⟨this.1, this.2.1⟩
    · obtain ⟨a1, a2, a3, a4, a5, a6, a7, a8, a9⟩ := ht t t0 t1
      have h7t := h7.1 t t0 (by omega)
      rw [v5, v6, v9, v10, v12, v13, e142 t t0 (by omega), e143 t t0 (by omega), e145 t t0 (by omega), e146 t t0 (by omega), e147 t t0 (by omega), e148 t t0 (by omega), a2, a3, a5, a6, a7]
      refine ⟨rfl, rfl, rfl, rfl, rfl, ?_⟩
      by_cases c : 0 < X 12 t
      · rw [if_pos c]; exact a8 c
      · rw [if_neg c]; exact (h7t.2.2.2.1 (by omega)).symm
    · rw [v11]
      rcases (show k = 0 ∨ k = 1 ∨ k = 2 by omega) with q | q | q <;> subst q
      · rw [if_pos (by omega), show 5 * 0 + i = i by omega, e133 i i0 (by omega)]; exact (hg i i0 i1).1
      · rw [if_neg (by omega), if_pos (by omega), show 5 * 1 + i - 5 = i by omega, e135 i i0 (by omega), show 5 * 1 + i = 5 + i by omega]; exact (hs i i0 i1).1
      · rw [if_neg (by omega), if_neg (by omega), show 5 * 2 + i - 10 = i by omega, e141 i i0 (by omega), show 5 * 2 + i = 10 + i by omega]; exact (ht i i0 i1).1
    · have h7t := h7.1 t t0 (by omega)
      rw [v14, e149 _ (by omega) (by omega)]; exact (ht t t0 t1).2.2.2.2.2.2.2.2 y y0 y1
  refine ⟨hAG, hL, ⟨⟨?_, ?_, ?_, ?_, ?_, ?_⟩, fun g _ _ => (v1 g).symm, fun j _ _ => (v2 j).symm, fun j _ _ => (v3 j).symm, fun j _ _ => (v4 j).symm, fun t t0 t1 => ⟨(v5 t).symm, (v6 t).symm, (v9 t).symm, (v10 t).symm, (v12 t).symm, fun q => ?_⟩, fun j _ _ => (v14 j).symm, fun k kk0 kk1 => ⟨?_, ?_⟩, fun k kk0 kk1 => ?_, fun t t0 t1 => ?_⟩, hAG.tb hI⟩
  · rw [v0, hv.1]; exact x1
  · rw [v0]; exact hv.2.1
  · rw [v0]; exact hv.2.2.1
  · rw [v0, hv.2.2.2.1, x4]; omega
  · rw [v0, hv.2.2.2.2.2, x6]; exact h824
  · rw [v0, hv.2.2.2.2.1]; exact x5
  · rw [v12] at q
    rw [v13, if_pos q]
  · rw [v11, if_pos (by omega)]
  · rw [v11, if_neg (by omega), if_pos (by omega), show 5 + k - 5 = k by omega]
  · rw [v11, if_neg (by omega), if_neg (by omega), show 10 + k - 10 = k by omega]
  · rw [v0] at t1
    have h8t := h8.1 t t0 t1
    have a := hAG.2.2.2.2.1 t t0 t1
    exact rok_t (hk t t0 t1) a.2.2.1 a.2.2.2.1 (fun k ka kb => ⟨v8 k, e150 k (by omega) (by omega), e151 k (by omega) (by omega), e152 k (by omega) (by omega)⟩)
theorem mtxt_out {σ : aS} {bt : Int → Int} {m L : Int} (hT : TPr bt m σ) (hl : L < 0 ∨ m < L) : c12_text 130 L σ = some (0, [-2], aput σ 130 2 0) := by
  unfold c12_text
  by_cases c : L < 0
  · exact ite_p c rfl
  · refine ite_n c ?_
    rw [ag_j (by omega), hT.1]
    exact ite_p (by omega) rfl
/-- what the reference's text changes -/
def wtR (x j : Int) : Prop := 130 ≤ x ∧ x ≤ 166 ∧ x ≠ 131 ∧ x ≠ 132
theorem c12_text_ok {T : aH} {S : aH × (Int → aH) × Int × Int × aH} {σ : aS} (h : MSt T S σ) (h40 : S.1 4 0 = -1) (hW : WDr σ) {bt : Int → Int} {m L : Int} (hT : TPr bt m σ) (l0 : 0 ≤ L) (l1 : L ≤ m) {U0 : aH} (hZ : TZ U0) :
    ((txX bt L U0).1 ≠ 0 ∧ ∃ τ, c12_text 130 L σ = some (0, [-1], τ) ∧ Fp wtR σ τ ∧ MSt T S τ ∧ TPr bt 0 τ ∧ FCr (txX bt L U0).1 (txX bt L U0).2.1 τ) ∨
    ((txX bt L U0).1 = 0 ∧ ∃ τ V, c12_text 130 L σ = some (0, [(txX bt L U0).2.2 22 0], τ) ∧ Fp wtR σ τ ∧ AG (txX bt L U0).2.2 V ∧ MSt V (nwN V (txX bt L U0).2.2, S.2.1, 0, 0, S.2.2.2.2) τ ∧ TPr bt 0 τ ∧ FCr 0 (-1) τ) := by
  have hL := h.1.1
  have hm := hT.2.1
  obtain ⟨σ1, h1⟩ : ∃ σ1, σ1 = aput (aput (aput (aput (aput (aput σ 130 2 0) 130 6 L) 130 1 0) 130 4 0) 130 5 (-1)) 130 7 0 := ⟨_, rfl⟩
  have f1 : Fp (fun x j => x = 130 ∧ (j = 1 ∨ j = 2 ∨ (4 ≤ j ∧ j ≤ 7))) σ σ1 := by rw [h1]; exact ((((((Fp.rf _ _).put _ (by omega)).put _ (by omega)).put _ (by omega)).put _ (by omega)).put _ (by omega)).put _ (by omega)
  obtain ⟨σ2, p1, p2, p3, p4⟩ := plain_ok σ1
  have fA : Fp (fun x j => x = 130 ∧ (j = 1 ∨ j = 2 ∨ (4 ≤ j ∧ j ≤ 7) ∨ (18 ≤ j ∧ j ≤ 23) ∨ j = 49)) σ σ2 := (f1.mono (fun x j q => by omega)).tr (p2.mono (fun x j q => by omega))
  have L2 : LR σ2 := hL.hi fA (fun x j q => by unfold whi; omega)
  have e6 : aget σ2 130 6 = L := by rw [p2.g (by omega), h1, ag_j (by omega), ag_j (by omega), ag_j (by omega), ag_j (by omega), ag_s]
  have e7 : aget σ2 130 7 = 0 := by rw [p2.g (by omega), h1, ag_s]
  have e4 : FCr 0 (-1) σ2 := ⟨by rw [p2.g (by omega), h1, ag_j (by omega), ag_j (by omega), ag_s], by rw [p2.g (by omega), h1, ag_j (by omega), ag_s]⟩
  have e1 : aget σ2 130 1 = 0 := by rw [p2.g (by omega), h1, ag_j (by omega), ag_j (by omega), ag_j (by omega), ag_s]
  have hS2 : TSr bt L σ2 := ⟨L2, e6, ⟨l0, by omega⟩, fun j j0 j1 => by rw [fA.g (by omega)]; exact hT.2.2 j j0 (by omega), fun j j0 j1 => by rw [fA.g (by omega)]; exact hW j j0 j1⟩
  obtain ⟨σ3, t1, t2, t3⟩ := c12_token_ok hS2 e7 (Int.le_refl 0) l0
  have t2' : Fp wkt σ2 σ3 := wtr2_k t2
  have hQ3 : QR U0 σ3 := hZ.qr (fun j j0 j1 => by rw [t2'.g (by unfold wkt; omega)]; exact p3 j j0 j1) (by rw [t2'.g (by unfold wkt; omega)]; exact p4) ⟨by rw [t2'.g (by unfold wkt; omega)]; exact e4.1, by rw [t2'.g (by unfold wkt; omega)]; exact e4.2⟩
  obtain ⟨r, hr, hX⟩ := txt_loop t3 hQ3 hZ.1 hZ.2.2.2 (by omega)
  have start : ∀ q : aR, abind (some r) c12_text_d55 = q → c12_text 130 L σ = q := by
    intro q hq
    unfold c12_text
    rw [ag_j (show (1 : Int) ≠ 2 by omega), hT.1]
    refine ite_n (by omega) (ite_n (by omega) ?_)
    unfold c12_text_p40
    rw [← h1, p1, acall0_some, t1, acall0_some]
    unfold c12_text_l55
    rw [hr]; exact hq
  have f3 : Fp wrx σ σ3 := (fA.mono (fun x j q => by unfold wrx wrr; omega)).tr (t2'.mono (fun x j q => by unfold wkt at q; unfold wrx wrr; omega))
  have nR : ∀ x j, wrx x j → wtR x j := fun x j q => by
    rcases q with u | u
    · unfold wrr at u; unfold wtR; omega
    · unfold wtR; omega
  have tp : ∀ {τ : aS}, Fp wrr σ3 τ → TPr bt 0 τ := fun hF => ⟨by rw [hF.g (by unfold wrr; omega), t2'.g (by unfold wkt; omega)]; exact e1, ⟨Int.le_refl _, by omega⟩, fun j j0 j1 => by omega⟩
  unfold txX
  generalize txt bt L 800 (skp bt L 0) U0 = X at hX ⊢
  rcases hX with ⟨z, τ, rfl, w2, w3⟩ | ⟨z, τ, rfl, w2, w3, w4, w5⟩
  · left
    have fB : Fp wrx σ τ := f3.tr (w2.mono (fun x j q => Or.inl q))
    exact ⟨z, τ, start _ rfl, fB.mono nR, h.rr fB, tp w2, w3.2.1, w3.2.2⟩
  · right
    have fB : Fp wrx σ τ := f3.tr (w2.mono (fun x j q => Or.inl q))
    have hM := h.rr fB
    have hB := w5.bq
    have c1 := w5.1.2.1
    have c2 := w5.1.2.2.1
    have q19 : aget τ 130 19 = X.2.2 0 1 := by rw [w4.1.2.1]; omega
    have q20 : aget τ 130 20 = X.2.2 0 2 := by rw [w4.1.2.2.1]; omega
    obtain ⟨υ, k1, k2, k3, k4, k5, k6, k7, k80, k81, k83, k85⟩ := c12_keepText_ok w3.mr q19 q20 c1.1 c1.2 c2.1 c2.2
    have k2' : LR υ := ⟨by rw [k3.1]; exact w3.1, k2.2⟩
    obtain ⟨hAG, hMI⟩ := keep_V w5 w4 k2' k4 k5
    have z130 : hlf 130 = 0 := rfl
    have hl : ∀ y, (y ≤ 132 ∨ 153 ≤ y) → hlf y = 0 := fun y hy => by
      unfold hlf hup
      simp only [if_neg (show ¬ y = 133 by omega), if_neg (show ¬ y = 134 by omega), if_neg (show ¬ y = 135 by omega), if_neg (show ¬ y = 136 by omega), if_neg (show ¬ y = 137 by omega), if_neg (show ¬ y = 139 by omega), if_neg (show ¬ y = 141 by omega), if_neg (show ¬ y = 142 by omega), if_neg (show ¬ y = 143 by omega), if_neg (show ¬ y = 144 by omega), if_neg (show ¬ y = 145 by omega), if_neg (show ¬ y = 146 by omega), if_neg (show ¬ y = 147 by omega), if_neg (show ¬ y = 148 by omega), if_neg (show ¬ y = 149 by omega), if_neg (show ¬ y = 150 by omega), if_neg (show ¬ y = 151 by omega), if_neg (show ¬ y = 152 by omega)]
    have fC : Fp wtR τ υ := k3.mono (fun x j q => by
      unfold wtR
      rcases q with u | u | u | u | u
      · by_cases c : x ≤ 132 ∨ 153 ≤ x
        · rw [hl x c] at u; omega
        · omega
      · omega
      · omega
      · omega
      · omega)
    have g130 : ∀ j, ¬ (12 ≤ j ∧ j ≤ 17) → ¬ (j = 80 ∨ j = 81 ∨ j = 83 ∨ j = 85) → aget υ 130 j = aget τ 130 j := fun j q1 q2 => k3.g (by rw [z130]; omega)
    refine ⟨z, υ, vkT X.2.2 υ, start _ ?_, (fB.mono nR).tr fC, hAG, ⟨hMI, ⟨?_, ?_, ?_, ?_, ?_, ?_, ?_⟩, ⟨k83, ⟨Int.le_refl _, by show (0 : Int) ≤ 30; omega⟩, fun i i0 i1 => absurd (show i < 0 from i1) (by omega)⟩, k85, Or.inl rfl, fun q => absurd (show (0 : Int) = 1 from q) (by omega)⟩, ?_, ?_⟩
    · show c12_text_p77 130 (X.2.2 22 0) τ = _
      unfold c12_text_p77
      rw [k1, acall0_some]
    · intro s p s0 s1 q0 q1
      have v01 : vkT X.2.2 υ 0 1 = X.2.2 0 1 := rfl
      have v02 : vkT X.2.2 υ 0 2 = X.2.2 0 2 := rfl
      rw [v01] at s1
      rw [v02] at q1
      rw [k6 s p s0 s1 q0 q1]
      show _ = nwN (vkT X.2.2 υ) X.2.2 0 (5 * s + p)
      unfold nwN
      rw [PN0_0 _ _ q0 (by omega)]
      unfold alv
      rw [v02]
      by_cases c : p = X.2.2 0 2
      · rw [if_pos c, if_pos c]
        have := k5 136 (4 * s) (by omega) (by show 4 * s < 20; omega)
        rw [show hlf 136 = 20 from rfl] at this
        rw [← this]; rfl
      · rw [if_neg c, if_neg c]
    · intro t t0 t1
      rw [k7 t t0 t1]
      exact (by rw [nwN_x (by omega), if_neg (by omega), if_neg (by omega)] : nwN (vkT X.2.2 υ) X.2.2 1 t = 0).symm
    · intro t t0 t1
      rw [show vkT X.2.2 υ 0 2 = X.2.2 0 2 from rfl] at t1
      have e := (w4.2.2.2.1 t t0 t1).2.2.2.1
      have := k5 144 t t0 (by show t < 4; omega)
      rw [this, show hlf 144 = 4 from rfl, e]
      exact (by rw [nwN_x (by omega), if_pos rfl] : nwN (vkT X.2.2 υ) X.2.2 2 t = X.2.2 23 t).symm
    · rw [k80]
      exact (by rw [nwN_x (by omega), if_neg (by omega), if_neg (by omega)] : nwN (vkT X.2.2 υ) X.2.2 3 0 = 0).symm
    · rw [k81]
      exact (by rw [nwN_x (by omega), if_neg (by omega), if_neg (by omega)] : nwN (vkT X.2.2 υ) X.2.2 3 1 = 0).symm
    · rw [g130 59 (by omega) (by omega), hM.2.1.2.2.2.2.2.1, h40]
      exact (by rw [nwN_x (by omega), if_neg (by omega), if_pos rfl, if_pos rfl] : nwN (vkT X.2.2 υ) X.2.2 4 0 = -1).symm
    · intro q
      exfalso
      refine q ?_
      show nwN (vkT X.2.2 υ) X.2.2 4 0 = -1
      rw [nwN_x (by omega), if_neg (by omega), if_pos rfl, if_pos rfl]
    · exact ⟨by rw [g130 1 (by omega) (by omega)]; exact (tp w2).1, ⟨Int.le_refl _, by omega⟩, fun j j0 j1 => by omega⟩
    · exact ⟨by rw [g130 4 (by omega) (by omega)]; exact w4.1.2.2.2.2.2.2.2.1, by rw [g130 5 (by omega) (by omega)]; exact w4.1.2.2.2.2.2.2.2.2⟩
