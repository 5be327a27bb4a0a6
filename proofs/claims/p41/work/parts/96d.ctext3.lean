/-! the class's half of whole's part of this name -/
def wlo (x _j : Int) : Prop := x < 130
theorem txt_out {T : aH} {S : aH × (Int → aH) × Int × Int × aH} {σ : aS} (h : CSt T S σ) {bt : Int → Int} {m : Int} (hT : TPc bt m σ) {L : Int} (hl : L < 0 ∨ m < L) : c11_text 1 L σ = some (0, [-2], σ) := by
  have hL : LR σ := by obtain ⟨pl, a, -⟩ := h; exact a.1
  unfold c11_text
  by_cases c : L < 0
  · exact ite_p c rfl
  · refine ite_n c ?_
    rw [r_1_0 hL, if_neg (show ¬ (2 : Int) = 0 by omega)]
    unfold c10_tapeLength
    rw [acall1_some, hT.1]
    exact ite_p (by omega) rfl
theorem c11_text_ok {T : aH} {S : aH × (Int → aH) × Int × Int × aH} {σ : aS} (h : CSt T S σ) {bt : Int → Int} {m : Int} (hT : TPc bt m σ) {L : Int} (l0 : 0 ≤ L) (l1 : L ≤ m) :
    ∃ U0, TZ U0 ∧
      (((txX bt L U0).1 ≠ 0 ∧ ∃ τ, c11_text 1 L σ = some (0, [-1], τ) ∧ Fp wlo σ τ ∧ CSt T S τ ∧ TPc bt 0 τ ∧ FCc (txX bt L U0).1 (txX bt L U0).2.1 τ) ∨
       ((txX bt L U0).1 = 0 ∧ TI (txX bt L U0).2.2 ∧ ∃ τ, c11_text 1 L σ = some (0, [(txX bt L U0).2.2 22 0], τ) ∧ Fp wlo σ τ ∧ (∀ V, AG (txX bt L U0).2.2 V → CSt V (nwN V (txX bt L U0).2.2, S.2.1, 0, 0, S.2.2.2.2) τ) ∧ TPc bt 0 τ ∧ FCc 0 (-1) τ)) := by
  obtain ⟨pl, hC, h18, hSC, h89, hHC, hIC, hSV⟩ := h
  have hp := hC.2.1
  have h17 : aget σ 1 7 = pl := hC.2.2.1.2.2
  have hL := hC.1
  have hp2 : 200 - pl = 90 ∨ 200 - pl = 110 := by omega
  obtain ⟨U0, τ0, hI0, e0, f0, L0, hO, hI, t24⟩ := c5_reads_ok hp2 hL hT l0 l1
  refine ⟨U0, hI0, ?_⟩
  generalize hX : txX bt L U0 = X at e0 hO hI
  -- up to the fault's cells
  obtain ⟨σ4, h4⟩ : ∃ σ4, σ4 = aput (aput τ0 1 9 (aget τ0 2 9)) 1 10 (aget τ0 2 10) := ⟨_, rfl⟩
  have f4 : Fp (fun x j => x = 1 ∧ (j = 9 ∨ j = 10)) τ0 σ4 := by rw [h4]; exact ((Fp.rf _ _).put _ (by omega)).put _ (by omega)
  have L4 : LR σ4 := L0.nw f4 (fun x j q => by unfold wnw; omega)
  have e19 : aget σ4 1 9 = aget τ0 2 9 := by rw [h4, ag_j (by omega), ag_s]
  have e1a : aget σ4 1 10 = aget τ0 2 10 := by rw [h4, ag_s]
  have start : ∀ r : aR, (if (if X.1 = 0 then (1 : Int) else 0) = 0 then some (0, [(-1)], σ4) else (if aget σ4 1 7 = 0 then none else (if aget σ4 1 8 = 0 then none else (if aget (aput (aput σ4 1 7 (aget σ4 1 8)) 1 8 (aget σ4 1 7)) 1 2 = 0 then none else (if aget (aput (aput σ4 1 7 (aget σ4 1 8)) 1 8 (aget σ4 1 7)) 1 7 = 0 then none else (acall0 (c7_board (aget (aput (aput σ4 1 7 (aget σ4 1 8)) 1 8 (aget σ4 1 7)) 1 2) (aget (aput (aput σ4 1 7 (aget σ4 1 8)) 1 8 (aget σ4 1 7)) 1 7) (aput (aput σ4 1 7 (aget σ4 1 8)) 1 8 (aget σ4 1 7))) fun σ5 => (if aget σ5 1 4 = 0 then none else (acall0 (c9_forget (aget σ5 1 4) σ5) fun σ6 => c11_text_p95 1 σ6)))))))) = r → c11_text 1 L σ = r := by
    intro r hr
    unfold c11_text c10_tapeLength c10_faultFound c10_placeOfFault
    rw [r_1_0 hL, acall1_some, hT.1, r_1_1 hL, h18, e0, acall1_some, r_1_0 L0, acall1_some]
    have e10 : aget (aput τ0 1 9 (aget τ0 2 9)) 1 0 = 2 := by rw [ag_j (by omega)]; exact r_1_0 L0
    rw [e10, acall1_some, ag_x (show (2 : Int) ≠ 1 by omega), ← h4]
    exact ite_n (by omega) (ite_n (by omega) (ite_n (by omega) (ite_n (by omega) (ite_n (by omega) (ite_n (by omega) (ite_n (by omega) hr))))))
  have w0 : Fp wlo σ τ0 := f0.mono (fun x j q => by
    unfold wlo
    rcases q with u | u
    · unfold wtt at u; omega
    · unfold wrp at u; omega)
  have w4 : Fp wlo σ σ4 := w0.tr (f4.mono (fun x j q => by unfold wlo; omega))
  have tp4 : TPc bt 0 σ4 := ⟨by rw [f4.g (by omega)]; exact t24, ⟨Int.le_refl _, by omega⟩, fun j j0 j1 => by omega⟩
  rcases hO with ⟨z, hR⟩ | ⟨z, hF, -⟩
  · right
    obtain ⟨hI1, h22⟩ := hI z
    refine ⟨z, hI1, ?_⟩
    have e29 : aget τ0 2 9 = 0 := hR.1.2.1
    have e2a : aget τ0 2 10 = -1 := hR.1.2.2
    have n0 : ∀ x j, wtx (200 - pl) x j → (2 ≤ x ∧ x ≤ 7) ∨ (200 - pl ≤ x ∧ x ≤ 200 - pl + 19) := fun x j q => by
      rcases q with u | u
      · unfold wtt at u; omega
      · unfold wrp at u; omega
    have e47 : aget σ4 1 7 = pl := by rw [f4.g (by omega), f0.g (fun q => by have := n0 _ _ q; omega)]; exact h17
    have e48 : aget σ4 1 8 = 200 - pl := by rw [f4.g (by omega), f0.g (fun q => by have := n0 _ _ q; omega)]; exact h18
    obtain ⟨σ5, h5⟩ : ∃ σ5, σ5 = aput (aput σ4 1 7 (200 - pl)) 1 8 pl := ⟨_, rfl⟩
    have f5 : Fp (fun x j => x = 1 ∧ (j = 7 ∨ j = 8)) σ4 σ5 := by rw [h5]; exact ((Fp.rf _ _).put _ (by omega)).put _ (by omega)
    have L5 : LR σ5 := L4.nw f5 (fun x j q => by unfold wnw; omega)
    obtain ⟨σ6, h6⟩ : ∃ σ6, σ6 = aput σ5 8 0 (200 - pl) := ⟨_, rfl⟩
    have f6 : Fp (fun x j => x = 8 ∧ j = 0) σ5 σ6 := by rw [h6]; exact (Fp.rf _ _).put _ ⟨rfl, rfl⟩
    have L6 : LR σ6 := L5.nw f6 (fun x j q => by unfold wnw; omega)
    have hPL6 : PLc (200 - pl) X.2.2 σ6 := ((hR.2.2.fp f4 (fun x j q => by omega)).fp f5 (fun x j q => by omega)).fp f6 (fun x j q => by omega)
    have hCQ : ∀ V, AG X.2.2 V → CQ (200 - pl) V σ6 := fun V hV => ⟨L6, hp2, hV.ct hI1 hPL6, hV.tb hI1⟩
    have rf : AG X.2.2 X.2.2 := ⟨fun _ _ _ => rfl, fun _ _ _ => rfl, fun _ _ _ _ _ _ => rfl, fun _ _ _ _ _ _ => ⟨rfl, rfl⟩, fun _ _ _ => ⟨rfl, rfl, rfl, rfl, rfl, rfl⟩, fun _ _ _ => rfl, fun _ _ _ _ _ _ => rfl, fun _ _ _ _ _ _ => rfl⟩
    obtain ⟨σ7, e7, f7, e95, -⟩ := c3_workOut_ok (hCQ _ rf)
    have hLG : ∀ V, AG X.2.2 V → LG V σ7 := fun V hV => by
      obtain ⟨τ', e', -, -, hg⟩ := c3_workOut_ok (hCQ V hV)
      rw [e7] at e'
      injection e' with e'
      injection e' with _ e'
      injection e' with _ e'
      rw [e']; exact hg
    have n7 : ∀ x j, fwo (200 - pl) x j → (9 ≤ x ∧ x ≤ 13) ∨ x = 200 - pl + 8 ∨ x = 200 - pl + 12 := fun x j q => by unfold fwo at q; omega
    have hCQ7 : ∀ V, AG X.2.2 V → CQ (200 - pl) V σ7 := fun V hV => (hCQ V hV).fl f7 (fwo_w hp2)
    have L7 : LR σ7 := (hCQ7 _ rf).1
    obtain ⟨σ8, h8⟩ : ∃ σ8, σ8 = aput (aput (aput σ7 20 9 0) 24 2 0) 24 3 0 := ⟨_, rfl⟩
    have f8 : Fp (fun x j => (x = 20 ∧ j = 9) ∨ (x = 24 ∧ (j = 2 ∨ j = 3))) σ7 σ8 := by rw [h8]; exact (((Fp.rf _ _).put _ (by omega)).put _ (by omega)).put _ (by omega)
    have L8 : LR σ8 := L7.nw f8 (fun x j q => by unfold wnw; omega)
    obtain ⟨σ9, e9, f9, z9⟩ := jf0 (ns_1 L8 (sc := 88) (Or.inl rfl)) (by omega) (by omega)
    have L9 : LR σ9 := L8.nw f9 (fun x j q => by unfold wnw; omega)
    have ebw : aget σ8 (200 - pl) 11 = aget σ6 (200 - pl) 11 := by
      rw [f8.g (by omega), f7.g (fun q => by have := n7 _ _ q; omega)]
    obtain ⟨σa, ha⟩ : ∃ σa, σa = aput (aput (aput (aput σ9 88 1 0) 88 2 (aget σ8 (200 - pl) 11)) 88 3 0) 88 4 0 := ⟨_, rfl⟩
    have fa : Fp (fun x j => x = 88 ∧ 1 ≤ j) σ9 σa := by rw [ha]; exact ((((Fp.rf _ _).put _ (by omega)).put _ (by omega)).put _ (by omega)).put _ (by omega)
    have La : LR σa := L9.nw fa (fun x j q => by unfold wnw; omega)
    -- from where the plan is set: what isn't changed any more
    have g68 : ∀ x j, ¬ ((9 ≤ x ∧ x ≤ 13) ∨ x = 200 - pl + 8 ∨ x = 200 - pl + 12 ∨ x = 20 ∨ x = 24 ∨ x = 88 ∨ x = 89) → aget σa x j = aget σ6 x j := fun x j hx => by
      rw [fa.g (by omega), f9.g (by omega), f8.g (by omega), f7.g (fun q => by have := n7 _ _ q; omega)]
    have g46 : ∀ x j, ¬ (x = 1 ∧ (j = 7 ∨ j = 8)) → ¬ (x = 8 ∧ j = 0) → aget σ6 x j = aget σ4 x j := fun x j q1 q2 => by rw [f6.g q2, f5.g q1]
    have w5 : Fp wlo σ4 σa := by
      have b1 : Fp wlo σ4 σ5 := f5.mono (fun x j q => by unfold wlo; omega)
      have b2 : Fp wlo σ5 σ6 := f6.mono (fun x j q => by unfold wlo; omega)
      have b3 : Fp wlo σ6 σ7 := f7.mono (fun x j q => by have := n7 _ _ q; unfold wlo; omega)
      have b4 : Fp wlo σ7 σ8 := f8.mono (fun x j q => by unfold wlo; omega)
      have b5 : Fp wlo σ8 σ9 := f9.mono (fun x j q => by unfold wlo; omega)
      have b6 : Fp wlo σ9 σa := fa.mono (fun x j q => by unfold wlo; omega)
      exact b1.tr (b2.tr (b3.tr (b4.tr (b5.tr b6))))
    refine ⟨σa, start _ ?_, w4.tr w5, fun V hV => ?_, ?_, ?_⟩
    · rw [if_pos z, e47, e48, ← h5]
      have e57 : aget σ5 1 7 = 200 - pl := by rw [h5, ag_j (by omega), ag_s]
      have e67 : aget σ8 1 7 = 200 - pl := by rw [f8.g (by omega), f7.g (fun q => by have := n7 _ _ q; omega), f6.g (by omega)]; exact e57
      rw [r_1_2 L5, e57]
      have hb : c7_board 8 (200 - pl) σ5 = some (0, [], σ7) := by
        unfold c7_board
        rw [← h6, r_8_8 L6, e7, acall0_some]
        exact ite_n (by omega) rfl
      rw [hb, acall0_some, r_1_4 L7]
      unfold c9_forget
      rw [if_pos (Or.inl rfl), acall0_some]
      unfold c11_text_p95 c2_forget
      have La1 : LR (aput σ7 20 9 0) := L7.nw (P := fun x j => x = 20 ∧ j = 9) ((Fp.rf _ _).put _ ⟨rfl, rfl⟩) (fun x j q => by unfold wnw; omega)
      rw [r_1_5 La1, if_pos (Or.inl rfl), acall0_some, ← h8, r_1_6 L8, e67]
      have hbg : c8_begin 88 (aget σ8 (200 - pl) 11) σ8 = some (0, [], σa) := by
        unfold c8_begin
        rw [rs_0 L8 (sc := 88) (Or.inl rfl), e9, acall0_some, ← ha]
        exact ite_n (by omega) rfl
      rw [hbg, acall0_some]
      have ea7 : aget σa 1 7 = 200 - pl := by rw [g68 _ _ (by omega), f6.g (by omega)]; exact e57
      have ea13 : aget σa (200 - pl) 13 = X.2.2 22 0 := by
        rw [g68 _ _ (by omega)]
        have := hPL6.2.1 0 13 22 0 rfl
        rw [Int.add_zero] at this; exact this
      rw [ea7, ea13]
      exact ite_n (by omega) (ite_n (by omega) (ite_n (by omega) (ite_n (by omega) (ite_n (by omega) (ite_n (by omega) (ite_n (by omega) (ite_n (by omega) (ite_n (by omega) (ite_n (by omega) rfl)))))))))
    · have hq7 := hCQ7 V hV
      have hTB := hq7.2.2.2
      have v02 : V 0 2 = X.2.2 0 2 := hV.1 2 (by omega) (by omega)
      have h4v := hTB.2.2.1
      have hw11 := hPL6.2.2.2.2.2.1
      refine ⟨200 - pl, ⟨La, hp2, ⟨?_, ?_, ?_⟩, ?_, ?_, hTB⟩, ?_, ⟨?_, ?_, ?_, ?_, ?_⟩, ?_, ⟨?_, ⟨Int.le_refl _, by show (0 : Int) ≤ 30; omega⟩, ?_, fun i i0 i1 => absurd (show i < 0 from i1) (by omega)⟩, ⟨?_, Or.inl rfl, fun q => absurd (show (0 : Int) = 1 from q) (by omega)⟩, fun q => absurd ?_ q⟩
      · rw [g68 _ _ (by omega), h6, ag_s]
      · rw [fa.g (by omega), f9.g (by omega), f8.g (by omega)]; exact e95
      · rw [g68 _ _ (by omega), f6.g (by omega), h5, ag_j (by omega), ag_s]
      · exact hq7.2.2.1.cp hp2 (fun x j hx => by rw [fa.g (by omega), f9.g (by omega), f8.g (by omega)])
      · exact (hLG V hV).co (fun x j hx => by rw [fa.g (by omega), f9.g (by omega), f8.g (by omega)])
      · rw [g68 _ _ (by omega), f6.g (by omega), h5, ag_s]; omega
      · rw [ha, ag_j (by omega), ag_j (by omega), ag_j (by omega), ag_s]
        exact (PN0_pk V _).symm
      · intro t t0 t1
        rw [fa.g (by omega), show (88 : Int) + 1 = 89 from rfl]
        rw [show aget σ9 89 t = 0 from z9 t t0 t1]
        exact (by rw [nwN_x (by omega), if_neg (by omega), if_neg (by omega)] : nwN V X.2.2 1 t = 0).symm
      · rw [ha, ag_j (by omega), ag_j (by omega), ag_s, ebw]
        have hz : ∀ j, V 0 2 ≤ j → j < 4 → X.2.2 23 j = 0 := fun j j0 j1 => (hI1.2.2.2.2.2.2.1.2 j (by omega) j1).2.2.2
        have hb16 : aget σ6 (200 - pl) 11 < 16 := hw11.1.2
        have := bw_sum (f := fun j => X.2.2 23 j) hw11.1.1 hb16 h4v.1 h4v.2 hw11.2 hz
        rw [← this]
        unfold bnI
        exact sI_congr (fun k k0 k1 => by show X.2.2 23 k * p2 k = nwN V X.2.2 2 k * p2 k; rw [nwN_x (by omega), if_pos rfl])
      · rw [ha, ag_j (by omega), ag_s]
        exact (by rw [nwN_x (by omega), if_neg (by omega), if_neg (by omega)] : nwN V X.2.2 3 0 = 0).symm
      · rw [ha, ag_s]
        exact (by rw [nwN_x (by omega), if_neg (by omega), if_neg (by omega)] : nwN V X.2.2 3 1 = 0).symm
      · rw [g68 _ _ (by omega), g46 _ _ (by omega) (by omega), f4.g (by omega), f0.g (fun q => by have := n0 _ _ q; omega)]; exact h89
      · rw [fa.g (by omega), f9.g (by omega), h8, ag_s]
      · rw [fa.g (by omega), f9.g (by omega), f8.g (by omega), f7.g (fun q => by have := n7 _ _ q; omega), g46 _ _ (by omega) (by omega), f4.g (by omega), f0.g (fun q => by have := n0 _ _ q; omega)]
        exact hHC.2.2.1
      · rw [fa.g (by omega), f9.g (by omega), h8, ag_j (by omega), ag_s]
      · rw [fa.g (by omega), f9.g (by omega), h8, ag_x (by omega), ag_x (by omega), ag_s]
    · exact ⟨by rw [g68 _ _ (by omega), g46 _ _ (by omega) (by omega)]; exact tp4.1, ⟨Int.le_refl _, by omega⟩, fun j j0 j1 => by omega⟩
    · exact ⟨by rw [g68 _ _ (by omega), g46 _ _ (by omega) (by omega), e19, e29], by rw [g68 _ _ (by omega), g46 _ _ (by omega) (by omega), e1a, e2a]⟩
  · left
    refine ⟨z, σ4, start _ (by rw [if_neg z, if_pos rfl]), w4, ?_, tp4, ⟨by rw [e19]; exact hF.2.1, by rw [e1a]; exact hF.2.2.2⟩⟩
    exact cst_fc (⟨pl, hC, h18, hSC, h89, hHC, hIC, hSV⟩ : CSt T S σ) h17 (P := fun x j => wtx (200 - pl) x j ∨ (x = 1 ∧ (j = 9 ∨ j = 10))) ((f0.mono (fun x j q => Or.inl q)).tr (f4.mono (fun x j q => Or.inr q))) (fun x j q => q) L4
