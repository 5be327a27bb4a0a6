/-! the class's half of whole's part of this name -/
theorem jf0 {σ : aS} {x n : Int} (hn : alen σ x = n) (n0 : 0 ≤ n) (n1 : n < 1000000) : ∃ τ, jfill x 0 σ = some (0, [], τ) ∧ Fp (fun y j => y = x ∧ 0 ≤ j ∧ j < n) σ τ ∧ ∀ j, 0 ≤ j → j < n → aget τ x j = 0 := by
  have hal := al_I (c := 6) (B := aU4 jfill_b5) (n := n) (i := 0) (vs := [x, 0, 0, n]) (σ := σ)
    (fun k vs τ => 0 ≤ k ∧ vs = [x, 0, k, n] ∧ Fp (fun y j => y = x ∧ 0 ≤ j ∧ j < n) σ τ ∧ ∀ j, 0 ≤ j → j < k → aget τ x j = 0)
    (fun r => ∃ τ, r = (0, [], τ) ∧ Fp (fun y j => y = x ∧ 0 ≤ j ∧ j < n) σ τ ∧ ∀ j, 0 ≤ j → j < n → aget τ x j = 0) n0 (by omega) ⟨Int.le_refl _, rfl, Fp.rf _ _, fun j j0 j1 => by omega⟩ ?_
  · obtain ⟨r, hr, τ, rfl, h1, h2⟩ := hal
    refine ⟨τ, ?_, h1, h2⟩
    unfold jfill jfill_l5
    rw [hn, hr]; rfl
  · rintro k vs τ hk ⟨k0, rfl, hF, hz⟩
    by_cases c : k < n
    · refine Or.inl ⟨c, [x, 0, k + 1, n], aput τ x k 0, ?_, by omega, rfl, hF.put _ ⟨rfl, k0, c⟩, fun j j0 j1 => ?_⟩
      · show jfill_b5 x 0 k n τ = _
        unfold jfill_b5
        have : alen τ x = n := by unfold alen at hn ⊢; rw [hF.1]; exact hn
        rw [this, wq (by omega) (by omega)]
        exact ite_p c (ite_p ⟨k0, c⟩ rfl)
      · by_cases q : j = k
        · rw [q, ag_s]
        · rw [ag_j q]; exact hz j j0 (by omega)
    · have hkn : k = n := by omega
      subst hkn
      refine Or.inr ⟨(0, [], τ), ?_, Nat.ne_of_beq_eq_false rfl, τ, rfl, hF, hz⟩
      show jfill_b5 x 0 k k τ = _
      unfold jfill_b5
      exact ite_n c rfl
/-- what wiping changes -/
def wwp (pl x j : Int) : Prop := wrp pl x j
/-- a plan wiped -/
def WZ (pl : Int) (σ : aS) : Prop :=
  (∀ j, 0 ≤ j → j < 3 → aget σ (pl + 1) j = 0) ∧ (∀ j, 0 ≤ j → j < 20 → aget σ (pl + 3) j = 0) ∧ (∀ j, 0 ≤ j → j < 25 → aget σ (pl + 4) j = 0) ∧ (∀ j, 0 ≤ j → j < 25 → aget σ (pl + 5) j = 0) ∧ (∀ j, 0 ≤ j → j < 4 → aget σ (pl + 6) j = 0) ∧
  (aget σ (pl + 7) 1 = 0 ∧ aget σ (pl + 7) 7 = 0) ∧ (∀ j, 0 ≤ j → j < 4 → aget σ (pl + 15) j = 0) ∧ (∀ j, 0 ≤ j → j < 4 → aget σ (pl + 16) j = 0) ∧ ∀ j, 8 ≤ j → j ≤ 15 → aget σ pl j = 0
theorem jfp {pl : Int} (hp : pl = 90 ∨ pl = 110) {σ : aS} (hL : LR σ) {x n : Int} (hx : (pl + 1 ≤ x ∧ x ≤ pl + 6) ∨ (pl + 10 ≤ x ∧ x ≤ pl + 11) ∨ (pl + 15 ≤ x ∧ x ≤ pl + 16)) (hn : alen σ x = n) (n0 : 0 ≤ n) (n1 : n < 1000000) :
    ∃ τ, jfill x 0 σ = some (0, [], τ) ∧ Fp (fun y _ => y = x) σ τ ∧ (∀ j, 0 ≤ j → j < n → aget τ x j = 0) ∧ LR τ ∧ Fp (wrd pl) σ τ := by
  obtain ⟨τ, h1, h2, h3⟩ := jf0 hn n0 n1
  have hF : Fp (wrd pl) σ τ := h2.mono (fun y j q => Or.inr (by unfold wrp; omega))
  exact ⟨τ, h1, h2.mono (fun y j q => q.1), h3, hL.rd hp hF (fun _ _ q => q), hF⟩
theorem c4_wipe_ok {pl : Int} (hp : pl = 90 ∨ pl = 110) {σ : aS} (hL : LR σ) : ∃ τ, c4_wipe pl σ = some (0, [], τ) ∧ Fp (wrd pl) σ τ ∧ LR τ ∧ WZ pl τ ∧ Fp (wrp pl) σ τ := by
  obtain ⟨σ1, e1, f1, z1, L1, d1⟩ := jfp hp hL (x := pl + 1) (by omega) (np_1 hL hp) (by omega) (by omega)
  obtain ⟨σ2, e2, f2, z2, L2, d2⟩ := jfp hp L1 (x := pl + 2) (by omega) (np_2 L1 hp) (by omega) (by omega)
  obtain ⟨σ3, e3, f3, z3, L3, d3⟩ := jfp hp L2 (x := pl + 3) (by omega) (np_3 L2 hp) (by omega) (by omega)
  obtain ⟨σ4, e4, f4, z4, L4, d4⟩ := jfp hp L3 (x := pl + 4) (by omega) (np_4 L3 hp) (by omega) (by omega)
  obtain ⟨σ5, e5, f5, z5, L5, d5⟩ := jfp hp L4 (x := pl + 5) (by omega) (np_5 L4 hp) (by omega) (by omega)
  obtain ⟨σ6, e6, f6, z6, L6, d6⟩ := jfp hp L5 (x := pl + 6) (by omega) (np_6 L5 hp) (by omega) (by omega)
  have f7 : Fp (fun x j => x = pl + 7 ∧ (j = 1 ∨ j = 7)) σ6 (aput (aput σ6 (pl + 7) 1 0) (pl + 7) 7 0) := ((Fp.rf _ _).put _ (by omega)).put _ (by omega)
  obtain ⟨σ7, h7⟩ : ∃ σ7, σ7 = aput (aput σ6 (pl + 7) 1 0) (pl + 7) 7 0 := ⟨_, rfl⟩
  rw [← h7] at f7
  have d7 : Fp (wrd pl) σ6 σ7 := f7.mono (fun y j q => Or.inr (by unfold wrp; omega))
  have L7 := L6.rd hp d7 (fun _ _ q => q)
  obtain ⟨σ8, e8, f8, z8, L8, d8⟩ := jfp hp L7 (x := pl + 10) (by omega) (np_10 L7 hp) (by omega) (by omega)
  obtain ⟨σ9, e9, f9, z9, L9, d9⟩ := jfp hp L8 (x := pl + 11) (by omega) (np_11 L8 hp) (by omega) (by omega)
  obtain ⟨σa, ea, fa, za, La, da⟩ := jfp hp L9 (x := pl + 15) (by omega) (np_15 L9 hp) (by omega) (by omega)
  obtain ⟨σb, eb, fb, zb, Lb, db⟩ := jfp hp La (x := pl + 16) (by omega) (np_16 La hp) (by omega) (by omega)
  obtain ⟨σc, hc⟩ : ∃ σc, σc = aput (aput (aput (aput (aput (aput (aput (aput σb pl 8 0) pl 9 0) pl 10 0) pl 11 0) pl 12 0) pl 13 0) pl 14 0) pl 15 0 := ⟨_, rfl⟩
  have fc : Fp (fun x j => x = pl ∧ 8 ≤ j ∧ j ≤ 15) σb σc := by
    rw [hc]
    exact ((((((((Fp.rf _ _).put _ (by omega)).put _ (by omega)).put _ (by omega)).put _ (by omega)).put _ (by omega)).put _ (by omega)).put _ (by omega)).put _ (by omega)
  have dc : Fp (wrd pl) σb σc := fc.mono (fun y j q => Or.inr (by unfold wrp; omega))
  have Lc := Lb.rd hp dc (fun _ _ q => q)
  refine ⟨σc, ?_, d1.tr (d2.tr (d3.tr (d4.tr (d5.tr (d6.tr (d7.tr (d8.tr (d9.tr (da.tr (db.tr dc)))))))))), Lc, ⟨?_, ?_, ?_, ?_, ?_, ?_, ?_, ?_, ?_⟩, ?_⟩
  · unfold c4_wipe
    rw [rp_0 hL hp, e1, acall0_some, rp_1 L1 hp, e2, acall0_some, rp_2 L2 hp, e3, acall0_some, rp_3 L3 hp, e4, acall0_some, rp_4 L4 hp, e5, acall0_some, rp_5 L5 hp, e6, acall0_some]
    refine ite_n (by omega) (ite_n (by omega) (ite_n (by omega) (ite_n (by omega) (ite_n (by omega) (ite_n (by omega) ?_)))))
    unfold c4_wipe_p48 c6_wipeRules c1_wipeGrounds c4_wipe_p87
    rw [rp_6 L6 hp, ← h7, ru_3 L7 hp, if_neg (show ¬ pl + 10 = 0 by omega), e8, acall0_some, ru_4 L8 hp, if_neg (show ¬ pl + 11 = 0 by omega), e9, acall0_some, acall0_some, rp_7 L9 hp, rg_0 L9 hp, if_neg (show ¬ pl + 15 = 0 by omega), ea, acall0_some, rg_1 La hp, if_neg (show ¬ pl + 16 = 0 by omega), eb, acall0_some, acall0_some, ← hc]
    exact ite_n (by omega) (ite_n (by omega) rfl)
  · intro j j0 j1
    rw [fc.g (by omega), fb.g (by omega), fa.g (by omega), f9.g (by omega), f8.g (by omega), f7.g (by omega), f6.g (by omega), f5.g (by omega), f4.g (by omega), f3.g (by omega), f2.g (by omega)]; exact z1 j j0 j1
  · intro j j0 j1
    rw [fc.g (by omega), fb.g (by omega), fa.g (by omega), f9.g (by omega), f8.g (by omega), f7.g (by omega), f6.g (by omega), f5.g (by omega), f4.g (by omega)]; exact z3 j j0 j1
  · intro j j0 j1
    rw [fc.g (by omega), fb.g (by omega), fa.g (by omega), f9.g (by omega), f8.g (by omega), f7.g (by omega), f6.g (by omega), f5.g (by omega)]; exact z4 j j0 j1
  · intro j j0 j1
    rw [fc.g (by omega), fb.g (by omega), fa.g (by omega), f9.g (by omega), f8.g (by omega), f7.g (by omega), f6.g (by omega)]; exact z5 j j0 j1
  · intro j j0 j1
    rw [fc.g (by omega), fb.g (by omega), fa.g (by omega), f9.g (by omega), f8.g (by omega), f7.g (by omega)]; exact z6 j j0 j1
  · rw [fc.g (by omega), fb.g (by omega), fa.g (by omega), f9.g (by omega), f8.g (by omega), fc.g (by omega), fb.g (by omega), fa.g (by omega), f9.g (by omega), f8.g (by omega), h7]
    exact ⟨by rw [ag_j (by omega), ag_s], ag_s _ _ _ _⟩
  · intro j j0 j1
    rw [fc.g (by omega), fb.g (by omega)]; exact za j j0 j1
  · intro j j0 j1
    rw [fc.g (by omega)]; exact zb j j0 j1
  · intro j j0 j1
    rw [hc]
    rcases (show j = 8 ∨ j = 9 ∨ j = 10 ∨ j = 11 ∨ j = 12 ∨ j = 13 ∨ j = 14 ∨ j = 15 by omega) with q | q | q | q | q | q | q | q <;> rw [q]
    · rw [ag_j (by omega), ag_j (by omega), ag_j (by omega), ag_j (by omega), ag_j (by omega), ag_j (by omega), ag_j (by omega), ag_s]
    · rw [ag_j (by omega), ag_j (by omega), ag_j (by omega), ag_j (by omega), ag_j (by omega), ag_j (by omega), ag_s]
    · rw [ag_j (by omega), ag_j (by omega), ag_j (by omega), ag_j (by omega), ag_j (by omega), ag_s]
    · rw [ag_j (by omega), ag_j (by omega), ag_j (by omega), ag_j (by omega), ag_s]
    · rw [ag_j (by omega), ag_j (by omega), ag_j (by omega), ag_s]
    · rw [ag_j (by omega), ag_j (by omega), ag_s]
    · rw [ag_j (by omega), ag_s]
    · rw [ag_s]
  · have r : ∀ {x : Int} {α β : aS}, ((pl + 1 ≤ x ∧ x ≤ pl + 6) ∨ (pl + 10 ≤ x ∧ x ≤ pl + 11) ∨ (pl + 15 ≤ x ∧ x ≤ pl + 16)) → Fp (fun y _ => y = x) α β → Fp (wrp pl) α β := fun hx hF => hF.mono (fun y j q => by unfold wrp; omega)
    have w7 : Fp (wrp pl) σ6 σ7 := f7.mono (fun y j q => by unfold wrp; omega)
    have wc : Fp (wrp pl) σb σc := fc.mono (fun y j q => by unfold wrp; omega)
    exact (r (by omega) f1).tr ((r (by omega) f2).tr ((r (by omega) f3).tr ((r (by omega) f4).tr ((r (by omega) f5).tr ((r (by omega) f6).tr (w7.tr ((r (by omega) f8).tr ((r (by omega) f9).tr ((r (by omega) fa).tr ((r (by omega) fb).tr wc))))))))))
/-- the text that a wiped plan tells -/
def wT0 (pl : Int) (σ : aS) : aH := fun a i => if a = 20 ∨ a = 21 ∨ a = 6 ∨ a = 23 then 0 else aget σ (pl + (itm a i).1) (itm a i).2
theorem wT0_g {pl : Int} {σ : aS} {a i : Int} (h : ¬ (a = 20 ∨ a = 21 ∨ a = 6 ∨ a = 23)) : wT0 pl σ a i = aget σ (pl + (itm a i).1) (itm a i).2 := if_neg h
theorem wT0_b {pl : Int} {σ : aS} {a i : Int} (h : a = 20 ∨ a = 21 ∨ a = 6 ∨ a = 23) : wT0 pl σ a i = 0 := if_pos h
theorem wT0_c {pl : Int} {σ : aS} {x j a i : Int} (h : ctm x j = some (a, i)) : wT0 pl σ a i = aget σ (pl + x) j := by
  have na := ctm_a h
  rw [wT0_g (by omega), itm_ctm h]
theorem wT0_PL {pl : Int} (hp : pl = 90 ∨ pl = 110) {σ : aS} (hZ : WZ pl σ) : PLc pl (wT0 pl σ) σ := by
  have z : ∀ j, 8 ≤ j → j ≤ 15 → aget σ pl j = 0 := hZ.2.2.2.2.2.2.2.2
  have bw : ∀ w a m : Int, 8 ≤ w → w ≤ 15 → (a = 20 ∨ a = 21 ∨ a = 6 ∨ a = 23) → BWc pl w a m (wT0 pl σ) σ := fun w a m w0 w1 ha => by
    refine ⟨?_, fun j j0 j1 => ?_⟩
    · rw [z w w0 w1]; exact ⟨Int.le_refl _, by have := p2_pos m; omega⟩
    · rw [z w w0 w1, wT0_b ha]
      unfold bI
      have := p2_pos j
      rw [Int.zero_ediv]; rfl
  have h01 : wT0 pl σ 0 1 = 0 := by rw [wT0_c (x := 1) (j := 1) rfl]; exact hZ.1 1 (by omega) (by omega)
  refine ⟨hp, fun x j a i hc => (wT0_c hc).symm, bw 8 20 25 (by omega) (by omega) (by omega), bw 9 21 25 (by omega) (by omega) (by omega), bw 10 6 4 (by omega) (by omega) (by omega), bw 11 23 4 (by omega) (by omega) (by omega), ?_⟩
  rw [z 15 (by omega) (by omega)]
  have : hsf (wT0 pl σ) = fun _ => 0 := by
    funext s
    unfold hsf
    rw [h01, if_neg (by omega)]
  rw [this]; rfl
theorem wT0_I {pl : Int} {σ : aS} (hZ : WZ pl σ) : TI (wT0 pl σ) ∧ wT0 pl σ 22 0 = 0 := by
  obtain ⟨z1, z3, z4, z5, z6, z7, z15, z16, zp⟩ := hZ
  have e00 : wT0 pl σ 0 0 = 0 := by rw [wT0_c (x := 1) (j := 0) rfl]; exact z1 0 (by omega) (by omega)
  have e01 : wT0 pl σ 0 1 = 0 := by rw [wT0_c (x := 1) (j := 1) rfl]; exact z1 1 (by omega) (by omega)
  have e02 : wT0 pl σ 0 2 = 0 := by rw [wT0_c (x := 1) (j := 2) rfl]; exact z1 2 (by omega) (by omega)
  have e03 : wT0 pl σ 0 3 = 0 := by rw [wT0_c (x := 0) (j := 14) rfl, Int.add_zero]; exact zp 14 (by omega) (by omega)
  have e04 : wT0 pl σ 0 4 = 0 := by rw [wT0_c (x := 7) (j := 1) rfl]; exact z7.1
  have e05 : wT0 pl σ 0 5 = 0 := by rw [wT0_c (x := 0) (j := 12) rfl, Int.add_zero]; exact zp 12 (by omega) (by omega)
  have e24 : wT0 pl σ 24 0 = 0 := by rw [wT0_c (x := 7) (j := 7) rfl]; exact z7.2
  have e22 : wT0 pl σ 22 0 = 0 := by rw [wT0_c (x := 0) (j := 13) rfl, Int.add_zero]; exact zp 13 (by omega) (by omega)
  have e2 : ∀ j, 0 ≤ j → j < 20 → wT0 pl σ 2 j = 0 := fun j j0 j1 => by rw [wT0_c (ctm_3 j0 j1)]; exact z3 j j0 j1
  have e3 : ∀ j, 0 ≤ j → j < 25 → wT0 pl σ 3 j = 0 := fun j j0 j1 => by rw [wT0_c (ctm_4 j0 j1)]; exact z4 j j0 j1
  have e4 : ∀ j, 0 ≤ j → j < 25 → wT0 pl σ 4 j = 0 := fun j j0 j1 => by rw [wT0_c (ctm_5 j0 j1)]; exact z5 j j0 j1
  have e5 : ∀ j, 0 ≤ j → j < 4 → wT0 pl σ 5 j = 0 := fun j j0 j1 => by rw [wT0_c (ctm_6 j0 j1)]; exact z6 j j0 j1
  have e12 : ∀ j, 0 ≤ j → j < 4 → wT0 pl σ 12 j = 0 := fun j j0 j1 => by rw [wT0_c (ctm_gr.1 j0 j1)]; exact z15 j j0 j1
  have e13 : ∀ j, 0 ≤ j → j < 4 → wT0 pl σ 13 j = 0 := fun j j0 j1 => by rw [wT0_c (ctm_gr.2.1 j0 j1)]; exact z16 j j0 j1
  have eb : ∀ a i, (a = 20 ∨ a = 21 ∨ a = 6 ∨ a = 23) → wT0 pl σ a i = 0 := fun a i h => wT0_b h
  generalize wT0 pl σ = T at e00 e01 e02 e03 e04 e05 e24 e22 e2 e3 e4 e5 e12 e13 eb
  have hh : hsf T = fun _ => 0 := by
    funext s
    unfold hsf
    rw [e01, if_neg (by omega)]
  refine ⟨⟨⟨by omega, by omega, by omega, by omega, by omega⟩, fun g g0 g1 => by omega, ⟨fun s s0 s1 => by omega, fun s s0 s1 => e2 _ (by omega) (by omega), by rw [hh, e03]; rfl⟩, ⟨fun j j0 j1 => by rw [e3 j j0 j1]; omega, fun j j0 j1 => by rw [e4 j j0 j1]; omega, fun j j0 j1 => ⟨e3 j (by omega) j1, e4 j (by omega) j1, eb 20 j (by omega), eb 21 j (by omega)⟩⟩, by omega, fun t t0 t1 => by rw [e5 t t0 t1, e00]; exact ⟨Int.le_refl _, by have := p2_pos 0; omega⟩, ⟨fun t t0 t1 => ?_, fun t t0 t1 => ⟨e5 t (by omega) t1, eb 6 t (by omega), e12 t (by omega) t1, eb 23 t (by omega)⟩⟩, ⟨fun t t0 t1 => by omega, fun k k0 k1 => by omega, by omega⟩⟩, e22⟩
  rw [eb 6 t (by omega), e12 t t0 t1, e13 t t0 t1, eb 23 t (by omega)]
  exact ⟨by omega, by omega, by omega, fun _ => rfl, fun y y0 y1 => by omega, by omega⟩
/-- the text that a wiped plan tells: nothing -/
def TZ (T : aH) : Prop := TI T ∧ (∀ i, 0 ≤ i → i < 6 → T 0 i = 0) ∧ T 24 0 = 0 ∧ T 22 0 = 0
theorem wT0_Z {pl : Int} {σ : aS} (hZ : WZ pl σ) : TZ (wT0 pl σ) := by
  obtain ⟨hI, h22⟩ := wT0_I hZ
  obtain ⟨z1, z3, z4, z5, z6, z7, z15, z16, zp⟩ := hZ
  refine ⟨hI, fun i i0 i1 => ?_, by rw [wT0_c (x := 7) (j := 7) rfl]; exact z7.2, h22⟩
  rcases (show i = 0 ∨ i = 1 ∨ i = 2 ∨ i = 3 ∨ i = 4 ∨ i = 5 by omega) with q | q | q | q | q | q
  · rw [q, wT0_c (x := 1) (j := 0) rfl]; exact z1 0 (by omega) (by omega)
  · rw [q, wT0_c (x := 1) (j := 1) rfl]; exact z1 1 (by omega) (by omega)
  · rw [q, wT0_c (x := 1) (j := 2) rfl]; exact z1 2 (by omega) (by omega)
  · rw [q, wT0_c (x := 0) (j := 14) rfl, Int.add_zero]; exact zp 14 (by omega) (by omega)
  · rw [q, wT0_c (x := 7) (j := 1) rfl]; exact z7.1
  · rw [q, wT0_c (x := 0) (j := 12) rfl, Int.add_zero]; exact zp 12 (by omega) (by omega)
