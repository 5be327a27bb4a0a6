/-! the class's half of whole's part of this name -/
def mkf (x j : Int) : Prop := (x = 20 ∧ (j ≤ 5 ∨ j = 9)) ∨ x = 21 ∨ (x = 22 ∧ 1 ≤ j) ∨ x = 23 ∨ (x = 8 ∧ 1 ≤ j ∧ j ≤ 4)
theorem mkf_w (x j : Int) (h : mkf x j) : wkc x j := by unfold mkf at h; unfold wkc; omega
theorem SC.nx {T N M : aH} {σ : aS} (h : SC T M 22 σ) (hx : ∀ x j : Int, x ≠ 0 → N x j = M x j) : SC T N 22 (aput σ 22 1 (pkP T N)) := by
  refine ⟨ag_s _ _ _ _, fun t t0 t1 => ?_, ?_, ?_, ?_⟩
  · rw [ag_x (by omega), hx _ _ (by omega)]; exact h.2.1 t t0 t1
  · have e : bnI T N = bnI T M := by unfold bnI; exact sI_congr (fun k _ _ => by rw [hx _ _ (by omega)])
    rw [ag_j (by omega), e]; exact h.2.2.1
  · rw [ag_j (by omega), hx _ _ (by omega)]; exact h.2.2.2.1
  · rw [ag_j (by omega), hx _ _ (by omega)]; exact h.2.2.2.2
theorem RE.cx {N M : aH} {σ : aS} (h : RE M σ) (hx : ∀ j : Int, N 4 j = M 4 j) : RE N σ := by
  unfold RE; rw [hx, hx, hx]; exact h
theorem mk_loop {pl : Int} {T N : aH} {σ : aS} (hC : CI pl T σ) (hN : NB T N) (hS : SC T (PN T N 0) 22 σ) (hR : RE N σ) (h0 : aget σ 20 0 = npT T) (h3 : npT T ≤ 3000) (h1 : aget σ 20 1 = 0) :
    ∃ τ, c9_make_l78 20 0 σ = some (0, [1], τ) ∧ Fp (fun x j => (x = 20 ∧ 1 ≤ j ∧ j ≤ 5) ∨ x = 21 ∨ (x = 22 ∧ j = 1) ∨ (x = 8 ∧ 1 ≤ j ∧ j ≤ 4)) σ τ ∧ SVn (svA T N) (svH T N) (svK T N) (npT T).toNat τ := by
  have hB := hC.2.2.2.2.2
  have hn1 := npK_pos hB hB.2.1.1 (Int.le_refl _)
  have hn2 : 1 ≤ npT T := hn1
  have hal := al_I (c := 79) (B := aU2 c9_make_b78) (n := npT T) (i := 0) (vs := [20, 0]) (σ := σ)
    (fun k vs τ => vs = [20, k] ∧ 0 ≤ k ∧ Fp (fun x j => (x = 20 ∧ 1 ≤ j ∧ j ≤ 5) ∨ x = 21 ∨ (x = 22 ∧ j = 1) ∨ (x = 8 ∧ 1 ≤ j ∧ j ≤ 4)) σ τ ∧ SC T (PN T N k) 22 τ ∧ SVn (svA T N) (svH T N) (svK T N) k.toNat τ)
    (fun r => ∃ τ, r = (0, [1], τ) ∧ Fp (fun x j => (x = 20 ∧ 1 ≤ j ∧ j ≤ 5) ∨ x = 21 ∨ (x = 22 ∧ j = 1) ∨ (x = 8 ∧ 1 ≤ j ∧ j ≤ 4)) σ τ ∧ SVn (svA T N) (svH T N) (svK T N) (npT T).toNat τ)
    (by omega) (by omega) ⟨rfl, Int.le_refl _, Fp.rf _ _, hS, ⟨h1, fun q => absurd q (Nat.lt_irrefl 0), fun q => absurd q (Int.lt_irrefl 0), fun j j1 => absurd j1 (by intro q; exact Nat.not_lt_zero _ q)⟩⟩ ?_
  · obtain ⟨r, hr, τ, rfl, a, b⟩ := hal
    refine ⟨τ, ?_, a, b⟩
    unfold c9_make_l78
    rw [hr]; rfl
  · rintro k vs τ k1 ⟨rfl, k0, hF, hSt, hV⟩
    have hCt := hC.fp hF (fun x j q => by unfold wkc; omega)
    have hRt : RE N τ := hR.fp hF (by omega) (by omega) (by omega)
    have e0 : aget τ 20 0 = npT T := by rw [hF.g (by omega)]; exact h0
    by_cases c : k < npT T
    · have hM := PN_NB hN hB k
      have ek : ((k.toNat : Nat) : Int) = k := Int.toNat_of_nonneg k0
      obtain ⟨υ, hw, hF2, hV2⟩ := c9_weigh_ok hCt hM hSt (hRt.cx (fun j => PN_x T N k (by omega) j)) (A := svA T N) (H := svH T N) (K := svK T N) (n := k.toNat) (by omega)
        (by rw [ek]; rfl) (by rw [ek]; rfl) (by rw [ek]; rfl) hV (l := if k.toNat = 0 then 1 else 0) rfl
      have hCu := hCt.fp hF2 wgf_w
      have hSu : SC T (PN T N k) 22 υ := hSt.fp hF2 (fun j => by unfold wgf; omega) (fun j _ => by unfold wgf; omega)
      have hLu := hCu.1
      have hnp := c9_nextParting_ok hCu hM
      have hps : sq T (PN T N k) = PN T N (k + 1) := (PN_s T N k0).symm
      rw [hps] at hnp
      have hp96 : c9_make_p96 (if k.toNat = 0 then 1 else 0) 20 20 k τ = some (79, [20, k + 1], aput υ 22 1 (pkP T (PN T N (k + 1)))) := by
        unfold c9_make_p96
        rw [hw, acall0_some]
        refine ite_n (by rw [r_20_8 hLu]; omega) (ite_n (by rw [r_20_8 hLu]; omega) (acall1_h (v := pkP T (PN T N (k + 1))) (τ := υ) (by rw [r_20_8 hLu, hSu.1]; exact hnp) ?_))
        rw [r_20_8 hLu, wq (by omega) (by omega)]
      refine Or.inl ⟨c, [20, k + 1], aput υ 22 1 (pkP T (PN T N (k + 1))), ?_, rfl, by omega, ?_, ?_, ?_⟩
      · rw [← hp96]
        show c9_make_b78 20 k τ = _
        unfold c9_make_b78
        refine ite_p (by rw [e0]; exact c) ?_
        by_cases z : k = 0
        · rw [if_pos z, if_pos (show k.toNat = 0 by omega)]
        · rw [if_neg z, if_neg (show ¬ k.toNat = 0 by omega)]
      · exact (hF.tr (hF2.mono (fun x j q => by unfold wgf at q; omega))).put (x := 22) (j := 1) _ (by omega)
      · rw [PN_s T N k0] 
        exact hSu.nx (fun x j hx => sq_x _ _ hx j)
      · have e1 : (k + 1).toNat = k.toNat + 1 := by omega
        rw [e1]
        exact SVn_co hV2 (fun x j q => ag_x (by omega))
    · have hk : k = npT T := by omega
      subst hk
      refine Or.inr ⟨(0, [1], τ), ?_, Nat.ne_of_beq_eq_false rfl, τ, rfl, hF, hV⟩
      show c9_make_b78 20 (npT T) τ = _
      unfold c9_make_b78
      exact ite_n (by rw [e0]; omega) (ite_p (by omega) rfl)
theorem mk_new {pl : Int} {T N : aH} {σ : aS} (hC : CI pl T σ) (hN : NB T N) (hS : SC T N 88 σ) (hR : RE N σ) :
    ∃ τ, c9_make_p34 20 88 σ = some (0, [if npT T ≤ 3000 then 1 else 0], τ) ∧ Fp mkf σ τ ∧ SVR T N τ ∧ (∀ t, 0 ≤ t → t < 4 → aget τ 23 t = N 1 t) ∧ aget τ 22 2 = bnI T N := by
  have hB := hC.2.2.2.2.2
  have s22 : SH 22 := Or.inr (Or.inr (Or.inr rfl))
  have s88 : SH 88 := Or.inl rfl
  have hn1 : 1 ≤ npT T := npK_pos hB hB.2.1.1 (Int.le_refl _)
  have f1 := (Fp.rf mkf σ).put (x := 20) (j := 9) 1 (by unfold mkf; omega)
  have c1 := hC.fp f1 mkf_w
  have S1 : SC T N 88 (aput σ 20 9 1) := hS.fp ((Fp.rf (fun x _ => x = 20) σ).put 1 rfl) (fun j => by omega) (fun j _ => by omega)
  obtain ⟨υ, hcp, hF2, S2⟩ := copy_SH c1.1 s22 s88 (by omega) S1
  have f2 := f1.tr (hF2.mono (fun x j q => show mkf x j by unfold mkf; omega))
  have c2 := hC.fp f2 mkf_w
  obtain ⟨φ, hct, hF3, e3⟩ := c9_countPartings_ok c2
  have f3 := f2.tr (hF3.mono (fun x j q => show mkf x j by unfold mkf; omega))
  have c3 := hC.fp f3 mkf_w
  have S3 : SC T N 22 φ := S2.fp hF3 (fun j => by omega) (fun j _ => by omega)
  have pre : ∀ r : aR, (if 3000 < aget φ 20 0 then (if (0 : Int) = 0 ∨ (0 : Int) = 1 then some (0, [0], φ) else none) else (if aget (aput φ 20 1 0) 20 8 = 0 then none else c9_make_l78 20 0 (aput (aput φ 20 1 0) (aget (aput φ 20 1 0) 20 8) 1 0))) = r → c9_make_p34 20 88 σ = r := by
    intro r h
    unfold c9_make_p34
    refine ite_p (by omega) (ite_n (by rw [ag_j (by omega), r_20_8 hC.1]; omega) ?_)
    rw [ag_j (by omega), r_20_8 hC.1, hcp, acall0_some, hct, acall0_some]
    exact h
  by_cases c : npT T ≤ 3000
  · have em : mn 3001 (npT T) = npT T := if_pos (by omega)
    rw [em] at e3
    have f4 := (f3.put (x := 20) (j := 1) 0 (by unfold mkf; omega)).put (x := 22) (j := 1) 0 (by unfold mkf; omega)
    have c4 := hC.fp f4 mkf_w
    have R4 : RE N (aput (aput φ 20 1 0) 22 1 0) := hR.fp f4 (by unfold mkf; omega) (by unfold mkf; omega) (by unfold mkf; omega)
    have S3' : SC T N 22 (aput φ 20 1 0) := S3.fp ((Fp.rf (fun x _ => x = 20) φ).put 0 rfl) (fun j => by omega) (fun j _ => by omega)
    have S4 : SC T (PN T N 0) 22 (aput (aput φ 20 1 0) 22 1 0) := by
      have h := S3'.nx (N := PN T N 0) (fun x j hx => PN_x T N 0 hx j)
      rw [PN_0, PN0_pk] at h
      rw [PN_0]; exact h
    obtain ⟨ψ, hlp, hF5, hV⟩ := mk_loop c4 hN S4 R4 (by rw [ag_x (by omega), ag_j (by omega)]; exact e3) c (by rw [ag_x (by omega), ag_s])
    have f5 := f4.tr (hF5.mono (fun x j q => show mkf x j by unfold mkf; omega))
    refine ⟨ψ, pre _ ?_, f5, ⟨?_, fun _ => hV⟩, fun t t0 t1 => ?_, ?_⟩
    · refine ite_n (by rw [e3]; omega) (ite_n (by rw [ag_j (by omega), r_20_8 c3.1]; omega) ?_)
      rw [show aget (aput φ 20 1 0) 20 8 = 22 by rw [ag_j (by omega), r_20_8 c3.1], hlp, if_pos c]
    · rw [hF5.g (by omega), ag_x (by omega), ag_j (by omega), e3, em]
    · rw [hF5.g (by omega), ag_x (by omega), ag_x (by omega)]; exact S3.2.1 t t0 t1
    · rw [hF5.g (by omega), ag_j (by omega), ag_x (by omega)]; exact S3.2.2.1
  · have em : mn 3001 (npT T) = 3001 := if_neg (by omega)
    refine ⟨φ, pre _ ?_, f3, ⟨e3, fun q => absurd q c⟩, S3.2.1, S3.2.2.1⟩
    refine ite_p (by rw [e3, em]; omega) (ite_p (by omega) ?_)
    rw [if_neg c]
theorem c9_make_ok {pl : Int} {T N : aH} {σ : aS} (hC : CI pl T σ) (hN : NB T N) (hS : SC T N 88 σ) (hR : RE N σ) (h4 : N 4 0 = -1) (hI : SVI T σ) :
    ∃ τ, c9_make 20 88 σ = some (0, [if npT T ≤ 3000 then 1 else 0], τ) ∧ Fp mkf σ τ ∧ SVR T N τ ∧ SVI T τ := by
  have hB := hC.2.2.2.2.2
  have hn1 : 1 ≤ npT T := npK_pos hB hB.2.1.1 (Int.le_refl _)
  have new : ∀ r : aR, (∀ τ, c9_make_p34 20 88 σ = some (0, [if npT T ≤ 3000 then 1 else 0], τ) → r = some (0, [if npT T ≤ 3000 then 1 else 0], τ)) → ∃ τ, r = some (0, [if npT T ≤ 3000 then 1 else 0], τ) ∧ Fp mkf σ τ ∧ SVR T N τ ∧ SVI T τ := by
    intro r h
    obtain ⟨τ, h1, h2, h3, h5, h6⟩ := mk_new hC hN hS hR
    exact ⟨τ, h τ h1, h2, h3, fun _ => ⟨N, hN, h4, h5, h6, h3⟩⟩
  by_cases c : aget σ 20 9 = 0
  · refine new (c9_make 20 88 σ) (fun τ h => ?_)
    unfold c9_make
    rw [if_pos c, h]
  · have ht := c8_hasTermsOf_ok hC.1
    by_cases d : htB σ = true
    · rw [if_pos d] at ht
      obtain ⟨M, hM, hM4, he, hb, hV⟩ := hI c
      obtain ⟨d1, d2⟩ := htB_t d
      have tm : tme T M N := ⟨fun t t0 t1 => by
        have h4t := hB.2.2.1
        refine ⟨?_, bnI_eq hM hN hB (by rw [← hb, d2]; exact hS.2.2.1) t0 t1⟩
        rw [← he t t0 (by omega), d1 t t0 (by omega)]
        exact hS.2.1 t t0 (by omega), hM4, h4⟩
      have hV2 := hV.tm tm
      refine ⟨σ, ?_, Fp.rf _ _, hV2, hI⟩
      unfold c9_make
      refine ite_n c (ite_n (by rw [r_20_8 hC.1]; omega) (acall1_h (v := 1) (τ := σ) (by rw [r_20_8 hC.1]; exact ht) (ite_n (by omega) ?_)))
      rw [hV2.1]
      by_cases e : npT T ≤ 3000
      · rw [if_pos e, show mn 3001 (npT T) = npT T from if_pos (by omega)]
        exact ite_n (by omega) (ite_p (by omega) rfl)
      · rw [if_neg e, show mn 3001 (npT T) = 3001 from if_neg (by omega)]
        exact ite_p (by omega) (ite_p (by omega) rfl)
    · rw [if_neg d] at ht
      refine new (c9_make 20 88 σ) (fun τ h => ?_)
      unfold c9_make
      exact ite_n c (ite_n (by rw [r_20_8 hC.1]; omega) (acall1_h (v := 0) (τ := σ) (by rw [r_20_8 hC.1]; exact ht) (ite_p rfl h)))
