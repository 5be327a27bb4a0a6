/-! all partings: the reference -/
def wfg : List (Int × List Int) := [(157, []), (158, []), (130, [54, 55, 56, 58, 62, 63, 64])]
def wsv : List (Int × List Int) := [(155, []), (157, []), (158, []), (130, [54, 55, 56, 58, 62, 63, 64])]
theorem MI.sv {T : aH} {σ τ : aS} (h : MI T σ) (hF : Fr wsv σ τ) : MI T τ := h.fr hF (by decide +kernel) (wdj_spec (by decide +kernel))
theorem MN.ff {T N : aH} {σ τ : aS} (h : MN T N σ) (hF : Fr wfg σ τ) : MN T N τ := h.fr hF (wdj_spec (by decide +kernel))
theorem ff1 {T N : aH} {σ : aS} (hM : MI T σ) (hN : NB T N) (hS : MN T N σ) : ∃ τ, c12_findFirst 130 σ = some (0, [if fiS T N < T 0 1 then 1 else 0], τ) ∧ Fr wfg σ τ ∧ (¬ fiS T N < T 0 1 → Fr wwor σ τ) := by
  obtain ⟨τ, hF, h⟩ := c12_findFirst_ok hM hN hS
  by_cases c : fiS T N < T 0 1
  · rw [if_pos c] at h ⊢
    exact ⟨_, h, (((hF.mono (l' := wfg) rfl).put (x := 130) (j := 62) _ rfl).put (x := 130) (j := 63) _ rfl).put (x := 130) (j := 64) _ rfl, fun q => absurd c q⟩
  · rw [if_neg c] at h ⊢
    exact ⟨τ, h, hF.mono rfl, fun _ => hF⟩
/-- the next place to look at: n + 1 if none follows -/
def nxi (n k i : Int) : Prop := i = k ∨ (k = n ∧ i = n + 1)
theorem all_loop {T N : aH} {σ : aS} (hM : MI T σ) (hN : NB T N) (hS : MN T (PN T N 0) σ) (h3 : npT T ≤ 3000) :
    ∃ τ, aloop 47 (aU4 c12_all_b46) aBig [130, npT T, 0, 0] σ = some (84, [130, hcN (svH T N) (npT T).toNat], τ) ∧ Fr wsv σ τ := by
  have hB := hM.2.2
  have hn1 : 1 ≤ npT T := npK_pos hB hB.2.1.1 (Int.le_refl _)
  have hal := al_I (c := 47) (B := aU4 c12_all_b46) (n := npT T) (i := 0) (vs := [130, npT T, 0, 0]) (σ := σ)
    (fun k vs τ => 0 ≤ k ∧ ∃ i, vs = [130, npT T, hcN (svH T N) k.toNat, i] ∧ nxi (npT T) k i ∧ Fr wsv σ τ ∧ MN T (PN T N k) τ)
    (fun r => ∃ τ, r = (84, [130, hcN (svH T N) (npT T).toNat], τ) ∧ Fr wsv σ τ) (by omega) (by omega) ⟨Int.le_refl _, 0, rfl, Or.inl rfl, Fr.rf _ _, hS⟩ ?_
  · obtain ⟨r, hr, τ, rfl, hF⟩ := hal
    exact ⟨τ, hr, hF⟩
  · rintro k vs τ hk ⟨k0, i, rfl, hi, hF, hSt⟩
    have hMt := hM.sv hF
    by_cases c : k < npT T
    · have ei : i = k := by rcases hi with q | q; exact q; omega
      subst ei
      have ek : ((i.toNat : Nat) : Int) = i := Int.toNat_of_nonneg k0
      have hNk := PN_NB hN hB i
      obtain ⟨φ, hf, hF2, -⟩ := ff1 hMt hNk hSt
      have hM2 := hMt.fr hF2 (by decide +kernel) (wdj_spec (by decide +kernel))
      have hS2 := hSt.ff hF2
      obtain ⟨ψ, hn, hF3, hS3⟩ := c12_nextParting_ok hM2 hS2 hNk
      rw [← PN_s T N k0] at hS3
      have hb := hcN_bd (svH T N) i.toNat
      have eh : hcN (svH T N) (i + 1).toNat = hcN (svH T N) i.toNat + (if fiS T (PN T N i) < T 0 1 then 0 else 1) := by
        rw [show (i + 1).toNat = i.toNat + 1 by omega]
        show hcN (svH T N) i.toNat + (if svH T N ((i.toNat : Nat) : Int) = true then 1 else 0) = _
        rw [ek]
        unfold svH
        by_cases q : fiS T (PN T N i) < T 0 1
        · rw [if_pos q, decide_eq_true q]; rfl
        · rw [if_neg q, decide_eq_false q]; rfl
      have p65 : ∀ s, (s = 0 ∨ s = 1) → ∃ i', c12_all_p65 s (hcN (svH T N) i.toNat) 130 (npT T) i φ = some (47, [130, npT T, hcN (svH T N) i.toNat + s, i'], ψ) ∧ nxi (npT T) (i + 1) i' := by
        intro s hs
        by_cases d : 0 ≤ lss T (PN T N i)
        · rw [if_pos d] at hn
          refine ⟨i + 1, ?_, Or.inl rfl⟩
          unfold c12_all_p65
          refine acall1_h hn (ite_n (by omega) ?_)
          unfold c12_all_p77
          rw [wq (x := hcN (svH T N) i.toNat + s) (by omega) (by omega), wq (by omega) (by omega)]
        · rw [if_neg d] at hn
          have hl : i + 1 = npT T := by
            rcases (show i < npT T - 1 ∨ i + 1 = npT T by omega) with q | q
            · exact absurd (lss_k hN hB k0 q) d
            · exact q
          refine ⟨npT T + 1, ?_, Or.inr ⟨hl, rfl⟩⟩
          unfold c12_all_p65
          refine acall1_h hn (ite_p rfl ?_)
          unfold c12_all_p77
          rw [wq (x := hcN (svH T N) i.toNat + s) (by omega) (by omega), wq (by omega) (by omega)]
      have hF' : Fr wsv σ ψ := hF.tr ((hF2.mono rfl).tr (hF3.mono rfl))
      by_cases q : fiS T (PN T N i) < T 0 1
      · rw [if_pos q] at hf eh
        obtain ⟨i', h1, h2⟩ := p65 0 (Or.inl rfl)
        refine Or.inl ⟨c, _, ψ, ?_, by omega, i', rfl, h2, hF', hS3⟩
        rw [eh, ← h1]
        show c12_all_b46 130 (npT T) _ i τ = _
        unfold c12_all_b46
        exact ite_p c (acall1_h hf (ite_n (by omega) rfl))
      · rw [if_neg q] at hf eh
        obtain ⟨i', h1, h2⟩ := p65 1 (Or.inr rfl)
        refine Or.inl ⟨c, _, ψ, ?_, by omega, i', rfl, h2, hF', hS3⟩
        rw [eh, ← h1]
        show c12_all_b46 130 (npT T) _ i τ = _
        unfold c12_all_b46
        exact ite_p c (acall1_h hf (ite_p rfl rfl))
    · have hke : k = npT T := by omega
      subst hke
      refine Or.inr ⟨(84, [130, hcN (svH T N) (npT T).toNat], τ), ?_, Nat.ne_of_beq_eq_false rfl, τ, rfl, hF⟩
      show c12_all_b46 130 (npT T) _ i τ = _
      unfold c12_all_b46
      exact ite_n (by unfold nxi at hi; omega) rfl
