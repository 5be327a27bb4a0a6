/-! the total: the reference -/
/-- a town's crew laid, with what hangs on it -/
def LD (T N : aH) (p : Int) (σ : aS) : Prop := CR (ctn T N p) σ ∧ aget σ 130 54 = szf (ctn T N p) ∧ aget σ 130 55 = gvn T p (ctn T N p) ∧ aget σ 130 56 = gco T p (ctn T N p)
theorem LD.fr {T N : aH} {p : Int} {σ τ : aS} (h : LD T N p σ) (hF : Fr wask σ τ) : LD T N p τ :=
  ⟨fun s s0 s5 => by rw [hF.g rfl]; exact h.1 s s0 s5, by rw [hF.g rfl]; exact h.2.1, by rw [hF.g rfl]; exact h.2.2.1, by rw [hF.g rfl]; exact h.2.2.2⟩
theorem tn_in {T N : aH} {υ : aS} (hM : MI T υ) (hN : NB T N) (hS : MN T N υ) {p : Int} (p0 : 0 ≤ p) (p1 : p ≤ T 0 2) (hl : p < T 0 2 → LD T N p υ) {a : Int} (a0 : -300000000000000 ≤ a) (a1 : a ≤ 300000000000000) :
    ∃ τ, c12_totalNow_l28 130 a p 0 υ = some (5, [130, a + suW T N p (ctn T N p), p + 1], τ) ∧ Fr wask υ τ := by
  have hB := hM.2.2
  have h5 := hB.2.1
  have h4 := hB.2.2.1
  have hf := ctn_BF hN hB p0 p1
  have hb7 := hf.b7 hB
  have hal := al_I (c := 29) (B := aU4 c12_totalNow_b28) (n := T 0 1) (i := 0) (vs := [130, a, p, 0]) (σ := υ)
    (fun k vs τ => 0 ≤ k ∧ vs = [130, a + sI (fun s => ctn T N p s * wrA T N s p (ctn T N p)) k, p, k] ∧ Fr wask υ τ)
    (fun r => ∃ τ, r = (93, [130, a + suW T N p (ctn T N p), p], τ) ∧ Fr wask υ τ) h5.1 (by omega) ⟨Int.le_refl _, by rw [sI_0, Int.add_zero], Fr.rf _ _⟩ ?_
  · obtain ⟨r, hr, τ, rfl, hF⟩ := hal
    refine ⟨τ, ?_, hF⟩
    unfold c12_totalNow_l28
    rw [hr]
    show c12_totalNow_p92 130 (a + suW T N p (ctn T N p)) p τ = _
    unfold c12_totalNow_p92
    rw [wq (by omega) (by omega)]
  · rintro k vs τ hk ⟨k0, rfl, hF⟩
    have hM2 := hM.fr hF (by decide +kernel) (wdj_spec (by decide +kernel))
    have hS2 := hS.fr hF (wdj_spec (by decide +kernel))
    have hL2 := hM2.1
    by_cases hkn : k < T 0 1
    · have ec := hS2.1 k p k0 hkn p0 p1
      have ecn := ctn_in N p k0 hkn
      rw [← ecn] at ec
      have b7 := hb7 k k0 (by omega)
      have b := wrA_bd hB hN p0 p1 hb7 k0 hkn
      have m := mul_bd (a := ctn T N p k) (b := wrA T N k p (ctn T N p)) (A := 7) (B := 1200000000000) (by omega) (by omega) b.1 b.2
      have c := suW_bd hB hN p0 p1 hb7 k0 (Int.le_of_lt hkn)
      have es : sI (fun s => ctn T N p s * wrA T N s p (ctn T N p)) (k + 1) = sI (fun s => ctn T N p s * wrA T N s p (ctn T N p)) k + ctn T N p k * wrA T N k p (ctn T N p) := sI_s k0
      have base : ∀ r : aR, (if 0 < ctn T N p k then (if p = T 0 2 then (acall1 (c12_aloneOf 130 k τ) fun v1 σ1 => c12_totalNow_p83 v1 (ctn T N p k) (a + sI (fun s => ctn T N p s * wrA T N s p (ctn T N p)) k) 130 p k σ1) else (acall1 (c12_worthOf 130 p k τ) fun v2 σ2 => c12_totalNow_p83 v2 (ctn T N p k) (a + sI (fun s => ctn T N p s * wrA T N s p (ctn T N p)) k) 130 p k σ2)) else c12_totalNow_p86 130 (a + sI (fun s => ctn T N p s * wrA T N s p (ctn T N p)) k) p k τ) = r → aU4 c12_totalNow_b28 [130, a + sI (fun s => ctn T N p s * wrA T N s p (ctn T N p)) k, p, k] τ = r := by
        intro r h
        show c12_totalNow_b28 130 _ p k τ = r
        unfold c12_totalNow_b28
        rw [hM2.2.1.1.2.1, r_130_51 hL2, n_155 hL2, hM2.2.1.1.2.2.1, wq (x := 5 * k) (by omega) (by omega), wq (x := 5 * k + p) (by omega) (by omega), ec]
        exact ite_p hkn (ite_n (by omega) (ite_p (by omega) h))
      have p83 : ∀ υ', c12_totalNow_p83 (wrA T N k p (ctn T N p)) (ctn T N p k) (a + sI (fun s => ctn T N p s * wrA T N s p (ctn T N p)) k) 130 p k υ' = some (29, [130, a + sI (fun s => ctn T N p s * wrA T N s p (ctn T N p)) (k + 1), p, k + 1], υ') := fun υ' => by
        unfold c12_totalNow_p83 c12_totalNow_p86
        rw [wQ (x := ctn T N p k * wrA T N k p (ctn T N p)) (by omega) (by omega), wQ (by omega) (by omega), wq (by omega) (by omega), es, Int.add_assoc]
      by_cases h : 0 < ctn T N p k
      · by_cases z : p = T 0 2
        · have ha := c12_aloneOf_ok hM2 k0 hkn
          have e : wrA T N k p (ctn T N p) = 27720 * T 2 (4 * k + 2) := if_pos z
          rw [← e] at ha
          refine Or.inl ⟨hkn, _, τ, base _ ?_, by omega, rfl, hF⟩
          rw [if_pos h, if_pos z, ha, acall1_some]
          exact p83 τ
        · have hld := (hl (by omega)).fr hF
          obtain ⟨φ, hw, hF2⟩ := c12_worthOf_ok hM2 hN hS2 (B7.of hB hf) hld.1 hld.2.1 hld.2.2.1 hld.2.2.2 k0 hkn p0 (by omega)
          have e : wor T N p (ctn T N p) k = wrA T N k p (ctn T N p) := by unfold wrA; rw [if_neg z]
          rw [e] at hw
          refine Or.inl ⟨hkn, _, φ, base _ ?_, by omega, rfl, hF.tr hF2⟩
          rw [if_pos h, if_neg z, hw, acall1_some]
          exact p83 φ
      · have z : ctn T N p k = 0 := by omega
        refine Or.inl ⟨hkn, _, τ, base _ ?_, by omega, rfl, hF⟩
        rw [if_neg h]
        unfold c12_totalNow_p86
        rw [wq (by omega) (by omega), es, z, Int.zero_mul, Int.add_zero]
    · have hke : k = T 0 1 := by omega
      subst hke
      refine Or.inr ⟨(93, [130, a + suW T N p (ctn T N p), p], τ), ?_, Nat.ne_of_beq_eq_false rfl, τ, rfl, hF⟩
      show c12_totalNow_b28 130 _ p (T 0 1) τ = _
      unfold c12_totalNow_b28
      rw [hM2.2.1.1.2.1]
      exact ite_n (by omega) rfl
theorem c12_totalNow_ok {T N : aH} {σ : aS} (hM : MI T σ) (hN : NB T N) (hS : MN T N σ) : ∃ τ, c12_totalNow 130 σ = some (0, [tot T N], τ) ∧ Fr wwor σ τ := by
  have hB := hM.2.2
  have h4 := hB.2.2.1
  have hal := al_I (c := 5) (B := aU3 c12_totalNow_b4) (n := T 0 2 + 1) (i := 0) (vs := [130, 0, 0]) (σ := σ)
    (fun k vs τ => 0 ≤ k ∧ vs = [130, sI (fun p => suW T N p (ctn T N p)) k, k] ∧ Fr wwor σ τ)
    (fun r => ∃ τ, r = (0, [tot T N], τ) ∧ Fr wwor σ τ) (by omega) (by omega) ⟨Int.le_refl _, rfl, Fr.rf _ _⟩ ?_
  · obtain ⟨r, hr, τ, rfl, hF⟩ := hal
    refine ⟨τ, ?_, hF⟩
    unfold c12_totalNow c12_totalNow_l4
    rw [hr]; rfl
  · rintro k vs τ hk ⟨k0, rfl, hF⟩
    have hM2 := hM.fr hF (by decide +kernel) (wdj_spec (by decide +kernel))
    have hS2 := hS.fr hF (wdj_spec (by decide +kernel))
    have h14 := hM2.2.1.1.2.2.1
    have tb := tot_bd hB hN k0 hk
    by_cases c : k < T 0 2 + 1
    · have es : sI (fun p => suW T N p (ctn T N p)) (k + 1) = sI (fun p => suW T N p (ctn T N p)) k + suW T N k (ctn T N k) := sI_s k0
      by_cases d : k < T 0 2
      · have hlc := c12_layCrew_ok hM2 hN hS2 k0 d
        obtain ⟨φ, hi, hF2⟩ := tn_in (lay_MI hM2 k (ctn T N k)) hN (lay_MN hS2 k (ctn T N k)) k0 (Int.le_of_lt d) (fun _ => ⟨lay_CR T k _ τ, lay_54 T k _ τ, lay_55 T k _ τ, lay_56 T k _ τ⟩) (a := sI (fun p => suW T N p (ctn T N p)) k) (by omega) (by omega)
        refine Or.inl ⟨c, [130, sI (fun p => suW T N p (ctn T N p)) (k + 1), k + 1], φ, ?_, by omega, rfl, hF.tr (((lay_fr T k _ τ).mono rfl).tr (hF2.mono rfl))⟩
        rw [es, ← hi]
        show c12_totalNow_b4 130 _ k τ = _
        unfold c12_totalNow_b4
        rw [h14]
        refine ite_n (by omega) (ite_p d ?_)
        rw [hlc, acall0_some]
        rfl
      · obtain ⟨φ, hi, hF2⟩ := tn_in hM2 hN hS2 k0 (by omega) (fun q => absurd q d) (a := sI (fun p => suW T N p (ctn T N p)) k) (by omega) (by omega)
        refine Or.inl ⟨c, [130, sI (fun p => suW T N p (ctn T N p)) (k + 1), k + 1], φ, ?_, by omega, rfl, hF.tr (hF2.mono rfl)⟩
        rw [es, ← hi]
        show c12_totalNow_b4 130 _ k τ = _
        unfold c12_totalNow_b4
        rw [h14]
        exact ite_n (by omega) (ite_n d rfl)
    · have hke : k = T 0 2 + 1 := by omega
      subst hke
      refine Or.inr ⟨(0, [tot T N], τ), ?_, Nat.ne_of_beq_eq_false rfl, τ, rfl, hF⟩
      show c12_totalNow_b4 130 _ (T 0 2 + 1) τ = _
      unfold c12_totalNow_b4
      rw [h14]
      exact ite_p (by omega) rfl
