/-! the reference reads: floats' figures -/
def loF (k : Nat) : Int := if k = 0 then 1 else 0
def hiF (f : Int) (k : Nat) : Int := if k = 0 then mn 6 (12 - f) else if k = 2 then 999 else 99
def fqc (b : Int → Int) (n f : Int) (q : Int × Int) : Nat → Int × Int
  | 0 => q
  | k + 1 => tkN b n (loF k) (hiF f k) (fqc b n f q k)
theorem fqc_4 {b : Int → Int} {n P : Int} {T : aH} : fltQ b n P T = fqc b n (T 0 3) (nwF b n T 1 5 P) 4 := rfl
theorem fqc_n {b : Int → Int} {n f : Int} {q : Int × Int} {k : Nat} (h : (fqc b n f q k).1 ≠ 0) : ∀ m : Nat, fqc b n f q (k + m) = fqc b n f q k := by
  intro m
  induction m with
  | zero => rfl
  | succ m ih =>
    show tkN b n _ _ (fqc b n f q (k + m)) = _
    rw [ih]; exact tkN_n h
theorem flt_nums {b : Int → Int} {n Q f s : Int} {σ : aS} (h : TKr b n Q σ) (s0 : 0 ≤ s) (s5 : s < 5) (f0 : 0 ≤ f) (f12 : f ≤ 12) :
    ∃ r, aloop 57 (aU4 c12_floatLine_b56) aBig [130, 20 + 4 * s, 12 - f, 0] σ = some r ∧
      ((∃ τ, r = (0, [0], τ) ∧ Fp wrr σ τ ∧ (fqc b n f (0, Q) 4).1 ≠ 0 ∧ FRr (fqc b n f (0, Q) 4).1 (fqc b n f (0, Q) 4).2 τ) ∨
       (∃ τ, r = (130, [130, 20 + 4 * s], τ) ∧ Fp (fun x j => wtn x j ∨ (x = 136 ∧ 20 + 4 * s ≤ j ∧ j < 24 + 4 * s)) σ τ ∧ (fqc b n f (0, Q) 4).1 = 0 ∧ TKr b n (fqc b n f (0, Q) 4).2 τ ∧ ∀ i : Nat, i < 4 → aget τ 136 (20 + 4 * s + i) = vlt b n (fqc b n f (0, Q) i).2)) := by
  refine al_I (c := 57) (B := aU4 c12_floatLine_b56) (n := 4) (i := 0) (vs := [130, 20 + 4 * s, 12 - f, 0]) (σ := σ)
    (fun k vs τ => 0 ≤ k ∧ vs = [130, 20 + 4 * s, 12 - f, k] ∧ Fp (fun x j => wtn x j ∨ (x = 136 ∧ 20 + 4 * s ≤ j ∧ j < 24 + 4 * s)) σ τ ∧ (fqc b n f (0, Q) k.toNat).1 = 0 ∧ TKr b n (fqc b n f (0, Q) k.toNat).2 τ ∧ ∀ i : Nat, (i : Int) < k → aget τ 136 (20 + 4 * s + i) = vlt b n (fqc b n f (0, Q) i).2)
    _ (by omega) (by omega) ⟨Int.le_refl _, rfl, Fp.rf _ _, rfl, h, fun i hi => by omega⟩ ?_
  rintro k vs τ hk ⟨k0, rfl, hF, hz, hT, hc⟩
  by_cases c : k < 4
  · have hL := hT.1.1
    have hi9 : hiF f k.toNat ≤ 999 := by unfold hiF; have := mn6 (x := f); split <;> (try split) <;> omega
    have reach : ∀ r : aR, c12_floatLine_p103 (hiF f k.toNat) (loF k.toNat) 130 130 (20 + 4 * s) (12 - f) k τ = r → aU4 c12_floatLine_b56 [130, 20 + 4 * s, 12 - f, k] τ = r := by
      intro r hr
      show c12_floatLine_b56 130 (20 + 4 * s) (12 - f) k τ = r
      unfold c12_floatLine_b56 c12_floatLine_p71
      by_cases z : k = 0
      · have e1 : loF k.toNat = 1 := by unfold loF; rw [if_pos (by omega)]
        have e2 : hiF f k.toNat = mn 6 (12 - f) := by unfold hiF; rw [if_pos (by omega)]
        rw [e1, e2] at hr
        refine ite_p c (ite_p z (ite_p z ?_))
        unfold mn at hr
        by_cases q : 12 - f < 6
        · rw [if_pos q] at hr; exact ite_p q hr
        · rw [if_neg q] at hr; exact ite_n q hr
      · have e1 : loF k.toNat = 0 := by unfold loF; rw [if_neg (by omega)]
        rw [e1] at hr
        refine ite_p c (ite_n z (ite_n z ?_))
        by_cases z2 : k = 2
        · have e2 : hiF f k.toNat = 999 := by unfold hiF; rw [if_neg (by omega), if_pos (by omega)]
          rw [e2] at hr; exact ite_p z2 hr
        · have e2 : hiF f k.toNat = 99 := by unfold hiF; rw [if_neg (by omega), if_neg (by omega)]
          rw [e2] at hr; exact ite_n z2 hr
    have ek : (k + 1).toNat = k.toNat + 1 := by omega
    have es : fqc b n f (0, Q) (k.toNat + 1) = tkN b n (loF k.toNat) (hiF f k.toNat) (fqc b n f (0, Q) k.toNat) := rfl
    rcases r_num hT (loF k.toNat) hi9 with ⟨y, hv, σ1, i1, i2, i3, i4⟩ | ⟨y, σ1, i1, i2, i3⟩
    · have L1 := i3.1.1
      have en : fqc b n f (0, Q) (k.toNat + 1) = (0, nxp b n (fqc b n f (0, Q) k.toNat).2) := by
        rw [es]; unfold tkN; rw [if_neg (fun q => q hz), if_neg (fun q => q y)]
      obtain ⟨σ2, h2⟩ : ∃ σ2, σ2 = aput σ1 136 (20 + 4 * s + k) (vlt b n (fqc b n f (0, Q) k.toNat).2) := ⟨_, rfl⟩
      have f2 : Fp (fun x j => x = 136 ∧ j = 20 + 4 * s + k) σ1 σ2 := by rw [h2]; exact (Fp.rf _ _).put _ ⟨rfl, rfl⟩
      refine Or.inl ⟨c, [130, 20 + 4 * s, 12 - f, k + 1], σ2, reach _ ?_, by omega, rfl, ?_, by rw [ek, en], ?_, fun i hi => ?_⟩
      · unfold c12_floatLine_p103
        rw [i1, acall1_some, r_130_27 L1, n_136 L1, i4, wq (x := 20 + 4 * s + k) (by omega) (by omega), ← h2, wq (x := k + 1) (by omega) (by omega)]
        exact ite_n (by omega) (ite_n (by omega) (ite_p (by omega) rfl))
      · exact hF.tr ((i2.mono (fun x j q => Or.inl q)).tr (f2.mono (fun x j q => Or.inr (by omega))))
      · rw [ek, en]
        exact i3.pf f2 (fun x j q => by unfold wrr; omega) (fun x j q => by unfold wkt; omega)
      · by_cases q : (i : Int) = k
        · have : i = k.toNat := by omega
          rw [q, h2, ag_s, this]
        · rw [f2.g (by omega), i2.g (by unfold wtn; omega)]; exact hc i (by omega)
    · have en : fqc b n f (0, Q) (k.toNat + 1) = (pNum b n (loF k.toNat) (hiF f k.toNat) (fqc b n f (0, Q) k.toNat).2, (fqc b n f (0, Q) k.toNat).2) := by
        rw [es]; unfold tkN; rw [if_neg (fun q => q hz), if_pos y]
      have e4 := fqc_n (b := b) (n := n) (f := f) (q := (0, Q)) (k := k.toNat + 1) (by rw [en]; exact y) (3 - k.toNat)
      rw [show k.toNat + 1 + (3 - k.toNat) = 4 by omega, en] at e4
      refine Or.inr ⟨(0, [0], σ1), reach _ ?_, Nat.ne_of_beq_eq_false rfl, Or.inl ⟨σ1, rfl, ?_, by rw [e4]; exact y, by rw [e4]; exact i3⟩⟩
      · unfold c12_floatLine_p103
        rw [i1, acall1_some, if_pos rfl]
        exact bz01 (Or.inl rfl)
      · exact (hF.mono (fun x j q => q.elim (fun u => by unfold wtn at u; unfold wrr; omega) (fun u => by unfold wrr; omega))).tr i2
  · have hk4 : k = 4 := by omega
    subst hk4
    refine Or.inr ⟨(130, [130, 20 + 4 * s], τ), ?_, Nat.ne_of_beq_eq_false rfl, Or.inr ⟨τ, rfl, hF, hz, hT, fun i hi => hc i (by omega)⟩⟩
    show c12_floatLine_b56 130 (20 + 4 * s) (12 - f) 4 τ = _
    unfold c12_floatLine_b56
    exact ite_n (by omega) rfl
/-- wants and likings begin with nothing -/
theorem flt_zero {s : Int} {σ : aS} (hL : LR σ) (s0 : 0 ≤ s) (s5 : s < 5) (h19 : aget σ 130 19 = s) (l1 : Int) :
    ∃ τ, aloop 132 (aU3 c12_floatLine_b131) aBig [130, l1, 0] σ = some (177, [130, l1], τ) ∧ Fp (fun x j => (x = 137 ∨ x = 139) ∧ 25 + 5 * s ≤ j ∧ j < 30 + 5 * s) σ τ ∧ ∀ g, 0 ≤ g → g < 5 → aget τ 137 (25 + (5 * s + g)) = 0 ∧ aget τ 139 (25 + (5 * s + g)) = 0 := by
  have hal := al_I (c := 132) (B := aU3 c12_floatLine_b131) (n := 5) (i := 0) (vs := [130, l1, 0]) (σ := σ)
    (fun k vs τ => 0 ≤ k ∧ vs = [130, l1, k] ∧ Fp (fun x j => (x = 137 ∨ x = 139) ∧ 25 + 5 * s ≤ j ∧ j < 30 + 5 * s) σ τ ∧ ∀ g, 0 ≤ g → g < k → aget τ 137 (25 + (5 * s + g)) = 0 ∧ aget τ 139 (25 + (5 * s + g)) = 0)
    (fun r => ∃ τ, r = (177, [130, l1], τ) ∧ Fp (fun x j => (x = 137 ∨ x = 139) ∧ 25 + 5 * s ≤ j ∧ j < 30 + 5 * s) σ τ ∧ ∀ g, 0 ≤ g → g < 5 → aget τ 137 (25 + (5 * s + g)) = 0 ∧ aget τ 139 (25 + (5 * s + g)) = 0) (by omega) (by omega) ⟨Int.le_refl _, rfl, Fp.rf _ _, fun g g0 g1 => by omega⟩ ?_
  · obtain ⟨r, hr, τ, rfl, h1, h2⟩ := hal
    exact ⟨τ, hr, h1, h2⟩
  · rintro k vs τ hk ⟨k0, rfl, hF, hz⟩
    have Lt : LR τ := hL.rr hF (fun x j q => by unfold wrr; omega)
    by_cases c : k < 5
    · have e19 : aget τ 130 19 = s := by rw [hF.g (by omega)]; exact h19
      have ei : w32 ((w32 (25 + (w32 (5 * s)))) + k) = 25 + (5 * s + k) := by rw [wq (x := 5 * s) (by omega) (by omega), wq (x := 25 + 5 * s) (by omega) (by omega), wq (by omega) (by omega)]; omega
      obtain ⟨τ1, h1⟩ : ∃ τ1, τ1 = aput τ 137 (25 + (5 * s + k)) 0 := ⟨_, rfl⟩
      have f1 : Fp (fun x j => (x = 137 ∨ x = 139) ∧ 25 + 5 * s ≤ j ∧ j < 30 + 5 * s) τ τ1 := by rw [h1]; exact (Fp.rf _ _).put _ (by omega)
      have L1 : LR τ1 := Lt.rr f1 (fun x j q => by unfold wrr; omega)
      have e19' : aget τ1 130 19 = s := by rw [f1.g (by omega)]; exact e19
      refine Or.inl ⟨c, [130, l1, k + 1], aput τ1 139 (25 + (5 * s + k)) 0, ?_, by omega, rfl, hF.tr (f1.put _ (by omega)), fun g g0 g1 => ?_⟩
      · show c12_floatLine_b131 130 l1 k τ = _
        unfold c12_floatLine_b131
        rw [r_130_28 Lt, n_137 Lt, e19, ei, ← h1, r_130_30 L1, n_139 L1, e19', ei, wq (x := k + 1) (by omega) (by omega)]
        exact ite_p c (ite_n (by omega) (ite_p (by omega) (ite_n (by omega) (ite_p (by omega) rfl))))
      · by_cases q : g = k
        · rw [q, ag_x (by omega), h1, ag_s, ag_s]; exact ⟨rfl, rfl⟩
        · rw [ag_x (by omega), ag_j (by omega), h1, ag_j (by omega), ag_x (by omega)]; exact hz g g0 (by omega)
    · have hk5 : k = 5 := by omega
      subst hk5
      refine Or.inr ⟨(177, [130, l1], τ), ?_, Nat.ne_of_beq_eq_false rfl, τ, rfl, hF, hz⟩
      show c12_floatLine_b131 130 l1 5 τ = _
      unfold c12_floatLine_b131
      exact ite_n (by omega) rfl
