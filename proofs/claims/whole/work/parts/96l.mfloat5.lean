/-! the reference reads: a float's line, the whole -/
theorem nwF_kk {b : Int → Int} {n P w most : Int} {T : aH} (h : ¬ most ≤ T 0 w) (kk : ¬ kd b n (nxp b n P) = 3 ∨ (kd b n (nxp b n P) = 3 ∧ ¬ aNamed T w (vlt b n (nxp b n P)) = -1)) : nwF b n T w most P = (if kd b n (nxp b n P) = 3 then 3 else 1, nxp b n P) ∧ (nwF b n T w most P).1 ≠ 0 := by
  have hf2 : nwF b n T w most P = (if kd b n (nxp b n P) = 3 then 3 else 1, nxp b n P) := by
    rw [nwF_r h]
    rcases kk with q | ⟨q, q2⟩
    · rw [if_neg q, if_neg q]
    · rw [if_pos q, if_neg q2, if_pos q]
  refine ⟨hf2, ?_⟩
  rw [hf2]
  show (if kd b n (nxp b n P) = 3 then (3 : Int) else 1) ≠ 0
  split <;> omega
theorem fltQ_s {b : Int → Int} {n P : Int} {T : aH} (h : (nwF b n T 1 5 P).1 ≠ 0) : fltQ b n P T = nwF b n T 1 5 P := by
  unfold fltQ
  rw [tkN_n (q := nwF b n T 1 5 P) h, tkN_n h, tkN_n h, tkN_n h]
/-- behind a float's name and numbers -/
theorem flt_rest {b : Int → Int} {n P : Int} {T : aH} {σ σ3 : aS} (hQ : QR T σ) (hI : TI T) (hn : n ≤ 800) (hz : (fltQ b n P T).1 = 0) (hs5 : T 0 1 < 5)
    (i1 : Fp (fun x j => (x = 130 ∧ 7 ≤ j ∧ j ≤ 11) ∨ (x = 135 ∧ j = 5 + T 0 1) ∨ (x = 136 ∧ 20 + 4 * T 0 1 ≤ j ∧ j < 24 + 4 * T 0 1)) σ σ3) (i3 : TKr b n (fltQ b n P T).2 σ3) (h19 : aget σ3 130 19 = T 0 1)
    (cn : aget σ3 135 (5 + T 0 1) = vlt b n (nxp b n P)) (cf : ∀ w, 0 ≤ w → w < 4 → aget σ3 136 (20 + (4 * T 0 1 + w)) = fltT b n P T 2 (4 * T 0 1 + w)) :
    ∃ v τ, c12_floatLine_p129 130 (20 + 4 * T 0 1) σ3 = some (0, [v], τ) ∧ Fp wrr σ τ ∧ OKr b n (lnWs b n (T 0 1) 800 (fltQ b n P T).2 (fltT b n P T)) v τ := by
  have s00 := hI.1.2.1.1
  obtain ⟨σ5, j1, j2, j3, j4, j5⟩ := flt_mid (l1 := 20 + 4 * T 0 1) i3.1.1 h19 s00 hs5
  have fA : Fp (wfl (T 0 1)) σ σ5 := (i1.mono (fun x j q => by unfold wfl; omega)).tr (j2.mono (fun x j q => by unfold wfl; omega))
  have wA : Fp wrr σ σ5 := fA.mono (fun x j q => by unfold wfl at q; unfold wrr; omega)
  have t5 : TKr b n (fltQ b n P T).2 σ5 := i3.pf j2 (fun x j q => by unfold wrr; omega) (fun x j q => by unfold wkt; omega)
  obtain ⟨v1, v2, v3, ⟨v4, -, -, -⟩, v5, v6, v7⟩ := fltT_v (b := b) (n := n) (P := P) (T := T)
  have hQF := flt_base hQ hI hs5 fA v1 v2 fltT_1 v3 v5 v6 v7 (by rw [j2.g (by omega)]; exact cn) (fun w w0 w4 => by rw [j2.g (by omega)]; exact cf w w0 w4) j3 j4 j5
  have hIU := fltT_I hI hz
  have hfB := (fltT_B hI.1 hz).2.2.2.1
  rw [j1]
  rcases wants_r (l1 := 20 + 4 * T 0 1) t5 hQF hIU s00 fltT_1 v4 hn with ⟨w1, τ, r1, r2, r3, r4, r5, r6⟩ | ⟨w1, τ, r1, r2, r3⟩
  · have ex3 : (lnWs b n (T 0 1) 800 (fltQ b n P T).2 (fltT b n P T)).2.2 0 3 = T 0 3 + vlt b n (nxp b n (nxp b n P)) := by
      rw [(lnWs_I s00 800 _ _ hIU.1 hIU.2.2.2.1 (by rw [fltT_1]; omega) w1).2 0 3 (by omega) (by omega), v3]
    rw [v3] at hfB
    obtain ⟨υ, k1, k2, k3, k4⟩ := flt_end r3 r4 r5 r6 s00 hs5 ex3 hfB
    exact ⟨1, υ, by rw [r1, k1], wA.tr ((r2.mono (fun x j q => wwt_r q)).tr k2), Or.inl ⟨rfl, w1, k3, k4⟩⟩
  · exact ⟨0, τ, r1, wA.tr r2, Or.inr ⟨rfl, w1, r3⟩⟩
theorem flt_fig {b : Int → Int} {n P : Int} {T : aH} {τ : aS} (hf : nwF b n T 1 5 P = (0, nxp b n (nxp b n P))) (hz : (fltQ b n P T).1 = 0) (i4 : ∀ i : Nat, i < 4 → aget τ 136 (20 + 4 * T 0 1 + i) = vlt b n (fqc b n (T 0 3) (0, nxp b n (nxp b n P)) i).2) : ∀ w, 0 ≤ w → w < 4 → aget τ 136 (20 + (4 * T 0 1 + w)) = fltT b n P T 2 (4 * T 0 1 + w) := by
  obtain ⟨-, -, -, -, -, -, -, -, -, p1, p2', p3⟩ := fltQ_z hz
  obtain ⟨-, -, -, ⟨c0, c1, c2, c3⟩, -, -, -⟩ := fltT_v (b := b) (n := n) (P := P) (T := T)
  rw [hf] at p1 p2' p3
  have qq1 : (fqc b n (T 0 3) (0, nxp b n (nxp b n P)) 1).2 = nxp b n (nxp b n (nxp b n P)) := p1
  have qq2 : (fqc b n (T 0 3) (0, nxp b n (nxp b n P)) 2).2 = nxp b n (nxp b n (nxp b n (nxp b n P))) := p2'
  have qq3 : (fqc b n (T 0 3) (0, nxp b n (nxp b n P)) 3).2 = nxp b n (nxp b n (nxp b n (nxp b n (nxp b n P)))) := p3
  intro w w0 w4
  rcases (show w = 0 ∨ w = 1 ∨ w = 2 ∨ w = 3 by omega) with q | q | q | q
  · have := i4 0 (by omega)
    rw [q, Int.add_zero, c0]
    rw [show 20 + 4 * T 0 1 + ((0 : Nat) : Int) = 20 + 4 * T 0 1 by omega] at this
    exact this
  · have := i4 1 (by omega)
    rw [qq1, show 20 + 4 * T 0 1 + ((1 : Nat) : Int) = 20 + (4 * T 0 1 + 1) by omega] at this
    rw [q, c1]; exact this
  · have := i4 2 (by omega)
    rw [qq2, show 20 + 4 * T 0 1 + ((2 : Nat) : Int) = 20 + (4 * T 0 1 + 2) by omega] at this
    rw [q, c2]; exact this
  · have := i4 3 (by omega)
    rw [qq3, show 20 + 4 * T 0 1 + ((3 : Nat) : Int) = 20 + (4 * T 0 1 + 3) by omega] at this
    rw [q, c3]; exact this
theorem c12_floatLine_ok {b : Int → Int} {n P : Int} {T : aH} {σ : aS} (h : TKr b n P σ) (hQ : QR T σ) (hI : TI T) (hn : n ≤ 800) : ∃ v τ, c12_floatLine 130 σ = some (0, [v], τ) ∧ Fp wrr σ τ ∧ OKr b n (lnF b n P T) v τ := by
  have s00 := hI.1.2.1
  have hf3 := hI.1.2.2.2.1
  have nm := hQ.nm.2.1
  have h19 : aget σ 130 19 = T 0 1 := by rw [hQ.1.2.1]; omega
  have h21 : aget σ 130 21 = T 0 3 := by rw [hQ.1.2.2.2.1]; omega
  unfold c12_floatLine lnF
  rw [h19]
  by_cases c5 : T 0 1 = 5
  · obtain ⟨τ, e1, e2, e3⟩ := c12_wrong_ok h 2
    have hf : nwF b n T 1 5 P = (2, P) := by unfold nwF; rw [if_pos (by omega)]
    have hn1 : (nwF b n T 1 5 P).1 ≠ 0 := by rw [hf]; show (2 : Int) ≠ 0; omega
    refine ⟨0, τ, ?_, e2, ?_⟩
    · rw [e1, acall1_some]; exact ite_p c5 (bz01 (Or.inl rfl))
    · rw [fltQ_s hn1, hf, if_pos (by show (2 : Int) ≠ 0; omega)]
      exact Or.inr ⟨rfl, by show (2 : Int) ≠ 0; omega, e3⟩
  · rw [if_neg c5]
    have hf := nwF_r (b := b) (n := n) (T := T) (w := 1) (most := 5) (P := P) (by omega)
    obtain ⟨σ1, e1, e2, e3⟩ := r_token h
    have f1 : Fp wrr σ σ1 := wtn_r (wkt_n e2)
    have e19 : aget σ1 130 19 = T 0 1 := by rw [e2.g (by unfold wkt; omega)]; exact h19
    have e21 : aget σ1 130 21 = T 0 3 := by rw [e2.g (by unfold wkt; omega)]; exact h21
    have nm1 : ∀ k, 0 ≤ k → k < T 0 1 → aget σ1 135 (5 + k) = T 11 (5 * 1 + k) := fun k k0 k1 => by rw [e2.g (by unfold wkt; omega)]; exact nm k k0 k1
    rw [e1, acall0_some, r_130_26 e3.1.1, if_neg (show ¬ (135 : Int) = 0 by omega), e19]
    rcases r_new e3 (T := T) (w := 1) (x := 135) (o := 5) (N := 10) (by omega) (by omega) (by omega) s00.1 (by omega) nm1 with ⟨⟨k3, kn⟩, σ2, g1, g2, g3, g4⟩ | ⟨kk, τ, g1, g2, g3⟩
    · rw [if_pos k3, if_pos kn] at hf
      have hq4 := fqc_4 (b := b) (n := n) (P := P) (T := T)
      rw [hf] at hq4
      have g2' : ∀ x j, (wkt x j ∨ (x = 135 ∧ j = 5 + T 0 1)) → (x = 130 ∧ 7 ≤ j ∧ j ≤ 10) ∨ (x = 135 ∧ j = 5 + T 0 1) := fun x j q => q
      have f2 : Fp wrr σ1 σ2 := g2.mono (fun x j q => by have := g2' x j q; unfold wrr; omega)
      have w19 : aget σ2 130 19 = T 0 1 := by rw [g2.g (fun q => by have := g2' _ _ q; omega)]; exact e19
      have w21 : aget σ2 130 21 = T 0 3 := by rw [g2.g (fun q => by have := g2' _ _ q; omega)]; exact e21
      have e4s : w32 (20 + (w32 (4 * T 0 1))) = 20 + 4 * T 0 1 := by rw [wq (x := 4 * T 0 1) (by omega) (by omega), wq (by omega) (by omega)]
      obtain ⟨r, hr, hcase⟩ := flt_nums g3 s00.1 (show T 0 1 < 5 by omega) hf3.1 hf3.2
      rw [← hq4] at hcase
      rw [g1, acall1_some, if_neg (show ¬ (1 : Int) = 0 by omega), w19, w21, e4s, wq (x := 12 - T 0 3) (by omega) (by omega)]
      unfold c12_floatLine_l56
      rw [hr]
      rcases hcase with ⟨τ, rfl, i1, i2, i3⟩ | ⟨σ3, rfl, i1, i2, i3, i4⟩
      · rw [if_pos i2]
        exact ⟨0, τ, rfl, f1.tr (f2.tr i1), Or.inr ⟨rfl, i2, i3⟩⟩
      · rw [if_neg (show ¬ (fltQ b n P T).1 ≠ 0 from fun q => q i2)]
        have nm3 : ∀ x j, (wtn x j ∨ (x = 136 ∧ 20 + 4 * T 0 1 ≤ j ∧ j < 24 + 4 * T 0 1)) → (x = 130 ∧ 7 ≤ j ∧ j ≤ 11) ∨ (x = 136 ∧ 20 + 4 * T 0 1 ≤ j ∧ j < 24 + 4 * T 0 1) := fun x j q => q
        show ∃ v τ, c12_floatLine_p129 130 (20 + 4 * T 0 1) σ3 = some (0, [v], τ) ∧ _
        refine flt_rest hQ hI hn i2 (by omega) ?_ i3 ?_ ?_ (flt_fig hf i2 i4)
        · have a1 := e2.mono (Q := fun x j => (x = 130 ∧ 7 ≤ j ∧ j ≤ 11) ∨ (x = 135 ∧ j = 5 + T 0 1) ∨ (x = 136 ∧ 20 + 4 * T 0 1 ≤ j ∧ j < 24 + 4 * T 0 1)) (fun x j q => by unfold wkt at q; omega)
          have a2 := g2.mono (Q := fun x j => (x = 130 ∧ 7 ≤ j ∧ j ≤ 11) ∨ (x = 135 ∧ j = 5 + T 0 1) ∨ (x = 136 ∧ 20 + 4 * T 0 1 ≤ j ∧ j < 24 + 4 * T 0 1)) (fun x j q => by have := g2' x j q; omega)
          have a3 := i1.mono (Q := fun x j => (x = 130 ∧ 7 ≤ j ∧ j ≤ 11) ∨ (x = 135 ∧ j = 5 + T 0 1) ∨ (x = 136 ∧ 20 + 4 * T 0 1 ≤ j ∧ j < 24 + 4 * T 0 1)) (fun x j q => by have := nm3 x j q; omega)
          exact a1.tr (a2.tr a3)
        · rw [i1.g (fun q => by have := nm3 _ _ q; omega)]; exact w19
        · rw [i1.g (fun q => by have := nm3 _ _ q; omega)]; exact g4
    · obtain ⟨hf2, hz⟩ := nwF_kk (b := b) (n := n) (P := P) (w := 1) (most := 5) (T := T) (by omega) kk
      rw [fltQ_s hz, if_pos hz, g1, acall1_some, if_pos rfl]
      exact ⟨0, τ, bz01 (Or.inl rfl), f1.tr g2, Or.inr ⟨rfl, hz, by rw [hf2]; exact g3⟩⟩
