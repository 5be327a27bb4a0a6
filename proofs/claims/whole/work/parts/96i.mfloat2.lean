/-! the reference reads: floats -/
def QF (U : aH) (m : Int) (σ : aS) : Prop := Q0 U 1 0 m σ ∧ Qg U σ ∧ Qs U σ ∧ Qt U σ ∧ Qk U σ
/-- what wants change -/
def wwt (x j : Int) : Prop := wtn x j ∨ (x = 137 ∧ 25 ≤ j) ∨ x = 138
theorem wwt_r {x j : Int} (h : wwt x j) : wrr x j := by
  rcases h with u | u | u
  · unfold wtn at u; unfold wrr; omega
  · unfold wrr; omega
  · unfold wrr; omega
theorem want_step {b : Int → Int} {n s P m l1 : Int} {U : aH} {σ : aS} (h : TKr b n P σ) (hQ : QF U m σ) (hI : TI U) (s0 : 0 ≤ s) (es : U 0 1 = s + 1) (hk : kd b n P = 102) :
    ((lnW b n s P U).1 = 0 ∧ ∃ τ, aU2 c12_floatLine_b196 [130, l1] σ = some (197, [130, l1], τ) ∧ Fp wwt σ τ ∧ TKr b n (lnW b n s P U).2.1 τ ∧ QF (lnW b n s P U).2.2 m τ) ∨
    ((lnW b n s P U).1 ≠ 0 ∧ ∃ τ r, aU2 c12_floatLine_b196 [130, l1] σ = some r ∧ (r = (0, [0], τ) ∨ r = (249, [130], τ) ∧ False ∨ (r.1 = 249 ∧ r.2.1 = [130] ∧ c12_floatLine_p248 130 r.2.2 = some (0, [0], τ))) ∧ Fp wrr σ τ ∧ FRr (lnW b n s P U).1 (lnW b n s P U).2.1 τ) := by
  obtain ⟨⟨q5, q51, q4⟩, q13, q9⟩ := hI.q
  have g00 := hI.1.1.1
  obtain ⟨h0, hg, hs, ht, hkk⟩ := hQ
  have h18 : aget σ 130 18 = U 0 0 := h0.1
  have h19 : aget σ 130 19 = s := by rw [h0.2.1]; omega
  have hkey := r_key h (i := 2) (by omega) (by omega)
  rw [show rkw 2 = 6 from rfl, if_pos (show kd b n P = 100 + 2 by omega)] at hkey
  obtain ⟨σ1, e1, e2, e3⟩ := r_token h
  have f1 : Fp wtn σ σ1 := wkt_n e2
  have nm : ∀ k, 0 ≤ k → k < U 0 0 → aget σ1 133 (5 + k) = U 11 (5 * 0 + k) := fun k k0 k1 => by rw [e2.g (by unfold wkt; omega), show 5 * 0 + k = k by omega]; exact (hg k k0 k1).1
  have e18 : aget σ1 130 18 = U 0 0 := by rw [e2.g (by unfold wkt; omega)]; exact h18
  have start : ∀ r : Option (Nat × List Int × aS), (acall1 (c12_oldName 130 133 5 (U 0 0) σ1) fun v3 σ3 => (if v3 = 0 then (if (0 : Int) = 0 ∨ (0 : Int) = 1 then some (0, [0], σ3) else none) else (if aget σ3 130 29 = 0 then none else (if (0 : Int) ≤ aget σ3 130 19 ∧ aget σ3 130 19 < alen σ3 (aget σ3 130 29) then (acall1 (c12_isOf (aget σ3 (aget σ3 130 29) (aget σ3 130 19)) (aget σ3 130 11) σ3) fun v4 σ4 => (if v4 = 0 then (if aget σ4 130 29 = 0 then none else (if (0 : Int) ≤ aget σ4 130 19 ∧ aget σ4 130 19 < alen σ4 (aget σ4 130 29) then (if (0 : Int) ≤ aget σ4 130 19 ∧ aget σ4 130 19 < alen σ4 (aget σ4 130 29) then (acall0 (c12_token 130 (aput σ4 (aget σ4 130 29) (aget σ4 130 19) (aor (aget σ4 (aget σ4 130 29) (aget σ4 130 19)) (ashl 1 (aget σ3 130 11))))) fun σ5 => (acall1 (c12_number 130 0 99 σ5) fun v6 σ6 => c12_floatLine_p280 v6 130 l1 (aget σ3 130 11) σ6)) else none) else none)) else some (249, [130], σ4))) else none)))) = r → aU2 c12_floatLine_b196 [130, l1] σ = r := by
    intro r hr
    show c12_floatLine_b196 130 l1 σ = r
    unfold c12_floatLine_b196
    rw [hkey, acall1_some, if_neg (show ¬ (1 : Int) = 0 by omega), e1, acall0_some, r_130_24 e3.1.1, if_neg (show ¬ (133 : Int) = 0 by omega), e18]
    exact hr
  unfold lnW
  rcases r_old e3 (T := U) (w := 0) (x := 133) (o := 5) (N := 10) (by omega) (by omega) (by omega) g00 (by omega) nm with ⟨z, hgr, σ2, g1, g2, g3, g4⟩ | ⟨z, τ, g1, g2, g3⟩
  · rw [if_neg (show ¬ odF b n U 0 (nxp b n P) ≠ 0 from fun q => q z)]
    have f2 : Fp wtn σ σ2 := f1.tr (g2.mono (fun x j q => by unfold wtn; omega))
    have L2 := g3.1.1
    have w19 : aget σ2 130 19 = s := by rw [f2.g (by unfold wtn; omega)]; exact h19
    generalize aNamed U 0 (vlt b n (nxp b n P)) = g at hgr g4 ⊢
    obtain ⟨s1, s2, s3, s4, s5⟩ := hs s s0 (by omega)
    have s3g := (s3 g hgr.1 (by omega)).2.2.1
    have e138 : aget σ2 138 s = aget σ 138 s := f2.g (by unfold wtn; omega)
    have hof := c12_isOf_ok (x := aget σ 138 s) (k := g) s4.1 (by omega) hgr.1 (by omega) σ2
    rw [s3g] at hof
    by_cases c : U 20 (5 * s + g) = 0
    · rw [if_neg (show ¬ U 20 (5 * s + g) ≠ 0 from fun q => q c)]
      rw [c] at hof
      obtain ⟨rb1, rb2⟩ := rb_bit s4.1 s4.2 hgr.1 (show g < 5 by omega)
      obtain ⟨σ5, h5⟩ : ∃ σ5, σ5 = aput σ2 138 s (aor (aget σ 138 s) (ashl 1 g)) := ⟨_, rfl⟩
      have f5 : Fp (fun x j => x = 138 ∧ j = s) σ2 σ5 := by rw [h5]; exact (Fp.rf _ _).put _ ⟨rfl, rfl⟩
      have t5 := g3.pf f5 (fun x j q => by unfold wrr; omega) (fun x j q => by unfold wkt; omega)
      obtain ⟨σ6, k1, k2, k3⟩ := r_token t5
      have w2 : ∀ {α β : aS}, Fp wtn α β → Fp wwt α β := fun hF => hF.mono (fun x j q => Or.inl q)
      have f6 : Fp wwt σ σ6 := (w2 f2).tr ((f5.mono (fun x j q => Or.inr (Or.inr q.1))).tr (w2 (wkt_n k2)))
      have reach : ∀ r, (acall1 (c12_number 130 0 99 σ6) fun v6 σ7 => c12_floatLine_p280 v6 130 l1 g σ7) = r → aU2 c12_floatLine_b196 [130, l1] σ = r := by
        intro r hr
        refine start r ?_
        rw [g1, acall1_some, if_neg (show ¬ (1 : Int) = 0 by omega), r_130_29 L2, n_138 L2, w19, e138, g4, hof, acall1_some, if_pos rfl, r_130_29 L2, n_138 L2, w19, e138, ← h5, k1, acall0_some]
        exact ite_n (by omega) (ite_p (by omega) (ite_n (by omega) (ite_p (by omega) (ite_p (by omega) hr))))
      rcases r_num k3 0 (hi := 99) (by omega) with ⟨y, hv, σ7, i1, i2, i3, i4⟩ | ⟨y, τ, i1, i2, i3⟩
      · left
        rw [if_neg (show ¬ pNum b n 0 99 (nxp b n (nxp b n P)) ≠ 0 from fun q => q y)]
        have L7 := i3.1.1
        have w7 : aget σ7 130 19 = s := by rw [i2.g (by unfold wtn; omega), k2.g (by unfold wkt; omega), f5.g (by omega)]; exact w19
        have ei : w32 ((w32 (25 + (w32 (5 * s)))) + g) = 25 + (5 * s + g) := by rw [wq (x := 5 * s) (by omega) (by omega), wq (x := 25 + 5 * s) (by omega) (by omega), wq (by omega) (by omega)]; omega
        obtain ⟨σ8, h8⟩ : ∃ σ8, σ8 = aput σ7 137 (25 + (5 * s + g)) (vlt b n (nxp b n (nxp b n P))) := ⟨_, rfl⟩
        have f8 : Fp (fun x j => x = 137 ∧ j = 25 + (5 * s + g)) σ7 σ8 := by rw [h8]; exact (Fp.rf _ _).put _ ⟨rfl, rfl⟩
        have fA : Fp wwt σ σ8 := f6.tr ((w2 i2).tr (f8.mono (fun x j q => Or.inr (Or.inl (by omega)))))
        have fB : Fp (fun x j => wtn x j ∨ (x = 138 ∧ j = s) ∨ (x = 137 ∧ j = 25 + (5 * s + g))) σ σ8 := by
          have a1 := f2.mono (Q := fun x j => wtn x j ∨ (x = 138 ∧ j = s) ∨ (x = 137 ∧ j = 25 + (5 * s + g))) (fun x j q => Or.inl q)
          have a2 := f5.mono (Q := fun x j => wtn x j ∨ (x = 138 ∧ j = s) ∨ (x = 137 ∧ j = 25 + (5 * s + g))) (fun x j q => Or.inr (Or.inl q))
          have a3 := (wkt_n k2).mono (Q := fun x j => wtn x j ∨ (x = 138 ∧ j = s) ∨ (x = 137 ∧ j = 25 + (5 * s + g))) (fun x j q => Or.inl q)
          have a4 := i2.mono (Q := fun x j => wtn x j ∨ (x = 138 ∧ j = s) ∨ (x = 137 ∧ j = 25 + (5 * s + g))) (fun x j q => Or.inl q)
          have a5 := f8.mono (Q := fun x j => wtn x j ∨ (x = 138 ∧ j = s) ∨ (x = 137 ∧ j = 25 + (5 * s + g))) (fun x j q => Or.inr (Or.inr q))
          exact a1.tr (a2.tr (a3.tr (a4.tr a5)))
        refine ⟨rfl, σ8, reach _ ?_, fA, i3.pf f8 (fun x j q => by unfold wrr; omega) (fun x j q => by unfold wkt; omega), ?_⟩
        · rw [i1, acall1_some]
          unfold c12_floatLine_p280
          rw [r_130_28 L7, n_137 L7, w7, ei, i4, ← h8]
          exact ite_n (by omega) (ite_n (by omega) (ite_p (by omega) rfl))
        · obtain ⟨V, hV⟩ : ∃ V, V = stv (stv U 20 (5 * s + g) 1) 3 (5 * s + g) (vlt b n (nxp b n (nxp b n P))) := ⟨_, rfl⟩
          show QF (stv (stv U 20 (5 * s + g) 1) 3 (5 * s + g) (vlt b n (nxp b n (nxp b n P)))) m σ8
          rw [← hV]
          have ux : ∀ a i, a ≠ 20 → a ≠ 3 → V a i = U a i := fun a i a0 a1 => by rw [hV, stv_x a1, stv_x a0]
          have u4 : ∀ i, i ≠ 5 * s + g → V 3 i = U 3 i ∧ V 20 i = U 20 i := fun i hi => by rw [hV, stv_j hi, stv_x (show (3 : Int) ≠ 20 by omega), stv_x (show (20 : Int) ≠ 3 by omega), stv_j hi]; exact ⟨rfl, rfl⟩
          have u4s : V 3 (5 * s + g) = vlt b n (nxp b n (nxp b n P)) := by rw [hV, stv_s]
          have u21s : V 20 (5 * s + g) = 1 := by rw [hV, stv_x (by omega), stv_s]
          have nw : ∀ x j, (wtn x j ∨ (x = 138 ∧ j = s) ∨ (x = 137 ∧ j = 25 + (5 * s + g))) → (x = 130 ∧ 7 ≤ j ∧ j ≤ 11) ∨ (x = 138 ∧ j = s) ∨ (x = 137 ∧ j = 25 + (5 * s + g)) := fun x j q => q
          refine ⟨(h0.fp fB (fun x j q => by have := nw x j q; omega)).cg (fun i _ _ => ux 0 i (by omega) (by omega)) (ux 24 0 (by omega) (by omega)), hg.cg fB (fun x j q => by have := nw x j q; omega) (ux 0 0 (by omega) (by omega)) (fun g _ _ => ⟨ux 11 g (by omega) (by omega), ux 1 g (by omega) (by omega)⟩), fun r r0 r1 => ?_, ht.cg fB (fun x j q => by have := nw x j q; unfold cqt; omega) q4 q13 (ux 0 2 (by omega) (by omega)) (fun i i0 i1 => ux 11 i (by omega) (by omega)) (fun a ha i => ux a i (by omega) (by omega)), hkk.cg fB (fun x j q => by have := nw x j q; unfold cqk; omega) q9 (ux 0 2 (by omega) (by omega)) (fun a ha i => ux a i (by omega) (by omega))⟩
          rw [ux 0 1 (by omega) (by omega)] at r1
          have gn : ∀ x j, ¬ ((x = 130 ∧ 7 ≤ j ∧ j ≤ 11) ∨ (x = 138 ∧ j = s) ∨ (x = 137 ∧ j = 25 + (5 * s + g))) → aget σ8 x j = aget σ x j := fun x j q => fB.g (fun w => q (nw x j w))
          by_cases q : r = s
          · subst q
            have g0 : aget σ8 138 r = aor (aget σ 138 r) (ashl 1 g) := by rw [f8.g (by omega), i2.g (by unfold wtn; omega), k2.g (by unfold wkt; omega), h5, ag_s]
            refine ⟨?_, fun w w0 w1 => ?_, fun w w0 w1 => ?_, ?_, ?_⟩
            · rw [gn _ _ (by omega), ux 11 _ (by omega) (by omega)]; exact s1
            · rw [gn _ _ (by omega), ux 2 _ (by omega) (by omega)]; exact s2 w w0 w1
            · obtain ⟨x1, x2, x3, x4⟩ := s3 w w0 w1
              rw [g0, rb2 w w0, gn 139 _ (by omega), gn 140 _ (by omega), ux 4 _ (by omega) (by omega), ux 21 _ (by omega) (by omega)]
              by_cases qw : w = g
              · rw [if_pos qw, qw, u4s, u21s, h8, ag_s]
                rw [qw] at x2 x4
                exact ⟨rfl, x2, rfl, x4⟩
              · rw [if_neg qw, (u4 (5 * r + w) (by omega)).1, (u4 (5 * r + w) (by omega)).2, gn 137 _ (by omega)]
                exact ⟨x1, x2, x3, x4⟩
            · rw [g0]; exact rb1
            · rw [gn 140 _ (by omega)]; exact s5
          · exact (hs r r0 r1).cg r0 (fun x j hx => gn x j (by omega)) (ux 11 _ (by omega) (by omega)) (fun w _ _ => ux 2 _ (by omega) (by omega)) (fun w w0 w1 => ⟨(u4 _ (by omega)).1, ux 4 _ (by omega) (by omega), (u4 _ (by omega)).2, ux 21 _ (by omega) (by omega)⟩)
      · right
        rw [if_pos y]
        refine ⟨y, τ, (0, [0], τ), reach _ ?_, Or.inl rfl, (f6.mono (fun x j q => wwt_r q)).tr i2, i3⟩
        rw [i1, acall1_some]
        unfold c12_floatLine_p280
        exact ite_p rfl (bz01 (Or.inl rfl))
    · right
      rw [if_pos (show U 20 (5 * s + g) ≠ 0 from c)]
      obtain ⟨τ, k1, k2, k3⟩ := c12_wrong_ok g3 3
      refine ⟨by show (3 : Int) ≠ 0; omega, τ, (249, [130], σ2), start _ ?_, Or.inr (Or.inr ⟨rfl, rfl, ?_⟩), (wtn_r f2).tr k2, k3⟩
      · rw [g1, acall1_some, if_neg (show ¬ (1 : Int) = 0 by omega), r_130_29 L2, n_138 L2, w19, e138, g4, hof, acall1_some, if_neg c]
        exact ite_n (by omega) (ite_p (by omega) rfl)
      · unfold c12_floatLine_p248
        rw [k1, acall1_some]
        exact bz01 (Or.inl rfl)
  · right
    rw [if_pos z]
    refine ⟨z, τ, (0, [0], τ), start _ ?_, Or.inl rfl, (wtn_r f1).tr g2, g3⟩
    rw [g1, acall1_some, if_pos rfl]
    exact bz01 (Or.inl rfl)
