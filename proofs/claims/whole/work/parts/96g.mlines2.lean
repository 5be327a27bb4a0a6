/-! the reference reads: storms, likings -/
theorem c12_stormLine_ok {b : Int → Int} {n P : Int} {T : aH} {σ : aS} (h : TKr b n P σ) (hQ : QR T σ) (hI : TI T) : ∃ v τ, c12_stormLine 130 σ = some (0, [v], τ) ∧ Fp wrr σ τ ∧ OKr b n (lnS b n P T) v τ := by
  obtain ⟨⟨q5, q51, q4⟩, q13, q9⟩ := hI.q
  have h05 := hI.2.2.2.2.1
  obtain ⟨h0, hg, hs, ht, hk⟩ := hQ
  have e22 : aget σ 130 22 = T 0 5 := h0.2.2.2.2.1
  unfold c12_stormLine lnS
  rw [e22]
  by_cases c : T 0 5 = 0
  · rw [if_neg (show ¬ T 0 5 ≠ 0 from fun q => q c), if_neg (show ¬ 0 < T 0 5 by omega)]
    obtain ⟨σ1, e1, e2, e3⟩ := r_token h
    have f1 : Fp wrr σ σ1 := wtn_r (wkt_n e2)
    rw [e1, acall0_some]
    rcases r_num e3 2 (hi := 99) (by omega) with ⟨y, hv, σ3, i1, i2, i3, i4⟩ | ⟨y, τ, i1, i2, i3⟩
    · rw [if_neg (show ¬ pNum b n 2 99 (nxp b n P) ≠ 0 from fun q => q y), i1, acall1_some, if_neg (show ¬ (1 : Int) = 0 by omega), i4]
      have f4 : Fp (fun x j => x = 130 ∧ j = 22) σ3 (aput σ3 130 22 (vlt b n (nxp b n P))) := (Fp.rf _ _).put _ ⟨rfl, rfl⟩
      have f4' : Fp wrr σ3 (aput σ3 130 22 (vlt b n (nxp b n P))) := f4.mono (fun x j q => by unfold wrr; omega)
      have fA : Fp (fun x j => x = 130 ∧ ((7 ≤ j ∧ j ≤ 11) ∨ j = 22)) σ (aput σ3 130 22 (vlt b n (nxp b n P))) := by
        have a1 := e2.mono (Q := fun x j => x = 130 ∧ ((7 ≤ j ∧ j ≤ 11) ∨ j = 22)) (fun x j q => by unfold wkt at q; omega)
        have a3 := i2.mono (Q := fun x j => x = 130 ∧ ((7 ≤ j ∧ j ≤ 11) ∨ j = 22)) (fun x j q => by unfold wtn at q; omega)
        have a4 := f4.mono (Q := fun x j => x = 130 ∧ ((7 ≤ j ∧ j ≤ 11) ∨ j = 22)) (fun x j q => by omega)
        exact a1.tr (a3.tr a4)
      refine ⟨1, _, bz01 (Or.inr rfl), f1.tr ((wtn_r i2).tr f4'), Or.inl ⟨rfl, rfl, i3.pf f4 (fun x j q => by unfold wrr; omega) (fun x j q => by unfold wkt; omega), ?_⟩⟩
      obtain ⟨U, hU⟩ : ∃ U, U = stv T 0 5 (vlt b n (nxp b n P)) := ⟨_, rfl⟩
      show QR (stv T 0 5 (vlt b n (nxp b n P))) _
      rw [← hU]
      have u5 : U 0 5 = vlt b n (nxp b n P) := by rw [hU, stv_s]
      have u0 : ∀ i, i ≠ 5 → U 0 i = T 0 i := fun i hi => by rw [hU, stv_j hi]
      have ux : ∀ a i, a ≠ 0 → U a i = T a i := fun a i a0 => by rw [hU, stv_x a0]
      refine ⟨?_, hg.cg fA (fun x j q => by omega) (u0 0 (by omega)) (fun g _ _ => ⟨ux 11 g (by omega), ux 1 g (by omega)⟩), hs.cg fA (fun x j q => by unfold cqs; omega) q51 (u0 1 (by omega)) (fun i _ _ => ux 11 i (by omega)) (fun a ha i => ux a i (by omega)), ht.cg fA (fun x j q => by unfold cqt; omega) q4 q13 (u0 2 (by omega)) (fun i i0 i1 => ux 11 i (by omega)) (fun a ha i => ux a i (by omega)), hk.cg fA (fun x j q => by unfold cqk; omega) q9 (u0 2 (by omega)) (fun a ha i => ux a i (by omega))⟩
      unfold Q0 at h0 ⊢
      rw [fA.g (x := 130) (j := 18) (by omega), fA.g (x := 130) (j := 19) (by omega), fA.g (x := 130) (j := 20) (by omega), fA.g (x := 130) (j := 21) (by omega), fA.g (x := 130) (j := 23) (by omega), fA.g (x := 130) (j := 49) (by omega), fA.g (x := 130) (j := 4) (by omega), fA.g (x := 130) (j := 5) (by omega), u0 0 (by omega), u0 1 (by omega), u0 2 (by omega), u0 3 (by omega), u0 4 (by omega), u5, ux 24 0 (by omega), ag_s]
      exact ⟨h0.1, h0.2.1, h0.2.2.1, h0.2.2.2.1, rfl, h0.2.2.2.2.2⟩
    · rw [if_pos y, i1, acall1_some, if_pos rfl]
      exact ⟨0, τ, bz01 (Or.inl rfl), f1.tr i2, Or.inr ⟨rfl, y, i3⟩⟩
  · rw [if_pos (show T 0 5 ≠ 0 from c), if_pos (show 0 < T 0 5 by omega)]
    obtain ⟨τ, e1, e2, e3⟩ := c12_wrong_ok h 3
    refine ⟨0, τ, ?_, e2, Or.inr ⟨rfl, by show (3 : Int) ≠ 0; omega, e3⟩⟩
    rw [e1, acall1_some]; exact bz01 (Or.inl rfl)
/-- a bit told in the reference's word -/
theorem rb_bit {w k : Int} (w0 : 0 ≤ w) (w1 : w < 32) (k0 : 0 ≤ k) (k1 : k < 5) : (0 ≤ aor w (ashl 1 k) ∧ aor w (ashl 1 k) < 32) ∧ ∀ j, 0 ≤ j → bI (aor w (ashl 1 k)) j = if j = k then 1 else bI w j := by
  have := aor_bd (x := w) (k := k) (b := 5) w0 (by show w < 32; exact w1) k0 (by omega) (by omega)
  exact ⟨this, fun j j0 => bI_or w0 (by omega) k0 (by omega) j0⟩
theorem c12_likeLine_ok {b : Int → Int} {n P : Int} {T : aH} {σ : aS} (h : TKr b n P σ) (hQ : QR T σ) (hI : TI T) : ∃ v τ, c12_likeLine 130 σ = some (0, [v], τ) ∧ Fp wrr σ τ ∧ OKr b n (lnL b n P T) v τ := by
  obtain ⟨⟨q5, q51, q4⟩, q13, q9⟩ := hI.q
  have s00 := hI.1.2.1.1
  have nm := hQ.nm.2.1
  obtain ⟨h0, hg, hs, ht, hk⟩ := hQ
  have h19 : aget σ 130 19 = T 0 1 := by rw [h0.2.1]; omega
  unfold c12_likeLine lnL
  obtain ⟨σ1, e1, e2, e3⟩ := r_token h
  have f1 : Fp wtn σ σ1 := wkt_n e2
  have nmF : ∀ {τ : aS}, Fp wtn σ τ → ∀ k, 0 ≤ k → k < T 0 1 → aget τ 135 (5 + k) = T 11 (5 * 1 + k) := fun hF k k0 k1 => by rw [hF.g (by unfold wtn; omega)]; exact nm k k0 k1
  have e19 : ∀ {τ : aS}, Fp wtn σ τ → aget τ 130 19 = T 0 1 := fun hF => by rw [hF.g (by unfold wtn; omega)]; exact h19
  rw [e1, acall0_some, r_130_26 e3.1.1, if_neg (show ¬ (135 : Int) = 0 by omega), e19 f1]
  rcases r_old e3 (T := T) (w := 1) (x := 135) (o := 5) (N := 10) (by omega) (by omega) (by omega) s00 (by omega) (nmF f1) with ⟨z, hsr, σ2, g1, g2, g3, g4⟩ | ⟨z, τ, g1, g2, g3⟩
  · have f2 : Fp wtn σ σ2 := f1.tr (g2.mono (fun x j q => by unfold wtn; omega))
    rw [if_neg (show ¬ odF b n T 1 (nxp b n P) ≠ 0 from fun q => q z), g1, acall1_some, if_neg (show ¬ (1 : Int) = 0 by omega), g4]
    obtain ⟨σ3, i1, i2, i3⟩ := r_token g3
    have f3 : Fp wtn σ σ3 := f2.tr (wkt_n i2)
    rw [i1, acall0_some, r_130_26 i3.1.1, if_neg (show ¬ (135 : Int) = 0 by omega), e19 f3]
    rcases r_old i3 (T := T) (w := 1) (x := 135) (o := 5) (N := 10) (by omega) (by omega) (by omega) s00 (by omega) (nmF f3) with ⟨z2, hor, σ4, j1, j2, j3, j4⟩ | ⟨z2, τ, j1, j2, j3⟩
    · have f4 : Fp wtn σ σ4 := f3.tr (j2.mono (fun x j q => by unfold wtn; omega))
      have L4 := j3.1.1
      rw [if_neg (show ¬ odF b n T 1 (nxp b n (nxp b n P)) ≠ 0 from fun q => q z2), j1, acall1_some, if_neg (show ¬ (1 : Int) = 0 by omega), j4]
      unfold lkI
      generalize aNamed T 1 (vlt b n (nxp b n P)) = s at hsr
      generalize aNamed T 1 (vlt b n (nxp b n (nxp b n P))) = o at hor
      obtain ⟨s1, s2, s3, -, s5⟩ := hs s hsr.1 hsr.2
      have s3o := (s3 o hor.1 (by omega)).2.2.2
      have e140 : aget σ4 140 s = aget σ 140 s := f4.g (by unfold wtn; omega)
      rw [r_130_31 L4, n_140 L4, e140, c12_isOf_ok s5.1 (by omega) hor.1 (by omega), acall1_some, s3o, if_neg (show ¬ (140 : Int) = 0 by omega), if_pos (show 0 ≤ s ∧ s < 10 by omega)]
      by_cases c : T 21 (5 * s + o) = 0
      · rw [if_pos c, if_neg (show ¬ T 21 (5 * s + o) ≠ 0 from fun q => q c)]
        obtain ⟨rb1, rb2⟩ := rb_bit s5.1 s5.2 hor.1 (show o < 5 by omega)
        obtain ⟨σ5, h5⟩ : ∃ σ5, σ5 = aput σ4 140 s (aor (aget σ 140 s) (ashl 1 o)) := ⟨_, rfl⟩
        have f5 : Fp (fun x j => x = 140 ∧ j = s) σ4 σ5 := by rw [h5]; exact (Fp.rf _ _).put _ ⟨rfl, rfl⟩
        have t5 := j3.pf f5 (fun x j q => by unfold wrr; omega) (fun x j q => by unfold wkt; omega)
        obtain ⟨σ6, k1, k2, k3⟩ := r_token t5
        rw [r_130_31 L4, n_140 L4, e140, ← h5, k1, acall0_some]
        -- behind the sign
        have fin : ∀ (k P4 : Int) (σ7 : aS), TKr b n P4 σ7 → Fp (fun x j => wtn x j ∨ (x = 140 ∧ j = s)) σ σ7 → aget σ7 140 s = aor (aget σ 140 s) (ashl 1 o) → ∃ v τ, c12_likeLine_p104 130 s o k σ7 = some (0, [v], τ) ∧ Fp wrr σ τ ∧
            OKr b n (if pNum b n 0 20 P4 ≠ 0 then (pNum b n 0 20 P4, P4, T) else (0, nxp b n P4, stv (stv T 21 (5 * s + o) 1) 4 (5 * s + o) (if k = 0 then vlt b n P4 else -vlt b n P4))) v τ := by
          intro k P4 σ7 t7 f7 w7
          have f7' : Fp wrr σ σ7 := f7.mono (fun x j q => by unfold wtn at q; unfold wrr; omega)
          unfold c12_likeLine_p104
          rcases r_num t7 0 (hi := 20) (by omega) with ⟨y, hv, σ8, m1, m2, m3, m4⟩ | ⟨y, τ, m1, m2, m3⟩
          · have L8 := m3.1.1
            rw [if_neg (show ¬ pNum b n 0 20 P4 ≠ 0 from fun q => q y), m1, acall1_some, if_neg (show ¬ (1 : Int) = 0 by omega), r_130_30 L8, if_neg (show ¬ (139 : Int) = 0 by omega), m4]
            have ei : w32 ((w32 (25 + (w32 (5 * s)))) + o) = 25 + (5 * s + o) := by rw [wq (x := 5 * s) (by omega) (by omega), wq (x := 25 + 5 * s) (by omega) (by omega), wq (by omega) (by omega)]; omega
            rw [ei]
            have goon : ∀ u : Int, ∃ v τ, c12_likeLine_p144 u (25 + (5 * s + o)) 139 σ8 = some (0, [v], τ) ∧ Fp wrr σ τ ∧ OKr b n (0, nxp b n P4, stv (stv T 21 (5 * s + o) 1) 4 (5 * s + o) u) v τ := by
              intro u
              obtain ⟨σ9, h9⟩ : ∃ σ9, σ9 = aput σ8 139 (25 + (5 * s + o)) u := ⟨_, rfl⟩
              have f9 : Fp (fun x j => x = 139 ∧ j = 25 + (5 * s + o)) σ8 σ9 := by rw [h9]; exact (Fp.rf _ _).put _ ⟨rfl, rfl⟩
              have fA : Fp (fun x j => wtn x j ∨ (x = 140 ∧ j = s) ∨ (x = 139 ∧ j = 25 + (5 * s + o))) σ σ9 := by
                have a1 := f7.mono (Q := fun x j => wtn x j ∨ (x = 140 ∧ j = s) ∨ (x = 139 ∧ j = 25 + (5 * s + o))) (fun x j q => q.elim Or.inl (fun u => Or.inr (Or.inl u)))
                have a2 := m2.mono (Q := fun x j => wtn x j ∨ (x = 140 ∧ j = s) ∨ (x = 139 ∧ j = 25 + (5 * s + o))) (fun x j q => Or.inl q)
                have a3 := f9.mono (Q := fun x j => wtn x j ∨ (x = 140 ∧ j = s) ∨ (x = 139 ∧ j = 25 + (5 * s + o))) (fun x j q => Or.inr (Or.inr q))
                exact a1.tr (a2.tr a3)
              refine ⟨1, σ9, ?_, fA.mono (fun x j q => by unfold wtn at q; unfold wrr; omega), Or.inl ⟨rfl, rfl, m3.pf f9 (fun x j q => by unfold wrr; omega) (fun x j q => by unfold wkt; omega), ?_⟩⟩
              · unfold c12_likeLine_p144
                rw [n_139 L8, ← h9]
                exact ite_p (by omega) (bz01 (Or.inr rfl))
              · obtain ⟨U, hU⟩ : ∃ U, U = stv (stv T 21 (5 * s + o) 1) 4 (5 * s + o) u := ⟨_, rfl⟩
                show QR (stv (stv T 21 (5 * s + o) 1) 4 (5 * s + o) u) σ9
                rw [← hU]
                have ux : ∀ a i, a ≠ 21 → a ≠ 4 → U a i = T a i := fun a i a0 a1 => by rw [hU, stv_x a1, stv_x a0]
                have u4 : ∀ i, i ≠ 5 * s + o → U 4 i = T 4 i ∧ U 21 i = T 21 i := fun i hi => by rw [hU, stv_j hi, stv_x (show (4 : Int) ≠ 21 by omega), stv_x (show (21 : Int) ≠ 4 by omega), stv_j hi]; exact ⟨rfl, rfl⟩
                have u4s : U 4 (5 * s + o) = u := by rw [hU, stv_s]
                have u21s : U 21 (5 * s + o) = 1 := by rw [hU, stv_x (by omega), stv_s]
                refine ⟨(h0.fp fA (fun x j q => by unfold wtn at q; omega)).cg (fun i _ _ => ux 0 i (by omega) (by omega)) (ux 24 0 (by omega) (by omega)), hg.cg fA (fun x j q => by unfold wtn at q; omega) (ux 0 0 (by omega) (by omega)) (fun g _ _ => ⟨ux 11 g (by omega) (by omega), ux 1 g (by omega) (by omega)⟩), fun r r0 r1 => ?_, ht.cg fA (fun x j q => by unfold wtn at q; unfold cqt; omega) q4 q13 (ux 0 2 (by omega) (by omega)) (fun i i0 i1 => ux 11 i (by omega) (by omega)) (fun a ha i => ux a i (by omega) (by omega)), hk.cg fA (fun x j q => by unfold wtn at q; unfold cqk; omega) q9 (ux 0 2 (by omega) (by omega)) (fun a ha i => ux a i (by omega) (by omega))⟩
                rw [ux 0 1 (by omega) (by omega)] at r1
                by_cases q : r = s
                · subst q
                  have g0 : aget σ9 140 r = aor (aget σ 140 r) (ashl 1 o) := by rw [f9.g (by omega), m2.g (by unfold wtn; omega)]; exact w7
                  refine ⟨?_, fun w w0 w1 => ?_, fun w w0 w1 => ?_, ?_, ?_⟩
                  · rw [fA.g (by unfold wtn; omega), ux 11 _ (by omega) (by omega)]; exact s1
                  · rw [fA.g (by unfold wtn; omega), ux 2 _ (by omega) (by omega)]; exact s2 w w0 w1
                  · obtain ⟨x1, x2, x3, x4⟩ := s3 w w0 w1
                    rw [g0, rb2 w w0, fA.g (x := 137) (by unfold wtn; omega), fA.g (x := 138) (by unfold wtn; omega), ux 3 _ (by omega) (by omega), ux 20 _ (by omega) (by omega)]
                    by_cases qw : w = o
                    · rw [if_pos qw, qw, u4s, u21s, h9, ag_s]
                      rw [qw] at x1 x3
                      exact ⟨x1, rfl, x3, rfl⟩
                    · rw [if_neg qw, (u4 (5 * r + w) (by omega)).1, (u4 (5 * r + w) (by omega)).2, fA.g (x := 139) (by unfold wtn; omega)]
                      exact ⟨x1, x2, x3, x4⟩
                  · have := hs r r0 r1
                    rw [fA.g (x := 138) (by unfold wtn; omega)]; exact this.2.2.2.1
                  · rw [g0]; exact rb1
                · exact (hs r r0 r1).cg r0 (fun x j hx => fA.g (by unfold wtn; omega)) (ux 11 _ (by omega) (by omega)) (fun w _ _ => ux 2 _ (by omega) (by omega)) (fun w w0 w1 => ⟨ux 3 _ (by omega) (by omega), (u4 _ (by omega)).1, ux 20 _ (by omega) (by omega), (u4 _ (by omega)).2⟩)
            by_cases k0 : k = 0
            · rw [if_pos k0, if_pos k0]; exact goon _
            · rw [if_neg k0, if_neg k0, wq (by omega) (by omega)]; exact goon _
          · rw [if_pos y, m1, acall1_some, if_pos rfl]
            exact ⟨0, τ, bz01 (Or.inl rfl), f7'.tr m2, Or.inr ⟨rfl, y, m3⟩⟩
        have f6 : Fp (fun x j => wtn x j ∨ (x = 140 ∧ j = s)) σ σ6 := by
          have a1 := f4.mono (Q := fun x j => wtn x j ∨ (x = 140 ∧ j = s)) (fun x j q => Or.inl q)
          have a2 := f5.mono (Q := fun x j => wtn x j ∨ (x = 140 ∧ j = s)) (fun x j q => Or.inr q)
          have a3 := (wkt_n k2).mono (Q := fun x j => wtn x j ∨ (x = 140 ∧ j = s)) (fun x j q => Or.inl q)
          exact a1.tr (a2.tr a3)
        have w6 : aget σ6 140 s = aor (aget σ 140 s) (ashl 1 o) := by rw [k2.g (by unfold wkt; omega), h5, ag_s]
        unfold c12_likeLine_p89
        rw [r_sign k3 (by omega), acall1_some]
        by_cases d : kd b n (nxp b n (nxp b n (nxp b n P))) = 45
        · rw [if_pos d, if_neg (show ¬ (1 : Int) = 0 by omega)]
          obtain ⟨σ7, m1, m2, m3⟩ := r_token k3
          have f7 := f6.tr ((wkt_n m2).mono (Q := fun x j => wtn x j ∨ (x = 140 ∧ j = s)) (fun x j q => Or.inl q))
          obtain ⟨v, τ, r1, r2, r3⟩ := fin 1 _ σ7 m3 f7 (by rw [m2.g (by unfold wkt; omega)]; exact w6)
          refine ⟨v, τ, ?_, r2, ?_⟩
          · rw [m1, acall0_some, r1]; exact ite_n (by omega) (ite_p ⟨hsr.1, by omega⟩ (ite_p ⟨hsr.1, by omega⟩ rfl))
          · unfold lkV lkP
            rw [if_pos d, if_pos d]
            exact r3
        · rw [if_neg d, if_pos rfl]
          obtain ⟨v, τ, r1, r2, r3⟩ := fin 0 _ σ6 k3 f6 w6
          refine ⟨v, τ, ?_, r2, ?_⟩
          · rw [r1]; exact ite_n (by omega) (ite_p ⟨hsr.1, by omega⟩ (ite_p ⟨hsr.1, by omega⟩ rfl))
          · unfold lkV lkP
            rw [if_neg d, if_neg d]
            exact r3
      · rw [if_neg c, if_pos (show T 21 (5 * s + o) ≠ 0 from c)]
        obtain ⟨τ, k1, k2, k3⟩ := c12_wrong_ok j3 3
        refine ⟨0, τ, ?_, (wtn_r f4).tr k2, Or.inr ⟨rfl, by show (3 : Int) ≠ 0; omega, k3⟩⟩
        rw [k1, acall1_some]
        unfold c12_likeLine_p72
        exact bz01 (Or.inl rfl)
    · rw [if_pos z2, j1, acall1_some, if_pos rfl]
      exact ⟨0, τ, bz01 (Or.inl rfl), (wtn_r f3).tr j2, Or.inr ⟨rfl, z2, j3⟩⟩
  · rw [if_pos z, g1, acall1_some, if_pos rfl]
    exact ⟨0, τ, bz01 (Or.inl rfl), (wtn_r f1).tr g2, Or.inr ⟨rfl, z, g3⟩⟩
