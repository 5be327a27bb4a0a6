/-! the reference reads: a float's line -/
theorem lnW_TI {b : Int → Int} {n s P : Int} {U : aH} (h : TI U) (s0 : 0 ≤ s) (s1 : s < U 0 1) (hz : (lnW b n s P U).1 = 0) : TI (lnW b n s P U).2.2 ∧ (lnW b n s P U).2.2 0 1 = U 0 1 ∧ (lnW b n s P U).2.2 2 (4 * s) = U 2 (4 * s) := by
  obtain ⟨i4, e⟩ := lnW_I h.1 h.2.2.2.1 s0 s1 hz
  obtain ⟨hB, h2, h3, h4, h05, hG, h7, h8⟩ := h
  exact ⟨⟨hB.of (fun i _ _ => e 0 i (by omega) (by omega)), h2.cg (e 0 0 (by omega) (by omega)) (fun i => e 1 i (by omega) (by omega)), h3.cg (e 0 1 (by omega) (by omega)) (e 0 3 (by omega) (by omega)) (fun i => e 2 i (by omega) (by omega)), i4, by rw [e 0 5 (by omega) (by omega)]; exact h05, hG.cg (e 0 0 (by omega) (by omega)) (fun i => e 5 i (by omega) (by omega)), h7.cg (e 0 2 (by omega) (by omega)) (fun a ha i => e a i (by omega) (by omega)), h8.cg (e 0 2 (by omega) (by omega)) (e 0 4 (by omega) (by omega)) (fun a ha i => e a i (by omega) (by omega))⟩, e 0 1 (by omega) (by omega), e 2 _ (by omega) (by omega)⟩
theorem lnW_lt {b : Int → Int} {n s P : Int} {U : aH} (hk : kd b n P ≠ 0) (p0 : 0 ≤ P) (hz : (lnW b n s P U).1 = 0) : P < (lnW b n s P U).2.1 ∧ (lnW b n s P U).2.1 ≤ n := by
  have h1 := nxp_bd b (kd_lt hk)
  have h2 := nxp_p (b := b) (show 0 ≤ nxp b n P by omega) h1.2
  have h3 := nxp_p (b := b) (show 0 ≤ nxp b n (nxp b n P) by omega) h2.2
  have e : (lnW b n s P U).2.1 = nxp b n (nxp b n (nxp b n P)) := by
    unfold lnW at hz ⊢
    by_cases c : odF b n U 0 (nxp b n P) = 0
    · rw [if_neg (fun q => q c)] at hz ⊢
      by_cases e : U 20 (5 * s + aNamed U 0 (vlt b n (nxp b n P))) = 0
      · rw [if_neg (fun q => q e)] at hz ⊢
        by_cases f : pNum b n 0 99 (nxp b n (nxp b n P)) = 0
        · rw [if_neg (fun q => q f)]
        · rw [if_pos f] at hz; exact absurd hz f
      · rw [if_pos e] at hz; exact absurd (show (3 : Int) = 0 from hz) (by decide)
    · rw [if_pos c] at hz; exact absurd hz c
  rw [e]; omega
theorem wants_r {b : Int → Int} {n s P m l1 : Int} {U : aH} {σ : aS} (h : TKr b n P σ) (hQ : QF U m σ) (hI : TI U) (s0 : 0 ≤ s) (es : U 0 1 = s + 1) (em : U 2 (4 * s) = m) (hn : n ≤ 800) :
    ((lnWs b n s 800 P U).1 = 0 ∧ ∃ τ, c12_floatLine_l196 130 l1 σ = c12_floatLine_p308 130 l1 τ ∧ Fp wwt σ τ ∧ TKr b n (lnWs b n s 800 P U).2.1 τ ∧ QF (lnWs b n s 800 P U).2.2 m τ ∧ (lnWs b n s 800 P U).2.2 0 1 = s + 1 ∧ (lnWs b n s 800 P U).2.2 2 (4 * s) = m) ∨
    ((lnWs b n s 800 P U).1 ≠ 0 ∧ ∃ τ, c12_floatLine_l196 130 l1 σ = some (0, [0], τ) ∧ Fp wrr σ τ ∧ FRr (lnWs b n s 800 P U).1 (lnWs b n s 800 P U).2.1 τ) := by
  generalize hX : lnWs b n s 800 P U = X
  have p1 := h.2.1
  have hal := al_I (c := 197) (B := aU2 c12_floatLine_b196) (n := n) (i := P) (vs := [130, l1]) (σ := σ)
    (fun k vs τ => vs = [130, l1] ∧ Fp wwt σ τ ∧ ∃ (fuel : Nat) (P' : Int) (U' : aH), k ≤ P' ∧ 0 ≤ P' ∧ n - P' ≤ fuel ∧ TKr b n P' τ ∧ QF U' m τ ∧ TI U' ∧ U' 0 1 = s + 1 ∧ U' 2 (4 * s) = m ∧ lnWs b n s fuel P' U' = X)
    (fun r => (X.1 = 0 ∧ ∃ τ, r = (309, [130, l1], τ) ∧ Fp wwt σ τ ∧ TKr b n X.2.1 τ ∧ QF X.2.2 m τ ∧ X.2.2 0 1 = s + 1 ∧ X.2.2 2 (4 * s) = m) ∨ (X.1 ≠ 0 ∧ ∃ τ, (r = (0, [0], τ) ∨ (r.1 = 249 ∧ r.2.1 = [130] ∧ c12_floatLine_p248 130 r.2.2 = some (0, [0], τ))) ∧ Fp wrr σ τ ∧ FRr X.1 X.2.1 τ))
    p1.2 (by omega) ⟨rfl, Fp.rf _ _, 800, P, U, Int.le_refl _, p1.1, by omega, h, hQ, hI, es, em, hX⟩ ?_
  · obtain ⟨r, hr, ⟨z, τ, rfl, h1, h2, h3, h4, h5⟩ | ⟨z, τ, hq, h1, h2⟩⟩ := hal
    · refine Or.inl ⟨z, τ, ?_, h1, h2, h3, h4, h5⟩
      unfold c12_floatLine_l196
      rw [hr]; rfl
    · refine Or.inr ⟨z, τ, ?_, h1, h2⟩
      unfold c12_floatLine_l196
      rw [hr]
      rcases hq with rfl | ⟨q1, q2, q3⟩
      · rfl
      · obtain ⟨r1, r2, r3⟩ := r
        have q1' : r1 = 249 := q1
        have q2' : r2 = [130] := q2
        subst q1'; subst q2'
        show c12_floatLine_p248 130 r3 = _
        exact q3
  · rintro k vs τ hk ⟨rfl, hF, fuel, P', U', kp, p0, hf, hT, hQ', hI', es', em', he⟩
    by_cases c : kd b n P' = 102
    · have hlt := kd_lt (show kd b n P' ≠ 0 by omega)
      cases fuel with
      | zero => exact absurd hf (by omega)
      | succ fuel =>
        have eu : lnWs b n s (fuel + 1) P' U' = if kd b n P' = 102 then (if (lnW b n s P' U').1 ≠ 0 then lnW b n s P' U' else lnWs b n s fuel (lnW b n s P' U').2.1 (lnW b n s P' U').2.2) else (0, P', U') := rfl
        rw [eu, if_pos c] at he
        rcases want_step (l1 := l1) hT hQ' hI' s0 es' c with ⟨z, υ, e1, e2, e3, e4⟩ | ⟨z, υ, r, e1, e2, e3, e4⟩
        · rw [if_neg (fun q => q z)] at he
          obtain ⟨t1, t2, t3⟩ := lnW_TI hI' s0 (by omega) z
          have lt := lnW_lt (b := b) (n := n) (s := s) (U := U') (show kd b n P' ≠ 0 by omega) p0 z
          exact Or.inl ⟨by omega, [130, l1], υ, e1, rfl, hF.tr e2, fuel, _, _, by omega, by omega, by omega, e3, e4, t1, by rw [t2]; exact es', by rw [t3]; exact em', he⟩
        · rw [if_pos z] at he
          have w : Fp wrr σ υ := (hF.mono (fun x j q => wwt_r q)).tr e3
          refine Or.inr ⟨r, e1, ?_, Or.inr ⟨by rw [← he]; exact z, υ, ?_, w, by rw [← he]; exact e4⟩⟩
          · rcases e2 with rfl | ⟨_, q⟩ | ⟨q1, -, -⟩
            · exact Nat.ne_of_beq_eq_false rfl
            · exact absurd q id
            · rw [q1]; exact Nat.ne_of_beq_eq_false rfl
          · rcases e2 with q | ⟨_, q⟩ | q
            · exact Or.inl q
            · exact absurd q id
            · exact Or.inr q
    · have hX' : lnWs b n s fuel P' U' = (0, P', U') := by
        cases fuel with
        | zero => rfl
        | succ fuel => exact if_neg c
      rw [hX'] at he
      refine Or.inr ⟨(309, [130, l1], τ), ?_, Nat.ne_of_beq_eq_false rfl, Or.inl ⟨by rw [← he], τ, rfl, hF, by rw [← he]; exact hT, by rw [← he]; exact hQ', by rw [← he]; exact es', by rw [← he]; exact em'⟩⟩
      show c12_floatLine_b196 130 l1 τ = _
      unfold c12_floatLine_b196
      have hkey := r_key hT (i := 2) (by omega) (by omega)
      rw [show rkw 2 = 6 from rfl, if_neg (show ¬ kd b n P' = 100 + 2 by omega)] at hkey
      rw [hkey, acall1_some, if_pos rfl]
