/-! the class's half of whole's part of this name -/
theorem c6_isSign_ok (k : Int) (σ : aS) : c6_isSign k σ = some (0, [if isS k then 1 else 0], σ) := by
  unfold c6_isSign c6_isSign_p24
  by_cases h : isS k
  · rw [if_pos h]
    by_cases a : k = 43
    · exact ite_p a (ite_p (by omega) rfl)
    · by_cases c : k = 45
      · exact ite_n a (ite_p c (ite_p (by omega) rfl))
      · by_cases d : k = 42
        · exact ite_n a (ite_n c (ite_p d (ite_p (by omega) rfl)))
        · exact ite_n a (ite_n c (ite_n d (ite_p (by unfold isS at h; omega) (ite_p (by omega) rfl))))
  · rw [if_neg h]
    unfold isS at h
    exact ite_n (by omega) (ite_n (by omega) (ite_n (by omega) (ite_n (by omega) (ite_p (by omega) rfl))))
theorem c6_readSign_ok {pl : Int} {b : Int → Int} {n P : Int} {W : List Int} {op : Int} {T : aH} {σ : aS} (hK : PKc b n P σ) (h : RU pl W op T σ) (h0 : 0 ≤ T 0 4) (hs : isS (kd b n P)) (hc : ¬ (kd b n P = 41 ∧ 0 < op)) :
    ∃ τ, c6_readSign (pl + 7) 2 σ = some (0, [], τ) ∧ Fp (wrd pl) σ τ ∧ RSt pl b n 1 (fun k => rlE b n (k + 1) 0 W op P T) τ := by
  have hp := h.2.2.1.1
  have u1 : ∀ k : Nat, rlE b n (k + 1) 0 W op P T = if 64 ≤ T 0 4 then (2, P, T) else rlE b n k 1 (pushW (flW (sStr (kd b n P)) W (kntT T)).1 (3000 + kd b n P)) op (nxp b n P) (flW (sStr (kd b n P)) W (kntT T)).2 := fun k => by rw [rlE_s, if_pos rfl, if_neg hc, if_pos hs]
  unfold c6_readSign
  rcases c6_addKnot_ok hK h h0 with ⟨q, σ1, e1, e2, e3⟩ | ⟨q, σ1, e1, e2, e3, e4⟩
  · have hK1 := hK.ru hp e2
    obtain ⟨σ2, g1, g2, g3⟩ := c6_writeWaiting_ok e3 (sStr (kd b n P))
    have hK2 := hK1.ru hp g2
    obtain ⟨σ3, i1, i2, i3⟩ := c6_hold_ok g3 (3000 + kd b n P)
    have hK3 := hK2.ru hp i2
    obtain ⟨σ4, f1, f2, f3⟩ := c10_step_p hK3
    refine ⟨σ4, ?_, (wru_d e2).tr ((wru_d g2).tr ((wru_d i2).tr (wtq_d f2))), Or.inl ⟨_, _, _, _, f3, i3.tq f3.lr f2, fun k => ?_⟩⟩
    · have p43 : c6_readSign_p43 (sStr (kd b n P)) (pl + 7) (pl + 7) 2 σ1 = some (0, [], σ4) := by
        unfold c6_readSign_p43
        rw [g1, acall0_some, hK2.kd.1, wq (by unfold isS at hs; omega) (by unfold isS at hs; omega), i1, acall0_some, f1, acall0_some]
      rw [e1, acall1_some, hK1.kd.1]
      unfold c6_readSign_p27 c6_readSign_p32
      by_cases a : kd b n P = 42
      · have es : sStr (kd b n P) = 2 := if_pos (Or.inl a)
        rw [es] at p43
        exact ite_n (by omega) (ite_p a (ite_n (by omega) p43))
      · by_cases c : kd b n P = 47
        · have es : sStr (kd b n P) = 2 := if_pos (Or.inr c)
          rw [es] at p43
          exact ite_n (by omega) (ite_n a (ite_p c (ite_n (by omega) p43)))
        · have es : sStr (kd b n P) = 1 := if_neg (by omega)
          rw [es] at p43
          exact ite_n (by omega) (ite_n a (ite_n c (ite_p rfl p43)))
    · show rlE b n (k + 1) 0 W op P T = _
      rw [u1, if_neg q]
  · refine ⟨σ1, ?_, wtq_d e2, Or.inr ⟨2, P, _, _, _, by omega, e3, e4, fun k => ?_⟩⟩
    · rw [e1, acall1_some, if_pos rfl]
    · show (rlE b n (k + 1) 0 W op P T).1 = _ ∧ (rlE b n (k + 1) 0 W op P T).2.1 = _
      rw [u1, if_pos q]; exact ⟨rfl, rfl⟩
theorem c6_closeBracket_ok {pl : Int} {W : List Int} {op : Int} {T : aH} {σ : aS} (h : RU pl W op T σ) (ho : 0 < op) :
    ∃ τ, c6_closeBracket (pl + 7) σ = some (0, [], τ) ∧ Fp (wru pl) σ τ ∧ RU pl (flN (clW (flW 1 W T).1) (flW 1 W T).2).1 (op - 1) (flN (clW (flW 1 W T).1) (flW 1 W T).2).2 τ := by
  have hp := h.2.2.1.1
  obtain ⟨σ1, g1, g2, g3⟩ := c6_writeWaiting_ok h 1
  have fin : ∀ (W' : List Int) (σ2 : aS), RU pl W' op (flW 1 W T).2 σ2 → ∃ τ, c6_closeBracket_p22 (pl + 7) σ2 = some (0, [], τ) ∧ Fp (wru pl) σ2 τ ∧ RU pl (flN W' (flW 1 W T).2).1 (op - 1) (flN W' (flW 1 W T).2).2 τ := by
    intro W' σ2 hR
    have hF : Fp (fun x j => x = pl + 7 ∧ j = 9) σ2 (aput σ2 (pl + 7) 9 (op - 1)) := (Fp.rf _ _).put _ ⟨rfl, rfl⟩
    have hF2 : Fp (wru pl) σ2 (aput σ2 (pl + 7) 9 (op - 1)) := hF.mono (fun x j q => by unfold wru; omega)
    have hR1 : RU pl W' (op - 1) (flW 1 W T).2 (aput σ2 (pl + 7) 9 (op - 1)) := by
      obtain ⟨hL, h1, h2, ⟨h3, h4, h5⟩, h6, h7⟩ := hR
      exact ⟨hL.ru hp hF2, by rw [ag_x (by omega)]; exact h1, h2.fp hF (fun x j q => by omega), ⟨by rw [ag_j (by omega)]; exact h3, h4, h5.cg (fun j _ _ => ag_x (by omega))⟩, ⟨ag_s _ _ _ _, by omega, by omega⟩, h7⟩
    obtain ⟨τ, i1, i2, i3⟩ := c6_writeNegations_ok hR1
    refine ⟨τ, ?_, hF2.tr i2, i3⟩
    unfold c6_closeBracket_p22
    rw [hR.2.2.2.2.1.1, wq (by have := hR.2.2.2.2.1.2; omega) (by have := hR.2.2.2.2.1.2; omega), i1, acall0_some]
  unfold c6_closeBracket
  rw [g1, acall0_some, g3.2.2.2.1.1]
  cases hW : (flW 1 W T).1 with
  | nil =>
    rw [hW] at g3
    obtain ⟨τ, i1, i2, i3⟩ := fin [] σ1 g3
    refine ⟨τ, ?_, g2.tr i2, i3⟩
    rw [i1]; exact ite_n (by simp) rfl
  | cons w W' =>
    rw [hW] at g3
    have hl : ((w :: W').length : Int) = W'.length + 1 := by simp
    have h72 := g3.2.2.2.1.2.1
    obtain ⟨hR2, hF2⟩ := g3.cut
    obtain ⟨τ, i1, i2, i3⟩ := fin W' _ hR2
    refine ⟨τ, ?_, g2.tr (hF2.tr i2), i3⟩
    rw [wq (by omega) (by omega), show ((w :: W').length : Int) - 1 = W'.length by omega, i1]
    exact ite_p (by omega) rfl
theorem RSt.lr {pl : Int} {b : Int → Int} {n v : Int} {R : Nat → Int × Int × aH} {τ : aS} (h : RSt pl b n v R τ) : LR τ := by
  rcases h with ⟨_, _, _, _, h, -⟩ | ⟨_, _, _, _, _, _, h, -⟩
  · exact h.lr
  · exact h.1
theorem rule_loop {pl : Int} {b : Int → Int} {n t P op : Int} {W : List Int} {T : aH} {σ : aS} (hK : PKc b n P σ) (h : RU pl W op T σ) :
    ∃ τ, aloop 26 (aU5 c6_readRule_b25) aBig [pl + 7, 2, t, 1, 0] σ = some (104, [pl + 7, 2, t], τ) ∧ Fp (wrd pl) σ τ ∧
      ((∃ W' op' P' T', PKc b n P' τ ∧ RU pl W' op' T' τ ∧ rlE b n 800 1 W op P T = endR W' op' P' T') ∨ (∃ W' op' T', (rlE b n 800 1 W op P T).1 ≠ 0 ∧ FTc (rlE b n 800 1 W op P T).1 (rlE b n 800 1 W op P T).2.1 τ ∧ RU pl W' op' T' τ)) := by
  generalize hX : rlE b n 800 1 W op P T = X
  have hp := h.2.2.1.1
  have hal := al_I (c := 26) (B := aU5 c6_readRule_b25) (n := 800) (i := 0) (vs := [pl + 7, 2, t, 1, 0]) (σ := σ)
    (fun i vs τ => 0 ≤ i ∧ ∃ o, vs = [pl + 7, 2, t, o, i] ∧ (o = 0 ∨ o = 1) ∧ Fp (wrd pl) σ τ ∧ ((∃ W' op' P' T', PKc b n P' τ ∧ RU pl W' op' T' τ ∧ rlE b n (800 - i).toNat o W' op' P' T' = X) ∨ (∃ W' op' T', X.1 ≠ 0 ∧ FTc X.1 X.2.1 τ ∧ RU pl W' op' T' τ)))
    (fun r => ∃ τ, r = (104, [pl + 7, 2, t], τ) ∧ Fp (wrd pl) σ τ ∧ ((∃ W' op' P' T', PKc b n P' τ ∧ RU pl W' op' T' τ ∧ X = endR W' op' P' T') ∨ (∃ W' op' T', X.1 ≠ 0 ∧ FTc X.1 X.2.1 τ ∧ RU pl W' op' T' τ))) (by omega) (by omega) ⟨Int.le_refl _, 1, rfl, Or.inr rfl, Fp.rf _ _, Or.inl ⟨W, op, P, T, hK, h, hX⟩⟩ ?_
  · obtain ⟨r, hr, τ, rfl, h1, h2⟩ := hal
    exact ⟨τ, hr, h1, h2⟩
  · rintro i vs τ hi ⟨i0, o, rfl, ho, hF, ⟨W', op', P', T', hK', hR, he⟩ | ⟨W', op', T', hne, hF', hR⟩⟩
    · by_cases c : i < 800
      · have ef : (800 - i).toNat = (800 - (i + 1)).toNat + 1 := by omega
        have h4 := hR.2.2.2.2.2.2.2
        -- on with what a step comes to
        have go : ∀ {v : Int} {υ : aS}, aU5 c6_readRule_b25 [pl + 7, 2, t, o, i] τ = some (26, [pl + 7, 2, t, v, i + 1], υ) → (v = 0 ∨ v = 1) → Fp (wrd pl) τ υ → RSt pl b n v (fun k => rlE b n (k + 1) o W' op' P' T') υ →
            (i < 800 ∧ ∃ vs' σ', aU5 c6_readRule_b25 [pl + 7, 2, t, o, i] τ = some (26, vs', σ') ∧ 0 ≤ i + 1 ∧ ∃ o, vs' = [pl + 7, 2, t, o, i + 1] ∧ (o = 0 ∨ o = 1) ∧ Fp (wrd pl) σ σ' ∧ ((∃ W' op' P' T', PKc b n P' σ' ∧ RU pl W' op' T' σ' ∧ rlE b n (800 - (i + 1)).toNat o W' op' P' T' = X) ∨ (∃ W' op' T', X.1 ≠ 0 ∧ FTc X.1 X.2.1 σ' ∧ RU pl W' op' T' σ'))) := by
          intro v υ hs hv hF2 hRS
          refine ⟨c, _, υ, hs, by omega, v, rfl, hv, hF.tr hF2, ?_⟩
          rw [ef] at he
          rcases hRS with ⟨W2, op2, P2, T2, k1, k2, k3⟩ | ⟨f, P2, W2, op2, T2, k1, k2, k3, k4⟩
          · exact Or.inl ⟨W2, op2, P2, T2, k1, k2, by rw [← k3]; exact he⟩
          · have := k4 (800 - (i + 1)).toNat
            have e1 : X.1 = f := by rw [← he]; exact this.1
            have e2 : X.2.1 = P2 := by rw [← he]; exact this.2
            exact Or.inr ⟨W2, op2, T2, by rw [e1]; exact k1, by rw [e1, e2]; exact k2, k3⟩
        have hi32 : w32 (i + 1) = i + 1 := wq (by omega) (by omega)
        rcases ho with rfl | rfl
        · by_cases c41 : kd b n P' = 41 ∧ 0 < op'
          · left
            obtain ⟨σ1, g1, g2, g3⟩ := c6_closeBracket_ok hR c41.2
            obtain ⟨σ2, f1, f2, f3⟩ := c10_step_p (hK'.ru hp g2)
            refine go (v := 0) (υ := σ2) ?_ (Or.inl rfl) ((wru_d g2).tr (wtq_d f2)) (Or.inl ⟨_, _, _, _, f3, g3.tq f3.lr f2, fun k => by show rlE b n (k + 1) 0 W' op' P' T' = _; rw [rlE_s, if_pos rfl, if_pos c41]⟩)
            show c6_readRule_b25 (pl + 7) 2 t 0 i τ = _
            unfold c6_readRule_b25 c6_readRule_p97
            rw [c10_isSound_p hK', acall1_some, hK'.kd.1, hR.2.2.2.2.1.1, g1, acall0_some, f1, acall0_some, hi32]
            exact ite_p c (ite_n (by omega) (ite_p rfl (ite_p c41.1 (ite_p c41.2 rfl))))
          · have pre : ∀ r : aR, c6_readRule_p80 (pl + 7) 2 t i τ = r → aU5 c6_readRule_b25 [pl + 7, 2, t, 0, i] τ = r := by
              intro r hr
              show c6_readRule_b25 (pl + 7) 2 t 0 i τ = _
              unfold c6_readRule_b25
              rw [c10_isSound_p hK', acall1_some, hK'.kd.1, hR.2.2.2.2.1.1]
              refine ite_p c (ite_n (by omega) (ite_p rfl ?_))
              by_cases a : kd b n P' = 41
              · exact ite_p a (ite_n (by omega) hr)
              · exact ite_n a hr
            by_cases cs : isS (kd b n P')
            · left
              obtain ⟨σ1, g1, g2, g3⟩ := c6_readSign_ok hK' hR h4 cs c41
              refine go (v := 1) (υ := σ1) (pre _ ?_) (Or.inr rfl) g2 g3
              unfold c6_readRule_p80 c6_readRule_p97
              rw [hK'.kd.1, c6_isSign_ok, acall1_some, if_pos cs, if_neg (show ¬ (1 : Int) = 0 by omega), g1, acall0_some, hi32]
            · refine Or.inr ⟨(104, [pl + 7, 2, t], τ), pre _ ?_, Nat.ne_of_beq_eq_false rfl, τ, rfl, hF, Or.inl ⟨W', op', P', T', hK', hR, ?_⟩⟩
              · unfold c6_readRule_p80
                rw [hK'.kd.1, c6_isSign_ok, acall1_some, if_neg cs, if_pos rfl]
              · rw [← he, ef, rlE_s, if_pos rfl, if_neg c41, if_neg cs]
        · left
          obtain ⟨v, σ1, g1, g2, g3, g4⟩ := c6_readOperand_ok hK' hR h4
          refine go (v := v) (υ := σ1) ?_ g3 g2 g4
          show c6_readRule_b25 (pl + 7) 2 t 1 i τ = _
          unfold c6_readRule_b25 c6_readRule_p97
          rw [c10_isSound_p hK', acall1_some, g1, acall1_some, hi32]
          exact ite_p c (ite_n (by omega) (ite_n (by omega) rfl))
      · have e8 : (800 - i).toNat = 0 := by omega
        rw [e8] at he
        refine Or.inr ⟨(104, [pl + 7, 2, t], τ), ?_, Nat.ne_of_beq_eq_false rfl, τ, rfl, hF, Or.inl ⟨W', op', P', T', hK', hR, he.symm⟩⟩
        show c6_readRule_b25 (pl + 7) 2 t o i τ = _
        unfold c6_readRule_b25
        exact ite_n c rfl
    · refine Or.inr ⟨(104, [pl + 7, 2, t], τ), ?_, Nat.ne_of_beq_eq_false rfl, τ, rfl, hF, Or.inr ⟨W', op', T', hne, hF', hR⟩⟩
      show c6_readRule_b25 (pl + 7) 2 t o i τ = _
      unfold c6_readRule_b25
      by_cases c : i < 800
      · rw [c10_isSound_f hF', acall1_some]
        exact ite_p c (ite_p rfl rfl)
      · exact ite_n c rfl
def lnE (b : Int → Int) (n t P : Int) (T : aH) : Int × Int × aH :=
  if (rlE b n 800 1 [] 0 P (stv T 9 t (T 24 0))).1 ≠ 0 then rlE b n 800 1 [] 0 P (stv T 9 t (T 24 0)) else
  (0, (rlE b n 800 1 [] 0 P (stv T 9 t (T 24 0))).2.1, stv (rlE b n 800 1 [] 0 P (stv T 9 t (T 24 0))).2.2 10 t ((rlE b n 800 1 [] 0 P (stv T 9 t (T 24 0))).2.2 24 0))
theorem c6_readRule_ok {pl : Int} {b : Int → Int} {n P : Int} {T : aH} {σ : aS} (h : RC pl b n P T σ) (hB : BTk T) (h24 : 0 ≤ T 24 0 ∧ T 24 0 ≤ 64) {t : Int} (t0 : 0 ≤ t) (t1 : t < 4) : ∃ τ, c6_readRule (pl + 7) 2 t σ = some (0, [], τ) ∧ Fp (wrd pl) σ τ ∧ OKc pl b n (lnE b n t P T) τ := by
  have hp := h.2.2.1
  have hL := h.lr
  have e7 : aget σ (pl + 7) 7 = T 24 0 := h.2.2.2.1 7 7 24 0 rfl
  obtain ⟨hR1, hF1⟩ := h.put (x := 10) (j := t) (ctm_k.2.1 t0 t1) (T 24 0) (by rw [hsf_ne (by omega) (by omega)])
  obtain ⟨σ1, hσ1⟩ : ∃ σ1, σ1 = aput σ (pl + 10) t (T 24 0) := ⟨_, rfl⟩
  rw [← hσ1] at hR1 hF1
  have hL1 := hR1.lr
  have hF2 : Fp (wru pl) σ1 (aput (aput σ1 (pl + 7) 8 0) (pl + 7) 9 0) := ((Fp.rf _ _).put _ (by unfold wru; omega)).put _ (by unfold wru; omega)
  have hFx : Fp (fun x j => x = pl + 7 ∧ (j = 8 ∨ j = 9)) σ1 (aput (aput σ1 (pl + 7) 8 0) (pl + 7) 9 0) := ((Fp.rf _ _).put _ (by omega)).put _ (by omega)
  obtain ⟨σ2, hσ2⟩ : ∃ σ2, σ2 = aput (aput σ1 (pl + 7) 8 0) (pl + 7) 9 0 := ⟨_, rfl⟩
  have hRU : RU pl [] 0 (stv T 9 t (T 24 0)) σ2 := by
    refine ⟨?_, ?_, ?_, ⟨?_, by simp, trivial⟩, ⟨?_, by omega, by omega⟩, ?_⟩
    · rw [hσ2]; exact hL1.ru hp hF2
    · rw [hσ2, ag_x (by omega), ag_x (by omega)]; exact hR1.2.1
    · rw [hσ2]; exact hR1.2.2.fp hFx (fun x j q => by omega)
    · rw [hσ2, ag_j (by omega), ag_s]; rfl
    · rw [hσ2, ag_s]
    · rw [stv_x (by omega), stv_x (by omega)]; exact ⟨h24.1, h24.2, hB.2.2.2.2.1⟩
  rw [← hσ2] at hF2
  have hK2 := hR1.1.ru hp hF2
  obtain ⟨σ3, e1, e2, e3⟩ := rule_loop (t := t) hK2 hRU
  have start : ∀ r : aR, c6_readRule_p103 (pl + 7) 2 t σ3 = r → c6_readRule (pl + 7) 2 t σ = r := by
    intro r hr
    unfold c6_readRule
    rw [ru_3 hL hp, np_10 hL hp, e7, ← hσ1, ← hσ2]
    refine ite_n (by omega) (ite_p (by omega) ?_)
    unfold c6_readRule_l25
    rw [e1]; exact hr
  have hFa := hF1.tr ((wru_d hF2).tr e2)
  unfold lnE
  generalize rlE b n 800 1 [] 0 P (stv T 9 t (T 24 0)) = X at e3
  rcases e3 with ⟨W', op', P', T', k1, k2, rfl⟩ | ⟨W', op', T', k0, k1, k2⟩
  · unfold endR
    by_cases c : 0 < op'
    · rw [if_pos c]
      obtain ⟨σ4, f1, f2, f3⟩ := c10_refuse_p k1 (f := 1) (by omega)
      obtain ⟨σ5, g1, g2, g3⟩ := c6_writeWaiting_ok (k2.tq f3.1 f2) 1
      have hX5 := f3.ru hp g2
      obtain ⟨hX6, hF6, e6⟩ := hX5.put hp (x := pl + 11) (j := t) (by unfold wrp; omega) (aget σ5 (pl + 7) 7)
      refine ⟨_, start _ ?_, hFa.tr ((wtq_d f2).tr ((wru_d g2).tr hF6)), Or.inr ⟨by show (1 : Int) ≠ 0; omega, hX6, by rw [e6]; exact g3.2.1⟩⟩
      unfold c6_readRule_p103 c6_readRule_p115
      rw [k2.2.2.2.2.1.1, f1, acall0_some, g1, acall0_some, ru_4 hX5.1 hp, np_11 hX5.1 hp]
      exact ite_p c (ite_n (by omega) (ite_p (by omega) rfl))
    · rw [if_neg c]
      obtain ⟨σ5, g1, g2, g3⟩ := c6_writeWaiting_ok k2 1
      have hK5 := k1.ru hp g2
      have hR5 : RC pl b n P' (flW 1 W' T').2 σ5 := ⟨hK5, g3.2.1, g3.2.2.1⟩
      have e75 : aget σ5 (pl + 7) 7 = (flW 1 W' T').2 24 0 := g3.2.2.1.2.1 7 7 24 0 rfl
      obtain ⟨hR6, hF6⟩ := hR5.put (x := 11) (j := t) (ctm_k.2.2 t0 t1) ((flW 1 W' T').2 24 0) (by rw [hsf_ne (by omega) (by omega)])
      refine ⟨_, start _ ?_, hFa.tr ((wru_d g2).tr hF6), Or.inl ⟨rfl, hR6⟩⟩
      unfold c6_readRule_p103 c6_readRule_p115
      rw [k2.2.2.2.2.1.1, g1, acall0_some, ru_4 hR5.lr hp, np_11 hR5.lr hp, e75]
      exact ite_n c (ite_n (by omega) (ite_p (by omega) rfl))
  · rw [if_pos k0]
    have fin : ∀ σ4, c6_readRule_p103 (pl + 7) 2 t σ3 = c6_readRule_p115 (pl + 7) t σ4 → σ4 = σ3 → ∃ τ, c6_readRule (pl + 7) 2 t σ = some (0, [], τ) ∧ Fp (wrd pl) σ τ ∧ OKc pl b n X τ := by
      rintro σ4 hq rfl
      obtain ⟨σ5, g1, g2, g3⟩ := c6_writeWaiting_ok k2 1
      have hX5 := k1.ru hp g2
      obtain ⟨hX6, hF6, e6⟩ := hX5.put hp (x := pl + 11) (j := t) (by unfold wrp; omega) (aget σ5 (pl + 7) 7)
      refine ⟨_, start _ ?_, hFa.tr ((wru_d g2).tr hF6), Or.inr ⟨k0, hX6, by rw [e6]; exact g3.2.1⟩⟩
      rw [hq]
      unfold c6_readRule_p115
      rw [g1, acall0_some, ru_4 hX5.1 hp, np_11 hX5.1 hp]
      exact ite_n (by omega) (ite_p (by omega) rfl)
    by_cases c : 0 < op'
    · refine fin σ3 ?_ rfl
      unfold c6_readRule_p103
      rw [k2.2.2.2.2.1.1, if_pos c, c10_refuse_f k1, acall0_some]
    · refine fin σ3 ?_ rfl
      unfold c6_readRule_p103
      rw [k2.2.2.2.2.1.1, if_neg c]
