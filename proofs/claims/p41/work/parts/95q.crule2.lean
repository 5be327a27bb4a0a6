/-! the class's half of whole's part of this name -/
abbrev isS (k : Int) : Prop := k = 43 ∨ k = 45 ∨ k = 42 ∨ k = 47
def sStr (k : Int) : Int := if k = 42 ∨ k = 47 then 2 else 1
def clW (W : List Int) : List Int := W.tail
def endR (W : List Int) (op P : Int) (T : aH) : Int × Int × aH := if 0 < op then (1, P, T) else (0, P, (flW 1 W T).2)
/-- a rule from P on; o: a value must begin -/
def rlE (b : Int → Int) (n : Int) : Nat → Int → List Int → Int → Int → aH → Int × Int × aH
  | 0, _, W, op, P, T => endR W op P T
  | k + 1, o, W, op, P, T =>
    if o = 0 then
      (if kd b n P = 41 ∧ 0 < op then rlE b n k 0 (flN (clW (flW 1 W T).1) (flW 1 W T).2).1 (op - 1) (nxp b n P) (flN (clW (flW 1 W T).1) (flW 1 W T).2).2
      else if isS (kd b n P) then (if 64 ≤ T 0 4 then (2, P, T) else rlE b n k 1 (pushW (flW (sStr (kd b n P)) W (kntT T)).1 (3000 + kd b n P)) op (nxp b n P) (flW (sStr (kd b n P)) W (kntT T)).2)
      else endR W op P T)
    else if kd b n P = 2 then (if 64 ≤ T 0 4 then (2, P, T) else if pNum b n 0 999 P ≠ 0 then (pNum b n 0 999 P, P, T) else rlE b n k 0 (flN W (wrT (kntT T) (vlt b n P))).1 op (nxp b n P) (flN W (wrT (kntT T) (vlt b n P))).2)
    else if 111 ≤ kd b n P ∧ kd b n P ≤ 115 then (if 64 ≤ T 0 4 then (2, P, T) else rlE b n k 0 (flN W (wrT (kntT T) (1000 + kd b n P - 111))).1 op (nxp b n P) (flN W (wrT (kntT T) (1000 + kd b n P - 111))).2)
    else if kd b n P = 45 then (if 64 ≤ T 0 4 then (2, P, T) else rlE b n k 1 (pushW W 2000) op (nxp b n P) (kntT T))
    else if kd b n P = 40 then (if 8 ≤ op then (2, P, T) else rlE b n k 1 (pushW W 40) (op + 1) (nxp b n P) T)
    else (1, P, T)
theorem rlE_s {b : Int → Int} {n : Int} {k : Nat} {o : Int} {W : List Int} {op P : Int} {T : aH} : rlE b n (k + 1) o W op P T =
    if o = 0 then
      (if kd b n P = 41 ∧ 0 < op then rlE b n k 0 (flN (clW (flW 1 W T).1) (flW 1 W T).2).1 (op - 1) (nxp b n P) (flN (clW (flW 1 W T).1) (flW 1 W T).2).2
      else if isS (kd b n P) then (if 64 ≤ T 0 4 then (2, P, T) else rlE b n k 1 (pushW (flW (sStr (kd b n P)) W (kntT T)).1 (3000 + kd b n P)) op (nxp b n P) (flW (sStr (kd b n P)) W (kntT T)).2)
      else endR W op P T)
    else if kd b n P = 2 then (if 64 ≤ T 0 4 then (2, P, T) else if pNum b n 0 999 P ≠ 0 then (pNum b n 0 999 P, P, T) else rlE b n k 0 (flN W (wrT (kntT T) (vlt b n P))).1 op (nxp b n P) (flN W (wrT (kntT T) (vlt b n P))).2)
    else if 111 ≤ kd b n P ∧ kd b n P ≤ 115 then (if 64 ≤ T 0 4 then (2, P, T) else rlE b n k 0 (flN W (wrT (kntT T) (1000 + kd b n P - 111))).1 op (nxp b n P) (flN W (wrT (kntT T) (1000 + kd b n P - 111))).2)
    else if kd b n P = 45 then (if 64 ≤ T 0 4 then (2, P, T) else rlE b n k 1 (pushW W 2000) op (nxp b n P) (kntT T))
    else if kd b n P = 40 then (if 8 ≤ op then (2, P, T) else rlE b n k 1 (pushW W 40) (op + 1) (nxp b n P) T)
    else (1, P, T) := rfl
/-- what a step in a rule comes to -/
def RSt (pl : Int) (b : Int → Int) (n v : Int) (R : Nat → Int × Int × aH) (τ : aS) : Prop :=
  (∃ W' op' P' T', PKc b n P' τ ∧ RU pl W' op' T' τ ∧ ∀ k, R k = rlE b n k v W' op' P' T') ∨ (∃ f P' W' op' T', f ≠ 0 ∧ FTc f P' τ ∧ RU pl W' op' T' τ ∧ ∀ k, (R k).1 = f ∧ (R k).2.1 = P')
theorem RU.tq {pl : Int} {W : List Int} {op : Int} {T : aH} {σ τ : aS} (h : RU pl W op T σ) (hL : LR τ) (hF : Fp wtq σ τ) : RU pl W op T τ := h.fp hL hF (fun x j q => q.1)
theorem c6_addKnot_ok {pl : Int} {b : Int → Int} {n P : Int} {W : List Int} {op : Int} {T : aH} {σ : aS} (hK : PKc b n P σ) (h : RU pl W op T σ) (h0 : 0 ≤ T 0 4) :
    (¬ 64 ≤ T 0 4 ∧ ∃ τ, c6_addKnot (pl + 7) 2 σ = some (0, [1], τ) ∧ Fp (wru pl) σ τ ∧ RU pl W op (kntT T) τ) ∨ (64 ≤ T 0 4 ∧ ∃ τ, c6_addKnot (pl + 7) 2 σ = some (0, [0], τ) ∧ Fp wtq σ τ ∧ FTc 2 P τ ∧ RU pl W op T τ) := by
  have e4 : aget σ (pl + 7) 1 = T 0 4 := h.2.2.1.2.1 7 1 0 4 rfl
  have hp := h.2.2.1.1
  unfold c6_addKnot
  rw [e4]
  by_cases c : T 0 4 < 64
  · left
    refine ⟨by omega, aput σ (pl + 7) 1 (T 0 4 + 1), ?_, ?_⟩
    · rw [wq (by omega) (by omega)]
      exact ite_p c (ite_p (by omega) rfl)
    · obtain ⟨hL, h1, h2, ⟨h3, h4, h5⟩, h6, h7⟩ := h
      have hF : Fp (fun x j => x = pl + 7 ∧ j = 1) σ (aput σ (pl + 7) 1 (T 0 4 + 1)) := (Fp.rf _ _).put _ ⟨rfl, rfl⟩
      have hF2 : Fp (wru pl) σ (aput σ (pl + 7) 1 (T 0 4 + 1)) := hF.mono (fun x j q => by unfold wru; omega)
      exact ⟨hF2, hL.ru hp hF2, by rw [ag_x (by omega)]; exact h1, h2.put (x := 7) (j := 1) rfl _ (by rw [hsf_01 (by omega)]), ⟨by rw [ag_j (by omega)]; exact h3, h4, h5.cg (fun j _ _ => ag_x (by omega))⟩, by rw [ag_j (by omega)]; exact h6, by unfold kntT; rw [stv_x (by omega), stv_s]; omega⟩
  · right
    obtain ⟨τ, e1, e2, e3⟩ := c10_refuse_p hK (f := 2) (by omega)
    refine ⟨by omega, τ, ?_, e2, e3, h.tq e3.1 e2⟩
    rw [e1, acall0_some]
    exact ite_n c (ite_p (by omega) rfl)
theorem readOperand_p117_ok {pl : Int} {W : List Int} {op : Int} {T : aH} {σ : aS} (h : RU pl W op T σ) : ∃ τ, c6_readOperand_p117 (pl + 7) σ = some (0, [0], τ) ∧ Fp (wru pl) σ τ ∧ RU pl (flN W T).1 op (flN W T).2 τ := by
  obtain ⟨τ, e1, e2, e3⟩ := c6_writeNegations_ok h
  refine ⟨τ, ?_, e2, e3⟩
  unfold c6_readOperand_p117
  rw [e1, acall0_some]
  exact ite_p (by omega) rfl
theorem kntT_4 {T : aH} : kntT T 0 4 = T 0 4 + 1 := by unfold kntT; rw [stv_s]
theorem c6_readOperand_ok {pl : Int} {b : Int → Int} {n P : Int} {W : List Int} {op : Int} {T : aH} {σ : aS} (hK : PKc b n P σ) (h : RU pl W op T σ) (h0 : 0 ≤ T 0 4) :
    ∃ v τ, c6_readOperand (pl + 7) 2 σ = some (0, [v], τ) ∧ Fp (wrd pl) σ τ ∧ (v = 0 ∨ v = 1) ∧ RSt pl b n v (fun k => rlE b n (k + 1) 1 W op P T) τ := by
  have hp := h.2.2.1.1
  have hkd := hK.kd.1
  have u1 : ∀ k : Nat, rlE b n (k + 1) 1 W op P T = if kd b n P = 2 then (if 64 ≤ T 0 4 then (2, P, T) else if pNum b n 0 999 P ≠ 0 then (pNum b n 0 999 P, P, T) else rlE b n k 0 (flN W (wrT (kntT T) (vlt b n P))).1 op (nxp b n P) (flN W (wrT (kntT T) (vlt b n P))).2)
    else if 111 ≤ kd b n P ∧ kd b n P ≤ 115 then (if 64 ≤ T 0 4 then (2, P, T) else rlE b n k 0 (flN W (wrT (kntT T) (1000 + kd b n P - 111))).1 op (nxp b n P) (flN W (wrT (kntT T) (1000 + kd b n P - 111))).2)
    else if kd b n P = 45 then (if 64 ≤ T 0 4 then (2, P, T) else rlE b n k 1 (pushW W 2000) op (nxp b n P) (kntT T))
    else if kd b n P = 40 then (if 8 ≤ op then (2, P, T) else rlE b n k 1 (pushW W 40) (op + 1) (nxp b n P) T)
    else (1, P, T) := fun k => by rw [rlE_s, if_neg (by omega)]
  unfold c6_readOperand
  rw [hkd]
  by_cases c2 : kd b n P = 2
  · rcases c6_addKnot_ok hK h h0 with ⟨q, σ1, e1, e2, e3⟩ | ⟨q, σ1, e1, e2, e3, e4⟩
    · have hK1 := hK.ru hp e2
      rcases c10_takeNumber_p hK1 0 999 with ⟨y, hv, σ2, f1, f2, f3⟩ | ⟨y, σ2, f1, f2, f3⟩
      · obtain ⟨σ3, g1, g2, g3⟩ := c6_writeStep_ok (e3.tq f3.lr f2) (vlt b n P)
        obtain ⟨σ4, i1, i2, i3⟩ := readOperand_p117_ok g3
        refine ⟨0, σ4, ?_, (wru_d e2).tr ((wtq_d f2).tr ((wru_d g2).tr (wru_d i2))), Or.inl rfl, Or.inl ⟨_, _, _, _, (f3.ru hp g2).ru hp i2, i3, fun k => ?_⟩⟩
        · rw [if_pos c2, e1, acall1_some, if_neg (show ¬ (1 : Int) = 0 by omega), f1, acall1_some, g1, acall0_some, i1]
        · show rlE b n (k + 1) 1 W op P T = _
          rw [u1, if_pos c2, if_neg q, if_neg (fun w => w y)]
      · obtain ⟨σ3, g1, g2, g3⟩ := c6_writeStep_ok (e3.tq f3.1 f2) (-1)
        obtain ⟨σ4, i1, i2, i3⟩ := readOperand_p117_ok g3
        refine ⟨0, σ4, ?_, (wru_d e2).tr ((wtq_d f2).tr ((wru_d g2).tr (wru_d i2))), Or.inl rfl, Or.inr ⟨_, _, _, _, _, y, (f3.ru hp g2).ru hp i2, i3, fun k => ?_⟩⟩
        · rw [if_pos c2, e1, acall1_some, if_neg (show ¬ (1 : Int) = 0 by omega), f1, acall1_some, g1, acall0_some, i1]
        · show (rlE b n (k + 1) 1 W op P T).1 = _ ∧ (rlE b n (k + 1) 1 W op P T).2.1 = _
          rw [u1, if_pos c2, if_neg q, if_pos y]; exact ⟨rfl, rfl⟩
    · obtain ⟨σ4, i1, i2, i3⟩ := readOperand_p117_ok e4
      refine ⟨0, σ4, ?_, (wtq_d e2).tr (wru_d i2), Or.inl rfl, Or.inr ⟨2, P, _, _, _, by omega, e3.ru hp i2, i3, fun k => ?_⟩⟩
      · rw [if_pos c2, e1, acall1_some, if_pos rfl, i1]
      · show (rlE b n (k + 1) 1 W op P T).1 = _ ∧ (rlE b n (k + 1) 1 W op P T).2.1 = _
        rw [u1, if_pos c2, if_pos q]; exact ⟨rfl, rfl⟩
  · rw [if_neg c2]
    by_cases cn : 111 ≤ kd b n P ∧ kd b n P ≤ 115
    · rw [if_neg (show ¬ kd b n P < 111 by omega), if_neg (show ¬ 115 < kd b n P by omega)]
      rcases c6_addKnot_ok hK h h0 with ⟨q, σ1, e1, e2, e3⟩ | ⟨q, σ1, e1, e2, e3, e4⟩
      · have hK1 := hK.ru hp e2
        obtain ⟨σ2, g1, g2, g3⟩ := c6_writeStep_ok e3 (1000 + kd b n P - 111)
        have hK2 := hK1.ru hp g2
        obtain ⟨σ3, f1, f2, f3⟩ := c10_step_p hK2
        obtain ⟨σ4, i1, i2, i3⟩ := readOperand_p117_ok (g3.tq f3.lr f2)
        refine ⟨0, σ4, ?_, (wru_d e2).tr ((wru_d g2).tr ((wtq_d f2).tr (wru_d i2))), Or.inl rfl, Or.inl ⟨_, _, _, _, f3.ru hp i2, i3, fun k => ?_⟩⟩
        · rw [e1, acall1_some, if_neg (show ¬ (1 : Int) = 0 by omega), wq (x := 1000 + kd b n P) (by omega) (by omega), wq (by omega) (by omega), g1, acall0_some, f1, acall0_some, i1]
        · show rlE b n (k + 1) 1 W op P T = _
          rw [u1, if_neg c2, if_pos cn, if_neg q]
      · obtain ⟨σ4, i1, i2, i3⟩ := readOperand_p117_ok e4
        refine ⟨0, σ4, ?_, (wtq_d e2).tr (wru_d i2), Or.inl rfl, Or.inr ⟨2, P, _, _, _, by omega, e3.ru hp i2, i3, fun k => ?_⟩⟩
        · rw [e1, acall1_some, if_pos rfl, i1]
        · show (rlE b n (k + 1) 1 W op P T).1 = _ ∧ (rlE b n (k + 1) 1 W op P T).2.1 = _
          rw [u1, if_neg c2, if_pos cn, if_pos q]; exact ⟨rfl, rfl⟩
    · have pre : ∀ r : aR, c6_readOperand_p72 (pl + 7) 2 (kd b n P) σ = r → (if kd b n P < 111 then c6_readOperand_p72 (pl + 7) 2 (kd b n P) σ else (if 115 < kd b n P then c6_readOperand_p72 (pl + 7) 2 (kd b n P) σ else (acall1 (c6_addKnot (pl + 7) 2 σ) fun v4 σ4 => (if v4 = 0 then c6_readOperand_p117 (pl + 7) σ4 else (acall0 (c6_writeStep (pl + 7) (w32 ((w32 (1000 + (aget σ 2 11))) - 111)) σ4) fun σ5 => (acall0 (c10_step 2 σ5) fun σ6 => c6_readOperand_p117 (pl + 7) σ6)))))) = r := by
        intro r hr
        by_cases a : kd b n P < 111
        · exact ite_p a hr
        · exact ite_n a (ite_p (by omega) hr)
      by_cases c45 : kd b n P = 45
      · rcases c6_addKnot_ok hK h h0 with ⟨q, σ1, e1, e2, e3⟩ | ⟨q, σ1, e1, e2, e3, e4⟩
        · obtain ⟨σ2, g1, g2, g3⟩ := c6_hold_ok e3 2000
          have hK2 := (hK.ru hp e2).ru hp g2
          obtain ⟨σ3, f1, f2, f3⟩ := c10_step_p hK2
          refine ⟨1, σ3, ?_, (wru_d e2).tr ((wru_d g2).tr (wtq_d f2)), Or.inr rfl, Or.inl ⟨_, _, _, _, f3, g3.tq f3.lr f2, fun k => ?_⟩⟩
          · have := pre (some (0, [1], σ3)) (by
              unfold c6_readOperand_p72
              rw [if_pos c45, e1, acall1_some, if_neg (show ¬ (1 : Int) = 0 by omega), g1, acall0_some, f1, acall0_some, if_pos (by omega)])
            rw [hkd] at this; exact this
          · show rlE b n (k + 1) 1 W op P T = _
            rw [u1, if_neg c2, if_neg cn, if_pos c45, if_neg q]
        · refine ⟨1, σ1, ?_, wtq_d e2, Or.inr rfl, Or.inr ⟨2, P, _, _, _, by omega, e3, e4, fun k => ?_⟩⟩
          · have := pre (some (0, [1], σ1)) (by
              unfold c6_readOperand_p72
              rw [if_pos c45, e1, acall1_some, if_pos rfl, if_pos (by omega)])
            rw [hkd] at this; exact this
          · show (rlE b n (k + 1) 1 W op P T).1 = _ ∧ (rlE b n (k + 1) 1 W op P T).2.1 = _
            rw [u1, if_neg c2, if_neg cn, if_pos c45, if_pos q]; exact ⟨rfl, rfl⟩
      · by_cases c40 : kd b n P = 40
        · have eop := h.2.2.2.2.1.1
          have hop := h.2.2.2.2.1.2
          by_cases co : op < 8
          · have hF : Fp (fun x j => x = pl + 7 ∧ j = 9) σ (aput σ (pl + 7) 9 (op + 1)) := (Fp.rf _ _).put _ ⟨rfl, rfl⟩
            have hF2 : Fp (wru pl) σ (aput σ (pl + 7) 9 (op + 1)) := hF.mono (fun x j q => by unfold wru; omega)
            have hR1 : RU pl W (op + 1) T (aput σ (pl + 7) 9 (op + 1)) := by
              obtain ⟨hL, h1, h2, ⟨h3, h4, h5⟩, h6, h7⟩ := h
              exact ⟨hL.ru hp hF2, by rw [ag_x (by omega)]; exact h1, h2.fp hF (fun x j q => by omega), ⟨by rw [ag_j (by omega)]; exact h3, h4, h5.cg (fun j _ _ => ag_x (by omega))⟩, ⟨ag_s _ _ _ _, by omega, by omega⟩, h7⟩
            obtain ⟨σ2, g1, g2, g3⟩ := c6_hold_ok hR1 40
            have hK2 := (hK.ru hp hF2).ru hp g2
            obtain ⟨σ3, f1, f2, f3⟩ := c10_step_p hK2
            refine ⟨1, σ3, ?_, (wru_d hF2).tr ((wru_d g2).tr (wtq_d f2)), Or.inr rfl, Or.inl ⟨_, _, _, _, f3, g3.tq f3.lr f2, fun k => ?_⟩⟩
            · have := pre (some (0, [1], σ3)) (by
                unfold c6_readOperand_p72 c6_openBracket
                rw [if_neg c45, if_pos c40, eop, if_pos co, wq (x := op + 1) (by omega) (by omega), g1, acall0_some, f1, acall0_some, acall0_some, if_pos (by omega)])
              rw [hkd] at this; exact this
            · show rlE b n (k + 1) 1 W op P T = _
              rw [u1, if_neg c2, if_neg cn, if_neg c45, if_pos c40, if_neg (show ¬ 8 ≤ op by omega)]
          · obtain ⟨τ, e1, e2, e3⟩ := c10_refuse_p hK (f := 2) (by omega)
            refine ⟨1, τ, ?_, wtq_d e2, Or.inr rfl, Or.inr ⟨2, P, W, op, T, by omega, e3, h.tq e3.1 e2, fun k => ?_⟩⟩
            · have := pre (some (0, [1], τ)) (by
                unfold c6_readOperand_p72 c6_openBracket
                rw [if_neg c45, if_pos c40, eop, if_neg co, e1, acall0_some, acall0_some, if_pos (by omega)])
              rw [hkd] at this; exact this
            · show (rlE b n (k + 1) 1 W op P T).1 = _ ∧ (rlE b n (k + 1) 1 W op P T).2.1 = _
              rw [u1, if_neg c2, if_neg cn, if_neg c45, if_pos c40, if_pos (show 8 ≤ op by omega)]; exact ⟨rfl, rfl⟩
        · obtain ⟨σ1, e1, e2, e3⟩ := c10_refuse_p hK (f := 1) (by omega)
          obtain ⟨σ4, i1, i2, i3⟩ := readOperand_p117_ok (h.tq e3.1 e2)
          refine ⟨0, σ4, ?_, (wtq_d e2).tr (wru_d i2), Or.inl rfl, Or.inr ⟨1, P, _, _, _, by omega, e3.ru hp i2, i3, fun k => ?_⟩⟩
          · have := pre (some (0, [0], σ4)) (by
              unfold c6_readOperand_p72
              rw [if_neg c45, if_neg c40, e1, acall0_some, i1])
            rw [hkd] at this; exact this
          · show (rlE b n (k + 1) 1 W op P T).1 = _ ∧ (rlE b n (k + 1) 1 W op P T).2.1 = _
            rw [u1, if_neg c2, if_neg cn, if_neg c45, if_neg c40]; exact ⟨rfl, rfl⟩
