/-! the class's half of whole's part of this name -/
/-- the cells hold the list, its first on top -/
def WTl (a : Int → Int) : List Int → Prop
  | [] => True
  | w :: W => a W.length = w ∧ WTl a W
theorem WTl.cg {a a' : Int → Int} : ∀ {W : List Int}, WTl a W → (∀ j, 0 ≤ j → j < W.length → a' j = a j) → WTl a' W := by
  intro W
  induction W with
  | nil => intro _ _; trivial
  | cons w W ih =>
    intro h g
    have hl : ((w :: W).length : Int) = W.length + 1 := by simp
    exact ⟨by rw [g _ (by omega) (by omega)]; exact h.1, ih h.2 (fun j j0 j1 => g j j0 (by omega))⟩
def wrT (T : aH) (v : Int) : aH := if T 24 0 < 64 ∧ 0 ≤ v then stv (stv T 8 (T 24 0) v) 24 0 (T 24 0 + 1) else T
def kntT (T : aH) : aH := stv T 0 4 (T 0 4 + 1)
def pushW (W : List Int) (v : Int) : List Int := if W.length < 72 then v :: W else W
def stg (w : Int) : Int := if w = 3042 then 2 else if w = 3047 then 2 else if w = 3043 then 1 else if w = 3045 then 1 else 0
/-- the minus signs on top are written -/
def flN : List Int → aH → List Int × aH
  | [], T => ([], T)
  | w :: W, T => if w = 2000 then flN W (wrT T 2000) else (w :: W, T)
/-- the signs on top that bind at least so are written -/
def flW (r : Int) : List Int → aH → List Int × aH
  | [], T => ([], T)
  | w :: W, T => if stg w < r then (w :: W, T) else flW r W (wrT T w)
def RU (pl : Int) (W : List Int) (op : Int) (T : aH) (σ : aS) : Prop :=
  LR σ ∧ aget σ 7 1 = pl ∧ PLc pl T σ ∧ (aget σ (pl + 7) 8 = W.length ∧ W.length ≤ 72 ∧ WTl (aget σ (pl + 13)) W) ∧ (aget σ (pl + 7) 9 = op ∧ 0 ≤ op ∧ op ≤ 8) ∧ (0 ≤ T 24 0 ∧ T 24 0 ≤ 64 ∧ 0 ≤ T 0 4)
theorem RU.fp {pl : Int} {W : List Int} {op : Int} {T : aH} {σ τ : aS} {Q : Int → Int → Prop} (h : RU pl W op T σ) (hL : LR τ) (hF : Fp Q σ τ) (hQ : ∀ x j, Q x j → x = 2) : RU pl W op T τ := by
  obtain ⟨-, h1, h2, ⟨h3, h4, h5⟩, h6, h7⟩ := h
  have hp := h2.1
  have g : ∀ x j, x ≠ 2 → aget τ x j = aget σ x j := fun x j hx => hF.g (fun q => hx (hQ x j q))
  exact ⟨hL, by rw [g 7 1 (by omega)]; exact h1, h2.fp hF (fun x j q => by have := hQ x j q; omega), ⟨by rw [g _ _ (by omega)]; exact h3, h4, h5.cg (fun j _ _ => g _ _ (by omega))⟩, by rw [g _ _ (by omega)]; exact h6, h7⟩
/-- what a rule's reading changes, tokens aside -/
def wru (pl x j : Int) : Prop := (x = pl + 7 ∧ (j = 1 ∨ (7 ≤ j ∧ j ≤ 9))) ∨ x = pl + 9 ∨ x = pl + 13
theorem wru_d {pl : Int} {σ τ : aS} (hF : Fp (wru pl) σ τ) : Fp (wrd pl) σ τ := hF.mono (fun x j q => Or.inr (by unfold wru at q; unfold wrp; omega))
theorem LR.ru {pl : Int} {σ τ : aS} (h : LR σ) (hp : pl = 90 ∨ pl = 110) (hF : Fp (wru pl) σ τ) : LR τ := h.rd hp (wru_d hF) (fun _ _ q => q)
theorem PKc.ru {pl : Int} {b : Int → Int} {n P : Int} {σ τ : aS} (h : PKc b n P σ) (hp : pl = 90 ∨ pl = 110) (hF : Fp (wru pl) σ τ) : PKc b n P τ := h.pf (h.lr.ru hp hF) hF (fun x j q => by unfold wru at q; omega)
theorem FTc.ru {pl f P : Int} {σ τ : aS} (h : FTc f P σ) (hp : pl = 90 ∨ pl = 110) (hF : Fp (wru pl) σ τ) : FTc f P τ := h.pf (h.1.ru hp hF) hF (fun x j q => by unfold wru at q; omega)
/-- the number of waiting ones is put anew: the list cut -/
theorem RU.cut {pl : Int} {w : Int} {W : List Int} {op : Int} {T : aH} {σ : aS} (h : RU pl (w :: W) op T σ) : RU pl W op T (aput σ (pl + 7) 8 W.length) ∧ Fp (wru pl) σ (aput σ (pl + 7) 8 W.length) := by
  obtain ⟨hL, h1, h2, ⟨h3, h4, h5⟩, h6, h7⟩ := h
  have hp := h2.1
  have hF : Fp (fun x j => x = pl + 7 ∧ j = 8) σ (aput σ (pl + 7) 8 W.length) := (Fp.rf _ _).put _ ⟨rfl, rfl⟩
  have hF2 : Fp (wru pl) σ (aput σ (pl + 7) 8 W.length) := hF.mono (fun x j q => Or.inl ⟨q.1, by omega⟩)
  have hl : ((w :: W).length : Int) = W.length + 1 := by simp
  refine ⟨⟨hL.ru hp hF2, by rw [ag_x (by omega)]; exact h1, h2.fp hF (fun x j q => by omega), ⟨ag_s _ _ _ _, by omega, h5.2.cg (fun j _ _ => ag_x (by omega))⟩, by rw [ag_j (by omega)]; exact h6, h7⟩, hF2⟩
theorem ctm_k {j : Int} : (0 ≤ j → j < 64 → ctm 9 j = some (8, j)) ∧ (0 ≤ j → j < 4 → ctm 10 j = some (9, j)) ∧ (0 ≤ j → j < 4 → ctm 11 j = some (10, j)) := by
  refine ⟨fun j0 j1 => ?_, fun j0 j1 => ?_, fun j0 j1 => ?_⟩
  all_goals
    unfold ctm
    repeat (rw [if_neg (by omega)])
    rw [if_pos (by omega)]
theorem wrT_bd {T : aH} {v : Int} (h : 0 ≤ T 24 0 ∧ T 24 0 ≤ 64 ∧ 0 ≤ T 0 4) : 0 ≤ wrT T v 24 0 ∧ wrT T v 24 0 ≤ 64 ∧ 0 ≤ wrT T v 0 4 := by
  unfold wrT
  by_cases c : T 24 0 < 64 ∧ 0 ≤ v
  · rw [if_pos c, stv_s, stv_x (by omega), stv_x (by omega)]; omega
  · rw [if_neg c]; exact h
theorem c6_writeStep_ok {pl : Int} {W : List Int} {op : Int} {T : aH} {σ : aS} (h : RU pl W op T σ) (v : Int) : ∃ τ, c6_writeStep (pl + 7) v σ = some (0, [], τ) ∧ Fp (wru pl) σ τ ∧ RU pl W op (wrT T v) τ := by
  obtain ⟨hL, h1, h2, ⟨h3, h4, h5⟩, h6, h7⟩ := h
  have hp := h2.1
  have e7 : aget σ (pl + 7) 7 = T 24 0 := h2.2.1 7 7 24 0 rfl
  have hbd := wrT_bd (v := v) h7
  unfold c6_writeStep
  unfold wrT at hbd ⊢
  rw [e7]
  by_cases c : T 24 0 < 64
  · by_cases d : v < 0
    · rw [if_neg (show ¬ (T 24 0 < 64 ∧ 0 ≤ v) by omega)]
      exact ⟨σ, by rw [if_pos c, if_pos d], Fp.rf _ _, hL, h1, h2, ⟨h3, h4, h5⟩, h6, h7⟩
    · rw [if_pos (show T 24 0 < 64 ∧ 0 ≤ v by omega)] at hbd ⊢
      have p1 := h2.put (x := 9) (j := T 24 0) (ctm_k.1 h7.1 c) v (by rw [hsf_ne (by omega) (by omega)])
      have p2' := p1.put (x := 7) (j := 7) rfl (T 24 0 + 1) (by rw [hsf_ne (by omega) (by omega)])
      have hF : Fp (fun x j => (x = pl + 9 ∧ j = T 24 0) ∨ (x = pl + 7 ∧ j = 7)) σ (aput (aput σ (pl + 9) (T 24 0) v) (pl + 7) 7 (T 24 0 + 1)) := ((Fp.rf _ _).put _ (Or.inl ⟨rfl, rfl⟩)).put _ (Or.inr ⟨rfl, rfl⟩)
      have hF2 : Fp (wru pl) σ (aput (aput σ (pl + 9) (T 24 0) v) (pl + 7) 7 (T 24 0 + 1)) := hF.mono (fun x j q => by unfold wru; omega)
      refine ⟨aput (aput σ (pl + 9) (T 24 0) v) (pl + 7) 7 (T 24 0 + 1), ?_, hF2, hL.ru hp hF2, ?_, p2', ⟨?_, h4, ?_⟩, ?_, hbd⟩
      · rw [ru_2 hL hp, np_9 hL hp, ag_x (show pl + 7 ≠ pl + 9 by omega), e7, wq (x := T 24 0 + 1) (by omega) (by omega)]
        exact ite_p c (ite_n d (ite_n (by omega) (ite_p (by omega) rfl)))
      · rw [hF.g (by omega)]; exact h1
      · rw [hF.g (by omega)]; exact h3
      · exact h5.cg (fun j _ _ => hF.g (by omega))
      · rw [hF.g (by omega)]; exact h6
  · rw [if_neg (show ¬ (T 24 0 < 64 ∧ 0 ≤ v) by omega)]
    exact ⟨σ, by rw [if_neg c], Fp.rf _ _, hL, h1, h2, ⟨h3, h4, h5⟩, h6, h7⟩
theorem c6_hold_ok {pl : Int} {W : List Int} {op : Int} {T : aH} {σ : aS} (h : RU pl W op T σ) (v : Int) : ∃ τ, c6_hold (pl + 7) v σ = some (0, [], τ) ∧ Fp (wru pl) σ τ ∧ RU pl (pushW W v) op T τ := by
  obtain ⟨hL, h1, h2, ⟨h3, h4, h5⟩, h6, h7⟩ := h
  have hp := h2.1
  unfold c6_hold pushW
  rw [ru_6 hL hp, np_13 hL hp, h3, if_neg (show ¬ pl + 13 = 0 by omega), if_neg (show ¬ pl + 13 = 0 by omega)]
  by_cases c : W.length < 72
  · rw [if_pos c]
    have hF : Fp (fun x j => (x = pl + 13 ∧ j = W.length) ∨ (x = pl + 7 ∧ j = 8)) σ (aput (aput σ (pl + 13) W.length v) (pl + 7) 8 (W.length + 1)) := ((Fp.rf _ _).put _ (Or.inl ⟨rfl, rfl⟩)).put _ (Or.inr ⟨rfl, rfl⟩)
    have hF2 : Fp (wru pl) σ (aput (aput σ (pl + 13) W.length v) (pl + 7) 8 (W.length + 1)) := hF.mono (fun x j q => by unfold wru; omega)
    have hl : ((v :: W).length : Int) = W.length + 1 := by simp
    refine ⟨aput (aput σ (pl + 13) W.length v) (pl + 7) 8 (W.length + 1), ?_, hF2, hL.ru hp hF2, ?_, h2.fp hF (fun x j q => by omega), ⟨?_, by simp; omega, ?_, ?_⟩, ?_, h7⟩
    · rw [ag_x (show pl + 7 ≠ pl + 13 by omega), h3, wq (x := (W.length : Int) + 1) (by omega) (by omega)]
      exact ite_p (by omega) (ite_p (by omega) rfl)
    · rw [hF.g (by omega)]; exact h1
    · rw [ag_s, hl]
    · rw [ag_x (by omega), ag_s]
    · exact h5.cg (fun j j0 j1 => hF.g (by omega))
    · rw [hF.g (by omega)]; exact h6
  · rw [if_neg c]
    exact ⟨σ, by rw [if_neg (by omega)], Fp.rf _ _, hL, h1, h2, ⟨h3, h4, h5⟩, h6, h7⟩
theorem flN_s {W : List Int} {T : aH} : flN (2000 :: W) T = flN W (wrT T 2000) := if_pos rfl
theorem flN_n {w : Int} {W : List Int} {T : aH} (h : w ≠ 2000) : flN (w :: W) T = (w :: W, T) := if_neg h
theorem c6_writeNegations_ok {pl : Int} {W : List Int} {op : Int} {T : aH} {σ : aS} (h : RU pl W op T σ) : ∃ τ, c6_writeNegations (pl + 7) σ = some (0, [], τ) ∧ Fp (wru pl) σ τ ∧ RU pl (flN W T).1 op (flN W T).2 τ := by
  have h72 := h.2.2.2.1.2.1
  have hal := al_I (c := 1) (B := aU1 c6_writeNegations_b0) (n := W.length) (i := 0) (vs := [pl + 7]) (σ := σ)
    (fun k vs τ => vs = [pl + 7] ∧ Fp (wru pl) σ τ ∧ ∃ W' T', (W'.length : Int) = W.length - k ∧ RU pl W' op T' τ ∧ flN W' T' = flN W T)
    (fun r => ∃ τ, r = (0, [], τ) ∧ Fp (wru pl) σ τ ∧ RU pl (flN W T).1 op (flN W T).2 τ) (by omega) (by omega) ⟨rfl, Fp.rf _ _, W, T, by omega, h, rfl⟩ ?_
  · obtain ⟨r, hr, τ, rfl, h1, h2⟩ := hal
    refine ⟨τ, ?_, h1, h2⟩
    unfold c6_writeNegations c6_writeNegations_l0
    rw [hr]; rfl
  · rintro k vs τ hk ⟨rfl, hF, W', T', hlen, hR, he⟩
    have hL := hR.1
    have hp := hR.2.2.1.1
    have h3 := hR.2.2.2.1.1
    have h4 := hR.2.2.2.1.2.1
    cases W' with
    | nil =>
      refine Or.inr ⟨(0, [], τ), ?_, Nat.ne_of_beq_eq_false rfl, τ, rfl, hF, by rw [← he]; exact hR⟩
      show c6_writeNegations_b0 (pl + 7) τ = _
      unfold c6_writeNegations_b0
      rw [h3]
      exact ite_n (by simp) rfl
    | cons w W' =>
      have hl : ((w :: W').length : Int) = W'.length + 1 := by simp
      have hw : aget τ (pl + 13) W'.length = w := hR.2.2.2.1.2.2.1
      have ew : w32 (((w :: W').length : Int) - 1) = W'.length := by rw [wq (by omega) (by omega)]; omega
      by_cases c : w = 2000
      · subst c
        obtain ⟨hR2, hF2⟩ := hR.cut
        obtain ⟨υ, e1, e2, e3⟩ := c6_writeStep_ok hR2 2000
        refine Or.inl ⟨by omega, [pl + 7], υ, ?_, rfl, hF.tr (hF2.tr e2), W', _, by omega, e3, by rw [← he, flN_s]⟩
        show c6_writeNegations_b0 (pl + 7) τ = _
        unfold c6_writeNegations_b0
        rw [ru_6 hL hp, np_13 hL hp, h3, ew, hw, e1, acall0_some]
        exact ite_p (by omega) (ite_n (by omega) (ite_p (by omega) (ite_p rfl rfl)))
      · refine Or.inr ⟨(0, [], τ), ?_, Nat.ne_of_beq_eq_false rfl, τ, rfl, hF, by rw [← he, flN_n c]; exact hR⟩
        show c6_writeNegations_b0 (pl + 7) τ = _
        unfold c6_writeNegations_b0
        rw [ru_6 hL hp, np_13 hL hp, h3, ew, hw]
        exact ite_p (by omega) (ite_n (by omega) (ite_p (by omega) (ite_n c rfl)))
theorem c6_strengthOf_ok (w : Int) (σ : aS) : c6_strengthOf w σ = some (0, [stg w], σ) := by
  unfold c6_strengthOf stg
  repeat' split
  all_goals rfl
theorem flW_s {r w : Int} {W : List Int} {T : aH} (h : ¬ stg w < r) : flW r (w :: W) T = flW r W (wrT T w) := if_neg h
theorem flW_n {r w : Int} {W : List Int} {T : aH} (h : stg w < r) : flW r (w :: W) T = (w :: W, T) := if_pos h
theorem c6_writeWaiting_ok {pl : Int} {W : List Int} {op : Int} {T : aH} {σ : aS} (h : RU pl W op T σ) (r : Int) : ∃ τ, c6_writeWaiting (pl + 7) r σ = some (0, [], τ) ∧ Fp (wru pl) σ τ ∧ RU pl (flW r W T).1 op (flW r W T).2 τ := by
  have h72 := h.2.2.2.1.2.1
  have hal := al_I (c := 1) (B := aU2 c6_writeWaiting_b0) (n := W.length) (i := 0) (vs := [pl + 7, r]) (σ := σ)
    (fun k vs τ => vs = [pl + 7, r] ∧ Fp (wru pl) σ τ ∧ ∃ W' T', (W'.length : Int) = W.length - k ∧ RU pl W' op T' τ ∧ flW r W' T' = flW r W T)
    (fun q => ∃ τ, q = (0, [], τ) ∧ Fp (wru pl) σ τ ∧ RU pl (flW r W T).1 op (flW r W T).2 τ) (by omega) (by omega) ⟨rfl, Fp.rf _ _, W, T, by omega, h, rfl⟩ ?_
  · obtain ⟨q, hr, τ, rfl, h1, h2⟩ := hal
    refine ⟨τ, ?_, h1, h2⟩
    unfold c6_writeWaiting c6_writeWaiting_l0
    rw [hr]; rfl
  · rintro k vs τ hk ⟨rfl, hF, W', T', hlen, hR, he⟩
    have hL := hR.1
    have hp := hR.2.2.1.1
    have h3 := hR.2.2.2.1.1
    have h4 := hR.2.2.2.1.2.1
    cases W' with
    | nil =>
      refine Or.inr ⟨(0, [], τ), ?_, Nat.ne_of_beq_eq_false rfl, τ, rfl, hF, by rw [← he]; exact hR⟩
      show c6_writeWaiting_b0 (pl + 7) r τ = _
      unfold c6_writeWaiting_b0
      rw [h3]
      exact ite_n (by simp) rfl
    | cons w W' =>
      have hl : ((w :: W').length : Int) = W'.length + 1 := by simp
      have hw : aget τ (pl + 13) W'.length = w := hR.2.2.2.1.2.2.1
      have ew : w32 (((w :: W').length : Int) - 1) = W'.length := by rw [wq (by omega) (by omega)]; omega
      by_cases c : stg w < r
      · refine Or.inr ⟨(0, [], τ), ?_, Nat.ne_of_beq_eq_false rfl, τ, rfl, hF, by rw [← he, flW_n c]; exact hR⟩
        show c6_writeWaiting_b0 (pl + 7) r τ = _
        unfold c6_writeWaiting_b0
        rw [ru_6 hL hp, np_13 hL hp, h3, ew, hw, c6_strengthOf_ok, acall1_some]
        exact ite_p (by omega) (ite_n (by omega) (ite_p (by omega) (ite_p c rfl)))
      · obtain ⟨hR2, hF2⟩ := hR.cut
        obtain ⟨υ, e1, e2, e3⟩ := c6_writeStep_ok hR2 w
        obtain ⟨τ2, hτ2⟩ : ∃ τ2, τ2 = aput τ (pl + 7) 8 W'.length := ⟨_, rfl⟩
        rw [← hτ2] at hR2 hF2 e1 e2
        have hw2 : aget τ2 (pl + 13) W'.length = w := by rw [hτ2, ag_x (by omega)]; exact hw
        refine Or.inl ⟨by omega, [pl + 7, r], υ, ?_, rfl, hF.tr (hF2.tr e2), W', _, by omega, e3, by rw [← he, flW_s c]⟩
        show c6_writeWaiting_b0 (pl + 7) r τ = _
        unfold c6_writeWaiting_b0
        rw [ru_6 hL hp, np_13 hL hp, h3, ew, hw, c6_strengthOf_ok, acall1_some, h3, ew, ← hτ2, ru_6 hR2.1 hp, np_13 hR2.1 hp, hR2.2.2.2.1.1, hw2, e1, acall0_some]
        exact ite_p (by omega) (ite_n (by omega) (ite_p (by omega) (ite_n c (ite_n (by omega) (ite_p (by omega) rfl)))))
