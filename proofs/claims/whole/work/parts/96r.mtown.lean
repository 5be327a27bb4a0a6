/-! the reference reads: towns -/
/-- steps told before stay -/
def P8 (s : Int) (f : Int → Int) (U : aH) : Prop := s ≤ U 24 0 ∧ ∀ k, k < s → U 8 k = f k
theorem P8.kn {s : Int} {f : Int → Int} {U : aH} (h : P8 s f U) : P8 s f (kntT U) := ⟨by rw [kntT_x (by omega)]; exact h.1, fun k hk => by rw [kntT_x (by omega)]; exact h.2 k hk⟩
theorem P8.wr {s : Int} {f : Int → Int} {U : aH} (h : P8 s f U) (v : Int) : P8 s f (wrT U v) := by
  unfold wrT
  by_cases c : U 24 0 < 64 ∧ 0 ≤ v
  · rw [if_pos c]
    have := h.1
    exact ⟨by rw [stv_s]; omega, fun k hk => by rw [stv_x (by omega), stv_j (by omega)]; exact h.2 k hk⟩
  · rw [if_neg c]; exact h
theorem P8.fN {s : Int} {f : Int → Int} : ∀ (W : List Int) {U : aH}, P8 s f U → P8 s f (flN W U).2 := by
  intro W
  induction W with
  | nil => intro U h; exact h
  | cons w W ih =>
    intro U h
    by_cases c : w = 2000
    · subst c; rw [flN_s]; exact ih (h.wr 2000)
    · rw [flN_n c]; exact h
theorem P8.fW {s r : Int} {f : Int → Int} : ∀ (W : List Int) {U : aH}, P8 s f U → P8 s f (flW r W U).2 := by
  intro W
  induction W with
  | nil => intro U h; exact h
  | cons w W ih =>
    intro U h
    by_cases c : stg w < r
    · rw [flW_n c]; exact h
    · rw [flW_s c]; exact ih (h.wr w)
theorem P8.er {s : Int} {f : Int → Int} {W : List Int} {op P : Int} {U : aH} (h : P8 s f U) : P8 s f (endR W op P U).2.2 := by
  unfold endR
  by_cases c : 0 < op
  · rw [if_pos c]; exact h
  · rw [if_neg c]; exact h.fW W
theorem P8.rl {b : Int → Int} {n s : Int} {f : Int → Int} : ∀ (k : Nat) (o : Int) (W : List Int) (op P : Int) (U : aH), P8 s f U → P8 s f (rlE b n k o W op P U).2.2 := by
  intro k
  induction k with
  | zero => intro o W op P U h; exact h.er
  | succ k ih =>
    intro o W op P U h
    rw [rlE_s]
    by_cases c0 : o = 0
    · rw [if_pos c0]
      by_cases c1 : kd b n P = 41 ∧ 0 < op
      · rw [if_pos c1]; exact ih _ _ _ _ _ ((h.fW W).fN _)
      · rw [if_neg c1]
        by_cases c2 : isS (kd b n P)
        · rw [if_pos c2]
          by_cases c3 : 64 ≤ U 0 4
          · rw [if_pos c3]; exact h
          · rw [if_neg c3]; exact ih _ _ _ _ _ (h.kn.fW W)
        · rw [if_neg c2]; exact h.er
    · rw [if_neg c0]
      by_cases c1 : kd b n P = 2
      · rw [if_pos c1]
        by_cases c3 : 64 ≤ U 0 4
        · rw [if_pos c3]; exact h
        · rw [if_neg c3]
          by_cases c4 : pNum b n 0 999 P ≠ 0
          · rw [if_pos c4]; exact h
          · rw [if_neg c4]; exact ih _ _ _ _ _ ((h.kn.wr _).fN W)
      · rw [if_neg c1]
        by_cases c2 : 111 ≤ kd b n P ∧ kd b n P ≤ 115
        · rw [if_pos c2]
          by_cases c3 : 64 ≤ U 0 4
          · rw [if_pos c3]; exact h
          · rw [if_neg c3]; exact ih _ _ _ _ _ ((h.kn.wr _).fN W)
        · rw [if_neg c2]
          by_cases c4 : kd b n P = 45
          · rw [if_pos c4]
            by_cases c3 : 64 ≤ U 0 4
            · rw [if_pos c3]; exact h
            · rw [if_neg c3]; exact ih _ _ _ _ _ h.kn
          · rw [if_neg c4]
            by_cases c5 : kd b n P = 40
            · rw [if_pos c5]
              by_cases c3 : 8 ≤ op
              · rw [if_pos c3]; exact h
              · rw [if_neg c3]; exact ih _ _ _ _ _ h
            · rw [if_neg c5]; exact h
/-- while a town's line is read -/
def QW (U : aH) (t : Int) (σ : aS) : Prop := Q0 U 0 1 0 σ ∧ QO U t t σ ∧ (aget σ 141 (4 + t) = U 11 (10 + t) ∧ aget σ 142 (4 + t) = U 5 t ∧ aget σ 143 (4 + t) = U 6 t ∧ aget σ 144 (4 + t) = U 23 t ∧ aget σ 147 (4 + t) = U 12 t)
def BW (U : aH) (t : Int) : Prop := (0 ≤ U 0 0 ∧ U 0 0 ≤ 5) ∧ U 0 1 ≤ 5 ∧ (0 ≤ t ∧ t < 4) ∧ U 0 2 = t + 1 ∧ (∀ u, 0 ≤ u → u < t → U 13 u ≤ 6) ∧ ∀ u, 0 ≤ u → u < t → 0 ≤ U 9 u ∧ U 10 u ≤ U 24 0
def wqw (t x j : Int) : Prop := (x = 130 ∧ 7 ≤ j ∧ j ≤ 11) ∨ ((142 ≤ x ∧ x ≤ 144) ∧ j = 4 + t)
theorem wqw_r {t : Int} (t0 : 0 ≤ t) {σ τ : aS} (h : Fp (wqw t) σ τ) : Fp wrr σ τ := h.mono (fun x j q => by unfold wqw at q; unfold wrr; omega)
theorem wtn_w {t : Int} {σ τ : aS} (h : Fp wtn σ τ) : Fp (wqw t) σ τ := h.mono (fun x j q => by unfold wtn at q; unfold wqw; omega)
theorem QW.cg {U V : aH} {t : Int} {σ τ : aS} (h : QW U t σ) (hB : BW U t) (hF : Fp (wqw t) σ τ) (ux : ∀ a i, (a ≠ 5 ∧ a ≠ 6 ∧ a ≠ 23) ∨ i ≠ t → V a i = U a i) (c : aget τ 142 (4 + t) = V 5 t ∧ aget τ 143 (4 + t) = V 6 t ∧ aget τ 144 (4 + t) = V 23 t) : QW V t τ ∧ BW V t := by
  obtain ⟨h0, hO, h1, -, -, -, h5⟩ := h
  have hB' := hB
  obtain ⟨b0, b1, b2, b3, b4, b5⟩ := hB
  have n : ∀ x j, wqw t x j → (x = 130 ∧ 7 ≤ j ∧ j ≤ 11) ∨ ((142 ≤ x ∧ x ≤ 144) ∧ j = 4 + t) := fun x j q => q
  refine ⟨⟨(h0.fp hF (fun x j q => by have := n x j q; omega)).cg (fun i _ _ => ux 0 i (by omega)) (ux 24 0 (by omega)), hO.cg (K := U 24 0) hF (fun x j q => by have := n x j q; unfold wqo; omega) b2.1 b0.2 b1 b4 b5 ⟨ux 0 0 (by omega), ux 0 1 (by omega)⟩ (fun i _ => ux 11 i (by omega)) (fun a i ha => ux a i (by omega)) (fun k _ => ux 8 k (by omega)) (fun a u _ hu => ux a u (Or.inr hu)) (fun j _ => ux 14 j (by omega)), ?_, c.1, c.2.1, c.2.2, ?_⟩, ?_⟩
  · rw [hF.g (fun q => by have := n _ _ q; omega), ux 11 _ (by omega)]; exact h1
  · rw [hF.g (fun q => by have := n _ _ q; omega), ux 12 _ (by omega)]; exact h5
  · refine ⟨by rw [ux 0 0 (by omega)]; exact b0, by rw [ux 0 1 (by omega)]; exact b1, b2, by rw [ux 0 2 (by omega)]; exact b3, fun u u0 u1 => by rw [ux 13 u (by omega)]; exact b4 u u0 u1, fun u u0 u1 => by rw [ux 9 u (by omega), ux 10 u (by omega), ux 24 0 (by omega)]; exact b5 u u0 u1⟩
/-- tokens read leave the town -/
theorem QW.tn {U : aH} {t : Int} {σ τ : aS} (h : QW U t σ) (hB : BW U t) (hF : Fp wtn σ τ) : QW U t τ := by
  refine (h.cg hB (wtn_w hF) (fun _ _ _ => rfl) ⟨?_, ?_, ?_⟩).1
  · rw [hF.g (by unfold wtn; omega)]; exact h.2.2.2.1
  · rw [hF.g (by unfold wtn; omega)]; exact h.2.2.2.2.1
  · rw [hF.g (by unfold wtn; omega)]; exact h.2.2.2.2.2.1
theorem gift_step {b : Int → Int} {n t P : Int} {U : aH} {σ : aS} (h : TKr b n P σ) (hQ : QW U t σ) (hB : BW U t) (hK : BTk U) (hG : BGk U) (hk : kd b n P = 105) :
    ((lnI b n t P U).1 = 0 ∧ ∃ τ, aU2 c12_townLine_b71 [130, 4 + t] σ = some (72, [130, 4 + t], τ) ∧ Fp (wqw t) σ τ ∧ TKr b n (lnI b n t P U).2.1 τ ∧ QW (lnI b n t P U).2.2 t τ ∧ BW (lnI b n t P U).2.2 t) ∨
    ((lnI b n t P U).1 ≠ 0 ∧ ∃ τ r, aU2 c12_townLine_b71 [130, 4 + t] σ = some r ∧ (r = (0, [0], τ) ∨ (r.1 = 119 ∧ r.2.1 = [130] ∧ c12_townLine_p118 130 r.2.2 = some (0, [0], τ))) ∧ Fp wrr σ τ ∧ FRr (lnI b n t P U).1 (lnI b n t P U).2.1 τ) := by
  have hQ' := hQ
  obtain ⟨b0, b1, b2, b3, b4, b5⟩ := id hB
  obtain ⟨h0, ⟨hg, hs, ht⟩, e141, e142, e143, e144, e147⟩ := hQ
  have h18 : aget σ 130 18 = U 0 0 := h0.1
  have hkey := r_key h (i := 5) (by omega) (by omega)
  rw [show rkw 5 = 7 from rfl, if_pos (show kd b n P = 100 + 5 by omega)] at hkey
  obtain ⟨σ1, e1, e2, e3⟩ := r_token h
  have f1 : Fp wtn σ σ1 := wkt_n e2
  have nm : ∀ k, 0 ≤ k → k < U 0 0 → aget σ1 133 (5 + k) = U 11 (5 * 0 + k) := fun k k0 k1 => by rw [e2.g (by unfold wkt; omega), show 5 * 0 + k = k by omega]; exact (hg k k0 k1).1
  have e18 : aget σ1 130 18 = U 0 0 := by rw [e2.g (by unfold wkt; omega)]; exact h18
  have hu := hG.u hK b2.1 b2.2
  have start : ∀ r : aR, (acall1 (c12_oldName 130 133 5 (U 0 0) σ1) fun v3 σ3 => (if v3 = 0 then (if (0 : Int) = 0 ∨ (0 : Int) = 1 then some (0, [0], σ3) else none) else (if aget σ3 130 33 = 0 then none else (if (0 : Int) ≤ 4 + t ∧ 4 + t < alen σ3 (aget σ3 130 33) then (acall1 (c12_isOf (aget σ3 (aget σ3 130 33) (4 + t)) (aget σ3 130 11) σ3) fun v4 σ4 => (if v4 = 0 then (if aget σ4 130 33 = 0 then none else (if (0 : Int) ≤ 4 + t ∧ 4 + t < alen σ4 (aget σ4 130 33) then (if (0 : Int) ≤ 4 + t ∧ 4 + t < alen σ4 (aget σ4 130 33) then (acall0 (c12_token 130 (aput σ4 (aget σ4 130 33) (4 + t) (aor (aget σ4 (aget σ4 130 33) (4 + t)) (ashl 1 (aget σ4 130 11))))) fun σ5 => some (72, [130, 4 + t], σ5)) else none) else none)) else some (119, [130], σ4))) else none)))) = r → aU2 c12_townLine_b71 [130, 4 + t] σ = r := by
    intro r hr
    show c12_townLine_b71 130 (4 + t) σ = r
    unfold c12_townLine_b71
    rw [hkey, acall1_some, if_neg (show ¬ (1 : Int) = 0 by omega), e1, acall0_some, r_130_24 e3.1.1, if_neg (show ¬ (133 : Int) = 0 by omega), e18]
    exact hr
  unfold lnI
  rcases r_old e3 (T := U) (w := 0) (x := 133) (o := 5) (N := 10) (by omega) (by omega) (by omega) b0.1 (by omega) nm with ⟨z, hgr, σ2, g1, g2, g3, g4⟩ | ⟨z, τ, g1, g2, g3⟩
  · rw [if_neg (show ¬ odF b n U 0 (nxp b n P) ≠ 0 from fun q => q z)]
    have f2 : Fp wtn σ σ2 := f1.tr (g2.mono (fun x j q => by unfold wtn; omega))
    have L2 := g3.1.1
    generalize aNamed U 0 (vlt b n (nxp b n P)) = g at hgr g4 ⊢
    have w142 : aget σ2 142 (4 + t) = U 5 t := by rw [f2.g (by unfold wtn; omega)]; exact e142
    have hof := c12_isOf_ok (x := U 5 t) (k := g) hu.1 (by omega) hgr.1 (by omega) σ2
    by_cases c : bI (U 5 t) g = 0
    · rw [if_neg (show ¬ bI (U 5 t) g ≠ 0 from fun q => q c)]
      rw [c] at hof
      obtain ⟨σ5, h5⟩ : ∃ σ5, σ5 = aput σ2 142 (4 + t) (aor (U 5 t) (ashl 1 g)) := ⟨_, rfl⟩
      have f5 : Fp (fun x j => x = 142 ∧ j = 4 + t) σ2 σ5 := by rw [h5]; exact (Fp.rf _ _).put _ ⟨rfl, rfl⟩
      have t5 := g3.pf f5 (fun x j q => by unfold wrr; omega) (fun x j q => by unfold wkt; omega)
      obtain ⟨σ6, k1, k2, k3⟩ := r_token t5
      have fA : Fp (wqw t) σ σ6 := (wtn_w f2).tr ((f5.mono (fun x j q => by unfold wqw; omega)).tr (wtn_w (wkt_n k2)))
      have hcg := hQ'.cg (V := stv U 5 t (aor (U 5 t) (ashl 1 g))) hB fA (fun a i q => by
        by_cases qa : a = 5
        · rw [qa, stv_j (by omega)]
        · exact stv_x qa _) ⟨by rw [k2.g (by unfold wkt; omega), h5, ag_s, stv_s], by rw [k2.g (by unfold wkt; omega), f5.g (by omega), f2.g (by unfold wtn; omega), stv_x (by omega)]; exact e143, by rw [k2.g (by unfold wkt; omega), f5.g (by omega), f2.g (by unfold wtn; omega), stv_x (by omega)]; exact e144⟩
      refine Or.inl ⟨rfl, σ6, start _ ?_, fA, k3, hcg.1, hcg.2⟩
      rw [g1, acall1_some, if_neg (show ¬ (1 : Int) = 0 by omega), r_130_33 L2, n_142 L2, w142, g4, hof, acall1_some, if_pos rfl, r_130_33 L2, n_142 L2, w142, g4, ← h5, k1, acall0_some]
      exact ite_n (by omega) (ite_p (by omega) (ite_n (by omega) (ite_p (by omega) (ite_p (by omega) rfl))))
    · rw [if_pos (show bI (U 5 t) g ≠ 0 from c)]
      obtain ⟨τ, k1, k2, k3⟩ := c12_wrong_ok g3 3
      refine Or.inr ⟨by show (3 : Int) ≠ 0; omega, τ, (119, [130], σ2), start _ ?_, Or.inr ⟨rfl, rfl, ?_⟩, (wtn_r f2).tr k2, k3⟩
      · rw [g1, acall1_some, if_neg (show ¬ (1 : Int) = 0 by omega), r_130_33 L2, n_142 L2, w142, g4, hof, acall1_some, if_neg c]
        exact ite_n (by omega) (ite_p (by omega) rfl)
      · unfold c12_townLine_p118
        rw [k1, acall1_some]
        exact bz01 (Or.inl rfl)
  · rw [if_pos z]
    refine Or.inr ⟨z, τ, (0, [0], τ), start _ ?_, Or.inl rfl, (wtn_r f1).tr g2, g3⟩
    rw [g1, acall1_some, if_pos rfl]
    exact bz01 (Or.inl rfl)
theorem gifts_r {b : Int → Int} {n t P : Int} {U : aH} {σ : aS} (h : TKr b n P σ) (hQ : QW U t σ) (hB : BW U t) (hK : BTk U) (hG : BGk U) (hn : n ≤ 800) :
    ((lnIs b n t 800 P U).1 = 0 ∧ ∃ τ, c12_townLine_l71 130 (4 + t) σ = c12_townLine_p146 130 (4 + t) τ ∧ Fp (wqw t) σ τ ∧ TKr b n (lnIs b n t 800 P U).2.1 τ ∧ QW (lnIs b n t 800 P U).2.2 t τ ∧ BW (lnIs b n t 800 P U).2.2 t) ∨
    ((lnIs b n t 800 P U).1 ≠ 0 ∧ ∃ τ, c12_townLine_l71 130 (4 + t) σ = some (0, [0], τ) ∧ Fp wrr σ τ ∧ FRr (lnIs b n t 800 P U).1 (lnIs b n t 800 P U).2.1 τ) := by
  obtain ⟨t0, t4⟩ := hB.2.2.1
  generalize hX : lnIs b n t 800 P U = X
  have p1 := h.2.1
  have hal := al_I (c := 72) (B := aU2 c12_townLine_b71) (n := n) (i := P) (vs := [130, 4 + t]) (σ := σ)
    (fun k vs τ => vs = [130, 4 + t] ∧ Fp (wqw t) σ τ ∧ ∃ (fuel : Nat) (P' : Int) (U' : aH), k ≤ P' ∧ 0 ≤ P' ∧ n - P' ≤ fuel ∧ TKr b n P' τ ∧ QW U' t τ ∧ BW U' t ∧ BTk U' ∧ BGk U' ∧ lnIs b n t fuel P' U' = X)
    (fun r => (X.1 = 0 ∧ ∃ τ, r = (147, [130, 4 + t], τ) ∧ Fp (wqw t) σ τ ∧ TKr b n X.2.1 τ ∧ QW X.2.2 t τ ∧ BW X.2.2 t) ∨ (X.1 ≠ 0 ∧ ∃ τ, (r = (0, [0], τ) ∨ (r.1 = 119 ∧ r.2.1 = [130] ∧ c12_townLine_p118 130 r.2.2 = some (0, [0], τ))) ∧ Fp wrr σ τ ∧ FRr X.1 X.2.1 τ))
    p1.2 (by omega) ⟨rfl, Fp.rf _ _, 800, P, U, Int.le_refl _, p1.1, by omega, h, hQ, hB, hK, hG, hX⟩ ?_
  · obtain ⟨r, hr, ⟨z, τ, rfl, h1, h2, h3⟩ | ⟨z, τ, hq, h1, h2⟩⟩ := hal
    · refine Or.inl ⟨z, τ, ?_, h1, h2, h3⟩
      unfold c12_townLine_l71
      rw [hr]; rfl
    · refine Or.inr ⟨z, τ, ?_, h1, h2⟩
      unfold c12_townLine_l71
      rw [hr]
      rcases hq with rfl | ⟨q1, q2, q3⟩
      · rfl
      · obtain ⟨r1, r2, r3⟩ := r
        have q1' : r1 = 119 := q1
        have q2' : r2 = [130] := q2
        subst q1'; subst q2'
        show c12_townLine_p118 130 r3 = _
        exact q3
  · rintro k vs τ hk ⟨rfl, hF, fuel, P', U', kp, p0, hf, hT, hQ', hB', hK', hG', he⟩
    by_cases c : kd b n P' = 105
    · have plt := kd_lt (show kd b n P' ≠ 0 by omega)
      obtain ⟨f, rfl⟩ : ∃ f : Nat, fuel = f + 1 := ⟨fuel - 1, by omega⟩
      have eu : lnIs b n t (f + 1) P' U' = if kd b n P' = 105 then (if (lnI b n t P' U').1 ≠ 0 then lnI b n t P' U' else lnIs b n t f (lnI b n t P' U').2.1 (lnI b n t P' U').2.2) else (0, P', U') := rfl
      rw [eu, if_pos c] at he
      rcases gift_step hT hQ' hB' hK' hG' c with ⟨z, υ, w1, w2, w3, w4, w5⟩ | ⟨z, υ, r, w1, w2, w3, w4⟩
      · rw [if_neg (fun q => q z)] at he
        obtain ⟨k1, k2⟩ := lnI_B hK' hG' t0 t4 z
        have np := nxp_bd b plt
        have np2 := nxp_p (b := b) (show 0 ≤ nxp b n P' by omega) np.2
        have e21 : (lnI b n t P' U').2.1 = nxp b n (nxp b n P') := by
          unfold lnI at z ⊢
          by_cases d : odF b n U' 0 (nxp b n P') = 0
          · rw [if_neg (fun q => q d)] at z ⊢
            by_cases e : bI (U' 5 t) (aNamed U' 0 (vlt b n (nxp b n P'))) = 0
            · rw [if_neg (fun q => q e)]
            · rw [if_pos e] at z; exact absurd (show (3 : Int) = 0 from z) (by decide)
          · rw [if_pos d] at z; exact absurd z d
        exact Or.inl ⟨by omega, _, υ, w1, rfl, hF.tr w2, f, _, _, by omega, by omega, by omega, w3, w4, w5, k1, k2, he⟩
      · rw [if_pos z] at he
        have hr1 : r.1 ≠ 72 := by
          rcases w2 with rfl | ⟨q, -⟩
          · exact Nat.ne_of_beq_eq_false rfl
          · rw [q]; exact Nat.ne_of_beq_eq_false rfl
        exact Or.inr ⟨r, w1, hr1, Or.inr ⟨by rw [← he]; exact z, υ, w2, (wqw_r t0 hF).tr w3, by rw [← he]; exact w4⟩⟩
    · have eu : lnIs b n t fuel P' U' = (0, P', U') := by
        cases fuel with
        | zero => rfl
        | succ f =>
          show (if kd b n P' = 105 then _ else _) = _
          rw [if_neg c]
      rw [eu] at he
      refine Or.inr ⟨(147, [130, 4 + t], τ), ?_, Nat.ne_of_beq_eq_false rfl, Or.inl ⟨by rw [← he], τ, rfl, hF, by rw [← he]; exact hT, by rw [← he]; exact hQ', by rw [← he]; exact hB'⟩⟩
      have hkey := r_key hT (i := 5) (by omega) (by omega)
      rw [show rkw 5 = 7 from rfl, if_neg (show ¬ kd b n P' = 100 + 5 by omega)] at hkey
      show c12_townLine_b71 130 (4 + t) τ = _
      unfold c12_townLine_b71
      rw [hkey, acall1_some, if_pos rfl]
