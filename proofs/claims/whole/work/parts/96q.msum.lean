/-! the reference reads rules: behind a value; the whole -/
theorem wrT_kn {T : aH} {v : Int} : wrT (kntT T) v = kntT (wrT T v) := by
  have e24 : kntT T 24 0 = T 24 0 := kntT_x (by omega)
  unfold wrT
  rw [e24]
  by_cases c : T 24 0 < 64 ∧ 0 ≤ v
  · rw [if_pos c, if_pos c]
    have e : (stv (stv T 8 (T 24 0) v) 24 0 (T 24 0 + 1)) 0 4 = T 0 4 := by rw [stv_x (by omega), stv_x (by omega)]
    unfold kntT
    rw [e]
    funext a i
    rw [stv_g, stv_g, stv_g, stv_g, stv_g, stv_g]
    by_cases c3 : a = 0
    · have n1 : ¬ (a = 24 ∧ i = 0) := by omega
      have n2 : ¬ (a = 8 ∧ i = T 24 0) := by omega
      simp only [if_neg n1, if_neg n2]
    · have n3 : ¬ (a = 0 ∧ i = 4) := by omega
      simp only [if_neg n3]
  · rw [if_neg c, if_neg c]
theorem flW_kn {r : Int} : ∀ (W : List Int) (T : aH), flW r W (kntT T) = ((flW r W T).1, kntT (flW r W T).2) := by
  intro W
  induction W with
  | nil => intro T; rfl
  | cons w W ih =>
    intro T
    by_cases c : stg w < r
    · rw [flW_n c, flW_n c]
    · rw [flW_s c, flW_s c, wrT_kn]; exact ih _
/-- what the class has behind a value, and what the reference makes of it -/
theorem lag_0 {s op : Int} {W S : List Int} {T : aH} (h : RIr s 0 W op T S) :
    wfW false (flN W T).1 ∧ cbr (flN W T).1 = op ∧ WK T (flN W T).2 ∧ (flN W T).2 24 0 + cnb (flN W T).1 = T 0 4 ∧ (flN W T).2 0 4 = T 0 4 ∧ 0 ≤ (flN W T).2 24 0 ∧ RB s W S T := by
  obtain ⟨-, hw, hc, ho, hn, h64, hs, hS, hh, hst⟩ := h
  have c0 := cnb_0 W
  obtain ⟨a1, a2, a3, a4⟩ := flN_I W T hw (by omega) hn h64 hst
  have := a3.1
  exact ⟨a1, by omega, a3, a4, a3.2.2 0 4 (by omega) (by omega), by omega, hs, by omega, by omega, by omega, hh rfl⟩
theorem close_r {b : Int → Int} {n s op P : Int} {W S : List Int} {T : aH} {σ : aS} (h : RX b n s 0 op P W S T σ) (hk : kd b n P = 41) (ho : 0 < op) : SR b n s P (c12_signs 130 σ) σ (fun k => rlE b n (k + 1) 0 (flN W T).1 op P (flN W T).2) := by
  obtain ⟨hT, hR, ⟨e48, e49, e50⟩, hI⟩ := h
  obtain ⟨a1, a2, a3, a4, a5, a6, hB⟩ := lag_0 hI
  obtain ⟨-, hw, hc, ho8, hn, h64, hs, hS, hh, hst⟩ := hI
  have cl : ∀ k, rlE b n (k + 1) 0 (flN W T).1 op P (flN W T).2 = rlE b n k 0 (flN (clW (flW 1 (flN W T).1 (flN W T).2).1) (flW 1 (flN W T).1 (flN W T).2).2).1 (op - 1) (nxp b n P) (flN (clW (flW 1 (flN W T).1 (flN W T).2).1) (flW 1 (flN W T).1 (flN W T).2).2).2 := fun k => by rw [rlE_s, if_pos rfl, if_pos ⟨hk, ho⟩]
  obtain ⟨τ1, S', b1, b2, b3, b4⟩ := c12_bindSigns_ok (r := 1) (by omega) (by omega) hR hw hB
  rw [flR_N (by omega) (by omega) W T hw] at b3 b4
  obtain ⟨d1, d2, d3, d4, d5⟩ := flW_I (Int.le_refl 1) (flN W T).1 (flN W T).2 a1 a6 (by omega) (by omega) a3.2.1
  have k4 := d3.2.2 0 4 (by omega) (by omega)
  have k0 := d3.1
  generalize flW 1 (flN W T).1 (flN W T).2 = X at cl b3 b4 d1 d2 d3 d4 d5 k4 k0
  obtain ⟨X1, X2⟩ := X
  simp only at cl b3 b4 d1 d2 d3 d4 d5 k4 k0
  rcases d5 trivial with q | ⟨V, q, hV⟩
  · rw [q] at d2; exact absurd (show (0 : Int) = _ from d2) (by omega)
  · subst q
    have e1 : cnb (40 :: V) = 0 + cnb V := rfl
    have e2 : cbr (40 :: V) = 1 + cbr V := rfl
    have e3 : nbs (40 :: V) = 0 + nbs V := rfl
    have hl : ((40 :: V).length : Int) = V.length + 1 := by simp
    obtain ⟨L1, ⟨r46, -, rk⟩, rH, r23, rN⟩ := b3
    obtain ⟨⟨s0, s1⟩, m64, m72, mS, mh⟩ := b4
    obtain ⟨σ2, h2⟩ : ∃ σ2, σ2 = aput τ1 130 46 V.length := ⟨_, rfl⟩
    have f2 : Fp (fun x j => x = 130 ∧ j = 46) τ1 σ2 := by rw [h2]; exact (Fp.rf _ _).put _ ⟨rfl, rfl⟩
    obtain ⟨σ3, h3⟩ : ∃ σ3, σ3 = aput σ2 130 48 (op - 1) := ⟨_, rfl⟩
    have f3 : Fp (fun x j => x = 130 ∧ j = 48) σ2 σ3 := by rw [h3]; exact (Fp.rf _ _).put _ ⟨rfl, rfl⟩
    have w1 : Fp (wsr s) σ τ1 := wbg_s b2
    have w2 : Fp (wsr s) τ1 σ2 := f2.mono (fun x j q => by unfold wsr; omega)
    have w3 : Fp (wsr s) σ2 σ3 := f3.mono (fun x j q => by unfold wsr; omega)
    have wA := w1.tr (w2.tr w3)
    have T3 := hT.sr hs.1 wA
    have L2 : LR σ2 := L1.rr w2 (fun x j q => by unfold wsr at q; unfold wrr; omega)
    have R2 : RR s V S' X2 σ2 := ⟨L2, ⟨by rw [h2, ag_s], rk.cg (fun j _ _ => f2.g (by omega))⟩, rH.cg (f2.g (by omega)) (fun j => f2.g (by omega)), by rw [f2.g (by omega)]; exact r23, rN.cg (fun x j _ _ _ _ => f2.g (by omega))⟩
    have R3 : RR s V S' X2 σ3 := R2.cg T3.1.1 f3 (fun x j q => by omega) rfl (fun _ => rfl)
    obtain ⟨τ, t1, t2, t3⟩ := r_token T3
    have g48 : aget τ1 130 48 = op := by rw [b2.g (by unfold wbg; omega)]; exact e48
    refine Or.inl ⟨τ, 0, V, op - 1, X2, S', ?_, (wA.mono (fun x j q => Or.inl q)).tr ((wkt_n t2).mono (fun x j q => Or.inr q)), ⟨t3, R3.tk t3 t2, ⟨?_, ?_, ?_⟩, Or.inl rfl, hV, by omega, by omega, by omega, by omega, ⟨s0, s1⟩, by omega, fun _ => mh, d3.2.1⟩, by omega, fun k => by rw [lgW_0]; exact cl k⟩
    · unfold c12_signs
      rw [r_sign hT (c := 41) (by omega), if_pos hk, acall1_some, if_neg (show ¬ (1 : Int) = 0 by omega), e48, if_pos ho, b1, acall0_some, r46, hl, wq (x := (V.length : Int) + 1 - 1) (by omega) (by omega), show (V.length : Int) + 1 - 1 = V.length by omega, ← h2, show aget σ2 130 48 = op by rw [f2.g (by omega)]; exact g48, wq (x := op - 1) (by omega) (by omega), ← h3, t1, acall0_some]
      exact bz01 (Or.inr rfl)
    · rw [t2.g (by unfold wkt; omega), h3, ag_s]
    · rw [t2.g (by unfold wkt; omega), f3.g (by omega), f2.g (by omega), b2.g (by unfold wbg; omega), e49]; omega
    · rw [t2.g (by unfold wkt; omega), f3.g (by omega), f2.g (by omega), b2.g (by unfold wbg; omega)]; exact e50
def sg0 (c : Int) : Int := if c = 43 then 3 else if c = 45 then 4 else if c = 42 then 5 else if c = 47 then 6 else 0
theorem p47_r {b : Int → Int} {n P : Int} {σ : aS} (hT : TKr b n P σ) : c12_signs_p47 130 σ = c12_signs_p101 (sg0 (kd b n P)) 130 σ := by
  unfold c12_signs_p47 sg0
  have n1 : ¬ (1 : Int) = 0 := by omega
  rw [r_sign hT (c := 43) (by omega), acall1_some, r_sign hT (c := 45) (by omega)]
  by_cases c1 : kd b n P = 43
  · rw [if_pos c1, if_neg n1, if_pos c1]
  · rw [if_neg c1, if_pos rfl, if_neg c1, acall1_some, r_sign hT (c := 42) (by omega)]
    by_cases c2 : kd b n P = 45
    · rw [if_pos c2, if_neg n1, if_pos c2]
    · rw [if_neg c2, if_pos rfl, if_neg c2, acall1_some, r_sign hT (c := 47) (by omega)]
      by_cases c3 : kd b n P = 42
      · rw [if_pos c3, if_neg n1, if_pos c3]
      · rw [if_neg c3, if_pos rfl, if_neg c3, acall1_some]
        by_cases c4 : kd b n P = 47
        · rw [if_pos c4, if_neg n1, if_pos c4]
        · rw [if_neg c4, if_pos rfl, if_neg c4]
theorem sg0_v {c : Int} (h : isS c) : sg0 c ≠ 0 ∧ wcd (3000 + c) = sg0 c ∧ rnk (3000 + c) = sStr c ∧ sgn (3000 + c) ∧ 1 ≤ sStr c ∧ sStr c ≤ 2 := by
  unfold isS at h
  rcases h with rfl | rfl | rfl | rfl
  · exact ⟨by decide, by decide, by decide, by unfold sgn; omega, by decide, by decide⟩
  · exact ⟨by decide, by decide, by decide, by unfold sgn; omega, by decide, by decide⟩
  · exact ⟨by decide, by decide, by decide, by unfold sgn; omega, by decide, by decide⟩
  · exact ⟨by decide, by decide, by decide, by unfold sgn; omega, by decide, by decide⟩
theorem sg0_n {c : Int} (h : ¬ isS c) : sg0 c = 0 := by
  unfold isS at h
  unfold sg0
  rw [if_neg (by omega), if_neg (by omega), if_neg (by omega), if_neg (by omega)]
theorem sign_r {b : Int → Int} {n s op P : Int} {W S : List Int} {T : aH} {σ : aS} (h : RX b n s 0 op P W S T σ) (hs' : isS (kd b n P)) : SR b n s P (c12_signs_p101 (sg0 (kd b n P)) 130 σ) σ (fun k => rlE b n (k + 1) 0 (flN W T).1 op P (flN W T).2) := by
  obtain ⟨hT, hR, ⟨e48, e49, e50⟩, hI⟩ := h
  obtain ⟨a1, a2, a3, a4, a5, a6, hB⟩ := lag_0 hI
  obtain ⟨-, hw, hc, ho8, hn, h64, hs, hS, hh, hst⟩ := hI
  obtain ⟨v1, v2, v3, v4, v5, v6⟩ := sg0_v hs'
  have hk := hs'
  unfold isS at hk
  have c00 := cnb_0 W
  have cl : ∀ k, rlE b n (k + 1) 0 (flN W T).1 op P (flN W T).2 = if 64 ≤ (flN W T).2 0 4 then (2, P, (flN W T).2) else rlE b n k 1 (pushW (flW (sStr (kd b n P)) (flN W T).1 (kntT (flN W T).2)).1 (3000 + kd b n P)) op (nxp b n P) (flW (sStr (kd b n P)) (flN W T).1 (kntT (flN W T).2)).2 := fun k => by rw [rlE_s, if_pos rfl, if_neg (by omega), if_pos hs']
  obtain ⟨τ1, S', b1, b2, b3, b4⟩ := c12_bindSigns_ok (r := sStr (kd b n P)) v5 v6 hR hw hB
  rw [flR_N v5 v6 W T hw] at b3 b4
  obtain ⟨d1, d2, d3, d4, -⟩ := flW_I v5 (flN W T).1 (flN W T).2 a1 a6 (by omega) (by omega) a3.2.1
  have k4 := d3.2.2 0 4 (by omega) (by omega)
  have k0 := d3.1
  have w1 : Fp (wsr s) σ τ1 := wbg_s b2
  have T1 := hT.sr hs.1 w1
  have g49 : aget τ1 130 49 = T 0 4 := by rw [b2.g (by unfold wbg; omega)]; exact e49
  have rk : c12_rank (sg0 (kd b n P)) σ = some (0, [sStr (kd b n P)], σ) := by
    rw [← v2, ← v3]; exact c12_rank_ok (Or.inr (Or.inr v4)) σ
  have start : ∀ r : aR, (acall1 (c12_isCounted 130 τ1) fun v4 σ4 => (if v4 = 0 then (if (0 : Int) = 0 ∨ (0 : Int) = 1 then some (0, [0], σ4) else none) else (acall0 (c12_waitsFor 130 (sg0 (kd b n P)) σ4) fun σ5 => (if (1 : Int) = 0 ∨ (1 : Int) = 1 then (acall0 (c12_token 130 (aput σ5 130 50 1)) fun σ6 => (if (1 : Int) = 0 ∨ (1 : Int) = 1 then some (0, [1], σ6) else none)) else none)))) = r → c12_signs_p101 (sg0 (kd b n P)) 130 σ = r := by
    intro r hr
    unfold c12_signs_p101
    rw [if_neg v1, rk, acall1_some, b1, acall0_some]
    exact hr
  simp only [flW_kn] at cl
  generalize flW (sStr (kd b n P)) (flN W T).1 (flN W T).2 = X at cl b3 b4 d1 d2 d3 d4 k4 k0
  obtain ⟨X1, X2⟩ := X
  simp only at cl b3 b4 d1 d2 d3 d4 k4 k0
  rcases r_counted T1 g49 (by omega) h64 with ⟨q64, σ2, j1, f2, e2⟩ | ⟨q64, τ, j1, j2, j3⟩
  · have c1 := cnb_0 X1
    have n1 := nbs_0 X1
    have f2' : Fp (wsr s) τ1 σ2 := f2.mono (fun x j q => by unfold wsr; omega)
    have T2 := T1.sr hs.1 f2'
    have e24 : kntT X2 24 0 = X2 24 0 := kntT_x (by omega)
    have e04 : kntT X2 0 4 = X2 0 4 + 1 := kntT_4
    have R2 : RR s X1 S' (kntT X2) σ2 := b3.cg T2.1.1 f2 (fun x j q => by omega) e24 (fun i => kntT_x (by omega))
    obtain ⟨⟨s0, s1⟩, m64, m72, mS, mh⟩ := b4
    obtain ⟨σ3, w3, f3, R3⟩ := r_waits R2 v2 (by omega)
    have f3' : Fp (wsr s) σ2 σ3 := f3.mono (fun x j q => by unfold wsr; omega)
    obtain ⟨σ4, h4⟩ : ∃ σ4, σ4 = aput σ3 130 50 1 := ⟨_, rfl⟩
    have f4 : Fp (fun x j => x = 130 ∧ j = 50) σ3 σ4 := by rw [h4]; exact (Fp.rf _ _).put _ ⟨rfl, rfl⟩
    have f4' : Fp (wsr s) σ3 σ4 := f4.mono (fun x j q => by unfold wsr; omega)
    have T4 := (T2.sr hs.1 f3').sr hs.1 f4'
    have R4 : RR s ((3000 + kd b n P) :: X1) S' (kntT X2) σ4 := R3.cg T4.1.1 f4 (fun x j q => by omega) rfl (fun _ => rfl)
    obtain ⟨τ, t1, t2, t3⟩ := r_token T4
    have v40 : 3000 + kd b n P ≠ 40 := by omega
    have ec : cnb ((3000 + kd b n P) :: X1) = 1 + cnb X1 := by show (if 3000 + kd b n P = 40 then 0 else 1) + _ = _; rw [if_neg v40]
    have eb : cbr ((3000 + kd b n P) :: X1) = 0 + cbr X1 := by show (if 3000 + kd b n P = 40 then 1 else 0) + _ = _; rw [if_neg v40]
    have en : nbs ((3000 + kd b n P) :: X1) = 1 + nbs X1 := by show (if 3000 + kd b n P = 40 ∨ 3000 + kd b n P = 2000 then 0 else 1) + _ = _; rw [if_neg (by omega)]
    refine Or.inl ⟨τ, 1, (3000 + kd b n P) :: X1, op, kntT X2, S', start _ ?_, ?_, ⟨t3, R4.tk t3 t2, ⟨?_, ?_, ?_⟩, Or.inr rfl, Or.inr (Or.inl ⟨v4, d1⟩), by omega, by omega, by omega, by omega, by omega, by omega, fun q => absurd q (by omega), fun i i0 i1 => by rw [kntT_x (by omega)]; exact d3.2.1 i i0 (by omega)⟩, by omega, fun k => ?_⟩
    · rw [j1, acall1_some, if_neg (show ¬ (1 : Int) = 0 by omega), w3, acall0_some, ← h4, t1, acall0_some]
      exact ite_p (Or.inr rfl) (bz01 (Or.inr rfl))
    · exact (w1.mono (fun x j q => Or.inl q)).tr ((f2'.mono (fun x j q => Or.inl q)).tr ((f3'.mono (fun x j q => Or.inl q)).tr ((f4'.mono (fun x j q => Or.inl q)).tr ((wkt_n t2).mono (fun x j q => Or.inr q)))))
    · rw [t2.g (by unfold wkt; omega), f4.g (by omega), f3.g (by omega), f2.g (by omega), b2.g (by unfold wbg; omega)]; exact e48
    · rw [t2.g (by unfold wkt; omega), f4.g (by omega), f3.g (by omega), e2]; omega
    · rw [t2.g (by unfold wkt; omega), h4, ag_s]
    · rw [lgW_1]
      show rlE b n (k + 1) 0 (flN W T).1 op P (flN W T).2 = _
      rw [cl k, if_neg (by omega), pushW_p (by omega)]
  · refine Or.inr ⟨τ, start _ ?_, (wsr_r hs.1 w1).tr j2, fun k => ?_⟩
    · rw [j1, acall1_some]; exact ite_p rfl (bz01 (Or.inl rfl))
    · show FE b n (rlE b n (k + 1) 0 (flN W T).1 op P (flN W T).2) τ
      rw [cl k, if_pos (by omega)]
      exact Or.inl ⟨by show (2 : Int) ≠ 0; omega, j3⟩
theorem signs_r {b : Int → Int} {n s op P : Int} {W S : List Int} {T : aH} {σ : aS} (h : RX b n s 0 op P W S T σ) (hg : kd b n P ≠ 59 ∨ 0 < op) : SR b n s P (c12_signs 130 σ) σ (fun k => rlE b n (k + 1) 0 (flN W T).1 op P (flN W T).2) := by
  by_cases c : kd b n P = 41 ∧ 0 < op
  · exact close_r h c.1 c.2
  · have hT := h.1
    have e48 := h.2.2.1.1
    have e : c12_signs 130 σ = c12_signs_p101 (sg0 (kd b n P)) 130 σ := by
      unfold c12_signs
      rw [r_sign hT (c := 41) (by omega), acall1_some, p47_r hT]
      by_cases c1 : kd b n P = 41
      · rw [if_pos c1, e48]
        exact ite_n (by omega) (ite_n (by omega) rfl)
      · rw [if_neg c1]; exact ite_p rfl rfl
    rw [e]
    by_cases cs : isS (kd b n P)
    · exact sign_r h cs
    · obtain ⟨τ, w1, w2, w3⟩ := c12_wrong_ok hT 1
      refine Or.inr ⟨τ, ?_, w2, fun k => ?_⟩
      · unfold c12_signs_p101
        rw [sg0_n cs, w1, acall1_some]
        exact ite_p rfl (bz01 (Or.inl rfl))
      · show FE b n (rlE b n (k + 1) 0 (flN W T).1 op P (flN W T).2) τ
        rw [rlE_s, if_pos rfl, if_neg c, if_neg cs]
        unfold endR
        by_cases c0 : 0 < op
        · rw [if_pos c0]; exact Or.inl ⟨by show (1 : Int) ≠ 0; omega, w3⟩
        · rw [if_neg c0]; exact Or.inr ⟨rfl, by show kd b n P ≠ 59; omega, w3⟩
theorem RX.p {b : Int → Int} {n s o op P : Int} {W S : List Int} {T : aH} {σ : aS} (h : RX b n s o op P W S T σ) : 0 ≤ P ∧ P ≤ n := h.1.2.1
theorem sum_loop {b : Int → Int} {n s P : Int} {T : aH} {σ : aS} (h : RX b n s 1 0 P [] [] T σ) (hn : n ≤ 800) (hP : n - P < 800) :
    ∃ r, aloop 21 (aU1 c12_sumRead_b20) aBig [130] σ = some r ∧
      ((∃ τ, r = (0, [0], τ) ∧ Fp wrr σ τ ∧ FE b n (rlE b n 800 1 [] 0 P T) τ) ∨
       (∃ τ W S U P', r = (70, [130], τ) ∧ Fp (wsx s) σ τ ∧ RX b n s 0 0 P' W S U τ ∧ kd b n P' = 59 ∧ rlE b n 800 1 [] 0 P T = (0, P', (flW 1 (flN W U).1 (flN W U).2).2))) := by
  have p0 := h.p
  have s0 : 0 ≤ s := h.2.2.2.2.2.2.2.2.2.1.1
  generalize hX : rlE b n 800 1 [] 0 P T = X
  refine al_I (c := 21) (B := aU1 c12_sumRead_b20) (n := n) (i := P) (vs := [130]) (σ := σ)
    (fun k vs τ => vs = [130] ∧ Fp (wsx s) σ τ ∧ ∃ (fuel : Nat) (o op P' : Int) (W S : List Int) (U : aH), k ≤ P' ∧ n - P' < fuel ∧ RX b n s o op P' W S U τ ∧ rlE b n fuel o (lgW o W U).1 op P' (lgW o W U).2 = X)
    _ p0.2 (by omega) ⟨rfl, Fp.rf _ _, 800, 1, 0, P, [], [], T, Int.le_refl _, hP, h, by rw [lgW_1]; exact hX⟩ ?_
  rintro k vs τ hk ⟨rfl, hF, fuel, o, op, P', W, S, U, kp, hf, hR, he⟩
  have p1 := hR.p
  obtain ⟨f, rfl⟩ : ∃ f : Nat, fuel = f + 1 := ⟨fuel - 1, by omega⟩
  have hT := hR.1
  obtain ⟨e48, e49, e50⟩ := hR.2.2.1
  have ho := hR.2.2.2.1
  have hb0 := cnb_0 W
  have hbr : cbr W = op := hR.2.2.2.2.2.1
  -- a step by a call
  have on : ∀ {m : aR}, aU1 c12_sumRead_b20 [130] τ = (acall1 m fun v1 σ1 => (if v1 = 0 then (if (0 : Int) = 0 ∨ (0 : Int) = 1 then some (0, [0], σ1) else none) else some (21, [130], σ1))) → SR b n s P' m τ (fun k => rlE b n (k + 1) o (lgW o W U).1 op P' (lgW o W U).2) →
      (k < n ∧ ∃ vs' σ', aU1 c12_sumRead_b20 [130] τ = some (21, vs', σ') ∧ vs' = [130] ∧ Fp (wsx s) σ σ' ∧ ∃ (fuel : Nat) (o op P' : Int) (W S : List Int) (U : aH), k + 1 ≤ P' ∧ n - P' < fuel ∧ RX b n s o op P' W S U σ' ∧ rlE b n fuel o (lgW o W U).1 op P' (lgW o W U).2 = X) ∨ ∃ r, aU1 c12_sumRead_b20 [130] τ = some r ∧ r.1 ≠ 21 ∧ ((∃ τ, r = (0, [0], τ) ∧ Fp wrr σ τ ∧ FE b n X τ) ∨ (∃ τ W S U P', r = (70, [130], τ) ∧ Fp (wsx s) σ τ ∧ RX b n s 0 0 P' W S U τ ∧ kd b n P' = 59 ∧ X = (0, P', (flW 1 (flN W U).1 (flN W U).2).2))) := by
    intro m hm hS
    rcases hS with ⟨υ, o', W', op', U', S', g1, g2, g3, g4, g5⟩ | ⟨υ, g1, g2, g3⟩
    · have nk := nxp_bd b (kd_lt g4)
      refine Or.inl ⟨by omega, [130], υ, ?_, rfl, hF.tr g2, f, o', op', nxp b n P', W', S', U', by omega, by omega, g3, ?_⟩
      · rw [hm, g1, acall1_some]; exact ite_n (by omega) rfl
      · rw [← g5 f]; exact he
    · refine Or.inr ⟨(0, [0], υ), ?_, Nat.ne_of_beq_eq_false rfl, Or.inl ⟨υ, rfl, (wsx_r s0 hF).tr g2, ?_⟩⟩
      · rw [hm, g1, acall1_some]; exact ite_p rfl (bz01 (Or.inl rfl))
      · rw [← he]; exact g3 f
  by_cases c59 : kd b n P' = 59 ∧ o = 0 ∧ op = 0
  · obtain ⟨c1, rfl, rfl⟩ := c59
    refine Or.inr ⟨(70, [130], τ), ?_, Nat.ne_of_beq_eq_false rfl, Or.inr ⟨τ, W, S, U, P', rfl, hF, hR, c1, ?_⟩⟩
    · show c12_sumRead_b20 130 τ = _
      unfold c12_sumRead_b20
      rw [r_sign hT (c := 59) (by omega), if_pos c1, acall1_some, e50, e48]
      exact ite_n (by omega) (ite_p rfl (ite_n (by omega) rfl))
    · rw [← he, lgW_0, rlE_s, if_pos rfl, if_neg (by omega), if_neg (by unfold isS; omega)]
      unfold endR
      rw [if_neg (by omega)]
  · have hb : aU1 c12_sumRead_b20 [130] τ = c12_sumRead_p43 130 τ := by
      show c12_sumRead_b20 130 τ = _
      unfold c12_sumRead_b20
      rw [r_sign hT (c := 59) (by omega), acall1_some, e50, e48]
      by_cases c1 : kd b n P' = 59
      · rw [if_pos c1]
        refine ite_n (by omega) ?_
        by_cases c2 : o = 0
        · exact ite_p c2 (ite_p (by omega) rfl)
        · exact ite_n c2 rfl
      · rw [if_neg c1]; exact ite_p rfl rfl
    rcases ho with rfl | rfl
    · have hS := signs_r hR (by omega)
      refine on (m := c12_signs 130 τ) ?_ (by rw [lgW_0]; exact hS)
      rw [hb]
      unfold c12_sumRead_p43
      exact ite_p e50 rfl
    · have hS := leaf_r hR
      refine on (m := c12_leafRead 130 τ) ?_ (by rw [lgW_1]; exact hS)
      rw [hb]
      unfold c12_sumRead_p43
      exact ite_n (by omega) rfl
theorem c12_sumRead_ok {b : Int → Int} {n P : Int} {T : aH} {σ : aS} (h : TKr b n P σ) (e23 : aget σ 130 23 = T 24 0) (e49 : aget σ 130 49 = T 0 4) (t0 : 0 ≤ T 24 0) (t4 : T 24 0 = T 0 4) (t64 : T 0 4 ≤ 64) (hst : ∀ k, 0 ≤ k → k < T 24 0 → stk1 (T 8 k)) (hn : n ≤ 800) (hP : n - P < 800) :
    (∃ τ, c12_sumRead 130 σ = some (0, [0], τ) ∧ Fp wrr σ τ ∧ FE b n (rlE b n 800 1 [] 0 P T) τ) ∨
    (∃ τ, c12_sumRead 130 σ = some (0, [1], τ) ∧ Fp (wsx (T 24 0)) σ τ ∧ (rlE b n 800 1 [] 0 P T).1 = 0 ∧ kd b n (rlE b n 800 1 [] 0 P T).2.1 = 59 ∧ TKr b n (rlE b n 800 1 [] 0 P T).2.1 τ ∧ aget τ 130 23 = (rlE b n 800 1 [] 0 P T).2.2 24 0 ∧ aget τ 130 49 = (rlE b n 800 1 [] 0 P T).2.2 0 4 ∧ ND (T 24 0) [(rlE b n 800 1 [] 0 P T).2.2 24 0 - 1] (rlE b n 800 1 [] 0 P T).2.2 τ) := by
  obtain ⟨σ1, h1⟩ : ∃ σ1, σ1 = aput (aput (aput (aput σ 130 46 0) 130 47 0) 130 48 0) 130 50 1 := ⟨_, rfl⟩
  have f1 : Fp (fun x j => x = 130 ∧ (j = 46 ∨ j = 47 ∨ j = 48 ∨ j = 50)) σ σ1 := by rw [h1]; exact ((((Fp.rf _ _).put _ (by omega)).put _ (by omega)).put _ (by omega)).put _ (by omega)
  have f1' : Fp (wsr (T 24 0)) σ σ1 := f1.mono (fun x j q => by unfold wsr; omega)
  have T1 := h.sr t0 f1'
  have hX : RX b n (T 24 0) 1 0 P [] [] T σ1 := by
    refine ⟨T1, ⟨T1.1.1, ⟨?_, trivial⟩, ⟨?_, trivial⟩, by rw [f1.g (by omega)]; exact e23, fun _ => [], rfl, rfl, fun k ka kb => absurd ka (by omega)⟩, ⟨?_, by rw [f1.g (by omega)]; exact e49, by rw [h1, ag_s]⟩, Or.inr rfl, trivial, rfl, by omega, by show T 24 0 + 0 = _; omega, t64, by omega, rfl, fun q => absurd q (by omega), hst⟩
    · rw [h1, ag_j (by omega), ag_j (by omega), ag_j (by omega), ag_s]; rfl
    · rw [h1, ag_j (by omega), ag_j (by omega), ag_s]; rfl
    · rw [h1, ag_j (by omega), ag_s]
  obtain ⟨r, hr, hQ⟩ := sum_loop hX hn hP
  have start : ∀ q : aR, abind (some r) c12_sumRead_d20 = q → c12_sumRead 130 σ = q := by
    intro q hq
    unfold c12_sumRead c12_sumRead_l20
    rw [← h1, hr]
    exact ite_p (Or.inr rfl) hq
  rcases hQ with ⟨τ, rfl, g1, g2⟩ | ⟨τ, W, S, U, P', rfl, g1, g2, g3, g4⟩
  · exact Or.inl ⟨τ, start _ rfl, (wsr_r t0 f1').tr g1, g2⟩
  · right
    rw [g4]
    obtain ⟨hT, hR, ⟨e48, e49', e50⟩, hI⟩ := g2
    obtain ⟨a1, a2, a3, a4, a5, a6, hB⟩ := lag_0 hI
    obtain ⟨-, hw, hc, ho8, hn', h64, hs, hS, hh, hst'⟩ := hI
    obtain ⟨υ, S', b1, b2, b3, b4⟩ := c12_bindSigns_ok (r := 1) (by omega) (by omega) hR hw hB
    rw [flR_N (by omega) (by omega) W U hw] at b3 b4
    obtain ⟨d1, d2, d3, d4, d5⟩ := flW_I (Int.le_refl 1) (flN W U).1 (flN W U).2 a1 a6 (by omega) (by omega) a3.2.1
    have k4 := d3.2.2 0 4 (by omega) (by omega)
    generalize flW 1 (flN W U).1 (flN W U).2 = X at b3 b4 d1 d2 d3 d4 d5 k4 ⊢
    obtain ⟨X1, X2⟩ := X
    simp only at b3 b4 d1 d2 d3 d4 d5 k4 ⊢
    have hX1 : X1 = [] := by
      rcases d5 trivial with q | ⟨V, q, hV⟩
      · exact q
      · exfalso
        rw [q] at d2
        have e2 : cbr (40 :: V) = 1 + cbr V := rfl
        have := cnb_0 V
        omega
    subst hX1
    have hS' : S' = [X2 24 0 - 1] := by
      obtain ⟨-, -, -, mS, mh⟩ := b4
      have mS' : (S'.length : Int) = 0 + 1 := mS
      cases S' with
      | nil => simp at mh
      | cons a S2 =>
        have : ((a :: S2).length : Int) = S2.length + 1 := by simp
        have h0 : S2.length = 0 := by omega
        have h00 : S2 = [] := List.eq_nil_of_length_eq_zero h0
        subst h00
        have : a = X2 24 0 - 1 := by simpa using mh
        rw [this]
    subst hS'
    refine ⟨υ, start _ ?_, ?_, trivial, g3, hT.sr t0 (wbg_s b2), b3.2.2.2.1, ?_, b3.2.2.2.2⟩
    · show c12_sumRead_p69 130 τ = _
      unfold c12_sumRead_p69
      rw [b1, acall0_some]
      exact bz01 (Or.inr rfl)
    · exact (f1'.mono (fun x j q => Or.inl q)).tr (g1.tr ((wbg_s b2).mono (fun x j q => Or.inl q)))
    · rw [b2.g (by unfold wbg; omega), e49']; omega
