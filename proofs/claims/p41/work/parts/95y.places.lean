/-! the class's half of whole's part of this name -/
def PLn (n P : Int) (T : aH) (o : Int × Int × aH) : Prop := (P ≤ o.2.1 ∧ o.2.1 ≤ n) ∧ o.2.2 22 0 = T 22 0
theorem lnG_P {b : Int → Int} {n P : Int} {T : aH} (p0 : 0 ≤ P) (p1 : P ≤ n) (hz : (lnG b n P T).1 = 0) : PLn n P T (lnG b n P T) := by
  have q1 := nxp_p (b := b) p0 p1
  have q2 := nxp_p (b := b) (show 0 ≤ nxp b n P by omega) q1.2
  have q3 := nxp_p (b := b) (show 0 ≤ nxp b n (nxp b n P) by omega) q2.2
  unfold lnG at hz ⊢
  by_cases c : (nwF b n T 0 5 P).1 = 0
  · rw [if_neg (fun q => q c)] at hz ⊢
    by_cases d : pNum b n 0 999 (nxp b n (nxp b n P)) = 0
    · rw [if_neg (fun q => q d)]
      refine ⟨⟨?_, q3.2⟩, ?_⟩
      · show P ≤ nxp b n (nxp b n (nxp b n P)); omega
      · show stv (nwT b n T 0 P) 1 (T 0 0) (vlt b n (nxp b n (nxp b n P))) 22 0 = _
        rw [stv_x (by omega), nwT_x (by omega) (by omega)]
    · rw [if_pos d] at hz; exact absurd hz d
  · rw [if_pos c] at hz; exact absurd hz c
theorem lnS_P {b : Int → Int} {n P : Int} {T : aH} (p0 : 0 ≤ P) (p1 : P ≤ n) (hz : (lnS b n P T).1 = 0) : PLn n P T (lnS b n P T) := by
  have q1 := nxp_p (b := b) p0 p1
  have q2 := nxp_p (b := b) (show 0 ≤ nxp b n P by omega) q1.2
  unfold lnS at hz ⊢
  by_cases c : T 0 5 = 0
  · rw [if_neg (fun q => q c)] at hz ⊢
    by_cases d : pNum b n 2 99 (nxp b n P) = 0
    · rw [if_neg (fun q => q d)]
      refine ⟨⟨?_, q2.2⟩, ?_⟩
      · show P ≤ nxp b n (nxp b n P); omega
      · show stv T 0 5 (vlt b n (nxp b n P)) 22 0 = _
        rw [stv_x (by omega)]
    · rw [if_pos d] at hz; exact absurd hz d
  · rw [if_pos c] at hz; exact absurd (show (3 : Int) = 0 from hz) (by decide)
theorem lnL_P {b : Int → Int} {n P : Int} {T : aH} (p0 : 0 ≤ P) (p1 : P ≤ n) (hz : (lnL b n P T).1 = 0) : PLn n P T (lnL b n P T) := by
  have q1 := nxp_p (b := b) p0 p1
  have q2 := nxp_p (b := b) (show 0 ≤ nxp b n P by omega) q1.2
  have q3 := nxp_p (b := b) (show 0 ≤ nxp b n (nxp b n P) by omega) q2.2
  have q4 := nxp_p (b := b) (show 0 ≤ nxp b n (nxp b n (nxp b n P)) by omega) q3.2
  have hk : P ≤ lkP b n P ∧ lkP b n P ≤ n := by unfold lkP; split <;> omega
  have q5 := nxp_p (b := b) (show 0 ≤ lkP b n P by omega) hk.2
  unfold lnL at hz ⊢
  by_cases c : odF b n T 1 (nxp b n P) = 0
  · rw [if_neg (fun q => q c)] at hz ⊢
    by_cases d : odF b n T 1 (nxp b n (nxp b n P)) = 0
    · rw [if_neg (fun q => q d)] at hz ⊢
      by_cases e : T 21 (lkI b n P T) = 0
      · rw [if_neg (fun q => q e)] at hz ⊢
        by_cases f : pNum b n 0 20 (lkP b n P) = 0
        · rw [if_neg (fun q => q f)]
          refine ⟨⟨?_, q5.2⟩, ?_⟩
          · show P ≤ nxp b n (lkP b n P); omega
          · show stv (stv T 21 (lkI b n P T) 1) 4 (lkI b n P T) (lkV b n P) 22 0 = _
            rw [stv_x (by omega), stv_x (by omega)]
        · rw [if_pos f] at hz; exact absurd hz f
      · rw [if_pos e] at hz; exact absurd (show (3 : Int) = 0 from hz) (by decide)
    · rw [if_pos d] at hz; exact absurd hz d
  · rw [if_pos c] at hz; exact absurd hz c
theorem lnW_P {b : Int → Int} {n s P : Int} {T : aH} (p0 : 0 ≤ P) (p1 : P ≤ n) (hz : (lnW b n s P T).1 = 0) : PLn n P T (lnW b n s P T) := by
  have q1 := nxp_p (b := b) p0 p1
  have q2 := nxp_p (b := b) (show 0 ≤ nxp b n P by omega) q1.2
  have q3 := nxp_p (b := b) (show 0 ≤ nxp b n (nxp b n P) by omega) q2.2
  unfold lnW at hz ⊢
  by_cases c : odF b n T 0 (nxp b n P) = 0
  · rw [if_neg (fun q => q c)] at hz ⊢
    by_cases e : T 20 (5 * s + aNamed T 0 (vlt b n (nxp b n P))) = 0
    · rw [if_neg (fun q => q e)] at hz ⊢
      by_cases f : pNum b n 0 99 (nxp b n (nxp b n P)) = 0
      · rw [if_neg (fun q => q f)]
        refine ⟨⟨?_, q3.2⟩, ?_⟩
        · show P ≤ nxp b n (nxp b n (nxp b n P)); omega
        · show stv (stv T 20 (5 * s + aNamed T 0 (vlt b n (nxp b n P))) 1) 3 (5 * s + aNamed T 0 (vlt b n (nxp b n P))) (vlt b n (nxp b n (nxp b n P))) 22 0 = _
          rw [stv_x (by omega), stv_x (by omega)]
      · rw [if_pos f] at hz; exact absurd hz f
    · rw [if_pos e] at hz; exact absurd (show (3 : Int) = 0 from hz) (by decide)
  · rw [if_pos c] at hz; exact absurd hz c
theorem lnWs_P {b : Int → Int} {n s : Int} : ∀ (k : Nat) (P : Int) (T : aH), 0 ≤ P → P ≤ n → (lnWs b n s k P T).1 = 0 → PLn n P T (lnWs b n s k P T) := by
  intro k
  induction k with
  | zero => intro P T _ p1 _; exact ⟨⟨Int.le_refl _, p1⟩, rfl⟩
  | succ k ih =>
    intro P T p0 p1 hz
    have eu : lnWs b n s (k + 1) P T = if kd b n P = 102 then (if (lnW b n s P T).1 ≠ 0 then lnW b n s P T else lnWs b n s k (lnW b n s P T).2.1 (lnW b n s P T).2.2) else (0, P, T) := rfl
    rw [eu] at hz ⊢
    by_cases c : kd b n P = 102
    · rw [if_pos c] at hz ⊢
      by_cases d : (lnW b n s P T).1 = 0
      · rw [if_neg (fun q => q d)] at hz ⊢
        obtain ⟨a1, a2⟩ := lnW_P p0 p1 d
        obtain ⟨b1, b2⟩ := ih _ _ (by omega) a1.2 hz
        exact ⟨by omega, by rw [b2, a2]⟩
      · rw [if_pos d] at hz; exact absurd hz d
    · rw [if_neg c]; exact ⟨⟨Int.le_refl _, p1⟩, rfl⟩
theorem lnF_P {b : Int → Int} {n P : Int} {T : aH} (p0 : 0 ≤ P) (p1 : P ≤ n) (hz : (lnF b n P T).1 = 0) : PLn n P T (lnF b n P T) := by
  unfold lnF at hz ⊢
  by_cases c : (fltQ b n P T).1 = 0
  · rw [if_neg (fun q => q c)] at hz ⊢
    obtain ⟨_, _, z3⟩ := tkN_z c
    obtain ⟨-, -, -, -, -, -, -, -, -, -, -, e4⟩ := fltQ_z c
    have q1 := nxp_p (b := b) p0 p1
    have q2 := nxp_p (b := b) (show 0 ≤ nxp b n P by omega) q1.2
    have q3 := nxp_p (b := b) (show 0 ≤ nxp b n (nxp b n P) by omega) q2.2
    have q4 := nxp_p (b := b) (show 0 ≤ nxp b n (nxp b n (nxp b n P)) by omega) q3.2
    have q5 := nxp_p (b := b) (show 0 ≤ nxp b n (nxp b n (nxp b n (nxp b n P))) by omega) q4.2
    have q6 := nxp_p (b := b) (show 0 ≤ nxp b n (nxp b n (nxp b n (nxp b n (nxp b n P)))) by omega) q5.2
    have e5 : (fltQ b n P T).2 = nxp b n (nxp b n (nxp b n (nxp b n (nxp b n (nxp b n P))))) := by
      unfold fltQ
      rw [z3, e4]
    obtain ⟨b1, b2⟩ := lnWs_P 800 (fltQ b n P T).2 (fltT b n P T) (by omega) (by omega) hz
    refine ⟨by omega, ?_⟩
    rw [b2]
    unfold fltT addT
    rw [stv_x (by omega), stv_x (by omega), stv_x (by omega), stv_x (by omega), stv_x (by omega), nwT_x (by omega) (by omega)]
  · rw [if_pos c] at hz; exact absurd hz c
theorem lnRs_P {b : Int → Int} {n t w : Int} : ∀ (k : Nat) (i P : Int) (T : aH), 0 ≤ P → P ≤ n → (lnRs b n t w k i P T).1 = 0 → PLn n P T (lnRs b n t w k i P T) := by
  intro k
  induction k with
  | zero => intro i P T _ p1 _; exact ⟨⟨Int.le_refl _, p1⟩, rfl⟩
  | succ k ih =>
    intro i P T p0 p1 hz
    have eu : lnRs b n t w (k + 1) i P T = if kd b n P = 2 then (if i = 6 then (2, P, T) else if pNum b n 0 (p2 w - 1) P ≠ 0 then (pNum b n 0 (p2 w - 1) P, P, T) else lnRs b n t w k (i + 1) (nxp b n P) (stv (stv T 14 (6 * t + i) (vlt b n P)) 13 t (i + 1))) else (0, P, T) := rfl
    rw [eu] at hz ⊢
    by_cases c : kd b n P = 2
    · rw [if_pos c] at hz ⊢
      by_cases d : i = 6
      · rw [if_pos d] at hz; exact absurd (show (2 : Int) = 0 from hz) (by decide)
      · rw [if_neg d] at hz ⊢
        by_cases f : pNum b n 0 (p2 w - 1) P = 0
        · rw [if_neg (fun q => q f)] at hz ⊢
          have q1 := nxp_p (b := b) p0 p1
          obtain ⟨b1, b2⟩ := ih _ _ _ (by omega) q1.2 hz
          exact ⟨by omega, by rw [b2, stv_x (by omega), stv_x (by omega)]⟩
        · rw [if_pos f] at hz; exact absurd hz f
    · rw [if_neg c]; exact ⟨⟨Int.le_refl _, p1⟩, rfl⟩
theorem lnD_P {b : Int → Int} {n P : Int} {T : aH} (p0 : 0 ≤ P) (p1 : P ≤ n) (hz : (lnD b n P T).1 = 0) : PLn n P T (lnD b n P T) := by
  have q1 := nxp_p (b := b) p0 p1
  have q2 := nxp_p (b := b) (show 0 ≤ nxp b n P by omega) q1.2
  have q3 := nxp_p (b := b) (show 0 ≤ nxp b n (nxp b n P) by omega) q2.2
  unfold lnD at hz ⊢
  by_cases c : odF b n T 2 (nxp b n P) = 0
  · rw [if_neg (fun q => q c)] at hz ⊢
    by_cases d : 0 < T 12 (aNamed T 2 (vlt b n (nxp b n P)))
    · rw [if_pos d] at hz; exact absurd (show (3 : Int) = 0 from hz) (by decide)
    · rw [if_neg d] at hz ⊢
      by_cases f : pNum b n 1 6 (nxp b n (nxp b n P)) = 0
      · rw [if_neg (fun q => q f)] at hz ⊢
        obtain ⟨b1, b2⟩ := lnRs_P _ _ _ _ (by omega) q3.2 hz
        exact ⟨by omega, by rw [b2, stv_x (by omega)]⟩
      · rw [if_pos f] at hz; exact absurd hz f
  · rw [if_pos c] at hz; exact absurd hz c
theorem ln_I {b : Int → Int} {n P : Int} {T : aH} (h : TI T) (p0 : 0 ≤ P) (p1 : P ≤ n) (hn : n ≤ 800) (hz : (ln b n P T).1 = 0) : TI (ln b n P T).2.2 ∧ PLn n P T (ln b n P T) := by
  unfold ln at hz ⊢
  by_cases c0 : kd b n P = 100
  · rw [if_pos c0] at hz ⊢; exact ⟨lnG_I h hz, lnG_P p0 p1 hz⟩
  · rw [if_neg c0] at hz ⊢
    by_cases c1 : kd b n P = 101
    · rw [if_pos c1] at hz ⊢; exact ⟨lnF_I h hz, lnF_P p0 p1 hz⟩
    · rw [if_neg c1] at hz ⊢
      by_cases c3 : kd b n P = 103
      · rw [if_pos c3] at hz ⊢; exact ⟨lnL_I h hz, lnL_P p0 p1 hz⟩
      · rw [if_neg c3] at hz ⊢
        by_cases c4 : kd b n P = 104
        · rw [if_pos c4] at hz ⊢
          obtain ⟨a1, a2, a3⟩ := lnT_I h p0 p1 hn hz
          exact ⟨a1, a2, a3⟩
        · rw [if_neg c4] at hz ⊢
          by_cases c9 : kd b n P = 109
          · rw [if_pos c9] at hz ⊢; exact ⟨lnD_I h hz, lnD_P p0 p1 hz⟩
          · rw [if_neg c9] at hz ⊢
            by_cases ca : kd b n P = 110
            · rw [if_pos ca] at hz ⊢; exact ⟨lnS_I h hz, lnS_P p0 p1 hz⟩
            · rw [if_neg ca] at hz; exact absurd (show (1 : Int) = 0 from hz) (by decide)
theorem TI.set22 {T : aH} (h : TI T) (i v : Int) : TI (stv T 22 i v) := by
  have ex : ∀ a j, a ≠ 22 → stv T 22 i v a j = T a j := fun a j h => stv_x h _
  obtain ⟨hB, h2, h3, h4, h05, hG, h7, h8⟩ := h
  exact ⟨hB.of (fun j _ _ => ex 0 j (by omega)), h2.cg (ex 0 0 (by omega)) (fun j => ex 1 j (by omega)), h3.cg (ex 0 1 (by omega)) (ex 0 3 (by omega)) (fun j => ex 2 j (by omega)), h4.cg (ex 0 1 (by omega)) (fun j => ex 3 j (by omega)) (fun j => ex 4 j (by omega)) (fun j => ex 20 j (by omega)) (fun j => ex 21 j (by omega)), by rw [ex 0 5 (by omega)]; exact h05, hG.cg (ex 0 0 (by omega)) (fun j => ex 5 j (by omega)), h7.cg (ex 0 2 (by omega)) (fun a ha j => ex a j (by omega)), h8.cg (ex 0 2 (by omega)) (ex 0 4 (by omega)) (fun a ha j => ex a j (by omega))⟩
theorem lnZ_I {b : Int → Int} {n P : Int} {T : aH} (h : TI T) (p0 : 0 ≤ P) (p1 : P ≤ n) (hn : n ≤ 800) (hz : (lnZ b n P T).1 = 0) : TI (lnZ b n P T).2.2 ∧ (P < (lnZ b n P T).2.1 ∧ (lnZ b n P T).2.1 ≤ n) ∧ (lnZ b n P T).2.2 22 0 = T 22 0 + 1 := by
  unfold lnZ at hz ⊢
  have hI := ln_I (b := b) h p0 p1 hn
  generalize ln b n P T = X at hz hI
  by_cases c : X.1 = 0
  · rw [if_neg (fun q => q c)] at hz ⊢
    obtain ⟨a1, a2, a3⟩ := hI c
    by_cases d : kd b n X.2.1 = 59
    · rw [if_pos d]
      have k3 := nxp_bd b (kd_lt (show kd b n X.2.1 ≠ 0 by omega))
      refine ⟨a1.set22 _ _, ⟨?_, k3.2⟩, ?_⟩
      · show P < nxp b n X.2.1; omega
      · show stv X.2.2 22 0 (X.2.2 22 0 + 1) 22 0 = _
        rw [stv_s, a3]
    · rw [if_neg d] at hz; exact absurd (show (1 : Int) = 0 from hz) (by decide)
  · rw [if_pos c] at hz; exact absurd hz c
theorem reads_loop {pl : Int} {b : Int → Int} {n P : Int} {T : aH} {σ : aS} (h : RC pl b n P T σ) (hI : TI T) (h22 : T 22 0 = 0) (p0 : 0 ≤ P) (p1 : P ≤ n) (hn : n ≤ 800) :
    ∃ τ, c5_reads_l22 7 0 σ = some (0, [if (txt b n 800 P T).1 = 0 then 1 else 0], τ) ∧ Fp (wrd pl) σ τ ∧ OKc pl b n (txt b n 800 P T) τ ∧ ((txt b n 800 P T).1 = 0 → TI (txt b n 800 P T).2.2 ∧ 0 ≤ (txt b n 800 P T).2.2 22 0 ∧ (txt b n 800 P T).2.2 22 0 ≤ 800) := by
  generalize hX : txt b n 800 P T = X
  have hal := al_I (c := 23) (B := aU2 c5_reads_b22) (n := 800) (i := 0) (vs := [7, 0]) (σ := σ)
    (fun i vs τ => 0 ≤ i ∧ vs = [7, i] ∧ Fp (wrd pl) σ τ ∧ ((∃ P' T', RC pl b n P' T' τ ∧ TI T' ∧ T' 22 0 = i ∧ 0 ≤ P' ∧ P' ≤ n ∧ txt b n (800 - i).toNat P' T' = X) ∨ (X.1 ≠ 0 ∧ FTc X.1 X.2.1 τ ∧ aget τ 7 1 = pl)))
    (fun r => ∃ τ, r = (196, [7], τ) ∧ Fp (wrd pl) σ τ ∧ OKc pl b n X τ ∧ (X.1 = 0 → TI X.2.2 ∧ 0 ≤ X.2.2 22 0 ∧ X.2.2 22 0 ≤ 800)) (by omega) (by omega) ⟨Int.le_refl _, rfl, Fp.rf _ _, Or.inl ⟨P, T, h, hI, h22, p0, p1, hX⟩⟩ ?_
  · obtain ⟨r, hr, τ, rfl, h1, h2, h3⟩ := hal
    refine ⟨τ, ?_, h1, h2, h3⟩
    unfold c5_reads_l22
    rw [hr]
    show c5_reads_p195 7 τ = _
    unfold c5_reads_p195
    rcases h2 with ⟨z, hR⟩ | ⟨z, hF, e71⟩
    · rw [r_7_0 hR.lr, c10_isSound_p hR.1, acall1_some, if_pos z]
      exact ite_n (by omega) (ite_p (by omega) rfl)
    · rw [r_7_0 hF.1, c10_isSound_f hF, acall1_some, if_neg z]
      exact ite_n (by omega) (ite_p (by omega) rfl)
  · rintro i vs τ hi ⟨i0, rfl, hF, ⟨P', T', hR, hT, e22, q0, q1, he⟩ | ⟨hne, hX', e71⟩⟩
    · by_cases c : i < 800
      · have ef : (800 - i).toNat = (800 - (i + 1)).toNat + 1 := by omega
        rw [ef] at he
        have eu : txt b n ((800 - (i + 1)).toNat + 1) P' T' = if kd b n P' = 0 then (0, P', T') else if (lnZ b n P' T').1 ≠ 0 then lnZ b n P' T' else txt b n (800 - (i + 1)).toNat (lnZ b n P' T').2.1 (lnZ b n P' T').2.2 := rfl
        rw [eu] at he
        by_cases d : kd b n P' = 0
        · rw [if_pos d] at he
          refine Or.inr ⟨(196, [7], τ), ?_, Nat.ne_of_beq_eq_false rfl, τ, rfl, hF, Or.inl ⟨by rw [← he], by rw [← he]; exact hR⟩, fun _ => by rw [← he]; exact ⟨hT, by show 0 ≤ T' 22 0; omega, by show T' 22 0 ≤ 800; omega⟩⟩
          show c5_reads_b22 7 i τ = _
          unfold c5_reads_b22
          rw [r_7_0 hR.lr, c10_isSound_p hR.1, acall1_some, r_7_0 hR.lr, hR.1.kd.1]
          exact ite_p c (ite_n (by omega) (ite_n (by omega) (ite_n (by omega) (ite_p d rfl))))
        · rw [if_neg d] at he
          obtain ⟨υ, e1, e2, e3⟩ := c5_lineZ_ok hR (hT.iv (by omega)) i0 c d (fun z => by
            have := (ln_I hT q0 q1 hn z).2.2
            omega)
          rcases e3 with ⟨z, hR2⟩ | ⟨z, hX2, e71⟩
          · rw [if_neg (fun q => q z)] at he
            obtain ⟨k1, k2, k3⟩ := lnZ_I hT q0 q1 hn z
            exact Or.inl ⟨c, _, υ, e1, by omega, rfl, hF.tr e2, Or.inl ⟨_, _, hR2, k1, by omega, by omega, k2.2, he⟩⟩
          · rw [if_pos z] at he
            exact Or.inl ⟨c, _, υ, e1, by omega, rfl, hF.tr e2, Or.inr ⟨by rw [← he]; exact z, by rw [← he]; exact hX2, e71⟩⟩
      · have e8 : (800 - i).toNat = 0 := by omega
        rw [e8] at he
        have eu : txt b n 0 P' T' = (0, P', T') := rfl
        rw [eu] at he
        refine Or.inr ⟨(196, [7], τ), ?_, Nat.ne_of_beq_eq_false rfl, τ, rfl, hF, Or.inl ⟨by rw [← he], by rw [← he]; exact hR⟩, fun _ => by rw [← he]; exact ⟨hT, by show 0 ≤ T' 22 0; omega, by show T' 22 0 ≤ 800; omega⟩⟩
        show c5_reads_b22 7 i τ = _
        unfold c5_reads_b22
        exact ite_n c rfl
    · refine Or.inr ⟨(196, [7], τ), ?_, Nat.ne_of_beq_eq_false rfl, τ, rfl, hF, Or.inr ⟨hne, hX', e71⟩, fun z => absurd z hne⟩
      show c5_reads_b22 7 i τ = _
      unfold c5_reads_b22
      by_cases c : i < 800
      · rw [r_7_0 hX'.1, c10_isSound_f hX', acall1_some]
        exact ite_p c (ite_n (by omega) (ite_p rfl rfl))
      · exact ite_n c rfl
