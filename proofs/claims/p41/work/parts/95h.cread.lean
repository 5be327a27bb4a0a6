/-! the class's half of whole's part of this name -/
def wrp (pl x j : Int) : Prop := (x = pl ∧ 8 ≤ j ∧ j ≤ 15) ∨ (pl + 1 ≤ x ∧ x ≤ pl + 6) ∨ (x = pl + 7 ∧ (j = 1 ∨ (7 ≤ j ∧ j ≤ 9))) ∨ (pl + 8 ≤ x ∧ x ≤ pl + 13) ∨ (pl + 15 ≤ x ∧ x ≤ pl + 19)
def wrB (pl x j : Int) : Bool := decide ((x = pl ∧ 8 ≤ j ∧ j ≤ 15) ∨ (pl + 1 ≤ x ∧ x ≤ pl + 6) ∨ (x = pl + 7 ∧ (j = 1 ∨ (7 ≤ j ∧ j ≤ 9))) ∨ (pl + 8 ≤ x ∧ x ≤ pl + 13) ∨ (pl + 15 ≤ x ∧ x ≤ pl + 19))
theorem wrp_kR {pl : Int} (hp : pl = 90 ∨ pl = 110) : ∀ q ∈ kR, ¬ wrp pl q.1 q.2.1 := by
  have h : (kR.all fun q => !(wrB 90 q.1 q.2.1) && !(wrB 110 q.1 q.2.1)) = true := by decide +kernel
  intro q hq hw
  have h1 := List.all_eq_true.mp h q hq
  have h2 : wrB pl q.1 q.2.1 = true := by unfold wrB; unfold wrp at hw; exact decide_eq_true hw
  rw [Bool.and_eq_true] at h1
  rcases hp with rfl | rfl
  · rw [h2] at h1; exact absurd h1.1 (by decide)
  · rw [h2] at h1; exact absurd h1.2 (by decide)
/-- what reading changes -/
def wrd (pl x j : Int) : Prop := wtq x j ∨ wrp pl x j
theorem LR.rd {pl : Int} {σ τ : aS} {P : Int → Int → Prop} (h : LR σ) (hp : pl = 90 ∨ pl = 110) (hF : Fp P σ τ) (hP : ∀ x j, P x j → wrd pl x j) : LR τ :=
  (hF.mono hP).LR (fun q hq w => w.elim (fun u => wtt_kR q hq (by unfold wtq at u; unfold wtt; omega)) (wrp_kR hp q hq)) h
/-- while it is read: the tokens at P, the plan tells T -/
def RC (pl : Int) (b : Int → Int) (n P : Int) (T : aH) (σ : aS) : Prop := PKc b n P σ ∧ aget σ 7 1 = pl ∧ PLc pl T σ
theorem TKc.pf {b : Int → Int} {n P : Int} {σ τ : aS} {Q : Int → Int → Prop} (h : TKc b n P σ) (hL : LR τ) (hF : Fp Q σ τ) (hQ : ∀ x j, Q x j → ¬ (2 ≤ x ∧ x ≤ 6)) : TKc b n P τ := by
  have g : ∀ x j, 2 ≤ x ∧ x ≤ 6 → aget τ x j = aget σ x j := fun x j hx => hF.g (fun q => hQ x j q hx)
  obtain ⟨⟨_, a, b', c⟩, m, k, ⟨d1, d2, d3⟩, e, f, e2, i, j, l, o⟩ := h
  refine ⟨⟨hL, by rw [g 2 5 (by omega)]; exact a, b', fun j j0 j1 => by rw [g 3 j (by omega)]; exact c j j0 j1⟩, m, k, ⟨by rw [g 2 6 (by omega)]; exact d1, d2, fun j hj => ?_⟩, e, f, e2, by rw [g 2 7 (by omega)]; exact i, by rw [g 2 11 (by omega)]; exact j, by rw [g 2 12 (by omega)]; exact l, by rw [g 2 8 (by omega)]; exact o⟩
  rw [g 6 _ (by omega), g 4 _ (by omega), g 5 _ (by omega)]
  exact d3 j hj
theorem PKc.pf {b : Int → Int} {n P : Int} {σ τ : aS} {Q : Int → Int → Prop} (h : PKc b n P σ) (hL : LR τ) (hF : Fp Q σ τ) (hQ : ∀ x j, Q x j → ¬ (2 ≤ x ∧ x ≤ 6)) : PKc b n P τ :=
  ⟨h.1.pf hL hF hQ, by rw [hF.g (fun q => hQ _ _ q (by omega))]; exact h.2.1, by rw [hF.g (fun q => hQ _ _ q (by omega))]; exact h.2.2⟩
/-- a step of the tokens leaves the plan -/
theorem RC.tq {pl : Int} {b : Int → Int} {n P P' : Int} {T : aH} {σ τ : aS} (h : RC pl b n P T σ) (hF : Fp wtq σ τ) (hK : PKc b n P' τ) : RC pl b n P' T τ :=
  ⟨hK, by rw [hF.g (by unfold wtq; omega)]; exact h.2.1, h.2.2.fp hF (fun x j q => by unfold wtq at q; omega)⟩
theorem wtq_d {pl : Int} {σ τ : aS} (hF : Fp wtq σ τ) : Fp (wrd pl) σ τ := hF.mono (fun x j q => Or.inl q)
theorem RC.lr {pl : Int} {b : Int → Int} {n P : Int} {T : aH} {σ : aS} (h : RC pl b n P T σ) : LR σ := h.1.lr
/-- a figure written into the plan -/
theorem RC.put {pl : Int} {b : Int → Int} {n P : Int} {T : aH} {σ : aS} (h : RC pl b n P T σ) {x j a i : Int} (hc : ctm x j = some (a, i)) (v : Int) (hh : pk5 (hsf (stv T a i v)) = pk5 (hsf T)) : RC pl b n P (stv T a i v) (aput σ (pl + x) j v) ∧ Fp (wrd pl) σ (aput σ (pl + x) j v) := by
  have hp := h.2.2.1
  have hx : wrp pl (pl + x) j ∧ 0 ≤ x := by
    unfold ctm at hc
    unfold wrp
    iterate 18 (replace hc := its.1 hc; rcases hc with ⟨q, e⟩ | ⟨-, hc⟩; · omega)
    cases hc
  have hF : Fp (fun y k => y = pl + x ∧ k = j) σ (aput σ (pl + x) j v) := (Fp.rf _ _).put _ ⟨rfl, rfl⟩
  have hF2 : Fp (wrd pl) σ (aput σ (pl + x) j v) := hF.mono (fun y k q => by rw [q.1, q.2]; exact Or.inr hx.1)
  have hL : LR (aput σ (pl + x) j v) := h.lr.rd hp hF2 (fun _ _ q => q)
  exact ⟨⟨h.1.pf hL hF (fun y k q => by omega), by rw [ag_x (by omega)]; exact h.2.1, h.2.2.put hc v hh⟩, hF2⟩
/-- the text's numbers keep within the plan -/
def BTk (T : aH) : Prop := (0 ≤ T 0 0 ∧ T 0 0 ≤ 5) ∧ (0 ≤ T 0 1 ∧ T 0 1 ≤ 5) ∧ (0 ≤ T 0 2 ∧ T 0 2 ≤ 4) ∧ (0 ≤ T 0 3 ∧ T 0 3 ≤ 12) ∧ (0 ≤ T 0 4 ∧ T 0 4 ≤ 64)
theorem BTk.k5 {T : aH} (hB : BTk T) {w : Int} (w0 : 0 ≤ w) (w3 : w < 3) : 0 ≤ T 0 w ∧ T 0 w ≤ 5 := by
  obtain ⟨a, b, c, -⟩ := hB
  rcases (show w = 0 ∨ w = 1 ∨ w = 2 by omega) with e | e | e <;> rw [e] <;> omega
theorem ctm_1 {w : Int} (w0 : 0 ≤ w) (w3 : w < 3) : ctm 1 w = some (0, w) := if_pos ⟨rfl, w0, w3⟩
theorem ctm_19 {j : Int} (j0 : 0 ≤ j) (j1 : j < 15) : ctm 19 j = some (11, j) := by
  unfold ctm
  repeat (rw [if_neg (by omega)])
  rw [if_pos (by omega)]
theorem c4_find_r {pl : Int} {b : Int → Int} {n P : Int} {T : aH} {σ : aS} (h : RC pl b n P T σ) (hB : BTk T) {w l : Int} (w0 : 0 ≤ w) (w3 : w < 3) : c4_find pl w l σ = some (0, [aNamed T w l], σ) := by
  have hL := h.lr
  have hp := h.2.2.1
  have h5 := hB.k5 w0 w3
  have hk : aget σ (pl + 1) w = T 0 w := h.2.2.2.1 1 w 0 w (ctm_1 w0 w3)
  unfold aNamed
  rw [if_pos ⟨w0, w3⟩]
  have p0 := ff_0 (fun i => decide (T 11 (5 * w + i) = l)) (n := T 0 w)
  have pn := ff_n (fun i => decide (T 11 (5 * w + i) = l)) (n := T 0 w) h5.1
  have pat := ff_at (P := fun i => decide (T 11 (5 * w + i) = l)) (n := T 0 w)
  have pno := fun k => ff_no (P := fun i => decide (T 11 (5 * w + i) = l)) (n := T 0 w) (k := k)
  generalize ff (fun i => decide (T 11 (5 * w + i) = l)) (T 0 w) = X at p0 pn pat pno
  have hal := al_I (c := 3) (B := aU4 c4_find_b2) (n := T 0 w) (i := 0) (vs := [pl, w, l, 0]) (σ := σ)
    (fun k vs τ => 0 ≤ k ∧ vs = [pl, w, l, k] ∧ τ = σ ∧ k ≤ X) (fun r => r = (0, [if X < T 0 w then X else -1], σ)) (by omega) (by omega) ⟨Int.le_refl _, rfl, rfl, p0⟩ ?_
  · obtain ⟨r, hr, rfl⟩ := hal
    unfold c4_find c4_find_l2
    rw [hr]; rfl
  · rintro k vs τ hk2 ⟨k0, rfl, rfl, hX⟩
    by_cases c : k < T 0 w
    · have hvk : aget τ (pl + 19) (5 * w + k) = T 11 (5 * w + k) := h.2.2.2.1 19 _ 11 _ (ctm_19 (by omega) (by omega))
      by_cases q : T 11 (5 * w + k) = l
      · have hXk : X = k := by
          by_cases v : k < X
          · have := pno k k0 v
            rw [decide_eq_true q] at this; cases this
          · omega
        refine Or.inr ⟨_, ?_, Nat.ne_of_beq_eq_false rfl, rfl⟩
        rw [if_pos (by omega), hXk]
        show c4_find_b2 pl w l k τ = _
        unfold c4_find_b2
        rw [rp_0 hL hp, np_1 hL hp, hk, rp_16 hL hp, np_19 hL hp, w5' (by omega) (by omega) (by omega) (by omega), hvk]
        exact ite_n (by omega) (ite_p (by omega) (ite_p c (ite_n (by omega) (ite_p (by omega) (ite_p q rfl)))))
      · refine Or.inl ⟨c, [pl, w, l, k + 1], τ, ?_, by omega, rfl, rfl, ?_⟩
        · show c4_find_b2 pl w l k τ = _
          unfold c4_find_b2
          rw [rp_0 hL hp, np_1 hL hp, hk, rp_16 hL hp, np_19 hL hp, w5' (by omega) (by omega) (by omega) (by omega), hvk, wq (x := k + 1) (by omega) (by omega)]
          exact ite_n (by omega) (ite_p (by omega) (ite_p c (ite_n (by omega) (ite_p (by omega) (ite_n q rfl)))))
        · by_cases v : X = k
          · have := pat (by omega)
            rw [v, decide_eq_true_iff] at this; exact absurd this q
          · omega
    · refine Or.inr ⟨_, ?_, Nat.ne_of_beq_eq_false rfl, rfl⟩
      rw [if_neg (by omega)]
      show c4_find_b2 pl w l k τ = _
      unfold c4_find_b2
      rw [rp_0 hL hp, np_1 hL hp, hk]
      exact ite_n (by omega) (ite_p (by omega) (ite_n c rfl))
theorem aNamed_bd {T : aH} {w l : Int} (h : aNamed T w l ≠ -1) (w0 : 0 ≤ w) (w3 : w < 3) : 0 ≤ aNamed T w l ∧ aNamed T w l < T 0 w := by
  unfold aNamed at h ⊢
  rw [if_pos ⟨w0, w3⟩] at h ⊢
  have p0 := ff_0 (fun i => decide (T 11 (5 * w + i) = l)) (n := T 0 w)
  by_cases c : ff (fun i => decide (T 11 (5 * w + i) = l)) (T 0 w) < T 0 w
  · rw [if_pos c]; exact ⟨p0, c⟩
  · rw [if_neg c] at h; exact absurd rfl h
/-- a new name: its fault and place; the text with it -/
def nwF (b : Int → Int) (n : Int) (T : aH) (w most P : Int) : Int × Int :=
  if most ≤ T 0 w then (2, P) else if kd b n (nxp b n P) ≠ 3 then (1, nxp b n P) else if aNamed T w (vlt b n (nxp b n P)) ≠ -1 then (3, nxp b n P) else (0, nxp b n (nxp b n P))
def nwT (b : Int → Int) (n : Int) (T : aH) (w P : Int) : aH := stv (stv T 11 (5 * w + T 0 w) (vlt b n (nxp b n P))) 0 w (T 0 w + 1)
/-- a name of before: its fault -/
def odF (b : Int → Int) (n : Int) (T : aH) (w P : Int) : Int := if kd b n P ≠ 3 then 1 else if aNamed T w (vlt b n P) = -1 then 4 else 0
theorem hsf_ne {T : aH} {a i v : Int} (h : a ≠ 0) (h2 : a ≠ 2) : hsf (stv T a i v) = hsf T := by
  unfold hsf
  funext s
  rw [stv_x (by omega), stv_x (by omega)]
theorem hsf_01 {T : aH} {i v : Int} (h : i ≠ 1) : hsf (stv T 0 i v) = hsf T := by
  unfold hsf
  funext s
  rw [stv_j (by omega), stv_x (by omega)]
theorem c5_oldOne_ok {pl : Int} {b : Int → Int} {n P : Int} {T : aH} {σ : aS} (h : RC pl b n P T σ) (hB : BTk T) {w : Int} (w0 : 0 ≤ w) (w3 : w < 3) :
    (odF b n T w P = 0 ∧ (0 ≤ aNamed T w (vlt b n P) ∧ aNamed T w (vlt b n P) < T 0 w) ∧ c5_oldOne 7 w σ = some (0, [aNamed T w (vlt b n P)], σ)) ∨
    (odF b n T w P ≠ 0 ∧ ∃ τ, c5_oldOne 7 w σ = some (0, [-1], τ) ∧ Fp wtq σ τ ∧ FTc (odF b n T w P) P τ) := by
  have hL := h.lr
  have hp := h.2.2.1
  unfold c5_oldOne odF
  rw [r_7_0 hL, h.2.1, h.1.kd.1, h.1.kd.2.1]
  by_cases c : kd b n P = 3
  · rw [if_neg (show ¬ kd b n P ≠ 3 from fun q => q c)]
    have hf := c4_find_r h hB (l := vlt b n P) w0 w3
    by_cases d : aNamed T w (vlt b n P) = -1
    · obtain ⟨τ, h1, h2, h3⟩ := c10_refuse_p h.1 (f := 4) (by omega)
      rw [if_pos d]
      refine Or.inr ⟨by omega, τ, ?_, h2, h3⟩
      rw [if_neg (show ¬ (2 : Int) = 0 by omega), if_pos c, if_neg (show ¬ pl = 0 by omega), if_neg (show ¬ (2 : Int) = 0 by omega), hf, acall1_some, if_pos d, r_7_0 hL, if_neg (show ¬ (2 : Int) = 0 by omega), h1, acall0_some, d]
    · rw [if_neg d]
      refine Or.inl ⟨rfl, aNamed_bd d w0 w3, ?_⟩
      rw [if_neg (show ¬ (2 : Int) = 0 by omega), if_pos c, if_neg (show ¬ pl = 0 by omega), if_neg (show ¬ (2 : Int) = 0 by omega), hf, acall1_some, if_neg d]
  · rw [if_pos (show kd b n P ≠ 3 from c)]
    obtain ⟨τ, h1, h2, h3⟩ := c10_refuse_p h.1 (f := 1) (by omega)
    refine Or.inr ⟨by omega, τ, ?_, h2, h3⟩
    rw [if_neg (show ¬ (2 : Int) = 0 by omega), if_neg c, if_neg (show ¬ (2 : Int) = 0 by omega), h1, acall0_some]
theorem c5_newOne_ok {pl : Int} {b : Int → Int} {n P : Int} {T : aH} {σ : aS} (h : RC pl b n P T σ) (hB : BTk T) {w most : Int} (w0 : 0 ≤ w) (w3 : w < 3) (m5 : most ≤ 5) (hz : w = 1 → T 0 1 < 5 → T 2 (4 * T 0 1) = 0) :
    ((nwF b n T w most P).1 = 0 ∧ ∃ τ, c5_newOne 7 w most σ = some (0, [T 0 w], τ) ∧ Fp (wrd pl) σ τ ∧ RC pl b n (nxp b n (nxp b n P)) (nwT b n T w P) τ) ∨
    ((nwF b n T w most P).1 ≠ 0 ∧ ∃ τ, c5_newOne 7 w most σ = some (0, [-1], τ) ∧ Fp (wrd pl) σ τ ∧ aget τ 7 1 = pl ∧ FTc (nwF b n T w most P).1 (nwF b n T w most P).2 τ) := by
  have hL := h.lr
  have hp := h.2.2.1
  have h5 := hB.k5 w0 w3
  have hk : aget σ (pl + 1) w = T 0 w := h.2.2.2.1 1 w 0 w (ctm_1 w0 w3)
  unfold c5_newOne nwF
  rw [h.2.1, rp_0 hL hp, np_1 hL hp, hk, r_7_0 hL]
  by_cases c : most ≤ T 0 w
  · obtain ⟨τ, h1, h2, h3⟩ := c10_refuse_p h.1 (f := 2) (by omega)
    rw [if_pos c]
    refine Or.inr ⟨by show (2 : Int) ≠ 0; omega, τ, ?_, wtq_d h2, by rw [h2.g (by unfold wtq; omega)]; exact h.2.1, h3⟩
    refine ite_n (by omega) (ite_n (by omega) (ite_p (by omega) (ite_n (by omega) ?_)))
    rw [if_neg (show ¬ (2 : Int) = 0 by omega), h1, acall0_some]
  · rw [if_neg c]
    obtain ⟨σ1, h1, hF1, hK1⟩ := c10_step_p h.1
    have hR1 := h.tq hF1 hK1
    have hL1 := hR1.lr
    have pre : ∀ r : aR, (if aget σ1 2 11 = 3 then (acall1 (c4_find pl w (aget σ1 2 12) σ1) fun v4 σ4 => (if v4 = (-1) then (if aget σ4 7 1 = 0 then none else (if aget σ4 7 0 = 0 then none else (acall0 (c4_addName (aget σ4 7 1) w (aget σ4 (aget σ4 7 0) 12) σ4) fun σ6 => (if aget σ6 7 0 = 0 then none else (acall0 (c10_step (aget σ6 7 0) σ6) fun σ7 => some (0, [T 0 w], σ7)))))) else (if aget σ4 7 0 = 0 then none else (acall0 (c10_refuse (aget σ4 7 0) 3 σ4) fun σ5 => some (0, [(-1)], σ5))))) else (acall0 (c10_refuse 2 1 σ1) fun σ3 => some (0, [(-1)], σ3))) = r → c5_newOne 7 w most σ = r := by
      intro r hr
      unfold c5_newOne
      rw [h.2.1, rp_0 hL hp, np_1 hL hp, hk, r_7_0 hL]
      refine ite_n (by omega) (ite_n (by omega) (ite_p (by omega) (ite_p (by omega) ?_)))
      rw [if_neg (show ¬ (2 : Int) = 0 by omega), h1, acall0_some, r_7_0 hL1, hR1.2.1, if_neg (show ¬ (2 : Int) = 0 by omega), if_neg (show ¬ pl = 0 by omega), if_neg (show ¬ (2 : Int) = 0 by omega), if_neg (show ¬ (2 : Int) = 0 by omega)]
      exact hr
    have pre' : ∀ r : aR, c5_newOne 7 w most σ = r → (c5_newOne 7 w most σ = r) := fun r h => h
    by_cases d : kd b n (nxp b n P) = 3
    · rw [if_neg (show ¬ kd b n (nxp b n P) ≠ 3 from fun q => q d)]
      have hf := c4_find_r hR1 hB (l := vlt b n (nxp b n P)) w0 w3
      by_cases e : aNamed T w (vlt b n (nxp b n P)) = -1
      · rw [if_neg (show ¬ aNamed T w (vlt b n (nxp b n P)) ≠ -1 from fun q => q e)]
        obtain ⟨hR2, hF2⟩ := hR1.put (x := 19) (j := 5 * w + T 0 w) (ctm_19 (by omega) (by omega)) (vlt b n (nxp b n P)) (by rw [hsf_ne (by omega) (by omega)])
        obtain ⟨σ2, hσ2⟩ : ∃ σ2, σ2 = aput σ1 (pl + 19) (5 * w + T 0 w) (vlt b n (nxp b n P)) := ⟨_, rfl⟩
        rw [← hσ2] at hR2 hF2
        have hL2 := hR2.lr
        have hk1 : aget σ1 (pl + 1) w = T 0 w := hR1.2.2.2.1 1 w 0 w (ctm_1 w0 w3)
        have hk2 : aget σ2 (pl + 1) w = T 0 w := by rw [hσ2, ag_x (by omega)]; exact hk1
        obtain ⟨hR3, hF3⟩ := hR2.put (x := 1) (j := w) (ctm_1 w0 w3) (T 0 w + 1) (by
          by_cases w1 : w = 1
          · have hzz := hz w1 (by rw [← w1]; omega)
            congr 1
            funext s
            unfold hsf
            rw [w1, stv_s, stv_x (x' := 2) (by omega), stv_x (x' := 2) (by omega), stv_x (x' := 0) (by omega)]
            by_cases q : s = T 0 1
            · rw [q, if_pos (by rw [w1] at h5; omega), if_neg (by omega)]; exact hzz
            · by_cases q2 : 0 ≤ s ∧ s < T 0 1
              · rw [if_pos (by omega), if_pos q2]
              · rw [if_neg (by omega), if_neg q2]
          · rw [hsf_01 w1])
        obtain ⟨σ3, hσ3⟩ : ∃ σ3, σ3 = aput σ2 (pl + 1) w (T 0 w + 1) := ⟨_, rfl⟩
        rw [← hσ3] at hR3 hF3
        have hL3 := hR3.lr
        obtain ⟨σ4, h4, hF4, hK4⟩ := c10_step_p hR3.1
        have hR4 := hR3.tq hF4 hK4
        refine Or.inl ⟨rfl, σ4, ?_, (wtq_d hF1).tr (hF2.tr (hF3.tr (wtq_d hF4))), hR4⟩
        have hadd : c4_addName pl w (vlt b n (nxp b n P)) σ1 = some (0, [], σ3) := by
          unfold c4_addName
          rw [rp_0 hL1 hp, np_1 hL1 hp, hk1, rp_16 hL1 hp, np_19 hL1 hp, w5' (by omega) (by omega) (by omega) (by omega), ← hσ2, rp_0 hL2 hp, np_1 hL2 hp, hk2, wq (x := T 0 w + 1) (by omega) (by omega), ← hσ3]
          exact ite_n (by omega) (ite_p (by omega) (ite_p (by omega) (ite_n (by omega) (ite_n (by omega) (ite_p (by omega) (ite_p (by omega) (ite_n (by omega) (ite_p (by omega) (ite_p (by omega) rfl)))))))))
        have hh := pre (some (0, [T 0 w], σ4)) (by
          rw [hK1.kd.1, hK1.kd.2.1, if_pos d, hf, acall1_some, if_pos e, hR1.2.1, r_7_0 hL1, hK1.kd.2.1, hadd, acall0_some, r_7_0 hL3, h4, acall0_some]
          exact ite_n (by omega) (ite_n (by omega) (ite_n (by omega) rfl)))
        unfold c5_newOne at hh
        rw [h.2.1, rp_0 hL hp, np_1 hL hp, hk, r_7_0 hL] at hh
        exact hh
      · rw [if_pos (show aNamed T w (vlt b n (nxp b n P)) ≠ -1 from e)]
        obtain ⟨τ, h2, hF2, h3⟩ := c10_refuse_p hK1 (f := 3) (by omega)
        refine Or.inr ⟨by show (3 : Int) ≠ 0; omega, τ, ?_, (wtq_d hF1).tr (wtq_d hF2), by rw [hF2.g (by unfold wtq; omega)]; exact hR1.2.1, h3⟩
        have hh := pre (some (0, [-1], τ)) (by
          rw [hK1.kd.1, hK1.kd.2.1, if_pos d, hf, acall1_some, if_neg e, r_7_0 hL1, h2, acall0_some]
          exact if_neg (by omega))
        unfold c5_newOne at hh
        rw [h.2.1, rp_0 hL hp, np_1 hL hp, hk, r_7_0 hL] at hh
        exact hh
    · rw [if_pos (show kd b n (nxp b n P) ≠ 3 from d)]
      obtain ⟨τ, h2, hF2, h3⟩ := c10_refuse_p hK1 (f := 1) (by omega)
      refine Or.inr ⟨by show (1 : Int) ≠ 0; omega, τ, ?_, (wtq_d hF1).tr (wtq_d hF2), by rw [hF2.g (by unfold wtq; omega)]; exact hR1.2.1, h3⟩
      have hh := pre (some (0, [-1], τ)) (by
        rw [hK1.kd.1, if_neg d, h2, acall0_some])
      unfold c5_newOne at hh
      rw [h.2.1, rp_0 hL hp, np_1 hL hp, hk, r_7_0 hL] at hh
      exact hh
