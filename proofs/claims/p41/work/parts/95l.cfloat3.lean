/-! the class's half of whole's part of this name -/
theorem tkN_ne {b : Int → Int} {n lo hi : Int} {q : Int × Int} (h : q.1 ≠ 0) : (tkN b n lo hi q).1 ≠ 0 := by rw [tkN_n h]; exact h
theorem fltQ_n {b : Int → Int} {n P : Int} {T : aH} (h : (nwF b n T 1 5 P).1 ≠ 0) : (fltQ b n P T).1 ≠ 0 := tkN_ne (tkN_ne (tkN_ne (tkN_ne h)))
theorem SFc.lr {b : Int → Int} {n : Int} {q : Int × Int} {σ : aS} (h : SFc b n q σ) : LR σ := h.elim (fun w => w.2.lr) (fun w => w.2.1)
theorem BTk.of {T U : aH} (h : BTk T) (e : ∀ i, 0 ≤ i → i < 5 → U 0 i = T 0 i) : BTk U := by
  obtain ⟨a, b, c, d, f⟩ := h
  exact ⟨by rw [e 0 (by omega) (by omega)]; exact a, by rw [e 1 (by omega) (by omega)]; exact b, by rw [e 2 (by omega) (by omega)]; exact c, by rw [e 3 (by omega) (by omega)]; exact d, by rw [e 4 (by omega) (by omega)]; exact f⟩
theorem nwT_1 {b : Int → Int} {n P : Int} {T : aH} : nwT b n T 1 P 0 1 = T 0 1 + 1 := by unfold nwT; rw [stv_s]
theorem nwT_0 {b : Int → Int} {n P i w : Int} {T : aH} (h : i ≠ w) : nwT b n T w P 0 i = T 0 i := by unfold nwT; rw [stv_j h, stv_x (by omega)]
theorem nwT_x {b : Int → Int} {n P a i w : Int} {T : aH} (h : a ≠ 0) (h2 : a ≠ 11) : nwT b n T w P a i = T a i := by unfold nwT; rw [stv_x h, stv_x h2]
theorem BTk.nw {T : aH} (h : BTk T) {b : Int → Int} {n P w : Int} (w0 : 0 ≤ w) (w3 : w < 3) (hl : T 0 w < 5) (h2 : w = 2 → T 0 2 < 4) : BTk (nwT b n T w P) := by
  obtain ⟨a, c, d, f, g⟩ := h
  have e : nwT b n T w P 0 w = T 0 w + 1 := by unfold nwT; rw [stv_s]
  rcases (show w = 0 ∨ w = 1 ∨ w = 2 by omega) with rfl | rfl | rfl
  · exact ⟨by rw [e]; omega, by rw [nwT_0 (by omega)]; exact c, by rw [nwT_0 (by omega)]; exact d, by rw [nwT_0 (by omega)]; exact f, by rw [nwT_0 (by omega)]; exact g⟩
  · exact ⟨by rw [nwT_0 (by omega)]; exact a, by rw [e]; omega, by rw [nwT_0 (by omega)]; exact d, by rw [nwT_0 (by omega)]; exact f, by rw [nwT_0 (by omega)]; exact g⟩
  · have := h2 rfl
    exact ⟨by rw [nwT_0 (by omega)]; exact a, by rw [nwT_0 (by omega)]; exact c, by rw [e]; omega, by rw [nwT_0 (by omega)]; exact f, by rw [nwT_0 (by omega)]; exact g⟩
theorem addT_0 {T : aH} {s m i : Int} (h : i ≠ 3) : addT T s m 0 i = T 0 i := by unfold addT; rw [stv_j h, stv_x (by omega)]
theorem addT_3 {T : aH} {s m : Int} : addT T s m 0 3 = T 0 3 + m := by unfold addT; rw [stv_s]
theorem mn6 {x : Int} : mn 6 (12 - x) ≤ 6 ∧ mn 6 (12 - x) ≤ 12 - x := ⟨mn_l _ _, mn_r _ _⟩
theorem fltT_B {b : Int → Int} {n P : Int} {T : aH} (hB : BTk T) (h : (fltQ b n P T).1 = 0) : BTk (fltT b n P T) := by
  obtain ⟨z, v1, -⟩ := fltQ_z h
  have s5 := nwF_2 z
  have m6 := mn6 (x := T 0 3)
  obtain ⟨a, c, d, f, g⟩ := hB
  have e : ∀ i, i ≠ 1 → i ≠ 3 → fltT b n P T 0 i = T 0 i := fun i h1 h3 => by
    unfold fltT
    rw [stv_x (by omega), stv_x (by omega), stv_x (by omega), addT_0 h3, nwT_0 h1]
  have e1 : fltT b n P T 0 1 = T 0 1 + 1 := by
    unfold fltT
    rw [stv_x (by omega), stv_x (by omega), stv_x (by omega), addT_0 (by omega), nwT_1]
  have e3 : fltT b n P T 0 3 = T 0 3 + vlt b n (nxp b n (nxp b n P)) := by
    unfold fltT
    rw [stv_x (by omega), stv_x (by omega), stv_x (by omega), addT_3, nwT_0 (by omega)]
  exact ⟨by rw [e 0 (by omega) (by omega)]; exact a, by rw [e1]; omega, by rw [e 2 (by omega) (by omega)]; exact d, by rw [e3]; omega, by rw [e 4 (by omega) (by omega)]; exact g⟩
theorem c5_readFloat_ok {pl : Int} {b : Int → Int} {n P : Int} {T : aH} {σ : aS} (h : RC pl b n P T σ) (hB : BTk T) (hK : BFk T) : ∃ τ, c5_readFloat 7 σ = some (0, [], τ) ∧ Fp (wrd pl) σ τ ∧ OKc pl b n (lnF b n P T) τ := by
  have hp := h.2.2.1
  have hs5 := hB.2.1
  unfold lnF
  -- four numbers, whatever came before
  have four : ∀ {σ1 : aS} {v1 : Int}, c5_newOne 7 1 5 σ = some (0, [v1], σ1) → SFc b n (nwF b n T 1 5 P) σ1 → aget σ1 7 1 = pl → ((nwF b n T 1 5 P).1 = 0 → aget σ1 pl 14 = T 0 3) →
      ∃ v3 v4 v5 v6 σ6, c5_readFloat 7 σ = c5_readFloat_p65 v6 7 v1 v3 v4 v5 σ6 ∧ Fp wtq σ1 σ6 ∧ SFc b n (fltQ b n P T) σ6 ∧ ((fltQ b n P T).1 = 0 → v3 = vlt b n (nxp b n (nxp b n P)) ∧ v4 = vlt b n (nxp b n (nxp b n (nxp b n P))) ∧ v5 = vlt b n (nxp b n (nxp b n (nxp b n (nxp b n P)))) ∧ v6 = vlt b n (nxp b n (nxp b n (nxp b n (nxp b n (nxp b n P)))))) := by
    intro σ1 v1 h1 hS1 h71 h14
    have hfl : ∃ hi, jmin 6 (w32 (12 - (aget σ1 pl 14))) σ1 = some (0, [hi], σ1) ∧ ((nwF b n T 1 5 P).1 = 0 → hi = mn 6 (12 - T 0 3)) := by
      unfold jmin mn
      by_cases c : w32 (12 - aget σ1 pl 14) < 6
      · refine ⟨_, if_pos c, fun z => ?_⟩
        rw [h14 z, wq (by have := hB.2.2.2.1; omega) (by have := hB.2.2.2.1; omega)] at c ⊢
        rw [if_pos c]
      · refine ⟨_, if_neg c, fun z => ?_⟩
        rw [h14 z, wq (by have := hB.2.2.2.1; omega) (by have := hB.2.2.2.1; omega)] at c
        rw [if_neg c]
    obtain ⟨hi, hj, hhi⟩ := hfl
    obtain ⟨v3, σ3, h3, hF3, hS3, e3⟩ := takeN_s hS1 1 hi
    have hS3' : SFc b n (tkN b n 1 (mn 6 (12 - T 0 3)) (nwF b n T 1 5 P)) σ3 := by
      by_cases z : (nwF b n T 1 5 P).1 = 0
      · rw [← hhi z]; exact hS3
      · rw [tkN_n z] at hS3 ⊢; exact hS3
    obtain ⟨v4, σ4, h4, hF4, hS4, e4⟩ := takeN_s hS3' 0 99
    obtain ⟨v5, σ5, h5, hF5, hS5, e5⟩ := takeN_s hS4 0 999
    obtain ⟨v6, σ6, h6, hF6, hS6, e6⟩ := takeN_s hS5 0 99
    refine ⟨v3, v4, v5, v6, σ6, ?_, hF3.tr (hF4.tr (hF5.tr hF6)), hS6, fun z => ?_⟩
    · unfold c5_readFloat
      rw [h1, acall1_some, r_7_0 hS1.lr, h71, if_neg (show ¬ (2 : Int) = 0 by omega), if_neg (show ¬ pl = 0 by omega), hj, acall1_some, h3, acall1_some, r_7_0 hS3.lr, if_neg (show ¬ (2 : Int) = 0 by omega), h4, acall1_some, r_7_0 hS4.lr, if_neg (show ¬ (2 : Int) = 0 by omega), h5, acall1_some, r_7_0 hS5.lr, if_neg (show ¬ (2 : Int) = 0 by omega), h6, acall1_some]
    · obtain ⟨z0, -, -, -, -, z1, z2, z3, p0, p1, p2', p3⟩ := fltQ_z z
      rw [p0] at e3
      rw [p1] at e4
      rw [p2'] at e5
      rw [p3] at e6
      exact ⟨e3 (by rw [hhi z0]; exact z1), e4 z2, e5 z3, e6 z⟩
  rcases c5_newOne_ok h hB (w := 1) (most := 5) (by omega) (by omega) (by omega) (fun _ q => (hK (T 0 1) hs5.1 q).2 (Int.le_refl _)) with ⟨z, σ1, h1, hF1, hR1⟩ | ⟨z, σ1, h1, hF1, e1, hX1⟩
  · have hs := nwF_2 z
    have n1 : nwT b n T 1 P 0 1 = T 0 1 + 1 := nwT_1
    obtain ⟨v3, v4, v5, v6, σ6, hq, hF6, hS6, hv⟩ := four h1 (Or.inl ⟨z, by rw [nwF_0 z]; exact hR1.1⟩) hR1.2.1 (fun _ => by
      have := hR1.2.2.2.1 0 14 0 3 rfl
      rw [Int.add_zero, nwT_0 (by omega)] at this; exact this)
    by_cases y : (fltQ b n P T).1 = 0
    · rw [if_neg (fun w => w y)]
      obtain ⟨-, b1, b2, b3, b4, -⟩ := fltQ_z y
      obtain ⟨rfl, rfl, rfl, rfl⟩ := hv y
      have hP6 : PKc b n (fltQ b n P T).2 σ6 := hS6.elim (fun w => w.2) (fun w => absurd y w.1)
      have hR6 := hR1.tq hF6 hP6
      have m6 := mn6 (x := T 0 3)
      have hB1 : BTk (nwT b n T 1 P) := hB.nw (by omega) (by omega) (by omega) (fun q => by omega)
      have nw2 : ∀ i, nwT b n T 1 P 2 i = T 2 i := fun i => nwT_x (by omega) (by omega)
      obtain ⟨σ7, h7, hF7, hR7⟩ := hR6.add hB1 (fun s s0 s1 => by
        unfold hsf
        rw [n1, nw2]
        have := (hK s s0 s1).1
        split <;> omega) (s := T 0 1) (m := vlt b n (nxp b n (nxp b n P))) (by omega) (by omega) (by omega) (by omega) (by rw [nw2]; exact (hK (T 0 1) hs5.1 hs).2 (Int.le_refl _))
      obtain ⟨hR8, hF8⟩ := hR7.put (x := 3) (j := 4 * T 0 1 + 1) (ctm_3 (by omega) (by omega)) (vlt b n (nxp b n (nxp b n (nxp b n P)))) (by rw [hsf_fig (by omega)])
      obtain ⟨σ8, hσ8⟩ : ∃ σ8, σ8 = aput σ7 (pl + 3) (4 * T 0 1 + 1) (vlt b n (nxp b n (nxp b n (nxp b n P)))) := ⟨_, rfl⟩
      rw [← hσ8] at hR8 hF8
      obtain ⟨hR9, hF9⟩ := hR8.put (x := 3) (j := 4 * T 0 1 + 2) (ctm_3 (by omega) (by omega)) (vlt b n (nxp b n (nxp b n (nxp b n (nxp b n P))))) (by rw [hsf_fig (by omega)])
      obtain ⟨σ9, hσ9⟩ : ∃ σ9, σ9 = aput σ8 (pl + 3) (4 * T 0 1 + 2) (vlt b n (nxp b n (nxp b n (nxp b n (nxp b n P))))) := ⟨_, rfl⟩
      rw [← hσ9] at hR9 hF9
      obtain ⟨hRa, hFa⟩ := hR9.put (x := 3) (j := 4 * T 0 1 + 3) (ctm_3 (by omega) (by omega)) (vlt b n (nxp b n (nxp b n (nxp b n (nxp b n (nxp b n P)))))) (by rw [hsf_fig (by omega)])
      obtain ⟨σa, hσa⟩ : ∃ σa, σa = aput σ9 (pl + 3) (4 * T 0 1 + 3) (vlt b n (nxp b n (nxp b n (nxp b n (nxp b n (nxp b n P)))))) := ⟨_, rfl⟩
      rw [← hσa] at hRa hFa
      obtain ⟨τ, hl, hFl, hO⟩ := wants_loop hs5.1 hs (P := (fltQ b n P T).2) (T := fltT b n P T) hRa (fltT_B hB y)
      refine ⟨τ, ?_, hF1.tr ((wtq_d hF6).tr (hF7.tr (hF8.tr (hF9.tr (hFa.tr hFl))))), hO⟩
      have w1 : w32 ((w32 (T 0 1 * 4)) + 1) = 4 * T 0 1 + 1 := by rw [wq (x := T 0 1 * 4) (by omega) (by omega), wq (by omega) (by omega)]; omega
      have w2 : w32 ((w32 (T 0 1 * 4)) + 2) = 4 * T 0 1 + 2 := by rw [wq (x := T 0 1 * 4) (by omega) (by omega), wq (by omega) (by omega)]; omega
      have w3 : w32 ((w32 (T 0 1 * 4)) + 3) = 4 * T 0 1 + 3 := by rw [wq (x := T 0 1 * 4) (by omega) (by omega), wq (by omega) (by omega)]; omega
      rw [hq]
      unfold c5_readFloat_p65
      refine ite_n (by omega) ?_
      rw [r_7_0 hR6.lr, if_neg (show ¬ (2 : Int) = 0 by omega), c10_isSound_p hP6, acall1_some, if_neg (show ¬ (1 : Int) = 0 by omega), hR6.2.1, if_neg (show ¬ pl = 0 by omega), h7, acall0_some, hR7.2.1, if_neg (show ¬ pl = 0 by omega), rp_2 hR7.lr hp, np_3 hR7.lr hp, w1, w2, ← hσ8, hR8.2.1, rp_2 hR8.lr hp, np_3 hR8.lr hp, ← hσ9, hR9.2.1, rp_2 hR9.lr hp]
      refine ite_n (by omega) (ite_p (by omega) (ite_n (by omega) (ite_n (by omega) (ite_p (by omega) (ite_n (by omega) (ite_n (by omega) ?_))))))
      unfold c5_readFloat_p129
      rw [w3, np_3 hR9.lr hp, ← hσa, hl]
      exact ite_p (by omega) rfl
    · rw [if_pos y]
      have hX6 : FTc (fltQ b n P T).1 (fltQ b n P T).2 σ6 := hS6.elim (fun w => absurd w.1 y) (fun w => w.2)
      refine ⟨σ6, ?_, hF1.tr (wtq_d hF6), Or.inr ⟨y, hX6, by rw [hF6.g (by unfold wtq; omega)]; exact hR1.2.1⟩⟩
      rw [hq]
      unfold c5_readFloat_p65
      refine ite_n (by omega) ?_
      rw [r_7_0 hX6.1, if_neg (show ¬ (2 : Int) = 0 by omega), c10_isSound_f hX6, acall1_some, if_pos rfl]
  · rw [if_pos (fltQ_n z)]
    obtain ⟨v3, v4, v5, v6, σ6, hq, hF6, hS6, -⟩ := four h1 (Or.inr ⟨z, hX1⟩) e1 (fun w => absurd w z)
    refine ⟨σ6, ?_, hF1.tr (wtq_d hF6), Or.inr ⟨fltQ_n z, hS6.elim (fun w => absurd w.1 (fltQ_n z)) (fun w => w.2), by rw [hF6.g (by unfold wtq; omega)]; exact e1⟩⟩
    rw [hq]
    unfold c5_readFloat_p65
    exact if_pos rfl
