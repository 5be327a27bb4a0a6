/-! groups: the reference -/
def GR (g : Int → Int) (σ : aS) : Prop := ∀ s, 0 ≤ s → s < 5 → aget σ 159 s = g s
theorem GR.fr {g : Int → Int} {σ τ : aS} {l : List (Int × List Int)} (h : GR g σ) (hF : Fr l σ τ) (hl : ∀ x j, wm [(159, [])] x j = true → wm l x j = false) : GR g τ := fun s s0 s1 => by
  rw [hF.g (hl _ _ rfl)]; exact h s s0 s1
theorem NB.c7 {T N : aH} (hN : NB T N) (hB : TB T) {s p : Int} (s0 : 0 ≤ s) (s1 : s < T 0 1) (p0 : 0 ≤ p) (p1 : p ≤ T 0 2) : 0 ≤ N 0 (5 * s + p) ∧ N 0 (5 * s + p) ≤ 7 := by
  have h5 := hB.2.1
  have h := (ctn_BF hN hB p0 p1).b7 hB s s0 (by omega)
  have e : ctn T N p s = N 0 (5 * s + p) := by unfold ctn; rw [if_pos ⟨s0, s1⟩]
  rw [e] at h; exact h
theorem MN.cr {T N M : aH} {σ : aS} (h : MN T N σ) (h0 : ∀ s p, 0 ≤ s → s < T 0 1 → 0 ≤ p → p ≤ T 0 2 → N 0 (5 * s + p) = M 0 (5 * s + p)) (hx : ∀ x j : Int, x ≠ 0 → M x j = N x j) : MN T M σ :=
  h.now (Fr.rf wnow σ) (fun s p s0 s1 p0 p1 => by rw [h.1 s p s0 s1 p0 p1]; exact h0 s p s0 s1 p0 p1) hx
theorem c12_moves_ok {T M : aH} {σ : aS} (hM : MI T σ) (hS : MN T M σ) (hb : ∀ s p, 0 ≤ s → s < T 0 1 → 0 ≤ p → p ≤ T 0 2 → -100 ≤ M 0 (5 * s + p) ∧ M 0 (5 * s + p) ≤ 100) {g : Int → Int} (hG : GR g σ) (hg : ∀ s, 0 ≤ s → s < T 0 1 → -100 ≤ g s ∧ g s ≤ 100) {d a b : Int} (hd : d = 1 ∨ d = -1)
    (a0 : 0 ≤ a) (a1 : a ≤ T 0 2) (b0 : 0 ≤ b) (b1 : b ≤ T 0 2) (hab : a ≠ b) :
    ∃ τ, c12_moves 130 a b d σ = some (0, [], τ) ∧ Fr wgo σ τ ∧ MN T (mvN M (fun s => d * g s) a b) τ := by
  have hB := hM.2.2
  have h5 := hB.2.1
  have h4 := hB.2.2.1
  have hal := al_I (c := 4) (B := aU5 c12_moves_b3) (n := T 0 1) (i := 0) (vs := [130, a, b, d, 0]) (σ := σ)
    (fun k vs τ => 0 ≤ k ∧ vs = [130, a, b, d, k] ∧ Fr wgo σ τ ∧ ∀ u p, 0 ≤ u → u < T 0 1 → 0 ≤ p → p ≤ T 0 2 → aget τ 155 (5 * u + p) = if u < k then mvN M (fun s => d * g s) a b 0 (5 * u + p) else M 0 (5 * u + p))
    (fun r => ∃ τ, r = (0, [], τ) ∧ Fr wgo σ τ ∧ ∀ u p, 0 ≤ u → u < T 0 1 → 0 ≤ p → p ≤ T 0 2 → aget τ 155 (5 * u + p) = mvN M (fun s => d * g s) a b 0 (5 * u + p)) (by omega) (by omega)
    ⟨Int.le_refl _, rfl, Fr.rf _ _, fun u p u0 u1 p0 p1 => by rw [if_neg (by omega)]; exact hS.1 u p u0 u1 p0 p1⟩ ?_
  · obtain ⟨r, hr, τ, rfl, hF, hv⟩ := hal
    refine ⟨τ, ?_, hF, hS.now hF hv (fun x j hx => mvN_x _ _ _ _ hx j)⟩
    unfold c12_moves c12_moves_l3
    rw [hr]; rfl
  · rintro k vs τ hk ⟨k0, rfl, hF, hv⟩
    have hMt := hM.now hF
    have hL := hMt.1
    by_cases c : k < T 0 1
    · have va := hv k a k0 c a0 a1
      have vb := hv k b k0 c b0 b1
      rw [if_neg (by omega)] at va vb
      have ba := hb k a k0 c a0 a1
      have bb := hb k b k0 c b0 b1
      have bg := hg k k0 c
      have hgk : aget τ 159 k = g k := by rw [hF.g rfl]; exact hG k k0 (by omega)
      have dg : -100 ≤ d * g k ∧ d * g k ≤ 100 := by rcases hd with e | e <;> rw [e] <;> omega
      have wd : w32 (d * g k) = d * g k := wq (by omega) (by omega)
      obtain ⟨υ, hυ⟩ : ∃ υ, υ = aput τ 155 (5 * k + a) (M 0 (5 * k + a) - d * g k) := ⟨_, rfl⟩
      have f1 : Fr wgo τ υ := by rw [hυ]; exact (Fr.rf _ _).put _ rfl
      have hLu := (hMt.now f1).1
      have vbu : aget υ 155 (5 * k + b) = M 0 (5 * k + b) := by rw [hυ, ag_j (by omega)]; exact vb
      have hgu : aget υ 159 k = g k := by rw [f1.g rfl]; exact hgk
      refine Or.inl ⟨c, [130, a, b, d, k + 1], aput υ 155 (5 * k + b) (M 0 (5 * k + b) + d * g k), ?_, by omega, rfl, hF.tr (f1.put _ rfl), fun u p u0 u1 p0 p1 => ?_⟩
      · show c12_moves_b3 130 a b d k τ = _
        unfold c12_moves_b3
        rw [hMt.2.1.1.2.1, r_130_51 hL, n_155 hL, r_130_65 hL, n_159 hL, w5 (by omega) (by omega) (by omega) (by omega), w5 (by omega) (by omega) (by omega) (by omega), va, hgk, wd, wq (x := M 0 (5 * k + a) - d * g k) (by omega) (by omega), ← hυ, r_130_51 hLu, n_155 hLu, vbu]
        refine ite_p c (ite_n (by omega) (ite_p (by omega) (ite_n (by omega) (ite_p (by omega) (ite_p (by omega) (ite_n (by omega) (ite_p (by omega) ?_)))))))
        unfold c12_moves_p48
        rw [r_130_65 hLu, n_159 hLu, n_155 hLu, hgu, wd, wq (x := M 0 (5 * k + b) + d * g k) (by omega) (by omega), wq (x := k + 1) (by omega) (by omega)]
        exact ite_n (by omega) (ite_p (by omega) (ite_p (by omega) rfl))
      · by_cases e : u = k
        · subst e
          rw [if_pos (by omega), mvN_0 _ _ _ _ p0 (by omega)]
          by_cases eb : p = b
          · rw [eb, ag_s, if_neg (fun q => hab q.symm), if_pos rfl]; omega
          · rw [ag_j (by omega), hυ, if_neg eb]
            by_cases ea : p = a
            · rw [ea, ag_s, if_pos rfl]; omega
            · rw [ag_j (by omega), if_neg ea]
              have := hv u p u0 u1 p0 p1
              rw [if_neg (by omega)] at this
              rw [this]; omega
        · rw [ag_j (by omega), hυ, ag_j (by omega), hv u p u0 u1 p0 p1]
          by_cases q : u < k
          · rw [if_pos q, if_pos (by omega)]
          · rw [if_neg q, if_neg (by omega)]
    · have hke : k = T 0 1 := by omega
      subst hke
      refine Or.inr ⟨(0, [], τ), ?_, Nat.ne_of_beq_eq_false rfl, τ, rfl, hF, fun u p u0 u1 p0 p1 => by rw [hv u p u0 u1 p0 p1, if_pos u1]⟩
      show c12_moves_b3 130 a b d (T 0 1) τ = _
      unfold c12_moves_b3
      rw [hMt.2.1.1.2.1]
      exact ite_n (by omega) rfl
theorem wrA_mv (T N : aH) (f : Int → Int) (a b s p : Int) (h : Int → Int) : wrA T (mvN N f a b) s p h = wrA T N s p h := by
  unfold wrA wor ask
  rw [mvN_x _ _ _ _ (by omega), mvN_x _ _ _ _ (by omega), mvN_x _ _ _ _ (by omega), mvN_x _ _ _ _ (by omega)]
def wgw : List (Int × List Int) := [(155, []), (157, []), (158, []), (160, []), (130, [54, 55, 56, 58])]
theorem MI.gw {T : aH} {σ τ : aS} (h : MI T σ) (hF : Fr wgw σ τ) : MI T τ := h.fr hF (by decide +kernel) (wdj_spec (by decide +kernel))
def wgx : List (Int × List Int) := [(157, []), (158, []), (160, []), (130, [54, 55, 56, 58])]
theorem MN.gx {T N : aH} {σ τ : aS} (h : MN T N σ) (hF : Fr wgx σ τ) : MN T N τ := h.fr hF (wdj_spec (by decide +kernel))
/-- the worth ahead of it -/
theorem gw_a {T N : aH} {σ : aS} (hM : MI T σ) (hN : NB T N) (hS : MN T N σ) {g : Int → Int} (hG : GR g σ) {a b : Int} (a0 : 0 ≤ a) (a1 : a ≤ T 0 2) :
    ∃ τ, aloop 13 (aU4 c12_groupWould_b12) aBig [130, a, b, 0] σ = some (53, [130, a, b], τ) ∧ Fr wgx σ τ ∧ ∀ s, 0 ≤ s → s < T 0 1 → 0 < g s → aget τ 160 s = wrA T N s a (ctn T N a) := by
  have hB := hM.2.2
  have h5 := hB.2.1
  have hal := al_I (c := 13) (B := aU4 c12_groupWould_b12) (n := T 0 1) (i := 0) (vs := [130, a, b, 0]) (σ := σ)
    (fun k vs τ => 0 ≤ k ∧ vs = [130, a, b, k] ∧ Fr wgx σ τ ∧ ∀ s, 0 ≤ s → s < k → 0 < g s → aget τ 160 s = wrA T N s a (ctn T N a))
    (fun r => ∃ τ, r = (53, [130, a, b], τ) ∧ Fr wgx σ τ ∧ ∀ s, 0 ≤ s → s < T 0 1 → 0 < g s → aget τ 160 s = wrA T N s a (ctn T N a)) (by omega) (by omega)
    ⟨Int.le_refl _, rfl, Fr.rf _ _, fun s s0 s1 => by omega⟩ ?_
  · obtain ⟨r, hr, τ, rfl, h1, h2⟩ := hal
    exact ⟨τ, hr, h1, h2⟩
  · rintro k vs τ hk ⟨k0, rfl, hF, hv⟩
    have hMt := hM.gw (hF.mono rfl)
    have hL := hMt.1
    by_cases c : k < T 0 1
    · have hgk : aget τ 159 k = g k := by rw [hF.g rfl]; exact hG k k0 (by omega)
      have p45 : ∀ v (υ : aS), LR υ → c12_groupWould_p45 v k 160 130 a b k υ = some (13, [130, a, b, k + 1], aput υ 160 k v) := fun v υ hLu => by
        unfold c12_groupWould_p45
        rw [n_160 hLu, wq (by omega) (by omega)]
        exact ite_p (by omega) rfl
      by_cases q : 0 < g k
      · obtain ⟨υ, hw, hF2⟩ := c12_worthAt_0 hMt hN (hS.gx hF) k0 c a0 a1
        have hLu := (hMt.gw (hF2.mono rfl)).1
        have f2 : Fr wgx σ (aput υ 160 k (wrA T N k a (ctn T N a))) := hF.tr ((hF2.mono rfl : Fr wgx τ υ).put _ rfl)
        refine Or.inl ⟨c, [130, a, b, k + 1], aput υ 160 k (wrA T N k a (ctn T N a)), ?_, by omega, rfl, f2, fun s s0 s1 hs => ?_⟩
        · show c12_groupWould_b12 130 a b k τ = _
          unfold c12_groupWould_b12
          rw [hMt.2.1.1.2.1, r_130_66 hL, r_130_65 hL, n_159 hL, hgk]
          exact ite_p c (ite_n (by omega) (ite_n (by omega) (ite_p (by omega) (ite_p q (acall1_h hw (p45 _ υ hLu))))))
        · by_cases e : s = k
          · rw [e, ag_s]
          · rw [ag_j (by omega), hF2.g rfl]; exact hv s s0 (by omega) hs
      · refine Or.inl ⟨c, [130, a, b, k + 1], aput τ 160 k 0, ?_, by omega, rfl, hF.put _ rfl, fun s s0 s1 hs => ?_⟩
        · show c12_groupWould_b12 130 a b k τ = _
          unfold c12_groupWould_b12
          rw [hMt.2.1.1.2.1, r_130_66 hL, r_130_65 hL, n_159 hL, hgk]
          exact ite_p c (ite_n (by omega) (ite_n (by omega) (ite_p (by omega) (ite_n q (p45 0 τ hL)))))
        · by_cases e : s = k
          · rw [e] at hs; exact absurd hs q
          · rw [ag_j (by omega)]; exact hv s s0 (by omega) hs
    · have hke : k = T 0 1 := by omega
      subst hke
      refine Or.inr ⟨(53, [130, a, b], τ), ?_, Nat.ne_of_beq_eq_false rfl, τ, rfl, hF, hv⟩
      show c12_groupWould_b12 130 a b (T 0 1) τ = _
      unfold c12_groupWould_b12
      rw [hMt.2.1.1.2.1]
      exact ite_n (by omega) rfl
/-- the worth behind it -/
theorem gw_b {T N : aH} {σ : aS} (hM : MI T σ) (hN : NB T N) {g : Int → Int} (hG : GR g σ) {a b : Int} (a0 : 0 ≤ a) (a1 : a ≤ T 0 2) (b0 : 0 ≤ b) (b1 : b ≤ T 0 2) (hab : a ≠ b) (hP : PA T N g a) (hS : MN T (mvN N g a b) σ)
    (h160 : ∀ s, 0 ≤ s → s < T 0 1 → 0 < g s → aget σ 160 s = wrA T N s a (ctn T N a)) :
    ∃ τ, aloop 65 (aU5 c12_groupWould_b64) aBig [130, a, b, 1, 0] σ = some (138, [130, a, b, if pwS T N g a b = T 0 1 then 1 else 0], τ) ∧ Fr wwor σ τ := by
  have hB := hM.2.2
  have h5 := hB.2.1
  have h4 := hB.2.2.1
  have hN2 : NB T (mvN N g a b) := mv_NB hN hB a0 a1 b0 b1 hab hP.1
  have ecb : ctn T (mvN N g a b) b = adg (ctn T N b) g := by
    funext s
    rw [ctn_mv hP.2 b0 (by omega), if_neg (fun q => hab q.symm), if_pos rfl]
    unfold adg; omega
  have hag := adg_BF hN hB a0 a1 b0 b1 hab hP
  have p0 := ff_0 (fun s => decide (0 < g s) && !decide (wrA T N s a (ctn T N a) + 27720 * T 2 (4 * s + 3) < wrA T N s b (adg (ctn T N b) g))) (n := T 0 1)
  have pn := ff_n (fun s => decide (0 < g s) && !decide (wrA T N s a (ctn T N a) + 27720 * T 2 (4 * s + 3) < wrA T N s b (adg (ctn T N b) g))) (n := T 0 1) (by omega)
  have pat := ff_at (P := fun s => decide (0 < g s) && !decide (wrA T N s a (ctn T N a) + 27720 * T 2 (4 * s + 3) < wrA T N s b (adg (ctn T N b) g))) (n := T 0 1)
  have pno := fun k => ff_no (P := fun s => decide (0 < g s) && !decide (wrA T N s a (ctn T N a) + 27720 * T 2 (4 * s + 3) < wrA T N s b (adg (ctn T N b) g))) (n := T 0 1) (k := k)
  unfold pwS
  generalize ff (fun s => decide (0 < g s) && !decide (wrA T N s a (ctn T N a) + 27720 * T 2 (4 * s + 3) < wrA T N s b (adg (ctn T N b) g))) (T 0 1) = X at p0 pn pat pno
  have hal := al_I (c := 65) (B := aU5 c12_groupWould_b64) (n := T 0 1) (i := 0) (vs := [130, a, b, 1, 0]) (σ := σ)
    (fun k vs τ => 0 ≤ k ∧ Fr wwor σ τ ∧ ((vs = [130, a, b, 1, k] ∧ k ≤ X) ∨ (vs = [130, a, b, 0, k] ∧ X < k)))
    (fun r => ∃ τ, r = (138, [130, a, b, if X = T 0 1 then 1 else 0], τ) ∧ Fr wwor σ τ) (by omega) (by omega) ⟨Int.le_refl _, Fr.rf _ _, Or.inl ⟨rfl, p0⟩⟩ ?_
  · obtain ⟨r, hr, τ, rfl, h1⟩ := hal
    exact ⟨τ, hr, h1⟩
  · rintro k vs τ hk ⟨k0, hF, ⟨rfl, hX⟩ | ⟨rfl, hX⟩⟩
    · have hMt := hM.gw (hF.mono rfl)
      have hL := hMt.1
      by_cases c : k < T 0 1
      · have hgk : aget τ 159 k = g k := by rw [hF.g rfl]; exact hG k k0 (by omega)
        have hgb := hP.1 k k0 c
        have p130 : ∀ f (φ : aS), c12_groupWould_p130 f 130 a b k φ = some (65, [130, a, b, f, k + 1], φ) := fun f φ => by
          unfold c12_groupWould_p130; rw [wq (by omega) (by omega)]
        by_cases z : g k = 0
        · refine Or.inl ⟨c, [130, a, b, 1, k + 1], τ, ?_, by omega, hF, Or.inl ⟨rfl, ?_⟩⟩
          · show c12_groupWould_b64 130 a b 1 k τ = _
            unfold c12_groupWould_b64
            rw [hMt.2.1.1.2.1, r_130_65 hL, n_159 hL, hgk]
            exact ite_p c (ite_n (by omega) (ite_n (by omega) (ite_p (by omega) (ite_p z (by unfold c12_groupWould_p125; exact p130 1 τ)))))
          · by_cases w : X = k
            · have := pat (by omega)
              rw [w, Bool.and_eq_true, decide_eq_true_iff] at this
              have := this.1; omega
            · omega
        · have gp : 0 < g k := by omega
          obtain ⟨υ, hw, hF2⟩ := c12_worthAt_0 hMt hN2 (hS.wo hF) k0 c b0 b1
          rw [ecb, wrA_mv] at hw
          have hMu := hMt.gw (hF2.mono rfl)
          have hLu := hMu.1
          have e160 : aget υ 160 k = wrA T N k a (ctn T N a) := by rw [hF2.g rfl, hF.g rfl]; exact h160 k k0 c gp
          have e136 : aget υ 136 (4 * k + 3) = T 2 (4 * k + 3) := hMu.2.1.2.2.1 _ (by omega) (by omega)
          have hmv := (hB.2.2.2.2.2.1 k k0 c).2.2.2
          have w1 := wrA_bd hB hN b0 b1 (hag.b7 hB) k0 c
          have w2 := wrA_bd hB hN a0 a1 ((ctn_BF hN hB a0 a1).b7 hB) k0 c
          have wx : w64 ((w64 (wrA T N k b (adg (ctn T N b) g) - wrA T N k a (ctn T N a))) - (w64 (27720 * T 2 (4 * k + 3)))) = wrA T N k b (adg (ctn T N b) g) - wrA T N k a (ctn T N a) - 27720 * T 2 (4 * k + 3) := by
            rw [wQ (x := wrA T N k b (adg (ctn T N b) g) - wrA T N k a (ctn T N a)) (by omega) (by omega), wQ (x := 27720 * T 2 (4 * k + 3)) (by omega) (by omega), wQ (by omega) (by omega)]
          have e4 : w32 ((w32 (4 * k)) + 3) = 4 * k + 3 := by
            have e : w32 (4 * k) = 4 * k := wq (by omega) (by omega)
            rw [e]; exact wq (by omega) (by omega)
          have st : ∀ r : aR, (if 0 < acmp (wrA T N k b (adg (ctn T N b) g) - wrA T N k a (ctn T N a) - 27720 * T 2 (4 * k + 3)) 0 then c12_groupWould_p125 130 a b k υ else c12_groupWould_p130 0 130 a b k υ) = r → aU5 c12_groupWould_b64 [130, a, b, 1, k] τ = r := by
            intro r hr
            show c12_groupWould_b64 130 a b 1 k τ = r
            unfold c12_groupWould_b64
            rw [hMt.2.1.1.2.1, r_130_65 hL, n_159 hL, hgk]
            refine ite_p c (ite_n (by omega) (ite_n (by omega) (ite_p (by omega) (ite_n z (acall1_h hw ?_)))))
            rw [r_130_66 hLu, n_160 hLu, r_130_27 hLu, n_136 hLu, e4, e160, e136, wx]
            exact ite_n (by omega) (ite_p (by omega) (ite_n (by omega) (ite_p (by omega) hr)))
          by_cases q : wrA T N k a (ctn T N a) + 27720 * T 2 (4 * k + 3) < wrA T N k b (adg (ctn T N b) g)
          · refine Or.inl ⟨c, [130, a, b, 1, k + 1], υ, st _ (ite_p (by rw [acmp_p]; omega) (by unfold c12_groupWould_p125; exact p130 1 υ)), by omega, hF.tr hF2, Or.inl ⟨rfl, ?_⟩⟩
            by_cases w : X = k
            · have := pat (by omega)
              rw [w, decide_eq_true q, Bool.and_eq_true] at this
              exact absurd this.2 (by decide)
            · omega
          · refine Or.inl ⟨c, [130, a, b, 0, k + 1], υ, st _ (ite_n (by rw [acmp_p]; omega) (p130 0 υ)), by omega, hF.tr hF2, Or.inr ⟨rfl, ?_⟩⟩
            by_cases w : k < X
            · have := pno k k0 w
              rw [decide_eq_false q, decide_eq_true gp] at this
              exact absurd this (by decide)
            · omega
      · have he : X = T 0 1 := by omega
        refine Or.inr ⟨(138, [130, a, b, if X = T 0 1 then 1 else 0], τ), ?_, Nat.ne_of_beq_eq_false rfl, τ, rfl, hF⟩
        rw [if_pos he]
        show c12_groupWould_b64 130 a b 1 k τ = _
        unfold c12_groupWould_b64
        rw [hMt.2.1.1.2.1]
        exact ite_n (by omega) rfl
    · have hMt := hM.gw (hF.mono rfl)
      have he : ¬ X = T 0 1 := by omega
      refine Or.inr ⟨(138, [130, a, b, if X = T 0 1 then 1 else 0], τ), ?_, Nat.ne_of_beq_eq_false rfl, τ, rfl, hF⟩
      rw [if_neg he]
      show c12_groupWould_b64 130 a b 0 k τ = _
      unfold c12_groupWould_b64
      rw [hMt.2.1.1.2.1]
      by_cases c : k < T 0 1
      · exact ite_p c (ite_p rfl rfl)
      · exact ite_n c rfl
theorem c12_groupWould_ok {T N : aH} {σ : aS} (hM : MI T σ) (hN : NB T N) (hS : MN T N σ) {g : Int → Int} (hG : GR g σ) {a b : Int} (a0 : 0 ≤ a) (a1 : a ≤ T 0 2) (b0 : 0 ≤ b) (b1 : b ≤ T 0 2) (hab : a ≠ b) (hP : PA T N g a) :
    ∃ τ, c12_groupWould 130 a b σ = some (0, [if pwB T N g a b = true then 1 else 0], τ) ∧ Fr wgw σ τ ∧ MN T N τ := by
  have hB := hM.2.2
  have h4 := hB.2.2.1
  have hf := c12_isFast_ok hM hN hS a0
  by_cases c : bnd T N a = 0
  · obtain ⟨τ, h1, hF1, h160⟩ := gw_a (b := b) hM hN hS hG a0 a1
    have hM1 := hM.gw (hF1.mono rfl)
    have hS1 := hS.gx hF1
    have hG1 : GR g τ := hG.fr hF1 (wdj_spec (by decide +kernel))
    have hb7 : ∀ s p, 0 ≤ s → s < T 0 1 → 0 ≤ p → p ≤ T 0 2 → -100 ≤ N 0 (5 * s + p) ∧ N 0 (5 * s + p) ≤ 100 := fun s p s0 s1 p0 p1 => by have := hN.c7 hB s0 s1 p0 p1; omega
    have hg7 : ∀ s, 0 ≤ s → s < T 0 1 → -100 ≤ g s ∧ g s ≤ 100 := fun s s0 s1 => by have := hP.1 s s0 s1; have := hb7 s a s0 s1 a0 a1; omega
    obtain ⟨υ, h2, hF2, hS2⟩ := c12_moves_ok (d := 1) hM1 hS1 hb7 hG1 hg7 (Or.inl rfl) a0 a1 b0 b1 hab
    have e1 : (fun s => 1 * g s) = g := funext fun s => Int.one_mul _
    rw [e1] at hS2
    have hM2 := hM1.gw (hF2.mono rfl)
    have hG2 : GR g υ := hG1.fr hF2 (wdj_spec (by decide +kernel))
    obtain ⟨φ, h3, hF3⟩ := gw_b hM2 hN hG2 a0 a1 b0 b1 hab hP hS2 (fun s s0 s1 hs => by rw [hF2.g rfl]; exact h160 s s0 s1 hs)
    have hM3 := hM2.gw (hF3.mono rfl)
    have hS3 := hS2.wo hF3
    have hG3 : GR g φ := hG2.fr hF3 (wdj_spec (by decide +kernel))
    have hN2 : NB T (mvN N g a b) := mv_NB hN hB a0 a1 b0 b1 hab hP.1
    obtain ⟨ψ, h5, hF5, hS5⟩ := c12_moves_ok (d := -1) hM3 hS3 (fun s p s0 s1 p0 p1 => by have := hN2.c7 hB s0 s1 p0 p1; omega) hG3 hg7 (Or.inr rfl) a0 a1 b0 b1 hab
    have hS6 : MN T N ψ := hS5.cr (fun s p s0 s1 p0 p1 => by
      rw [mvN_0 _ _ _ _ p0 (by omega), mvN_0 _ _ _ _ p0 (by omega)]
      by_cases ea : p = a
      · rw [if_pos ea, if_pos ea, if_neg (by omega), if_neg (by omega)]; omega
      · rw [if_neg ea, if_neg ea]
        by_cases eb : p = b
        · rw [if_pos eb, if_pos eb]; omega
        · rw [if_neg eb, if_neg eb]; omega) (fun x j hx => by rw [mvN_x _ _ _ _ hx, mvN_x _ _ _ _ hx])
    have ev : (if pwS T N g a b = T 0 1 then (1 : Int) else 0) = if pwB T N g a b = true then 1 else 0 := by
      unfold pwB
      rw [decide_eq_true c]
      by_cases q : pwS T N g a b = T 0 1
      · rw [if_pos q, decide_eq_true q]; rfl
      · rw [if_neg q, decide_eq_false q]; rfl
    have v01 : (if pwB T N g a b = true then (1 : Int) else 0) = 0 ∨ (if pwB T N g a b = true then (1 : Int) else 0) = 1 := by split <;> omega
    refine ⟨ψ, ?_, (hF1.mono rfl).tr ((hF2.mono rfl).tr ((hF3.mono rfl).tr (hF5.mono rfl))), hS6⟩
    unfold c12_groupWould
    refine acall1_h hf (ite_p c ?_)
    unfold c12_groupWould_l12
    rw [h1]
    show c12_groupWould_p52 130 a b τ = _
    unfold c12_groupWould_p52
    rw [h2, acall0_some]
    unfold c12_groupWould_l64
    rw [h3, ev]
    show c12_groupWould_p137 130 a b _ φ = _
    unfold c12_groupWould_p137
    rw [h5, acall0_some]
    exact ite_p v01 rfl
  · refine ⟨σ, ?_, Fr.rf _ _, hS⟩
    have e : pwB T N g a b = false := by unfold pwB; rw [decide_eq_false c]; rfl
    rw [e]
    unfold c12_groupWould
    exact acall1_h hf (ite_n c (ite_p (by omega) rfl))
