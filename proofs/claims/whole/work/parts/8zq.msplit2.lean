/-! split whole: the reference -/
theorem suW_mv (T N : aH) (f : Int → Int) (a b p : Int) (h : Int → Int) : suW T (mvN N f a b) p h = suW T N p h := by
  unfold suW
  congr 1
theorem sI_zz {n : Int} (h : 0 ≤ n) : sI (fun _ => 0) n = 0 := by
  have := sI_bd (f := fun _ => 0) (a := 0) (b := 0) h (fun _ _ _ => ⟨Int.le_refl _, Int.le_refl _⟩)
  omega
theorem spN_const {T N : aH} {t u : Int} {a : Nat} : ∀ b : Nat, a ≤ b → (∀ j : Nat, a ≤ j → j < b → ¬ cvf (ctn T N t) (crf T j) = true) → spN T N t u b = spN T N t u a := by
  intro b
  induction b with
  | zero => intro h _; rw [show a = 0 by omega]
  | succ b ih =>
    intro h hn
    by_cases c : a = b + 1
    · rw [c]
    · show (if 1 ≤ b ∧ cvf (ctn T N t) (crf T b) = true ∧ (spN T N t u b).1 < spV T N t u (crf T b) then (spV T N t u (crf T b), (b : Int)) else spN T N t u b) = _
      rw [if_neg (fun q => hn b (by omega) (by omega) q.2.1)]
      exact ih (by omega) (fun j j0 j1 => hn j j0 (by omega))
theorem spN_bd {T N : aH} (hB : TB T) (hN : NB T N) {t u : Int} (t0 : 0 ≤ t) (t1 : t ≤ T 0 2) (u0 : 0 ≤ u) (u1 : u ≤ T 0 2) : ∀ n : Nat, (n : Int) ≤ crw T → (0 ≤ (spN T N t u n).1 ∧ (spN T N t u n).1 ≤ 200000000000000) ∧ 0 ≤ (spN T N t u n).2 ∧ ((spN T N t u n).2 < n ∨ (spN T N t u n).2 = 0) := by
  intro n
  induction n with
  | zero => intro _; exact ⟨⟨Int.le_refl _, by show (0 : Int) ≤ 200000000000000; omega⟩, Int.le_refl _, Or.inr rfl⟩
  | succ n ih =>
    intro h
    have i := ih (by omega)
    show (0 ≤ (if 1 ≤ n ∧ cvf (ctn T N t) (crf T n) = true ∧ (spN T N t u n).1 < spV T N t u (crf T n) then (spV T N t u (crf T n), (n : Int)) else spN T N t u n).1 ∧ (if 1 ≤ n ∧ cvf (ctn T N t) (crf T n) = true ∧ (spN T N t u n).1 < spV T N t u (crf T n) then (spV T N t u (crf T n), (n : Int)) else spN T N t u n).1 ≤ 200000000000000) ∧
      0 ≤ (if 1 ≤ n ∧ cvf (ctn T N t) (crf T n) = true ∧ (spN T N t u n).1 < spV T N t u (crf T n) then (spV T N t u (crf T n), (n : Int)) else spN T N t u n).2 ∧ ((if 1 ≤ n ∧ cvf (ctn T N t) (crf T n) = true ∧ (spN T N t u n).1 < spV T N t u (crf T n) then (spV T N t u (crf T n), (n : Int)) else spN T N t u n).2 < ((n + 1 : Nat) : Int) ∨ (if 1 ≤ n ∧ cvf (ctn T N t) (crf T n) = true ∧ (spN T N t u n).1 < spV T N t u (crf T n) then (spV T N t u (crf T n), (n : Int)) else spN T N t u n).2 = 0)
    by_cases q : 1 ≤ n ∧ cvf (ctn T N t) (crf T n) = true ∧ (spN T N t u n).1 < spV T N t u (crf T n)
    · rw [if_pos q]
      have := spV_bd hB hN t0 t1 u0 u1 (crf_BF hB (n := n) (by omega) (by omega)).1 q.2.1
      exact ⟨⟨by show 0 ≤ spV T N t u (crf T n); omega, this.2⟩, by show (0 : Int) ≤ n; omega, Or.inl (by show (n : Int) < _; omega)⟩
    · rw [if_neg q]
      exact ⟨i.1, i.2.1, by omega⟩
def wsl : List (Int × List Int) := [(155, []), (157, []), (158, []), (159, []), (130, [54, 55, 56, 58])]
theorem MI.sl {T : aH} {σ τ : aS} (h : MI T σ) (hF : Fr wsl σ τ) : MI T τ := h.fr hF (by decide +kernel) (wdj_spec (by decide +kernel))
theorem sl_mv {T : aH} {σ : aS} (hM : MI T σ) {g : Int → Int} (hg : BF T g) (hG : GR g σ) {t u w now best num fst v : Int} (v0 : -300000000000000 ≤ v) (v1 : v ≤ 300000000000000) :
    aloop 118 (aU10 c12_split_b117) aBig [130, t, u, w, now, best, num, fst, v, 0] σ = some (163, [130, t, u, w, now, best, num, fst, v - 27720 * mvc T g], σ) := by
  have hB := hM.2.2
  have h5 := hB.2.1
  have hL := hM.1
  have hg7 := hg.b7 hB
  have hal := al_I (c := 118) (B := aU10 c12_split_b117) (n := T 0 1) (i := 0) (vs := [130, t, u, w, now, best, num, fst, v, 0]) (σ := σ)
    (fun k vs τ => 0 ≤ k ∧ vs = [130, t, u, w, now, best, num, fst, v - 27720 * sI (fun s => g s * T 2 (4 * s + 3)) k, k] ∧ τ = σ)
    (fun r => r = (163, [130, t, u, w, now, best, num, fst, v - 27720 * mvc T g], σ)) (by omega) (by omega) ⟨Int.le_refl _, by rw [sI_0]; simp, rfl⟩ ?_
  · obtain ⟨r, hr, rfl⟩ := hal
    exact hr
  · rintro k vs τ hk ⟨k0, rfl, rfl⟩
    by_cases c : k < T 0 1
    · have hm := (hB.2.2.2.2.2.1 k k0 c).2.2.2
      have hgk := hg7 k k0 (by omega)
      have hs := mvc_bd hB hg7 k0 hk
      have hs2 := mvc_bd hB hg7 (show 0 ≤ k + 1 by omega) (show k + 1 ≤ T 0 1 by omega)
      have es : sI (fun s => g s * T 2 (4 * s + 3)) (k + 1) = sI (fun s => g s * T 2 (4 * s + 3)) k + g k * T 2 (4 * k + 3) := sI_s k0
      have pr : 0 ≤ g k * T 2 (4 * k + 3) ∧ g k * T 2 (4 * k + 3) ≤ 693 := ⟨Int.mul_nonneg hgk.1 hm.1, by have := Int.mul_le_mul hgk.2 hm.2 hm.1 (by omega); omega⟩
      have e136 : aget τ 136 (4 * k + 3) = T 2 (4 * k + 3) := hM.2.1.2.2.1 _ (by omega) (by omega)
      have e4 : w32 ((w32 (4 * k)) + 3) = 4 * k + 3 := by
        have e : w32 (4 * k) = 4 * k := wq (by omega) (by omega)
        rw [e]; exact wq (by omega) (by omega)
      have ew : w64 (v - 27720 * sI (fun s => g s * T 2 (4 * s + 3)) k - w64 ((w64 (27720 * g k)) * T 2 (4 * k + 3))) = v - 27720 * sI (fun s => g s * T 2 (4 * s + 3)) (k + 1) := by
        have e1 : w64 (27720 * g k) = 27720 * g k := wQ (by omega) (by omega)
        rw [e1, Int.mul_assoc, wQ (x := 27720 * (g k * T 2 (4 * k + 3))) (by omega) (by omega), es, wQ (by omega) (by omega)]
        omega
      refine Or.inl ⟨c, [130, t, u, w, now, best, num, fst, v - 27720 * sI (fun s => g s * T 2 (4 * s + 3)) (k + 1), k + 1], τ, ?_, by omega, rfl, rfl⟩
      show c12_split_b117 130 t u w now best num fst (v - 27720 * sI (fun s => g s * T 2 (4 * s + 3)) k) k τ = _
      unfold c12_split_b117
      rw [hM.2.1.1.2.1, r_130_65 hL, n_159 hL, r_130_27 hL, n_136 hL, e4, e136, hG k k0 (by omega), ew, wq (x := k + 1) (by omega) (by omega)]
      exact ite_p c (ite_n (by omega) (ite_p (by omega) (ite_n (by omega) (ite_p (by omega) rfl))))
    · have hke : k = T 0 1 := by omega
      subst hke
      refine Or.inr ⟨_, ?_, Nat.ne_of_beq_eq_false rfl, rfl⟩
      show c12_split_b117 130 t u w now best num fst (v - 27720 * sI (fun s => g s * T 2 (4 * s + 3)) (T 0 1)) (T 0 1) τ = _
      unfold c12_split_b117
      rw [hM.2.1.1.2.1]
      exact ite_n (by omega) rfl
/-- one split looked at: its sum, all as it was -/
theorem sl_one {T N : aH} {σ : aS} (hM : MI T σ) (hN : NB T N) (hS : MN T N σ) {t u : Int} (t0 : 0 ≤ t) (t1 : t < T 0 2) (u0 : 0 ≤ u) (u1 : u < T 0 2) (htu : t ≠ u) (hu : ∀ s, ctn T N u s = 0) {g : Int → Int} (hg : BF T g) (hG : GR g σ) (hc : cvf (ctn T N t) g = true) (w now best num fst : Int) :
    ∃ τ, c12_split_b89 130 t u w now best num fst 1 σ = c12_split_p162 130 t u w now best num fst (spV T N t u g + suW T N t (ctn T N t)) τ ∧ Fr wsl σ τ ∧ MN T (mvN N g t u) τ ∧ GR g τ := by
  have hB := hM.2.2
  have h5 := hB.2.1
  have h4 := hB.2.2.1
  have hP : PA T N g t := cmp_PA hB hg.cmp hc
  have hb7 : ∀ s p, 0 ≤ s → s < T 0 1 → 0 ≤ p → p ≤ T 0 2 → -100 ≤ N 0 (5 * s + p) ∧ N 0 (5 * s + p) ≤ 100 := fun s p s0 s1 p0 p1 => by have := hN.c7 hB s0 s1 p0 p1; omega
  have hg7 : ∀ s, 0 ≤ s → s < T 0 1 → -100 ≤ g s ∧ g s ≤ 100 := fun s s0 s1 => by have := hg.b7 hB s s0 (by omega); omega
  obtain ⟨υ, h2, hF2, hS2⟩ := c12_moves_ok (d := 1) hM hS hb7 hG hg7 (Or.inl rfl) t0 (by omega) u0 (by omega) htu
  have e1 : (fun s => 1 * g s) = g := funext fun s => Int.one_mul _
  rw [e1] at hS2
  have hM2 := hM.sl (hF2.mono rfl)
  have hN2 : NB T (mvN N g t u) := mv_NB hN hB t0 (by omega) u0 (by omega) htu hP.1
  obtain ⟨φ, h3, hF3⟩ := c12_sumOf_ok hM2 hN2 hS2 t0 t1
  have hM3 := hM2.sl (hF3.mono rfl)
  obtain ⟨ψ, h6, hF6⟩ := c12_sumOf_ok hM3 hN2 (hS2.wo hF3) u0 u1
  have hM6 := hM3.sl (hF6.mono rfl)
  have hG6 : GR g ψ := ((hG.fr hF2 (wdj_spec (by decide +kernel))).fr hF3 (wdj_spec (by decide +kernel))).fr hF6 (wdj_spec (by decide +kernel))
  have ect : ctn T (mvN N g t u) t = sbg (ctn T N t) g := by
    funext s
    rw [ctn_mv hP.2 t0 (by omega), if_pos rfl, if_neg htu]
    unfold sbg; omega
  have ecu : ctn T (mvN N g t u) u = g := by
    funext s
    rw [ctn_mv hP.2 u0 (by omega), if_neg (fun q => htu q.symm), if_pos rfl, hu]
    omega
  rw [suW_mv, ect] at h3
  rw [suW_mv, ecu] at h6
  have b1 := suW_bd' hB hN t0 (show t ≤ T 0 2 by omega) (sbg_BF (ctn_BF hN hB t0 (by omega)) hg hc)
  have b2 := suW_bd' hB hN u0 (show u ≤ T 0 2 by omega) hg
  have b3 := mvc_bd hB (hg.b7 hB) h5.1 (Int.le_refl _)
  have hl := sl_mv (t := t) (u := u) (w := w) (now := now) (best := best) (num := num) (fst := fst) (v := suW T N t (sbg (ctn T N t) g) + suW T N u g) hM6 hg hG6 (by omega) (by omega)
  refine ⟨ψ, ?_, (hF2.mono rfl).tr ((hF3.mono rfl).tr (hF6.mono rfl)), (hS2.wo hF3).wo hF6, hG6⟩
  unfold c12_split_b89
  rw [h2, acall0_some, h3, acall1_some, h6, acall1_some, wQ (by omega) (by omega)]
  refine ite_n (by omega) ?_
  unfold c12_split_l117
  rw [hl, show suW T N t (sbg (ctn T N t) g) + suW T N u g - 27720 * mvc T g = spV T N t u g + suW T N t (ctn T N t) by unfold spV; omega]
  rfl
theorem sl_fill {σ : aS} (hL : LR σ) {t u w now : Int} : ∃ τ, c12_split_l63 130 t u w now 0 0 0 σ = c12_split_l89 130 t u w now 0 0 1 1 τ ∧ Fr wgr σ τ ∧ GR (fun _ => 0) τ := by
  have hl := al_0 (c := 64) (B := aU8 c12_split_b63) (fun k => [130, t, u, w, now, 0, 0, k]) (fun k => apf σ 159 (fun _ => 0) k) (n := 5) (r := (84, [130, t, u, w, now, 0, 0], apf σ 159 (fun _ => 0) 5)) (by omega) (by omega) ?_ ?_ (Nat.ne_of_beq_eq_false rfl)
  · refine ⟨apf σ 159 (fun _ => 0) 5, ?_, (Fr.rf _ _).apf (x := 159) _ _ (fun _ => rfl), fun s s0 s5 => apf_i s0 s5⟩
    unfold c12_split_l63
    simp only [apf_0] at hl
    rw [hl]; rfl
  · intro k k0 k1
    have e := apf_s (σ := σ) (x := 159) (f := fun _ => 0) k0
    show c12_split_b63 130 t u w now 0 0 k (apf σ 159 (fun _ => 0) k) = _
    unfold c12_split_b63
    rw [apf_x (y := 130) (by omega), r_130_65 hL, apf_n, n_159 hL, e, wq (by omega) (by omega)]
    exact ite_p k1 (ite_n (by omega) (ite_p (by omega) rfl))
  · show c12_split_b63 130 t u w now 0 0 5 _ = _
    unfold c12_split_b63
    exact ite_n (by omega) rfl
theorem sl_loop {T N : aH} {σ : aS} (hM : MI T σ) (hN : NB T N) (hS : MN T N σ) {t u : Int} (t0 : 0 ≤ t) (t1 : t < T 0 2) (u0 : 0 ≤ u) (u1 : u < T 0 2) (htu : t ≠ u) (hu : ∀ s, ctn T N u s = 0) (hG : GR (fun _ => 0) σ) (w : Int) :
    ∃ τ, aloop 90 (aU9 c12_split_b89) aBig [130, t, u, w, suW T N t (ctn T N t), 0, 0, 1, 1] σ = some (207, [w, suW T N t (ctn T N t), (spN T N t u (crw T).toNat).1 + suW T N t (ctn T N t), pty (crf T (spN T N t u (crw T).toNat).2)], τ) ∧ Fr wsl σ τ ∧ MN T N τ := by
  have hB := hM.2.2
  have h5 := hB.2.1
  have h4 := hB.2.2.1
  have hcl := crw_le hB
  have hcp := (wt_pos hB).2.2.2.2
  have hft := ctn_BF hN hB t0 (show t ≤ T 0 2 by omega)
  have bn := suW_bd' hB hN t0 (show t ≤ T 0 2 by omega) hft
  have hz : BF T (fun _ => 0) := ⟨fun s s0 s5 => ⟨Int.le_refl _, by
    unfold hsf
    by_cases c : 0 ≤ s ∧ s < T 0 1
    · rw [if_pos c]; have := (hB.2.2.2.2.2.1 s c.1 c.2).1; show (0 : Int) ≤ T 2 (4 * s); omega
    · rw [if_neg c]; exact Int.le_refl _⟩, fun s _ => rfl⟩
  have nz : nuf T (fun _ => 0) = 0 := by unfold nuf; simp
  have hal := al_I (c := 90) (B := aU9 c12_split_b89) (n := 434) (i := 0) (vs := [130, t, u, w, suW T N t (ctn T N t), 0, 0, 1, 1]) (σ := σ)
    (fun k vs τ => 0 ≤ k ∧ Fr wsl σ τ ∧ MN T N τ ∧
      ((∃ g best num fst, vs = [130, t, u, w, suW T N t (ctn T N t), best, num, fst, 1] ∧ BF T g ∧ cvf (ctn T N t) g = true ∧ GR g τ ∧ k ≤ nuf T g ∧ ((fst = 1 ∧ nuf T g = 0) ∨ (fst = 0 ∧ 1 ≤ nuf T g ∧ best = (spN T N t u (nuf T g).toNat).1 + suW T N t (ctn T N t) ∧ num = pty (crf T (spN T N t u (nuf T g).toNat).2))))
      ∨ (vs = [130, t, u, w, suW T N t (ctn T N t), (spN T N t u (crw T).toNat).1 + suW T N t (ctn T N t), pty (crf T (spN T N t u (crw T).toNat).2), 0, 0] ∧ k ≤ 433)))
    (fun r => ∃ τ, r = (207, [w, suW T N t (ctn T N t), (spN T N t u (crw T).toNat).1 + suW T N t (ctn T N t), pty (crf T (spN T N t u (crw T).toNat).2)], τ) ∧ Fr wsl σ τ ∧ MN T N τ) (by omega) (by omega)
    ⟨Int.le_refl _, Fr.rf _ _, hS, Or.inl ⟨fun _ => 0, 0, 0, 1, rfl, hz, cvf_iff.2 (fun s s0 s5 => (hft.1 s s0 s5).1), hG, by rw [nz]; exact Int.le_refl _, Or.inl ⟨rfl, nz⟩⟩⟩ ?_
  · obtain ⟨r, hr, τ, rfl, hF, hSt⟩ := hal
    exact ⟨τ, hr, hF, hSt⟩
  · rintro k vs τ hk ⟨k0, hF, hSt, ⟨g, best, num, fst, rfl, hg, hc, hGt, hkn, hst⟩ | ⟨rfl, hk2⟩⟩
    · have hMt := hM.sl hF
      have hnb := nuf_bd hB hg
      have hgn := crf_nuf hB hg
      have hfe : crf T (nuf T g) = g := funext hgn
      have ntn : ((nuf T g).toNat : Int) = nuf T g := Int.toNat_of_nonneg hnb.1
      obtain ⟨υ, hb, hF1, hS1, hG1⟩ := sl_one hMt hN hSt t0 t1 u0 u1 htu hu hg hGt hc w (suW T N t (ctn T N t)) best num fst
      have hM1 := hMt.sl hF1
      have hP : PA T N g t := cmp_PA hB hg.cmp hc
      have hN2 : NB T (mvN N g t u) := mv_NB hN hB t0 (by omega) u0 (by omega) htu hP.1
      have hg7 : ∀ s, 0 ≤ s → s < T 0 1 → -100 ≤ g s ∧ g s ≤ 100 := fun s s0 s1 => by have := hg.b7 hB s s0 (by omega); omega
      obtain ⟨φ, h2, hF2, hS2⟩ := c12_moves_ok (d := -1) hM1 hS1 (fun s p s0 s1 p0 p1 => by have := hN2.c7 hB s0 s1 p0 p1; omega) hG1 hg7 (Or.inr rfl) t0 (by omega) u0 (by omega) htu
      have hS3 : MN T N φ := hS2.cr (fun s p s0 s1 p0 p1 => by
        rw [mvN_0 _ _ _ _ p0 (by omega), mvN_0 _ _ _ _ p0 (by omega)]
        by_cases ea : p = t
        · rw [if_pos ea, if_pos ea, if_neg (by omega), if_neg (by omega)]; omega
        · rw [if_neg ea, if_neg ea]
          by_cases eb : p = u
          · rw [if_pos eb, if_pos eb]; omega
          · rw [if_neg eb, if_neg eb]; omega) (fun x j hx => by rw [mvN_x _ _ _ _ hx, mvN_x _ _ _ _ hx])
      have hM2 := hM1.sl (hF2.mono rfl)
      have hG2 : GR g φ := hG1.fr hF2 (wdj_spec (by decide +kernel))
      obtain ⟨ψ, h3, hF3, hG3⟩ := c12_nextOf_ok hM2 hN hS3 t0 t1 hg hG2
      have hS4 : MN T N ψ := hS3.fr hF3 (wdj_spec (by decide +kernel))
      have hFp : Fr wsl σ ψ := hF.tr (hF1.tr ((hF2.mono rfl).tr (hF3.mono rfl)))
      have hv := spV_bd hB hN t0 (show t ≤ T 0 2 by omega) u0 (show u ≤ T 0 2 by omega) hg hc
      -- what is the best behind it
      have p193 : ∀ b m, c12_split_p193 130 t u w (suW T N t (ctn T N t)) b m φ = some (90, [130, t, u, w, suW T N t (ctn T N t), b, m, 0, if nyX (T 0 1) (ctn T N t) g < T 0 1 then 1 else 0], ψ) := fun b m => by
        unfold c12_split_p193
        exact acall1_h h3 rfl
      have p182 : c12_split_p182 130 t u w (suW T N t (ctn T N t)) (spV T N t u g + suW T N t (ctn T N t)) φ = some (90, [130, t, u, w, suW T N t (ctn T N t), spV T N t u g + suW T N t (ctn T N t), pty g, 0, if nyX (T 0 1) (ctn T N t) g < T 0 1 then 1 else 0], ψ) := by
        unfold c12_split_p182
        exact acall1_h (c12_groupNumber_ok hM2 hG2 (hg.b7 hB)) (p193 _ _)
      have es : spN T N t u ((nuf T g).toNat + 1) = if 1 ≤ (nuf T g).toNat ∧ cvf (ctn T N t) (crf T (nuf T g)) = true ∧ (spN T N t u (nuf T g).toNat).1 < spV T N t u (crf T (nuf T g)) then (spV T N t u (crf T (nuf T g)), nuf T g) else spN T N t u (nuf T g).toNat := by
        show (if 1 ≤ (nuf T g).toNat ∧ cvf (ctn T N t) (crf T ((nuf T g).toNat : Int)) = true ∧ (spN T N t u (nuf T g).toNat).1 < spV T N t u (crf T ((nuf T g).toNat : Int)) then (spV T N t u (crf T ((nuf T g).toNat : Int)), ((nuf T g).toNat : Int)) else spN T N t u (nuf T g).toNat) = _
        rw [ntn]
      rw [hfe] at es
      have step : aU9 c12_split_b89 [130, t, u, w, suW T N t (ctn T N t), best, num, fst, 1] τ = some (90, [130, t, u, w, suW T N t (ctn T N t), (spN T N t u ((nuf T g).toNat + 1)).1 + suW T N t (ctn T N t), pty (crf T (spN T N t u ((nuf T g).toNat + 1)).2), 0, if nyX (T 0 1) (ctn T N t) g < T 0 1 then 1 else 0], ψ) := by
        show c12_split_b89 130 t u w (suW T N t (ctn T N t)) best num fst 1 τ = _
        rw [hb]
        unfold c12_split_p162
        rw [h2, acall0_some]
        rcases hst with ⟨f1, n0⟩ | ⟨f0, n1, hbest, hnum⟩
        · refine ite_n (by omega) ?_
          rw [p182]
          have g0 : g = fun _ => 0 := by
            funext s
            rw [← hfe, n0]; exact crf_0 T s
          have v0 : spV T N t u g = 0 := by
            rw [g0]
            unfold spV
            have e1 : sbg (ctn T N t) (fun _ => 0) = ctn T N t := by funext s; show ctn T N t s - 0 = _; omega
            have e2 : suW T N u (fun _ => 0) = 0 := by
              unfold suW
              have : (fun s => (0 : Int) * wrA T N s u (fun _ => 0)) = fun _ => 0 := by funext s; exact Int.zero_mul _
              rw [this]; exact sI_zz h5.1
            have e3 : mvc T (fun _ => 0) = 0 := by
              unfold mvc
              have : (fun s => (0 : Int) * T 2 (4 * s + 3)) = fun _ => 0 := by funext s; exact Int.zero_mul _
              rw [this]; exact sI_zz h5.1
            rw [e1, e2, e3]; omega
          have es0 : spN T N t u ((nuf T g).toNat + 1) = spN T N t u (nuf T g).toNat := by rw [es]; exact if_neg (fun q => by omega)
          rw [es0, n0, v0]
          have ec : crf T 0 = g := by rw [← n0]; exact hfe
          show some (90, [130, t, u, w, suW T N t (ctn T N t), 0 + suW T N t (ctn T N t), pty g, 0, _], ψ) = some (90, [130, t, u, w, suW T N t (ctn T N t), 0 + suW T N t (ctn T N t), pty (crf T 0), 0, _], ψ)
          rw [ec]
        · refine ite_p f0 ?_
          rw [es, hbest]
          by_cases q : (spN T N t u (nuf T g).toNat).1 < spV T N t u g
          · refine ite_p (by rw [acmp_p]; omega) ?_
            rw [if_pos (show 1 ≤ (nuf T g).toNat ∧ cvf (ctn T N t) g = true ∧ (spN T N t u (nuf T g).toNat).1 < spV T N t u g from ⟨by omega, hc, q⟩), p182]
            show some (90, [130, t, u, w, suW T N t (ctn T N t), spV T N t u g + suW T N t (ctn T N t), pty g, 0, _], ψ) = some (90, [130, t, u, w, suW T N t (ctn T N t), spV T N t u g + suW T N t (ctn T N t), pty (crf T (nuf T g)), 0, _], ψ)
            rw [hfe]
          · refine ite_n (by rw [acmp_p]; omega) ?_
            rw [if_neg (show ¬ (1 ≤ (nuf T g).toNat ∧ cvf (ctn T N t) g = true ∧ (spN T N t u (nuf T g).toNat).1 < spV T N t u g) from fun z => q z.2.2), p193, hnum]
      obtain ⟨y1, y2⟩ := ny_sp hB hft hg hc
      by_cases y : nyX (T 0 1) (ctn T N t) g < T 0 1
      · obtain ⟨b1, b2, b3, b4⟩ := y1 y
        have hlt := lx_nuf hB hg b1 b3
        have hnb2 := nuf_bd hB b1
        have ec : spN T N t u (nuf T (nyg (T 0 1) (nyX (T 0 1) (ctn T N t) g) g)).toNat = spN T N t u ((nuf T g).toNat + 1) := by
          refine spN_const _ (by omega) (fun j j0 j1 hj => ?_)
          obtain ⟨hjf, hjn⟩ := crf_BF hB (n := j) (by omega) (by omega)
          have hlx := nuf_lx hB hg hjf (by rw [hjn]; omega)
          rcases b4 _ hjf hj hlx with z | z
          · have := lx_nuf hB b1 hjf z
            rw [hjn] at this; omega
          · have := BF_5 hB b1 hjf z
            have e := congrArg (nuf T) this
            rw [hjn] at e; omega
        refine Or.inl ⟨by omega, _, ψ, step, by omega, hFp, hS4, Or.inl ⟨_, _, _, 0, by rw [if_pos y], b1, b2, hG3 y, by omega, Or.inr ⟨rfl, by omega, by rw [ec], by rw [ec]⟩⟩⟩
      · have ec : spN T N t u (crw T).toNat = spN T N t u ((nuf T g).toNat + 1) := by
          refine spN_const _ (by omega) (fun j j0 j1 hj => ?_)
          obtain ⟨hjf, hjn⟩ := crf_BF hB (n := j) (by omega) (by omega)
          exact y2 y _ hjf hj (nuf_lx hB hg hjf (by rw [hjn]; omega))
        refine Or.inl ⟨by omega, _, ψ, step, by omega, hFp, hS4, Or.inr ⟨by rw [if_neg y, ec], by omega⟩⟩
    · refine Or.inr ⟨_, ?_, Nat.ne_of_beq_eq_false rfl, τ, rfl, hF, hSt⟩
      show c12_split_b89 130 t u w _ _ _ 0 0 τ = _
      unfold c12_split_b89
      exact ite_p rfl rfl
def aSplit (T N : aH) (t u w : Int) : Int :=
  if 0 ≤ t ∧ t < T 0 2 then (if 0 ≤ u ∧ u < T 0 2 then (if t = u then MINL else if 0 < szf (ctn T N u) then MINL else if 0 ≤ w ∧ w ≤ 1 then (if w = 0 then pty (crf T (spN T N t u (crw T).toNat).2) else (spN T N t u (crw T).toNat).1) else MINL) else MINL) else MINL
theorem ctn_em {T N : aH} (hB : TB T) (hN : NB T N) {u : Int} (u0 : 0 ≤ u) (u1 : u ≤ T 0 2) (h : ¬ 0 < szf (ctn T N u)) : ∀ s, ctn T N u s = 0 := by
  have hf := ctn_BF hN hB u0 u1
  have h5 := hB.2.1
  unfold szf at h
  have a0 := (hf.1 0 (by omega) (by omega)).1
  have a1 := (hf.1 1 (by omega) (by omega)).1
  have a2 := (hf.1 2 (by omega) (by omega)).1
  have a3 := (hf.1 3 (by omega) (by omega)).1
  have a4 := (hf.1 4 (by omega) (by omega)).1
  intro s
  by_cases c : 0 ≤ s ∧ s < 5
  · rcases cs5 c.1 c.2 with e | e | e | e | e <;> rw [e] <;> omega
  · exact hf.2 s (by omega)
theorem c12_split_q {T N : aH} {σ : aS} (hM : MI T σ) (hN : NB T N) (hS : MN T N σ) (t u w : Int) : AnsM T N σ (c12_split 130 t u w σ) (aSplit T N t u w) := by
  have hM0 := hM.t2
  have hS0 := hS.t2
  have hB := hM.2.2
  unfold c12_split aSplit
  refine AnsM.chk (c12_isTown_ok hM0 t) (fun ht => ?_) (fun _ => AnsM.k (st2_q σ) hS.t2 rfl)
  refine AnsM.chk (c12_isTown_ok hM0 u) (fun hu => ?_) (fun _ => AnsM.k (st2_q σ) hS.t2 rfl)
  refine AnsM.ite (fun _ => AnsM.k (st2_q σ) hS.t2 rfl) (fun htu => ?_)
  show AnsM T N σ (acall1 (c12_crewOf 130 u (st2 σ)) _) _
  rw [c12_crewOf_ok hM0 hN hS0 hu.1 (by omega), acall1_some]
  refine AnsM.ite (fun _ => AnsM.k (st2_q σ) hS.t2 rfl) (fun hem => ?_)
  refine AnsM.chk (c12_isIn_ok w 0 1 _) (fun hw => ?_) (fun _ => AnsM.k (st2_q σ) hS.t2 rfl)
  obtain ⟨τ, h1, hF1⟩ := c12_sumOf_ok hM0 hN hS0 ht.1 ht.2
  show AnsM T N σ (acall1 (c12_sumOf 130 t (st2 σ)) _) _
  rw [h1, acall1_some]
  have hM1 := hM0.sl (hF1.mono rfl)
  obtain ⟨υ, h2, hF2, hG2⟩ := sl_fill hM1.1 (t := t) (u := u) (w := w) (now := suW T N t (ctn T N t))
  rw [h2]
  have hM2 := hM1.gr hF2
  have hS2 : MN T N υ := (hS0.wo hF1).fr hF2 (wdj_spec (by decide +kernel))
  obtain ⟨φ, h3, hF3, hS3⟩ := sl_loop hM2 hN hS2 ht.1 ht.2 hu.1 hu.2 htu (ctn_em hB hN hu.1 (by omega) hem) hG2 w
  unfold c12_split_l89
  rw [h3]
  show AnsM T N σ (c12_split_p206 w (suW T N t (ctn T N t)) ((spN T N t u (crw T).toNat).1 + suW T N t (ctn T N t)) (pty (crf T (spN T N t u (crw T).toNat).2)) φ) _
  have hq : Fr wmq σ φ := (st2_q σ).tr ((hF1.mono rfl).tr ((hF2.mono rfl).tr (hF3.mono rfl)))
  have hb := spN_bd hB hN ht.1 (show t ≤ T 0 2 by omega) hu.1 (show u ≤ T 0 2 by omega) (crw T).toNat (by have := (wt_pos hB).2.2.2.2; omega)
  unfold c12_split_p206
  exact AnsM.ite (fun _ => AnsM.k hq hS3 rfl) (fun _ => AnsM.k hq hS3 (by rw [wQ (by omega) (by omega)]; omega))
