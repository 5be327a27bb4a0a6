/-! party, would: the reference -/
def wpf : List (Int × List Int) := [(155, []), (157, []), (158, []), (159, []), (160, []), (130, [54, 55, 56, 58, 67, 68])]
theorem MI.pf {T : aH} {σ τ : aS} (h : MI T σ) (hF : Fr wpf σ τ) : MI T τ := h.fr hF (by decide +kernel) (wdj_spec (by decide +kernel))
/-- a found one of size z -/
def FP (T N : aH) (z : Int) (g : Int → Int) : Prop := cmp T z g ∧ plA T N g ≤ T 0 2 ∧ ∀ h, cmp T z h → LX g h → ¬ plA T N h ≤ T 0 2
def fst5 (z : Int) : Int → Int := fun s => if s = 0 then z else 0
theorem fp_fill {σ : aS} (hL : LR σ) {m z : Int} : ∃ τ, c12_findParty_l16 130 m z 0 σ = c12_findParty_l44 130 m z 1 τ ∧ Fr wgr σ τ ∧ GR (fst5 z) τ := by
  have hl := al_0 (c := 17) (B := aU4 c12_findParty_b16) (fun k => [130, m, z, k]) (fun k => apf σ 159 (fst5 z) k) (n := 5) (r := (43, [130, m, z], apf σ 159 (fst5 z) 5)) (by omega) (by omega) ?_ ?_ (Nat.ne_of_beq_eq_false rfl)
  · refine ⟨apf σ 159 (fst5 z) 5, ?_, (Fr.rf _ _).apf (x := 159) _ _ (fun _ => rfl), fun s s0 s5 => apf_i s0 s5⟩
    unfold c12_findParty_l16
    simp only [apf_0] at hl
    rw [hl]; rfl
  · intro k k0 k1
    have e := apf_s (σ := σ) (x := 159) (f := fst5 z) k0
    have p35 : c12_findParty_p35 (fst5 z k) k 159 130 m z k (apf σ 159 (fst5 z) k) = some (17, [130, m, z, k + 1], apf σ 159 (fst5 z) (k + 1)) := by
      unfold c12_findParty_p35
      rw [apf_n, n_159 hL, e, wq (by omega) (by omega)]
      exact ite_p (by omega) rfl
    show c12_findParty_b16 130 m z k (apf σ 159 (fst5 z) k) = _
    unfold c12_findParty_b16
    rw [apf_x (y := 130) (by omega), r_130_65 hL]
    refine ite_p k1 (ite_n (by omega) ?_)
    rw [← p35]
    by_cases q : k = 0
    · refine ite_p q ?_
      rw [show fst5 z k = z from if_pos q]
    · refine ite_n q ?_
      rw [show fst5 z k = 0 from if_neg q]
  · show c12_findParty_b16 130 m z 5 _ = _
    unfold c12_findParty_b16
    exact ite_n (by omega) rfl
theorem fp_size {T N : aH} {σ : aS} (hM : MI T σ) (hN : NB T N) (hS : MN T N σ) {m z : Int} (z1 : 1 ≤ z) (z2 : z ≤ 12) (h1 : 1 ≤ T 0 1) (hG : GR (fst5 z) σ) :
    ∃ τ, Fr wpf σ τ ∧ MN T N τ ∧ ((∃ g, FP T N z g ∧ c12_findParty_l44 130 m z 1 σ = some (0, [1], τ) ∧ GR g τ ∧ aget τ 130 67 = plA T N g ∧ aget τ 130 68 = plB T N g (plA T N g)) ∨
      ((∀ h, cmp T z h → ¬ plA T N h ≤ T 0 2) ∧ c12_findParty_l44 130 m z 1 σ = some (3, [130, m, z + 1], τ))) := by
  have hB := hM.2.2
  have h5 := hB.2.1
  have hc0 : cmp T z (fst5 z) := ⟨fun s s0 s5 => by unfold fst5; split <;> omega, fun s hs => if_neg (by omega), by unfold szf fst5; simp⟩
  have hal := al_I (c := 45) (B := aU4 c12_findParty_b44) (n := 371295) (i := 0) (vs := [130, m, z, 1]) (σ := σ)
    (fun k vs τ => 0 ≤ k ∧ Fr wpf σ τ ∧ MN T N τ ∧ ((∃ g, vs = [130, m, z, 1] ∧ cmp T z g ∧ GR g τ ∧ (∀ h, cmp T z h → LX g h → ¬ plA T N h ≤ T 0 2) ∧ k + n13 g ≤ 371293) ∨ (vs = [130, m, z, 0] ∧ k ≤ 371294 ∧ ∀ h, cmp T z h → ¬ plA T N h ≤ T 0 2)))
    (fun r => ∃ τ, Fr wpf σ τ ∧ MN T N τ ∧ ((∃ g, FP T N z g ∧ r = (0, [1], τ) ∧ GR g τ ∧ aget τ 130 67 = plA T N g ∧ aget τ 130 68 = plB T N g (plA T N g)) ∨ ((∀ h, cmp T z h → ¬ plA T N h ≤ T 0 2) ∧ r = (66, [130, m, z], τ)))) (by omega) (by omega)
    ⟨Int.le_refl _, Fr.rf _ _, hS, Or.inl ⟨fst5 z, rfl, hc0, hG, fun h hc hl => ?_, ?_⟩⟩ ?_
  · obtain ⟨r, hr, τ, hF, hSt, h⟩ := hal
    refine ⟨τ, hF, hSt, ?_⟩
    unfold c12_findParty_l44
    rw [hr]
    rcases h with ⟨g, hg, rfl, h2⟩ | ⟨hn, rfl⟩
    · exact Or.inl ⟨g, hg, rfl, h2⟩
    · refine Or.inr ⟨hn, ?_⟩
      show c12_findParty_p65 130 m z τ = _
      unfold c12_findParty_p65
      rw [wq (by omega) (by omega)]
  · exfalso
    have a0 := hc.1 0 (by omega) (by omega)
    have a1 := hc.1 1 (by omega) (by omega)
    have a2 := hc.1 2 (by omega) (by omega)
    have a3 := hc.1 3 (by omega) (by omega)
    have a4 := hc.1 4 (by omega) (by omega)
    have hs := hc.2.2
    unfold szf at hs
    unfold LX fst5 at hl
    simp at hl
    omega
  · unfold n13 fst5; simp; omega
  · rintro k vs τ hk ⟨k0, hF, hSt, ⟨g, rfl, hc, hGt, hl, hn⟩ | ⟨rfl, hk2, hno⟩⟩
    · have hMt := hM.pf hF
      have hnn : 0 ≤ n13 g := by
        have a0 := hc.1 0 (by omega) (by omega)
        have a1 := hc.1 1 (by omega) (by omega)
        have a2 := hc.1 2 (by omega) (by omega)
        have a3 := hc.1 3 (by omega) (by omega)
        have a4 := hc.1 4 (by omega) (by omega)
        unfold n13; omega
      obtain ⟨υ, hw, hF2, hS2, h67⟩ := c12_groupAnywhere_ok hMt hN hSt hc hGt
      by_cases q : plA T N g ≤ T 0 2
      · rw [if_pos q] at hw
        obtain ⟨e67, e68⟩ := h67 q
        refine Or.inr ⟨(0, [1], υ), ?_, Nat.ne_of_beq_eq_false rfl, υ, hF.tr (hF2.mono rfl), hS2, Or.inl ⟨g, ⟨hc, q, hl⟩, rfl, hGt.fr hF2 (wdj_spec (by decide +kernel)), e67, e68⟩⟩
        show c12_findParty_b44 130 m z 1 τ = _
        unfold c12_findParty_b44
        exact ite_n (by omega) (acall1_h hw (ite_n (by omega) (ite_p (by omega) rfl)))
      · rw [if_neg q] at hw
        have hG2 : GR g υ := hGt.fr hF2 (wdj_spec (by decide +kernel))
        obtain ⟨φ, hx, hF3, hg3⟩ := c12_nextGroup_ok (hMt.ga hF2) z2 hc hG2 h1
        obtain ⟨s1, s2⟩ := nx_sp hB z2 hc h1
        have hS3 : MN T N φ := hS2.fr hF3 (wdj_spec (by decide +kernel))
        have hFf : Fr wpf σ φ := hF.tr ((hF2.mono rfl).tr (hF3.mono rfl))
        have st : ∀ f, (if nxX (T 0 1) g < T 0 1 - 1 then (1 : Int) else 0) = f → aU4 c12_findParty_b44 [130, m, z, 1] τ = some (45, [130, m, z, f], φ) := fun f hf => by
          rw [hf] at hx
          show c12_findParty_b44 130 m z 1 τ = _
          unfold c12_findParty_b44
          exact ite_n (by omega) (acall1_h hw (ite_p rfl (acall1_h hx rfl)))
        by_cases w : nxX (T 0 1) g < T 0 1 - 1
        · obtain ⟨t1, t2, t3⟩ := s1 w
          refine Or.inl ⟨by omega, _, φ, st 1 (if_pos w), by omega, hFf, hS3, Or.inl ⟨_, rfl, t1, hg3 w, fun h hch hlh => ?_, by omega⟩⟩
          rcases LX_tri g h with v | v | v
          · exact hl h hch v
          · rw [← cmp_5 hB hc hch v]; exact q
          · rcases t3 h hch v with y | y
            · exact (LX_asym hlh y).elim
            · refine (LX_irr hlh ?_).elim
              obtain ⟨y0, y1, y2, y3, y4⟩ := y
              exact ⟨y0.symm, y1.symm, y2.symm, y3.symm, y4.symm⟩
        · refine Or.inl ⟨by omega, _, φ, st 0 (if_neg w), by omega, hFf, hS3, Or.inr ⟨rfl, by omega, fun h hch => ?_⟩⟩
          rcases LX_tri g h with v | v | v
          · exact hl h hch v
          · rw [← cmp_5 hB hc hch v]; exact q
          · exact absurd v (s2 w h hch)
    · refine Or.inr ⟨(66, [130, m, z], τ), ?_, Nat.ne_of_beq_eq_false rfl, τ, hF, hSt, Or.inr ⟨hno, rfl⟩⟩
      show c12_findParty_b44 130 m z 0 τ = _
      unfold c12_findParty_b44
      exact ite_p rfl rfl
theorem c12_findParty_ok {T N : aH} {σ : aS} (hM : MI T σ) (hN : NB T N) (hS : MN T N σ) {m : Int} (m1 : 1 ≤ m) (m2 : m ≤ 12) :
    ∃ τ, c12_findParty 130 m σ = some (0, [if pnZ T N m < m then 1 else 0], τ) ∧ Fr wpf σ τ ∧ MN T N τ ∧ (pnZ T N m < m → BF T (pnG T N m) ∧ GR (pnG T N m) τ ∧ aget τ 130 67 = plA T N (pnG T N m) ∧ aget τ 130 68 = plB T N (pnG T N m) (plA T N (pnG T N m))) := by
  have hB := hM.2.2
  have h5 := hB.2.1
  have hcl := crw_le hB
  have z0 := ff_0 (fun z => decide (pnJ T N (z + 1) < crw T - 1)) (n := m)
  have zn := ff_n (fun z => decide (pnJ T N (z + 1) < crw T - 1)) (n := m) (by omega)
  have zat := ff_at (P := fun z => decide (pnJ T N (z + 1) < crw T - 1)) (n := m)
  have zno := fun k => ff_no (P := fun z => decide (pnJ T N (z + 1) < crw T - 1)) (n := m) (k := k)
  have ez : pnZ T N m = ff (fun z => decide (pnJ T N (z + 1) < crw T - 1)) m := rfl
  have eg : pnG T N m = crf T (crw T - 1 - pnJ T N (pnZ T N m + 1)) := rfl
  rw [← ez] at z0 zn zat zno
  generalize pnZ T N m = Z at z0 zn zat zno eg
  by_cases hs : 0 < T 0 1
  · have hal := al_I (c := 3) (B := aU3 c12_findParty_b2) (n := m) (i := 0) (vs := [130, m, 1]) (σ := σ)
      (fun k vs τ => 0 ≤ k ∧ vs = [130, m, k + 1] ∧ k ≤ Z ∧ Fr wpf σ τ ∧ MN T N τ)
      (fun r => ∃ τ, r = (0, [if Z < m then 1 else 0], τ) ∧ Fr wpf σ τ ∧ MN T N τ ∧ (Z < m → BF T (pnG T N m) ∧ GR (pnG T N m) τ ∧ aget τ 130 67 = plA T N (pnG T N m) ∧ aget τ 130 68 = plB T N (pnG T N m) (plA T N (pnG T N m))))
      (by omega) (by omega) ⟨Int.le_refl _, rfl, z0, Fr.rf _ _, hS⟩ ?_
    · obtain ⟨r, hr, τ, rfl, h1, h2, h3⟩ := hal
      refine ⟨τ, ?_, h1, h2, h3⟩
      unfold c12_findParty c12_findParty_l2
      rw [hr]; rfl
    · rintro k vs τ hk ⟨k0, rfl, hZ, hF, hSt⟩
      have hMt := hM.pf hF
      by_cases c : k < m
      · obtain ⟨φ, hf, hF1, hG1⟩ := fp_fill hMt.1 (m := m) (z := k + 1)
        have hM1 := hMt.gr hF1
        have hS1 : MN T N φ := hSt.fr hF1 (wdj_spec (by decide +kernel))
        obtain ⟨υ, hF2, hS2, h⟩ := fp_size (m := m) hM1 hN hS1 (z := k + 1) (by omega) (by omega) (by omega) hG1
        have hFu : Fr wpf σ υ := hF.tr ((hF1.mono rfl).tr hF2)
        have st : ∀ r : aR, c12_findParty_l44 130 m (k + 1) 1 φ = r → aU3 c12_findParty_b2 [130, m, k + 1] τ = r := by
          intro r hr
          show c12_findParty_b2 130 m (k + 1) τ = r
          unfold c12_findParty_b2
          rw [hMt.2.1.1.2.1, hf]
          exact ite_n (by omega) (ite_p hs hr)
        rcases h with ⟨g, ⟨f1, f2, f3⟩, hl, hGg, e67, e68⟩ | ⟨hno, hl⟩
        · obtain ⟨j1, j2⟩ := pnJ_of hB hN (show 1 ≤ k + 1 by omega) f1 f2 f3
          have hZk : Z = k := by
            by_cases w : k < Z
            · have := zno k k0 w
              rw [decide_eq_true j1] at this; exact absurd this (by decide)
            · omega
          have egg : pnG T N m = g := by rw [eg, hZk]; exact j2
          refine Or.inr ⟨(0, [1], υ), st _ hl, Nat.ne_of_beq_eq_false rfl, υ, by rw [if_pos (by omega)], hFu, hS2, fun _ => ?_⟩
          rw [egg]
          exact ⟨plA_BF hB hN f1 f2, hGg, e67, e68⟩
        · refine Or.inl ⟨c, [130, m, k + 1 + 1], υ, st _ hl, by omega, rfl, ?_, hFu, hS2⟩
          by_cases w : Z = k
          · have := zat (by omega)
            rw [w, decide_eq_true_iff] at this
            exact absurd this (pnJ_no hB hno)
          · omega
      · have hke : k = m := by omega
        refine Or.inr ⟨(0, [0], τ), ?_, Nat.ne_of_beq_eq_false rfl, τ, by rw [if_neg (by omega)], hF, hSt, fun q => by omega⟩
        show c12_findParty_b2 130 m (k + 1) τ = _
        unfold c12_findParty_b2
        exact ite_p (by omega) (ite_p (by omega) rfl)
  · have ht : T 0 1 = 0 := by omega
    have hcr : crw T = 1 := by
      have e : ∀ k, hsf T k = 0 := fun k => if_neg (by omega)
      unfold crw wt0 wt1 wt2 wt3
      rw [e, e, e, e, e]; rfl
    have hZm : ¬ Z < m := fun q => by
      have := zat q
      rw [decide_eq_true_iff] at this
      have := ff_0 (pnB T N (Z + 1)) (n := crw T - 1)
      unfold pnJ at *
      omega
    have hal := al_I (c := 3) (B := aU3 c12_findParty_b2) (n := 1) (i := 0) (vs := [130, m, 1]) (σ := σ) (fun i vs τ => vs = [130, m, 1] ∧ τ = σ) (fun r => r = (0, [0], σ)) (by omega) (by omega) ⟨rfl, rfl⟩ (by
      rintro i vs τ hi ⟨rfl, rfl⟩
      refine Or.inr ⟨_, ?_, Nat.ne_of_beq_eq_false rfl, rfl⟩
      show c12_findParty_b2 130 m 1 τ = _
      unfold c12_findParty_b2
      rw [hM.2.1.1.2.1]
      exact ite_n (by omega) (ite_n hs (ite_p (by omega) rfl)))
    obtain ⟨r, hr, rfl⟩ := hal
    refine ⟨σ, ?_, Fr.rf _ _, hS, fun q => absurd q hZm⟩
    rw [if_neg hZm]
    unfold c12_findParty c12_findParty_l2
    rw [hr]; rfl
theorem c12_groupNumber_ok {T : aH} {σ : aS} (hM : MI T σ) {g : Int → Int} (hG : GR g σ) (hg : ∀ s, 0 ≤ s → s < 5 → 0 ≤ g s ∧ g s ≤ 7) : c12_groupNumber 130 σ = some (0, [pty g], σ) := by
  have hL := hM.1
  have g0 := hg 0 (by omega) (by omega)
  have g1 := hg 1 (by omega) (by omega)
  have g2 := hg 2 (by omega) (by omega)
  have g3 := hg 3 (by omega) (by omega)
  have g4 := hg 4 (by omega) (by omega)
  obtain ⟨F, hF⟩ : ∃ F : Int → Int, F = fun k => if k = 0 then 0 else if k = 1 then g 4 else if k = 2 then 7 * g 4 + g 3 else if k = 3 then 7 * (7 * g 4 + g 3) + g 2 else if k = 4 then 7 * (7 * (7 * g 4 + g 3) + g 2) + g 1 else 7 * (7 * (7 * (7 * g 4 + g 3) + g 2) + g 1) + g 0 := ⟨_, rfl⟩
  have hs : ∀ k, 0 ≤ k → k < 5 → (0 ≤ F k ∧ F k ≤ 100000) ∧ F (k + 1) = 7 * F k + g (4 - k) := fun k k0 k1 => by
    rw [hF]
    rcases cs5 k0 k1 with e | e | e | e | e <;> rw [e] <;> simp <;> omega
  have hal := al_I (c := 5) (B := aU3 c12_groupNumber_b4) (n := 5) (i := 0) (vs := [130, 0, 4]) (σ := σ)
    (fun k vs τ => 0 ≤ k ∧ vs = [130, F k, 4 - k] ∧ τ = σ) (fun r => r = (0, [F 5], σ)) (by omega) (by omega) ⟨Int.le_refl _, by rw [hF]; rfl, rfl⟩ (by
      rintro k vs τ hk ⟨k0, rfl, rfl⟩
      by_cases c : k < 5
      · obtain ⟨b, e⟩ := hs k k0 c
        have gk := hg (4 - k) (by omega) (by omega)
        refine Or.inl ⟨c, [130, F (k + 1), 4 - (k + 1)], τ, ?_, by omega, rfl, rfl⟩
        show c12_groupNumber_b4 130 (F k) (4 - k) τ = _
        unfold c12_groupNumber_b4
        have e7 : w32 (7 * F k) = 7 * F k := wq (by omega) (by omega)
        rw [r_130_65 hL, n_159 hL, hG (4 - k) (by omega) (by omega), e7, wq (x := 7 * F k + g (4 - k)) (by omega) (by omega), wq (x := 4 - k + -1) (by omega) (by omega), e, show 4 - (k + 1) = 4 - k + -1 by omega]
        exact ite_n (by omega) (ite_n (by omega) (ite_p (by omega) rfl))
      · refine Or.inr ⟨_, ?_, Nat.ne_of_beq_eq_false rfl, rfl⟩
        rw [show k = 5 by omega]
        show c12_groupNumber_b4 130 (F 5) (4 - 5) τ = _
        unfold c12_groupNumber_b4
        exact ite_p (by omega) rfl)
  obtain ⟨r, hr, rfl⟩ := hal
  have e5 : F 5 = pty g := by
    rw [hF]
    show 7 * (7 * (7 * (7 * g 4 + g 3) + g 2) + g 1) + g 0 = _
    unfold pty; omega
  rw [← e5]
  unfold c12_groupNumber c12_groupNumber_l4
  rw [hr]; rfl
def aParty (T N : aH) (m w : Int) : Int :=
  if 1 ≤ m ∧ m ≤ 12 then (if 0 ≤ w ∧ w ≤ 2 then (if pnZ T N m < m then (if w = 0 then pty (pnG T N m) else if w = 1 then plA T N (pnG T N m) else plB T N (pnG T N m) (plA T N (pnG T N m))) else -1) else -1) else -1
theorem c12_party_q {T N : aH} {σ : aS} (hM : MI T σ) (hN : NB T N) (hS : MN T N σ) (m w : Int) : AnsM T N σ (c12_party 130 m w σ) (aParty T N m w) := by
  have hM0 := hM.t2
  have hS0 := hS.t2
  unfold c12_party aParty
  refine AnsM.chk (c12_isIn_ok m 1 12 _) (fun hm => ?_) (fun _ => AnsM.k (st2_q σ) hS.t2 rfl)
  refine AnsM.chk (c12_isIn_ok w 0 2 _) (fun hw => ?_) (fun _ => AnsM.k (st2_q σ) hS.t2 rfl)
  obtain ⟨τ, h1, hF, hS1, h2⟩ := c12_findParty_ok hM0 hN hS0 hm.1 hm.2
  have hq : Fr wmq σ τ := (st2_q σ).tr (hF.mono rfl)
  refine AnsM.chk h1 (fun hz => ?_) (fun _ => AnsM.k hq hS1 rfl)
  obtain ⟨b1, b2, b3, b4⟩ := h2 hz
  refine AnsM.ite (fun _ => ?_) (fun _ => AnsM.ite (fun _ => AnsM.k hq hS1 b3) (fun _ => AnsM.k hq hS1 b4))
  rw [c12_groupNumber_ok (hM.mq hq) b2 (b1.b7 hM.2.2), acall1_some]
  exact AnsM.k hq hS1 rfl
/-! would -/
def dqN (p : Int) : Nat → Int
  | 0 => p
  | n + 1 => dqN p n / 7
def dg7 (p : Int) : Int → Int := fun s => if 0 ≤ s ∧ s < 5 then dqN p s.toNat % 7 else 0
theorem dqN_bd {p : Int} (p0 : 0 ≤ p) (p1 : p ≤ 2147483647) : ∀ n : Nat, 0 ≤ dqN p n ∧ dqN p n ≤ 2147483647 := by
  intro n
  induction n with
  | zero => exact ⟨p0, p1⟩
  | succ n ih => show 0 ≤ dqN p n / 7 ∧ dqN p n / 7 ≤ 2147483647; omega
/-- the number is a crew of those at a -/
def wdB (T N : aH) (p a : Int) : Bool := decide (0 < p ∧ dqN p 5 = 0) && cvf (ctn T N a) (dg7 p)
theorem c12_layGroup_ok {T N : aH} {σ : aS} (hM : MI T σ) (hS : MN T N σ) {p a : Int} (p1 : p ≤ 2147483647) (a0 : 0 ≤ a) (a1 : a ≤ T 0 2) :
    ∃ τ, c12_layGroup 130 p a σ = some (0, [if wdB T N p a = true then 1 else 0], τ) ∧ Fr wgr σ τ ∧ (wdB T N p a = true → GR (dg7 p) τ) := by
  have hB := hM.2.2
  have h5 := hB.2.1
  have h4 := hB.2.2.1
  by_cases p0 : 0 < p
  · have hbd := dqN_bd (show 0 ≤ p by omega) p1
    have hal := al_I (c := 15) (B := aU5 c12_layGroup_b14) (n := 5) (i := 0) (vs := [130, a, p, 1, 0]) (σ := σ)
      (fun k vs τ => 0 ≤ k ∧ Fr wgr σ τ ∧ (∀ s, 0 ≤ s → s < k → aget τ 159 s = dg7 p s) ∧ ∃ f, vs = [130, a, dqN p k.toNat, f, k] ∧ (f = 0 ∨ f = 1) ∧ (f = 1 ↔ ∀ s, 0 ≤ s → s < k → dg7 p s ≤ ctn T N a s))
      (fun r => ∃ f τ, r = (89, [dqN p 5, f], τ) ∧ Fr wgr σ τ ∧ (∀ s, 0 ≤ s → s < 5 → aget τ 159 s = dg7 p s) ∧ (f = 0 ∨ f = 1) ∧ (f = 1 ↔ cvf (ctn T N a) (dg7 p) = true)) (by omega) (by omega)
      ⟨Int.le_refl _, Fr.rf _ _, fun s s0 s1 => by omega, 1, rfl, Or.inr rfl, ⟨fun _ s s0 s1 => by omega, fun _ => rfl⟩⟩ ?_
    · obtain ⟨r, hr, f, τ, rfl, hF, hv, hf, hi⟩ := hal
      refine ⟨τ, ?_, hF, fun _ => hv⟩
      unfold c12_layGroup c12_layGroup_l14
      refine ite_p p0 ?_
      rw [hr]
      show c12_layGroup_p88 (dqN p 5) f τ = _
      unfold c12_layGroup_p88
      by_cases z : f = 0
      · rw [if_pos z, if_neg (show ¬ wdB T N p a = true from fun w => by
          unfold wdB at w
          rw [Bool.and_eq_true] at w
          have := hi.2 w.2; omega)]
        rfl
      · rw [if_neg z]
        have hc := hi.1 (by omega)
        by_cases q : dqN p 5 = 0
        · rw [if_pos q, if_pos (show wdB T N p a = true by unfold wdB; rw [decide_eq_true ⟨p0, q⟩, hc]; rfl)]; rfl
        · rw [if_neg q, if_neg (show ¬ wdB T N p a = true from fun w => by
            unfold wdB at w
            rw [Bool.and_eq_true, decide_eq_true_iff] at w
            exact q w.1.2)]; rfl
    · rintro k vs τ hk ⟨k0, hF, hv, f, rfl, hf, hi⟩
      have hMt := hM.gr hF
      have hL := hMt.1
      by_cases c : k < 5
      · have hb := hbd k.toNat
        have edg : dg7 p k = dqN p k.toNat % 7 := if_pos ⟨k0, c⟩
        have eq1 : dqN p (k + 1).toNat = dqN p k.toNat / 7 := by rw [show (k + 1).toNat = k.toNat + 1 by omega]; rfl
        have et : Int.tmod (dqN p k.toNat) 7 = dg7 p k := by rw [edg]; exact Int.tmod_eq_emod_of_nonneg hb.1
        have ed : w32 (Int.tdiv (dqN p k.toNat) 7) = dqN p (k + 1).toNat := by
          rw [Int.tdiv_eq_ediv_of_nonneg hb.1, eq1]; exact wq (by omega) (by omega)
        have f1 : Fr wgr τ (aput τ 159 k (dg7 p k)) := (Fr.rf _ _).put _ rfl
        obtain ⟨υ, hυ⟩ : ∃ υ, υ = aput τ 159 k (dg7 p k) := ⟨_, rfl⟩
        rw [← hυ] at f1
        have hMu := hMt.gr f1
        have hLu := hMu.1
        have hvu : ∀ s, 0 ≤ s → s < k + 1 → aget υ 159 s = dg7 p s := fun s s0 s1 => by
          by_cases e : s = k
          · rw [hυ, e, ag_s]
          · rw [hυ, ag_j e]; exact hv s s0 (by omega)
        have p80 : ∀ f', c12_layGroup_p80 f' 130 a (dqN p (k + 1).toNat) k υ = some (15, [130, a, dqN p (k + 1).toNat, f', k + 1], υ) := fun f' => by
          unfold c12_layGroup_p80; rw [wq (by omega) (by omega)]
        have hSu : MN T N υ := hS.fr (hF.tr f1) (wdj_spec (by decide +kernel))
        by_cases z : f = 0
        · refine Or.inl ⟨c, [130, a, dqN p (k + 1).toNat, 0, k + 1], υ, ?_, by omega, hF.tr f1, hvu, 0, rfl, Or.inl rfl, ⟨fun w => by omega, fun w => absurd (hi.2 (fun s s0 s1 => w s s0 (by omega))) (by omega)⟩⟩
          show c12_layGroup_b14 130 a (dqN p k.toNat) f k τ = _
          unfold c12_layGroup_b14
          rw [r_130_65 hL, n_159 hL, et, ed, ← hυ]
          exact ite_p c (ite_n (by omega) (ite_n (by omega) (ite_p (by omega) (ite_n (by omega) (ite_p z (by unfold c12_layGroup_p79; exact p80 0))))))
        · have hall := hi.1 (by omega)
          have st : ∀ r : aR, (if ctn T N a k < dg7 p k then c12_layGroup_p79 130 a (dqN p (k + 1).toNat) k υ else c12_layGroup_p80 1 130 a (dqN p (k + 1).toNat) k υ) = r → aU5 c12_layGroup_b14 [130, a, dqN p k.toNat, f, k] τ = r := by
            intro r hr
            show c12_layGroup_b14 130 a (dqN p k.toNat) f k τ = r
            unfold c12_layGroup_b14
            rw [r_130_65 hL, n_159 hL, et, ed, ← hυ, r_130_65 hLu, n_159 hLu, hvu k k0 (by omega), hMu.2.1.1.2.1, r_130_51 hLu, n_155 hLu, w5 (by omega) (by omega) (by omega) (by omega)]
            refine ite_p c (ite_n (by omega) (ite_n (by omega) (ite_p (by omega) (ite_n (by omega) (ite_n z (ite_n (by omega) (ite_p (by omega) ?_)))))))
            by_cases w : k < T 0 1
            · have e : ctn T N a k = N 0 (5 * k + a) := if_pos ⟨k0, w⟩
              rw [hSu.1 k a k0 w a0 a1, ← e]
              exact ite_p w (ite_n (by omega) (ite_p (by omega) hr))
            · have e : ctn T N a k = 0 := if_neg (by omega)
              rw [e] at hr
              exact ite_n w hr
          by_cases w : ctn T N a k < dg7 p k
          · exact Or.inl ⟨c, [130, a, dqN p (k + 1).toNat, 0, k + 1], υ, st _ (ite_p w (by unfold c12_layGroup_p79; exact p80 0)), by omega, hF.tr f1, hvu, 0, rfl, Or.inl rfl, ⟨fun e => by omega, fun e => absurd (e k k0 (by omega)) (by omega)⟩⟩
          · refine Or.inl ⟨c, [130, a, dqN p (k + 1).toNat, 1, k + 1], υ, st _ (ite_n w (p80 1)), by omega, hF.tr f1, hvu, 1, rfl, Or.inr rfl, ⟨fun _ s s0 s1 => ?_, fun _ => rfl⟩⟩
            by_cases e : s = k
            · rw [e]; omega
            · exact hall s s0 (by omega)
      · have hke : k = 5 := by omega
        subst hke
        refine Or.inr ⟨(89, [dqN p 5, f], τ), ?_, Nat.ne_of_beq_eq_false rfl, f, τ, rfl, hF, hv, hf, by rw [cvf_iff]; exact hi⟩
        show c12_layGroup_b14 130 a (dqN p 5) f 5 τ = _
        unfold c12_layGroup_b14
        exact ite_n (by omega) rfl
  · have e : ¬ wdB T N p a = true := fun w => by
      unfold wdB at w
      rw [Bool.and_eq_true, decide_eq_true_iff] at w
      exact p0 w.1.1
    refine ⟨σ, ?_, Fr.rf _ _, fun q => absurd q e⟩
    rw [if_neg e]
    unfold c12_layGroup
    exact ite_n p0 (ite_p (by omega) rfl)
def aWould (T N : aH) (p a b : Int) : Int :=
  if 0 ≤ a ∧ a ≤ T 0 2 then (if 0 ≤ b ∧ b ≤ T 0 2 then (if a = b then -1 else if wdB T N p a = true then (if pwB T N (dg7 p) a b = true then 1 else 0) else -1) else -1) else -1
theorem wdB_PA {T N : aH} {p a : Int} (hB : TB T) (h : wdB T N p a = true) : PA T N (dg7 p) a := by
  have h5 := hB.2.1
  unfold wdB at h
  rw [Bool.and_eq_true, cvf_iff] at h
  have h2 := h.2
  refine ⟨fun s s0 s1 => ?_, fun s hs => ?_⟩
  · have := h2 s s0 (by omega)
    rw [show ctn T N a s = N 0 (5 * s + a) from if_pos ⟨s0, s1⟩] at this
    refine ⟨?_, this⟩
    rw [show dg7 p s = dqN p s.toNat % 7 from if_pos ⟨s0, by omega⟩]; omega
  · by_cases c : 0 ≤ s ∧ s < 5
    · have := h2 s c.1 c.2
      rw [show ctn T N a s = 0 from if_neg hs] at this
      have e : dg7 p s = dqN p s.toNat % 7 := if_pos c
      omega
    · exact if_neg c
theorem c12_would_q {T N : aH} {σ : aS} (hM : MI T σ) (hN : NB T N) (hS : MN T N σ) {p : Int} (p1 : p ≤ 2147483647) (a b : Int) : AnsM T N σ (c12_would 130 p a b σ) (aWould T N p a b) := by
  have hM0 := hM.t2
  have hS0 := hS.t2
  unfold c12_would aWould
  refine AnsM.chk (c12_isPlace_ok hM0 a) (fun ha => ?_) (fun _ => AnsM.k (st2_q σ) hS.t2 rfl)
  refine AnsM.chk (c12_isPlace_ok hM0 b) (fun hb => ?_) (fun _ => AnsM.k (st2_q σ) hS.t2 rfl)
  refine AnsM.ite (fun _ => AnsM.k (st2_q σ) hS.t2 rfl) (fun hab => ?_)
  obtain ⟨τ, h1, hF, hG⟩ := c12_layGroup_ok hM0 hS0 p1 ha.1 ha.2
  have hq : Fr wmq σ τ := (st2_q σ).tr (hF.mono rfl)
  have hS1 : MN T N τ := hS0.fr hF (wdj_spec (by decide +kernel))
  refine AnsM.chk h1 (fun hw => ?_) (fun _ => AnsM.k hq hS1 rfl)
  obtain ⟨υ, h2, hF2, hS2⟩ := c12_groupWould_ok (hM0.gr hF) hN hS1 (hG hw) ha.1 ha.2 hb.1 hb.2 hab (wdB_PA hM.2.2 hw)
  exact AnsM.chk h2 (fun _ => AnsM.k (hq.tr (hF2.mono rfl)) hS2 rfl) (fun _ => AnsM.k (hq.tr (hF2.mono rfl)) hS2 rfl)
