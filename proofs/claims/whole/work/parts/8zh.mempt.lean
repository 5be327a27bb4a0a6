/-! empties, odds: the reference -/
def wee : List (Int × List Int) := [(155, []), (156, []), (157, []), (158, []), (161, []), (130, [54, 55, 56, 58, 62, 63, 64, 71, 72, 73])]
theorem MI.ee {T : aH} {σ τ : aS} (h : MI T σ) (hF : Fr wee σ τ) : MI T τ := h.fr hF (by decide +kernel) (wdj_spec (by decide +kernel))
/-- taken back, the rest as it is -/
theorem tk_back {T N : aH} {σ φ : aS} (hB : TB T) (hL : LR φ) (hS : MN T N σ) (hk : ∀ j, 0 ≤ j → j < 25 → aget σ 162 j = aget σ 155 j) (hF : Fr wfe σ φ) :
    c12_takeKept 130 φ = some (0, [], apf φ 155 (aget φ 162) 25) ∧ MN T N (apf φ 155 (aget φ 162) 25) ∧ ∀ j, 0 ≤ j → j < 25 → aget (apf φ 155 (aget φ 162) 25) 162 j = aget (apf φ 155 (aget φ 162) 25) 155 j := by
  refine ⟨c12_takeKept_ok hL, kept_MN hB hS (fun j j0 j1 => by rw [hF.g rfl]; exact hk j j0 j1) (fun x j hx => hF.g (wdj_spec (l := [(156, []), (144, []), (130, [80, 81, 59, 60, 61])]) (by decide +kernel) x j hx)), fun j j0 j1 => ?_⟩
  rw [apf_x (by omega), apf_i j0 j1]
theorem em_loop {T N : aH} {σ : aS} (hM : MI T σ) (hN : NB T N) (hX : NM N) (hS : MN T N σ) (hk : ∀ j, 0 ≤ j → j < 25 → aget σ 162 j = aget σ 155 j) {t : Int} (t0 : 0 ≤ t) (t1 : t < T 0 2) :
    ∃ τ, aloop 32 (aU5 c12_empties_b31) aBig [130, t, N 1 t, 0, 0] σ = some (94, [130, t, N 1 t, emE T N t], τ) ∧ Fr wee σ τ ∧ ∃ v, MN T (stv N 1 t v) τ := by
  have hB := hM.2.2
  have h4 := hB.2.2.1
  have hx := hX t t0 (by omega)
  have r0 := ff_0 (emB T N t) (n := 41)
  have rn := ff_n (emB T N t) (n := 41) (by omega)
  have rat := ff_at (P := emB T N t) (n := 41)
  have rno := fun k => ff_no (P := emB T N t) (n := 41) (k := k)
  unfold emE
  generalize ff (emB T N t) 41 = E at r0 rn rat rno
  have hal := al_I (c := 32) (B := aU5 c12_empties_b31) (n := 41) (i := 0) (vs := [130, t, N 1 t, 0, 0]) (σ := σ)
    (fun k vs τ => 0 ≤ k ∧ Fr wee σ τ ∧ (∃ v, MN T (stv N 1 t v) τ) ∧ (∀ j, 0 ≤ j → j < 25 → aget τ 162 j = aget τ 155 j) ∧ ((vs = [130, t, N 1 t, k, 0] ∧ k ≤ E) ∨ (vs = [130, t, N 1 t, E, 1] ∧ E < k)))
    (fun r => ∃ τ, r = (94, [130, t, N 1 t, E], τ) ∧ Fr wee σ τ ∧ ∃ v, MN T (stv N 1 t v) τ) (by omega) (by omega) ⟨Int.le_refl _, Fr.rf _ _, ⟨N 1 t, by rw [stv_id]; exact hS⟩, hk, Or.inl ⟨rfl, r0⟩⟩ ?_
  · obtain ⟨r, hr, τ, rfl, h1, h2⟩ := hal
    exact ⟨τ, hr, h1, h2⟩
  · rintro k vs τ hkk ⟨k0, hF, ⟨v, hSt⟩, hkt, ⟨rfl, hE⟩ | ⟨rfl, hE⟩⟩
    · have hM2 := hM.ee hF
      have hL := hM2.1
      by_cases c : k < 41
      · have f1 : Fr [(156, [])] τ (aput τ 156 t (N 1 t + k)) := (Fr.rf _ _).put _ rfl
        have hS1 : MN T (stv N 1 t (N 1 t + k)) (aput τ 156 t (N 1 t + k)) := by
          have := hSt.st1 t (N 1 t + k)
          rw [stv_v] at this; exact this
        have hk1 : ∀ j, 0 ≤ j → j < 25 → aget (aput τ 156 t (N 1 t + k)) 162 j = aget (aput τ 156 t (N 1 t + k)) 155 j := fun j j0 j1 => by rw [ag_x (by omega), ag_x (by omega)]; exact hkt j j0 j1
        have hN1 := hN.st1 t1 (show -3000 ≤ N 1 t + k by omega) (show N 1 t + k ≤ 3000 by omega)
        have hM3 := hM2.ee (f1.mono rfl)
        obtain ⟨φ, hf, e1, -, -, hG, hF2⟩ := c12_findEnd_ok hM3 hN1 hS1
        have hM4 := hM3.ee (hF2.mono rfl)
        obtain ⟨b1, b2, b3⟩ := tk_back hB hM4.1 hS1 hk1 hF2
        have hFu : Fr wee σ (apf φ 155 (aget φ 162) 25) := hF.tr ((f1.mono rfl).tr ((hF2.mono rfl).apf (x := 155) _ 25 (fun _ => rfl)))
        have tin := trE_in T (stv N 1 t (N 1 t + k))
        have p76 : ∀ b, (b = 0 ∨ b = 1) → c12_empties_p76 b 130 t (N 1 t) k φ = some (32, [130, t, N 1 t, if b = 0 then k + 1 else k, b], apf φ 155 (aget φ 162) 25) := fun b hb => by
          unfold c12_empties_p76
          rw [b1, acall0_some, wq (by omega) (by omega)]
          rcases hb with z | z <;> rw [z] <;> rfl
        have hb : aU5 c12_empties_b31 [130, t, N 1 t, k, 0] τ = c12_empties_p76 (if emB T N t k = true then 1 else 0) 130 t (N 1 t) k φ := by
          show c12_empties_b31 130 t (N 1 t) k 0 τ = _
          unfold c12_empties_b31
          rw [r_130_52 hL, n_156 hL, wq (x := N 1 t + k) (by omega) (by omega), hf, acall0_some, e1]
          refine ite_p c (ite_p rfl (ite_n (by omega) (ite_p (by omega) ?_)))
          by_cases q : trE T (stv N 1 t (N 1 t + k)) = 1
          · have g300 := trE_1 q
            have hS4 := hG g300
            have hNg : NB T (itN T (stv N 1 t (N 1 t + k)) (trG T (stv N 1 t (N 1 t + k)))) := trG_NB hN1 hB (trG_0 _ _) (Int.le_refl _)
            refine ite_p q (acall1_h (c12_crewOf_ok hM4 hNg hS4 t0 (by omega)) ?_)
            by_cases z : szf (ctn T (itN T (stv N 1 t (N 1 t + k)) (trG T (stv N 1 t (N 1 t + k)))) t) = 0
            · rw [if_pos (show emB T N t k = true by unfold emB; rw [decide_eq_true q, decide_eq_true z]; rfl)]
              exact ite_p z rfl
            · rw [if_neg (show ¬ emB T N t k = true by unfold emB; rw [decide_eq_true q, decide_eq_false z]; decide)]
              exact ite_n z rfl
          · rw [if_neg (show ¬ emB T N t k = true by unfold emB; rw [decide_eq_false q]; simp)]
            exact ite_n q rfl
        by_cases q : emB T N t k = true
        · have hEk : E = k := by
            by_cases w : k < E
            · rw [rno k k0 w] at q; cases q
            · omega
          refine Or.inl ⟨c, [130, t, N 1 t, E, 1], _, ?_, by omega, hFu, ⟨_, b2⟩, b3, Or.inr ⟨rfl, by omega⟩⟩
          rw [hb, if_pos q, p76 1 (Or.inr rfl), hEk]
          rfl
        · refine Or.inl ⟨c, [130, t, N 1 t, k + 1, 0], _, ?_, by omega, hFu, ⟨_, b2⟩, b3, Or.inl ⟨rfl, ?_⟩⟩
          · rw [hb, if_neg q, p76 0 (Or.inl rfl)]
            rfl
          · by_cases w : E = k
            · have := rat (by omega)
              rw [w] at this; exact absurd this q
            · omega
      · have he : k = E := by omega
        refine Or.inr ⟨(94, [130, t, N 1 t, E], τ), ?_, Nat.ne_of_beq_eq_false rfl, τ, rfl, hF, v, hSt⟩
        show c12_empties_b31 130 t (N 1 t) k 0 τ = _
        unfold c12_empties_b31
        rw [he]
        exact ite_n (by omega) rfl
    · refine Or.inr ⟨(94, [130, t, N 1 t, E], τ), ?_, Nat.ne_of_beq_eq_false rfl, τ, rfl, hF, v, hSt⟩
      show c12_empties_b31 130 t (N 1 t) E 1 τ = _
      unfold c12_empties_b31
      exact ite_p (by omega) (ite_n (by omega) rfl)
def aEmpties (T N : aH) (t : Int) : Int := if 0 ≤ t ∧ t < T 0 2 then emE T N t else -1
theorem c12_empties_q {T N : aH} {σ : aS} (hM : MI T σ) (hN : NB T N) (hX : NM N) (hS : MN T N σ) (t : Int) : AnsM T N σ (c12_empties 130 t σ) (aEmpties T N t) := by
  have hM0 := hM.t2
  have hS0 := hS.t2
  have hB := hM.2.2
  have h4 := hB.2.2.1
  have hL := hM0.1
  unfold c12_empties aEmpties
  refine AnsM.chk (c12_isTown_ok hM0 t) (fun ht => ?_) (fun _ => AnsM.k (st2_q σ) hS.t2 rfl)
  show AnsM T N σ (if aget (st2 σ) 130 52 = 0 then none else _) _
  rw [r_130_52 hL, n_156 hL, if_neg (by omega), if_pos (by omega), c12_keepNow_ok hL, acall0_some, hS0.2.1 t ht.1 (by omega)]
  obtain ⟨τ, h1, hF, v, hSv⟩ := em_loop (σ := kpt (st2 σ)) hM0.kp hN hX hS0.kp (fun j j0 j1 => by rw [kpt_i j0 j1, kpt_155]) ht.1 ht.2
  have hM2 := hM0.kp.ee hF
  show AnsM T N σ (c12_empties_l31 130 t (N 1 t) 0 0 (kpt (st2 σ))) _
  unfold c12_empties_l31
  rw [h1]
  show AnsM T N σ (c12_empties_p93 130 t (N 1 t) (emE T N t) τ) _
  unfold c12_empties_p93
  rw [r_130_52 hM2.1, n_156 hM2.1, if_neg (by omega), if_pos (by omega)]
  have hS3 := hSv.st1 t (N 1 t)
  rw [stv_v, stv_id] at hS3
  have f3 : Fr wee τ (aput τ 156 t (N 1 t)) := (Fr.rf _ _).put _ rfl
  exact AnsM.k ((st2_q σ).tr (((kpt_F _).mono rfl).tr ((hF.tr f3).mono rfl))) hS3 rfl
/-! odds -/
def wo2 : List (Int × List Int) := [(155, []), (157, []), (158, []), (130, [54, 55, 56, 58, 62, 63, 64, 80, 82])]
theorem od_months {T N : aH} {σ : aS} (hM : MI T σ) (hN : NB T N) (hS : MN T N σ) {c m : Int} (hc : aget σ 130 82 = c) (c0 : 0 ≤ c) (c1 : c ≤ 2147483647) (m0 : 0 ≤ m) (m1 : m ≤ 60) (t n st x i : Int) :
    ∃ τ, aloop 82 (aU8 c12_odds_b81) aBig [130, t, n, m, st, x, i, 0] σ = some (99, [130, t, n, m, st, x, i], τ) ∧ MN T (mbK T N c m) τ ∧ aget τ 130 82 = moS T N c m ∧ Fr wmo σ τ := by
  have hB := hM.2.2
  have hal := al_I (c := 82) (B := aU8 c12_odds_b81) (n := m) (i := 0) (vs := [130, t, n, m, st, x, i, 0]) (σ := σ)
    (fun k vs τ => 0 ≤ k ∧ vs = [130, t, n, m, st, x, i, k] ∧ MN T (mbK T N c k) τ ∧ aget τ 130 82 = moS T N c k ∧ Fr wmo σ τ)
    (fun r => ∃ τ, r = (99, [130, t, n, m, st, x, i], τ) ∧ MN T (mbK T N c m) τ ∧ aget τ 130 82 = moS T N c m ∧ Fr wmo σ τ) (by omega) (by omega) ⟨Int.le_refl _, rfl, hS, hc, Fr.rf _ _⟩ ?_
  · obtain ⟨r, hr, τ, rfl, h1, h2, h3⟩ := hal
    exact ⟨τ, hr, h1, h2, h3⟩
  · rintro k vs τ hk ⟨k0, rfl, hSt, h82, hF⟩
    by_cases d : k < m
    · have hb := moS_bd T N c0 c1 k0
      obtain ⟨υ, h1, h2, h3, h5⟩ := c12_month_ok (wmo_MI hM hF) (mbK_NB hN hB c (k := k)) hSt h82 hb.1 hb.2
      refine Or.inl ⟨d, [130, t, n, m, st, x, i, k + 1], υ, ?_, by omega, rfl, by rw [mbK_s k0]; exact h2, ?_, hF.tr h5⟩
      · show c12_odds_b81 130 t n m st x i k τ = _
        unfold c12_odds_b81
        rw [h1, acall0_some, wq (by omega) (by omega)]
        exact ite_p d rfl
      · rw [h3]; exact (moK_s (T := T) (N := N) (c := c) k0).2.symm
    · have hke : k = m := by omega
      subst hke
      refine Or.inr ⟨(99, [130, t, n, k, st, x, i], τ), ?_, Nat.ne_of_beq_eq_false rfl, τ, rfl, hSt, h82, hF⟩
      show c12_odds_b81 130 t n k st x i k τ = _
      unfold c12_odds_b81
      exact ite_n (by omega) rfl
/-- back to the start of a draw -/
theorem od_back {T N : aH} {σ τ : aS} (hB : TB T) (hS : MN T N σ) (hF : Fr wmo (kpt σ) τ) : MN T N (aput (apf τ 155 (aget τ 162) 25) 130 80 (N 3 0)) := by
  have h5 := hB.2.1
  have h4 := hB.2.2.1
  have g : ∀ x j, wm [(156, []), (144, []), (130, [81, 59, 60, 61])] x j = true → aget τ x j = aget σ x j := fun x j hx => by
    have a := hF.g (wdj_spec (l := [(156, []), (144, []), (130, [81, 59, 60, 61])]) (by decide +kernel) x j hx)
    have b := (kpt_F σ).g (wdj_spec (l := [(156, []), (144, []), (130, [81, 59, 60, 61])]) (by decide +kernel) x j hx)
    exact a.trans b
  refine ⟨?_, ?_, ?_, ?_, ?_, ?_, ?_⟩
  · intro s p a b c d
    rw [ag_x (by omega), apf_i (by omega) (by omega), hF.g rfl, kpt_i (by omega) (by omega)]; exact hS.1 s p a b c d
  · intro t a b; rw [ag_x (by omega), apf_x (by omega), g 156 _ rfl]; exact hS.2.1 t a b
  · intro t a b; rw [ag_x (by omega), apf_x (by omega), g 144 _ rfl]; exact hS.2.2.1 t a b
  · rw [ag_s]
  · rw [ag_j (by omega), apf_x (by omega), g 130 81 rfl]; exact hS.2.2.2.2.1
  · rw [ag_j (by omega), apf_x (by omega), g 130 59 rfl]; exact hS.2.2.2.2.2.1
  · rw [ag_j (by omega), apf_x (by omega), g 130 60 rfl, ag_j (by omega), apf_x (by omega), g 130 61 rfl]; exact hS.2.2.2.2.2.2
theorem ctn_mb (T N : aH) (c : Int) {k : Int} (k0 : 0 ≤ k) (p : Int) : ctn T (moK T N c k) p = ctn T (mbK T N c k) p := by
  rw [(mbK_mo T N c k0).1, ctn_stv (by omega)]
theorem od_loop {T N : aH} {σ : aS} (hM : MI T σ) (hN : NB T N) (hS : MN T N σ) {t n m c : Int} (t0 : 0 ≤ t) (t1 : t < T 0 2) (c0 : 0 ≤ c) (c1 : c ≤ 2147483647) (n0 : 0 ≤ n) (n1 : n ≤ 20) (m0 : 0 ≤ m) (m1 : m ≤ 60) :
    ∃ τ, aloop 63 (aU7 c12_odds_b62) aBig [130, t, n, m, N 3 0, 0, 0] (aput (kpt σ) 130 82 c) = some (123, [130, N 3 0, odK T N t m c n], τ) ∧ Fr wmo (kpt σ) τ := by
  have hB := hM.2.2
  have h4 := hB.2.2.1
  have hal := al_I (c := 63) (B := aU7 c12_odds_b62) (n := n) (i := 0) (vs := [130, t, n, m, N 3 0, 0, 0]) (σ := aput (kpt σ) 130 82 c)
    (fun k vs τ => 0 ≤ k ∧ vs = [130, t, n, m, N 3 0, odK T N t m c k, k] ∧ Fr wmo (kpt σ) τ ∧ aget τ 130 82 = odS T N t m c k)
    (fun r => ∃ τ, r = (123, [130, N 3 0, odK T N t m c n], τ) ∧ Fr wmo (kpt σ) τ) (by omega) (by omega) ⟨Int.le_refl _, rfl, (Fr.rf _ _).put _ rfl, ag_s _ _ _ _⟩ ?_
  · obtain ⟨r, hr, τ, rfl, h1⟩ := hal
    exact ⟨τ, hr, h1⟩
  · rintro k vs τ hk ⟨k0, rfl, hF, h82⟩
    have hMt := wmo_MI hM.kp hF
    obtain ⟨⟨s0, s1⟩, q0, q1⟩ := odS_bd T N t m0 c0 c1 k0
    by_cases d : k < n
    · have hSb := od_back hB hS hF
      have f1 : Fr wmo τ (aput (apf τ 155 (aget τ 162) 25) 130 80 (N 3 0)) := ((Fr.rf _ τ).apf (x := 155) _ 25 (fun _ => rfl)).put _ rfl
      have hMb := wmo_MI hMt f1
      have h82b : aget (aput (apf τ 155 (aget τ 162) 25) 130 80 (N 3 0)) 130 82 = odS T N t m c k := by rw [ag_j (by omega), apf_x (by omega)]; exact h82
      obtain ⟨υ, hl, hSu, hu, hFu⟩ := od_months hMb hN hSb h82b s0 s1 m0 m1 t n (N 3 0) (odK T N t m c k) k
      have hMu := wmo_MI hMb hFu
      obtain ⟨e1, e2⟩ := odK_s (T := T) (N := N) (t := t) (m := m) (c := c) k0
      have hcr := c12_crewOf_ok hMu (mbK_NB hN hB _ (k := m)) hSu t0 (by omega)
      rw [ctn_mb T N _ m0] at e1
      refine Or.inl ⟨d, [130, t, n, m, N 3 0, odK T N t m c (k + 1), k + 1], υ, ?_, by omega, rfl, hF.tr (f1.tr hFu), by rw [hu, e2]⟩
      rw [e1]
      show c12_odds_b62 130 t n m (N 3 0) (odK T N t m c k) k τ = _
      unfold c12_odds_b62
      refine ite_p d ?_
      rw [c12_takeKept_ok hMt.1, acall0_some]
      unfold c12_odds_l81
      rw [hl]
      show c12_odds_p98 130 t n m (N 3 0) (odK T N t m c k) k υ = _
      unfold c12_odds_p98
      refine acall1_h hcr ?_
      by_cases z : szf (ctn T (mbK T N (odS T N t m c k) m) t) = 0
      · rw [if_pos z, if_pos z]
        unfold c12_odds_p113
        rw [wq (x := odK T N t m c k + 1) (by omega) (by omega), wq (x := k + 1) (by omega) (by omega)]
      · rw [if_neg z, if_neg z]
        unfold c12_odds_p113
        rw [wq (x := odK T N t m c k + 0) (by omega) (by omega), wq (x := k + 1) (by omega) (by omega)]
    · have hke : k = n := by omega
      subst hke
      refine Or.inr ⟨(123, [130, N 3 0, odK T N t m c k], τ), ?_, Nat.ne_of_beq_eq_false rfl, τ, rfl, hF⟩
      show c12_odds_b62 130 t k m (N 3 0) (odK T N t m c k) k τ = _
      unfold c12_odds_b62
      exact ite_n (by omega) rfl
def aOdds (T N : aH) (t c n m : Int) : Int :=
  if 0 ≤ t ∧ t < T 0 2 then (if c < 0 then -1 else if 1 ≤ n ∧ n ≤ 20 then (if 1 ≤ m ∧ m ≤ 60 then odK T N t m c n else -1) else -1) else -1
theorem c12_odds_q {T N : aH} {σ : aS} (hM : MI T σ) (hN : NB T N) (hS : MN T N σ) (t : Int) {c : Int} (c1 : c ≤ 2147483647) (n m : Int) : AnsM T N σ (c12_odds 130 t c n m σ) (aOdds T N t c n m) := by
  have hM0 := hM.t2
  have hS0 := hS.t2
  have hB := hM.2.2
  unfold c12_odds aOdds
  refine AnsM.chk (c12_isTown_ok hM0 t) (fun ht => ?_) (fun _ => AnsM.k (st2_q σ) hS.t2 rfl)
  refine AnsM.ite (fun _ => AnsM.k (st2_q σ) hS.t2 rfl) (fun hc => ?_)
  refine AnsM.chk (c12_isIn_ok n 1 20 _) (fun hn => ?_) (fun _ => AnsM.k (st2_q σ) hS.t2 rfl)
  refine AnsM.chk (c12_isIn_ok m 1 60 _) (fun hm => ?_) (fun _ => AnsM.k (st2_q σ) hS.t2 rfl)
  rw [c12_keepNow_ok hM0.1, acall0_some]
  obtain ⟨τ, h1, hF⟩ := od_loop hM0 hN hS0 ht.1 ht.2 (show 0 ≤ c by omega) c1 (show 0 ≤ n by omega) hn.2 (show 0 ≤ m by omega) hm.2
  have hMt := wmo_MI hM0.kp hF
  have hSb := od_back hB hS0 hF
  have f1 : Fr wmo τ (aput (apf τ 155 (aget τ 162) 25) 130 80 (N 3 0)) := ((Fr.rf _ τ).apf (x := 155) _ 25 (fun _ => rfl)).put _ rfl
  have e80 : aget (st2 σ) 130 80 = N 3 0 := hS0.2.2.2.1
  rw [e80]
  show AnsM T N σ (c12_odds_l62 130 t n m (N 3 0) 0 0 (aput (kpt (st2 σ)) 130 82 c)) _
  unfold c12_odds_l62
  rw [h1]
  show AnsM T N σ (c12_odds_p122 130 (N 3 0) (odK T N t m c n) τ) _
  unfold c12_odds_p122
  rw [c12_takeKept_ok hMt.1, acall0_some]
  exact AnsM.k ((st2_q σ).tr (((kpt_F _).mono rfl).tr ((hF.tr f1).mono rfl))) hSb rfl
