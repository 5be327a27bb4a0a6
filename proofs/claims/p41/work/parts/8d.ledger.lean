/-! the class's half of whole's part of this name -/
def wkl (x j : Int) : Prop := wkw x ∨ (x = 9 ∧ (j = 1 ∨ j = 5))
theorem wkl_kR : ∀ q ∈ kR, ¬ wkl q.1 q.2.1 := by
  have h : (kR.all fun q => !(decide (q.1 = 9 ∧ (q.2.1 = 1 ∨ q.2.1 = 5)))) = true := by decide +kernel
  intro q hq hw
  rcases hw with hw | hw
  · exact wkw_kR q hq hw
  · have h1 := List.all_eq_true.mp h q hq
    rw [decide_eq_true hw] at h1; cases h1
theorem CQ.fl {pl : Int} {T : aH} {P : Int → Int → Prop} {σ τ : aS} (h : CQ pl T σ) (hF : Fp P σ τ) (hP : ∀ x j, P x j → wkl x j) : CQ pl T τ := by
  obtain ⟨hL, hp, hT, hB⟩ := h
  refine ⟨(hF.mono hP).LR wkl_kR hL, hp, hT.c2 (fun x j hx => hF.g (fun q => ?_)), hB⟩
  have := hP x j q
  unfold ctp at hx
  unfold wkl wkw at this
  rcases hp with rfl | rfl <;> omega
theorem q_crewOfNumber {pl : Int} {T : aH} {σ : aS} (hC : CQ pl T σ) (h95 : aget σ 9 5 = pl) (hG : ∀ s, 0 ≤ s → s < 5 → aget σ 13 s = wtf T s) {n : Int} (n0 : 0 ≤ n) (n1 : n < crw T) : c3_crewOfNumber 9 n σ = some (0, [pk5 (crf T n)], σ) := by
  have hso := q_sorts hC
  obtain ⟨hL, hp, hT, hB⟩ := hC
  have h5 := hB.2.1
  have hcl := crw_le hB
  obtain ⟨hf, -⟩ := crf_BF hB n0 n1
  have hb7 := hf.b7 hB
  have hpk := pk5_bd hb7
  have hnn : ∀ k : Int, 0 ≤ k → k < 5 → 0 ≤ (fun s => crf T n s * p2 (3 * s)) k := fun k k0 k1 => Int.mul_nonneg (hb7 k k0 k1).1 (by have := p2_pos (3 * k); omega)
  have hl := al_0 (c := 8) (B := aU4 c3_crewOfNumber_b7) (fun k => [9, if k < 5 then rkf T n k else rkf T n 4 % 1, sI (fun s => crf T n s * p2 (3 * s)) k, k]) (fun _ => σ) (n := T 0 1) (r := (0, [pk5 (crf T n)], σ)) (by omega) (by omega) ?_ ?_ (Nat.ne_of_beq_eq_false rfl)
  · unfold c3_crewOfNumber c3_crewOfNumber_l7
    simp only [sI_0] at hl
    rw [show (if (0 : Int) < 5 then rkf T n 0 else rkf T n 4 % 1) = n from rfl] at hl
    rw [hl]; rfl
  · intro k k0 k1
    have hrk := rkf_s hB n n0 k0 (show k < 5 by omega)
    have hw := hG k k0 (show k < 5 by omega)
    have hwp := wtf_pos hB k
    have h1 := c11_one_ok (s := k) σ k0 (by omega)
    have e1 := sI_le (f := fun s => crf T n s * p2 (3 * s)) (m := k + 1) (n := 5) (by omega) hnn
    rw [sI_s k0, pk5_sI] at e1
    have e2 := sI_nn (f := fun s => crf T n s * p2 (3 * s)) (n := k) (fun j j0 j1 => hnn j j0 (by omega))
    have e3 := hnn k k0 (by omega)
    try simp only at e1 e3
    have t1 : Int.tdiv (rkf T n k) (wtf T k) = crf T n k := by rw [Int.tdiv_eq_ediv_of_nonneg hrk.1, hrk.2.2.1]
    have t2 : Int.tmod (rkf T n k) (wtf T k) = (if k + 1 < 5 then rkf T n (k + 1) else rkf T n 4 % 1) := by
      rw [Int.tmod_eq_emod_of_nonneg hrk.1]
      by_cases c : k < 4
      · rw [if_pos (by omega)]; exact hrk.2.2.2 c
      · rw [if_neg (by omega), show k = 4 by omega]; rfl
    have cb := hb7 k k0 (by omega)
    rw [if_pos (show k < 5 by omega), ← t2]
    by_cases hj : (1 : Int) < wtf T k
    · simp (disch := omega) only [aU4, c3_crewOfNumber_b7, jmax, ↓reduceIte, acall1_some, acall0_some, q_lt, q_nlt, q_le, q_nle, q_eq, q_ne, q_01, true_or, or_true, false_or, or_false, false_and, and_false, and_self, and_true, true_and, wq, wQ, alen_aput, ag_s, ag_x, ag_j, ag_e, r_8_8 hL, r_9_0 hL, r_9_2 hL, r_9_3 hL, r_9_4 hL, n_10 hL, n_11 hL, n_12 hL, n_13 hL, h95, hso, hw, h1, t1, sI_s]
    · have hwe : wtf T k = 1 := by omega
      rw [hwe] at t1 t2 hw ⊢
      simp (disch := omega) only [aU4, c3_crewOfNumber_b7, jmax, ↓reduceIte, acall1_some, acall0_some, q_lt, q_nlt, q_le, q_nle, q_eq, q_ne, q_01, true_or, or_true, false_or, or_false, false_and, and_false, and_self, and_true, true_and, wq, wQ, alen_aput, ag_s, ag_x, ag_j, ag_e, r_8_8 hL, r_9_0 hL, r_9_2 hL, r_9_3 hL, r_9_4 hL, n_10 hL, n_11 hL, n_12 hL, n_13 hL, h95, hso, hw, h1, t1, sI_s]
  · simp (disch := omega) only [aU4, c3_crewOfNumber_b7, ↓reduceIte, acall1_some, acall0_some, q_lt, q_nlt, q_le, q_nle, q_eq, q_ne, q_01, true_or, or_true, false_or, or_false, false_and, and_false, and_self, and_true, true_and, wq, wQ, alen_aput, ag_s, ag_x, ag_j, ag_e, h95, hso]
    rw [pk5_s T hB hf]
/-- the weights going down, the number of crews below them -/
def wx (T : aH) (s : Int) : Int := if s = -1 then crw T else wtf T s
theorem wx_s {T : aH} {s : Int} (s0 : 0 ≤ s) (s1 : s < 5) : wx T (s - 1) = wx T s * (hsf T s + 1) := by
  rcases cs5 s0 s1 with rfl | rfl | rfl | rfl | rfl
  · show crw T = wt0 T * (hsf T 0 + 1); unfold crw; rw [Int.mul_comm]
  · show wt0 T = wt1 T * (hsf T 1 + 1); unfold wt0; rw [Int.mul_comm]
  · show wt1 T = wt2 T * (hsf T 2 + 1); unfold wt1; rw [Int.mul_comm]
  · show wt2 T = wt3 T * (hsf T 3 + 1); unfold wt2; rw [Int.mul_comm]
  · show wt3 T = 1 * (hsf T 4 + 1); unfold wt3; rw [Int.one_mul]
theorem wx_bd {T : aH} (hB : TB T) {s : Int} (s0 : -1 ≤ s) (s1 : s < 5) : 1 ≤ wx T s ∧ wx T s ≤ 432 := by
  have h := crw_le hB
  have b0 := hsf_bd hB 0
  have b1 := hsf_bd hB 1
  have b2 := hsf_bd hB 2
  have b3 := hsf_bd hB 3
  obtain ⟨w3, w2, w1, w0, wc⟩ := wt_pos hB
  have l : ∀ a w : Int, 0 ≤ a → 1 ≤ w → w ≤ (a + 1) * w := fun a w a0 hw => by
    rw [Int.add_mul, Int.one_mul]
    have := Int.mul_nonneg a0 (show (0 : Int) ≤ w by omega)
    omega
  have l0 : wt0 T ≤ crw T := l _ _ b0.1 w0
  have l1 : wt1 T ≤ wt0 T := l _ _ b1.1 w1
  have l2 : wt2 T ≤ wt1 T := l _ _ b2.1 w2
  have l3 : wt3 T ≤ wt2 T := l _ _ b3.1 w3
  unfold wx wtf
  repeat' split
  all_goals omega
/-- rows done -/
def DR (T : aH) (t n : Int) (τ : aS) : Prop := ∀ u m, 0 ≤ u → u < T 0 2 → 0 ≤ m → m < crw T → (u < t ∨ (u = t ∧ m < n)) → aget τ 10 (432 * u + m) = gvn T u (crf T m) ∧
  ∀ s, 0 ≤ s → s < T 0 1 → aget τ 11 ((432 * u + m) * 5 + s) = lik T u (crf T m) s ∧ aget τ 12 ((432 * u + m) * 5 + s) = rul T u (crf T m) s
def fwo (pl x j : Int) : Prop := x = 10 ∨ x = 11 ∨ x = 12 ∨ x = 13 ∨ x = pl + 8 ∨ x = pl + 12 ∨ (x = 9 ∧ (j = 1 ∨ j = 5))
theorem fwo_w {pl : Int} (hp : pl = 90 ∨ pl = 110) (x j : Int) (h : fwo pl x j) : wkl x j := by unfold fwo at h; unfold wkl wkw; omega
def WG (T : aH) (σ : aS) : Prop := (∀ s, 0 ≤ s → s < 5 → aget σ 13 s = wtf T s) ∧ aget σ 9 1 = crw T
theorem wko_w {pl : Int} {T : aH} {σ : aS} (hC : CQ pl T σ) (h95 : aget σ 9 5 = pl) (h91 : aget σ 9 1 = 1) :
    ∃ τ, aloop 13 (aU2 c3_workOut_b12) aBig [9, 4] σ = some (68, [9], τ) ∧ Fp (fun x j => x = 13 ∨ (x = 9 ∧ j = 1)) σ τ ∧ WG T τ := by
  have hp := hC.2.1
  have hB := hC.2.2.2
  have h5 := hB.2.1
  have hw : ∀ x j : Int, (x = 13 ∨ (x = 9 ∧ j = 1)) → wkl x j := fun x j e => by unfold wkl wkw; omega
  have hal := al_I (c := 13) (B := aU2 c3_workOut_b12) (n := 5) (i := 0) (vs := [9, 4]) (σ := σ)
    (fun k vs τ => vs = [9, 4 - k] ∧ 0 ≤ k ∧ Fp (fun x j => x = 13 ∨ (x = 9 ∧ j = 1)) σ τ ∧ aget τ 9 1 = wx T (4 - k) ∧ ∀ s, 4 - k < s → s < 5 → aget τ 13 s = wtf T s)
    (fun r => ∃ τ, r = (68, [9], τ) ∧ Fp (fun x j => x = 13 ∨ (x = 9 ∧ j = 1)) σ τ ∧ WG T τ)
    (by omega) (by omega) ⟨rfl, Int.le_refl _, Fp.rf _ _, h91, fun s s0 s1 => by omega⟩ ?_
  · obtain ⟨r, hr, τ, rfl, h1, h2⟩ := hal
    exact ⟨τ, hr, h1, h2⟩
  · rintro k vs τ k1 ⟨rfl, k0, hF, e1, hs⟩
    have hCt := hC.fl hF hw
    have hL := hCt.1
    have g95 : aget τ 9 5 = pl := by rw [hF.g (by omega), h95]
    by_cases c : k < 5
    · have wb := wx_bd hB (s := 4 - k) (by omega) (by omega)
      have wb2 := wx_bd hB (s := 4 - k - 1) (by omega) (by omega)
      have ws := wx_s (T := T) (s := 4 - k) (by omega) (by omega)
      have hb := hsf_bd hB (4 - k)
      have hC2 := hCt.put (x := 13) (4 - k) (wx T (4 - k)) (by unfold wkw; omega)
      have hso := q_sorts hC2
      have fr := (hF.put (x := 13) (j := 4 - k) (wx T (4 - k)) (by omega)).put (x := 9) (j := 1) (wx T (4 - k - 1)) (by omega)
      have eW : wx T (4 - k) = wtf T (4 - k) := if_neg (by omega)
      refine Or.inl ⟨c, [9, 4 - (k + 1)], aput (aput τ 13 (4 - k) (wx T (4 - k))) 9 1 (wx T (4 - k - 1)), ?_, rfl, by omega, fr, ?_, fun s s0 s1 => ?_⟩
      · by_cases d : 4 - k < T 0 1
        · have hfg := q_figure hC2 (s := 4 - k) (w := 0) (by omega) d (by omega) (by omega)
          rw [Int.add_zero] at hfg
          have eh : T 2 (4 * (4 - k)) = hsf T (4 - k) := (hsf_in (by omega) d).symm
          rw [eh] at hfg
          rw [ws] at wb2 ⊢
          simp (disch := omega) only [aU2, c3_workOut_b12, c3_workOut_p57, ↓reduceIte, acall1_some, acall0_some, q_lt, q_nlt, q_le, q_nle, q_eq, q_ne, q_01, true_or, or_true, false_or, or_false, false_and, and_false, and_self, and_true, true_and, wq, wQ, alen_aput, ag_s, ag_x, ag_j, ag_e, r_8_8 hL, r_9_0 hL, r_9_2 hL, r_9_3 hL, r_9_4 hL, n_10 hL, n_11 hL, n_12 hL, n_13 hL, e1, g95, hso, hfg]
          rw [show 4 - k + (-1) = 4 - (k + 1) by omega]
        · have eh : hsf T (4 - k) = 0 := if_neg (by omega)
          rw [ws, eh] at wb2 ⊢
          simp (disch := omega) only [aU2, c3_workOut_b12, c3_workOut_p57, ↓reduceIte, acall1_some, acall0_some, q_lt, q_nlt, q_le, q_nle, q_eq, q_ne, q_01, true_or, or_true, false_or, or_false, false_and, and_false, and_self, and_true, true_and, wq, wQ, alen_aput, ag_s, ag_x, ag_j, ag_e, r_8_8 hL, r_9_0 hL, r_9_2 hL, r_9_3 hL, r_9_4 hL, n_10 hL, n_11 hL, n_12 hL, n_13 hL, e1, g95, hso]
          rw [show 4 - k + (-1) = 4 - (k + 1) by omega, Int.zero_add]
      · rw [ag_s, show 4 - k - 1 = 4 - (k + 1) by omega]
      · rw [ag_x (by omega)]
        by_cases d : s = 4 - k
        · rw [d, ag_s, eW]
        · rw [ag_j d]; exact hs s (by omega) s1
    · have hk : k = 5 := by omega
      subst hk
      refine Or.inr ⟨(68, [9], τ), ?_, Nat.ne_of_beq_eq_false rfl, τ, rfl, hF, fun s s0 s1 => hs s (by omega) s1, e1⟩
      simp (disch := omega) only [aU2, c3_workOut_b12, ↓reduceIte, acall1_some, acall0_some, q_lt, q_nlt, q_le, q_nle, q_eq, q_ne, q_01, true_or, or_true, false_or, or_false, false_and, and_false, and_self, and_true, true_and, wq, wQ, alen_aput, ag_s, ag_x, ag_j, ag_e]
/-- the state while rows are written -/
def WI (pl : Int) (T : aH) (t n : Int) (σ τ : aS) : Prop := Fp (fun x _ => x = 10 ∨ x = 11 ∨ x = 12 ∨ x = pl + 8 ∨ x = pl + 12) σ τ ∧ DR T t n τ
theorem wko_in {pl : Int} {T : aH} {σ : aS} (hC : CQ pl T σ) (h95 : aget σ 9 5 = pl) (hW : WG T σ) {t : Int} (t0 : 0 ≤ t) (t1 : t < T 0 2) {υ : aS} (hI : WI pl T t 0 σ υ) :
    ∃ τ, c3_workOut_l96 9 t 0 υ = some (84, [9, t + 1], τ) ∧ WI pl T (t + 1) 0 σ τ := by
  have hp := hC.2.1
  have hB := hC.2.2.2
  have h5 := hB.2.1
  have h4 := hB.2.2.1
  have hcl := crw_le hB
  have hcp := (wt_pos hB).2.2.2.2
  have hw : ∀ x j : Int, (x = 10 ∨ x = 11 ∨ x = 12 ∨ x = pl + 8 ∨ x = pl + 12) → wkw x := fun x j e => by unfold wkw; omega
  have hal := al_I (c := 97) (B := aU3 c3_workOut_b96) (n := crw T) (i := 0) (vs := [9, t, 0]) (σ := υ)
    (fun k vs τ => vs = [9, t, k] ∧ 0 ≤ k ∧ WI pl T t k σ τ)
    (fun r => ∃ τ, r = (128, [9, t], τ) ∧ WI pl T t (crw T) σ τ)
    (by omega) (by omega) ⟨rfl, Int.le_refl _, hI⟩ ?_
  · obtain ⟨r, hr, τ, rfl, hF, hD⟩ := hal
    refine ⟨τ, ?_, hF, fun u m u0 u1 m0 m1 h => hD u m u0 u1 m0 m1 (by omega)⟩
    simp (disch := omega) only [c3_workOut_l96, hr, abind, c3_workOut_d96, aU2, c3_workOut_p127, ↓reduceIte, acall1_some, acall0_some, q_lt, q_nlt, q_le, q_nle, q_eq, q_ne, q_01, true_or, or_true, false_or, or_false, false_and, and_false, and_self, and_true, true_and, wq, wQ, alen_aput, ag_s, ag_x, ag_j, ag_e]
  · rintro k vs τ k1 ⟨rfl, k0, hF, hD⟩
    have hCt := hC.fp hF hw
    have g95 : aget τ 9 5 = pl := by rw [hF.g (by omega), h95]
    have g91 : aget τ 9 1 = crw T := by rw [hF.g (by omega), hW.2]
    by_cases c : k < crw T
    · have hn := q_crewOfNumber hCt g95 (fun s s0 s1 => by rw [hF.g (by omega)]; exact hW.1 s s0 s1) k0 c
      obtain ⟨hbf, -⟩ := crf_BF hB k0 c
      obtain ⟨φ, hwr, hF2, e10, er⟩ := c3_write_ok hCt g95 (B7.of hB hbf) t0 t1 (r := t * 432 + k) (by omega) (by omega)
      refine Or.inl ⟨c, [9, t, k + 1], φ, ?_, rfl, by omega, hF.tr (hF2.mono (fun x j e => by unfold fwr at e; omega)), fun u m u0 u1 m0 m1 h => ?_⟩
      · simp (disch := omega) only [aU3, c3_workOut_b96, ↓reduceIte, acall1_some, acall0_some, q_lt, q_nlt, q_le, q_nle, q_eq, q_ne, q_01, true_or, or_true, false_or, or_false, false_and, and_false, and_self, and_true, true_and, wq, wQ, alen_aput, ag_s, ag_x, ag_j, ag_e, g91, hn, hwr]
      · by_cases d : u = t ∧ m = k
        · rw [d.1, d.2, show 432 * t + k = t * 432 + k by omega]
          exact ⟨e10, er⟩
        · have hh := hD u m u0 u1 m0 m1 (by omega)
          rw [hF2.g (show ¬ fwr pl (t * 432 + k) 10 (432 * u + m) by unfold fwr; omega)]
          refine ⟨hh.1, fun s s0 s1 => ?_⟩
          rw [hF2.g (show ¬ fwr pl (t * 432 + k) 11 ((432 * u + m) * 5 + s) by unfold fwr; omega), hF2.g (show ¬ fwr pl (t * 432 + k) 12 ((432 * u + m) * 5 + s) by unfold fwr; omega)]
          exact hh.2 s s0 s1
    · have hk : k = crw T := by omega
      subst hk
      refine Or.inr ⟨(128, [9, t], τ), ?_, Nat.ne_of_beq_eq_false rfl, τ, rfl, hF, hD⟩
      simp (disch := omega) only [aU3, c3_workOut_b96, ↓reduceIte, acall1_some, acall0_some, q_lt, q_nlt, q_le, q_nle, q_eq, q_ne, q_01, true_or, or_true, false_or, or_false, false_and, and_false, and_self, and_true, true_and, wq, wQ, alen_aput, ag_s, ag_x, ag_j, ag_e, g91]
theorem wko_all {pl : Int} {T : aH} {σ : aS} (hC : CQ pl T σ) (h95 : aget σ 9 5 = pl) (hW : WG T σ) :
    ∃ τ, c3_workOut_l83 9 0 σ = some (0, [], τ) ∧ WI pl T (T 0 2) 0 σ τ := by
  have hp := hC.2.1
  have hB := hC.2.2.2
  have h4 := hB.2.2.1
  have hw : ∀ x j : Int, (x = 10 ∨ x = 11 ∨ x = 12 ∨ x = pl + 8 ∨ x = pl + 12) → wkw x := fun x j e => by unfold wkw; omega
  have hal := al_I (c := 84) (B := aU2 c3_workOut_b83) (n := T 0 2) (i := 0) (vs := [9, 0]) (σ := σ)
    (fun k vs τ => vs = [9, k] ∧ 0 ≤ k ∧ WI pl T k 0 σ τ)
    (fun r => ∃ τ, r = (0, [], τ) ∧ WI pl T (T 0 2) 0 σ τ)
    (by omega) (by omega) ⟨rfl, Int.le_refl _, Fp.rf _ _, fun u m u0 u1 m0 m1 h => by omega⟩ ?_
  · obtain ⟨r, hr, τ, rfl, h⟩ := hal
    refine ⟨τ, ?_, h⟩
    unfold c3_workOut_l83
    rw [hr]; rfl
  · rintro k vs τ k1 ⟨rfl, k0, hI⟩
    have hCt := hC.fp hI.1 hw
    have g95 : aget τ 9 5 = pl := by rw [hI.1.g (by omega), h95]
    by_cases c : k < T 0 2
    · obtain ⟨φ, h1, h2⟩ := wko_in hC h95 hW k0 c hI
      refine Or.inl ⟨c, [9, k + 1], φ, ?_, rfl, by omega, h2⟩
      simp (disch := omega) only [aU2, c3_workOut_b83, ↓reduceIte, acall1_some, acall0_some, q_lt, q_nlt, q_le, q_nle, q_eq, q_ne, q_01, true_or, or_true, false_or, or_false, false_and, and_false, and_self, and_true, true_and, wq, wQ, alen_aput, ag_s, ag_x, ag_j, ag_e, g95, q_alone hCt, h1]
    · have hk : k = T 0 2 := by omega
      subst hk
      refine Or.inr ⟨(0, [], τ), ?_, Nat.ne_of_beq_eq_false rfl, τ, rfl, hI⟩
      simp (disch := omega) only [aU2, c3_workOut_b83, ↓reduceIte, acall1_some, acall0_some, q_lt, q_nlt, q_le, q_nle, q_eq, q_ne, q_01, true_or, or_true, false_or, or_false, false_and, and_false, and_self, and_true, true_and, wq, wQ, alen_aput, ag_s, ag_x, ag_j, ag_e, g95, q_alone hCt]
theorem c3_workOut_ok {pl : Int} {T : aH} {σ : aS} (hC : CQ pl T σ) : ∃ τ, c3_workOut 9 pl σ = some (0, [], τ) ∧ Fp (fwo pl) σ τ ∧ aget τ 9 5 = pl ∧ LG T τ := by
  have hp := hC.2.1
  have hB := hC.2.2.2
  have hcl := crw_le hB
  have fr0 := ((Fp.rf (fwo pl) σ).put (x := 9) (j := 5) pl (by unfold fwo; omega)).put (x := 9) (j := 1) 1 (by unfold fwo; omega)
  have hC0 := hC.fl fr0 (fwo_w hp)
  obtain ⟨τ1, hr1, hF1, hW1⟩ := wko_w hC0 (by rw [ag_j (by omega), ag_s]) (ag_s _ _ _ _)
  have fr1 := fr0.tr (hF1.mono (fun x j e => show fwo pl x j by unfold fwo; omega))
  have hC1 := hC.fl fr1 (fwo_w hp)
  have g95 : aget τ1 9 5 = pl := by rw [hF1.g (by omega), ag_j (by omega), ag_s]
  have eself : aput τ1 9 1 (crw T) = τ1 := ap_self hW1.2
  obtain ⟨τ2, hr2, hF2, hD⟩ := wko_all hC1 g95 hW1
  refine ⟨τ2, ?_, fr1.tr (hF2.mono (fun x j e => show fwo pl x j by unfold fwo; omega)), by rw [hF2.g (by omega)]; exact g95, ⟨⟨?_, ?_, ?_, ?_, ?_, ?_⟩, fun t f t0 t1 hf => ?_⟩⟩
  · unfold c3_workOut c3_workOut_l12
    rw [hr1]
    have e91 := hW1.2
    simp only [abind, c3_workOut_d12, if_true, aU1, c3_workOut_p67, jmin, e91]
    rcases (show crw T < 432 ∨ crw T = 432 by omega) with h | h
    · rw [if_neg (by omega), acall1_some, eself]; exact hr2
    · rw [if_neg (by omega), acall1_some, eself]; exact hr2
  · rw [hF2.g (by omega)]; exact hW1.1 0 (by omega) (by omega)
  · rw [hF2.g (by omega)]; exact hW1.1 1 (by omega) (by omega)
  · rw [hF2.g (by omega)]; exact hW1.1 2 (by omega) (by omega)
  · rw [hF2.g (by omega)]; exact hW1.1 3 (by omega) (by omega)
  · rw [hF2.g (by omega)]; exact hW1.1 4 (by omega) (by omega)
  · rw [hF2.g (by omega)]; exact hW1.2
  · have nb := nuf_bd hB hf
    have e : crf T (nuf T f) = f := funext (crf_nuf hB hf)
    have h := hD t (nuf T f) t0 t1 nb.1 nb.2 (Or.inl t1)
    rw [e] at h
    exact h
