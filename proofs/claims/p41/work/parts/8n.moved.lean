/-! the class's half of whole's part of this name -/
theorem Fp.apf {P : Int → Int → Prop} {σ τ : aS} (h : Fp P σ τ) {x : Int} (f : Int → Int) (n : Int) (hw : ∀ k, P x k) : Fp P σ (apf τ x f n) := by
  refine ⟨h.1, h.2.1, fun y k hk => ?_⟩
  rw [apf_g, if_neg (fun q => hk (by rw [q.1]; exact hw k))]
  exact h.2.2 y k hk
theorem jfill_ok {σ : aS} {x n : Int} (v : Int) (hn : alen σ x = n) (n0 : 0 ≤ n) (n1 : n < 1000000) : jfill x v σ = some (0, [], apf σ x (fun _ => v) n) := by
  have hl := al_0 (c := 6) (B := aU4 jfill_b5) (fun k => [x, v, k, n]) (fun k => apf σ x (fun _ => v) k) (n := n) (r := (0, [], apf σ x (fun _ => v) n)) n0 n1 ?_ ?_ (Nat.ne_of_beq_eq_false rfl)
  · unfold jfill jfill_l5
    rw [apf_0] at hl
    rw [hn, hl]; rfl
  · intro k k0 k1
    have e := apf_s (σ := σ) (x := x) (f := fun _ => v) k0
    simp (disch := omega) only [aU4, jfill_b5, ↓reduceIte, acall1_some, acall0_some, q_lt, q_nlt, q_le, q_nle, q_eq, q_ne, q_01, true_or, or_true, false_or, or_false, false_and, and_false, and_self, and_true, true_and, wq, wQ, alen_aput, ag_s, ag_x, ag_j, ag_e, apf_n, hn]
    rw [e]
  · simp (disch := omega) only [aU4, jfill_b5, ↓reduceIte, acall1_some, acall0_some, q_lt, q_nlt, q_le, q_nle, q_eq, q_ne, q_01, true_or, or_true, false_or, or_false, false_and, and_false, and_self, and_true, true_and, wq, wQ, alen_aput, ag_s, ag_x, ag_j, ag_e]
theorem f18_kR {pl : Int} (hp : pl = 90 ∨ pl = 110) : ∀ q ∈ kR, ¬ q.1 = pl + 18 := by
  have h : (kR.all fun q => !(decide (q.1 = 108 ∨ q.1 = 128))) = true := by decide +kernel
  intro q hq hw
  have h1 := List.all_eq_true.mp h q hq
  rw [decide_eq_true (show q.1 = 108 ∨ q.1 = 128 by omega)] at h1; cases h1
theorem CQ.f18 {pl : Int} {T : aH} {σ τ : aS} (h : CQ pl T σ) (hF : Fp (fun x _ => x = pl + 18) σ τ) : CQ pl T τ := by
  obtain ⟨hL, hp, hT, hB⟩ := h
  refine ⟨hF.LR (P := fun x _ => x = pl + 18) (f18_kR hp) hL, hp, hT.c2 (fun x j hx => hF.g (fun q => ?_)), hB⟩
  unfold ctp at hx
  omega
def vl (pl : Int) (σ : aS) (x y : Int) : Int := aget σ (pl + 18) (y * 6 + x)
def tkw (T : aH) (t x y : Int) : Int := bI (T 14 (6 * t + y)) x
theorem tkw_ok (T : aH) (t : Int) : wok (tkw T t) := fun x y => bI_01 _ _
theorem TB.gr {T : aH} (hB : TB T) {t : Int} (t0 : 0 ≤ t) (t1 : t < T 0 2) : (0 ≤ T 12 t ∧ T 12 t ≤ 6) ∧ (0 ≤ T 13 t ∧ T 13 t ≤ 6) ∧ ∀ y, 0 ≤ y → y < T 13 t → 0 ≤ T 14 (6 * t + y) ∧ T 14 (6 * t + y) < 64 := by
  have h := hB.2.2.2.2.2.2.2.2.2 t t0 t1
  refine ⟨h.2.2.2.1, h.2.2.2.2.1, fun y y0 y1 => ?_⟩
  have a := h.2.2.2.2.2.2 y y0 y1
  have b := p2_mono h.2.2.2.1.1 h.2.2.2.1.2
  rw [show p2 6 = 64 from rfl] at b
  omega
theorem c1_hasPlace_ok {pl : Int} {T : aH} {σ : aS} (hC : CQ pl T σ) {t : Int} (t0 : 0 ≤ t) (t1 : t < T 0 2) (x y : Int) :
    c1_hasPlace (pl + 14) t x y σ = some (0, [if 0 ≤ x ∧ x < T 12 t ∧ 0 ≤ y ∧ y < T 13 t then 1 else 0], σ) := by
  obtain ⟨hL, hp, hT, hB⟩ := hC
  have h4 := hB.2.2.1
  have e := hT.2.2.2.2.2.1 t t0 t1
  have e15 := e.2.2.2.2.1
  have e16 := e.2.2.2.2.2
  by_cases a : 0 ≤ x
  · by_cases b : x < T 12 t
    · by_cases c : 0 ≤ y
      · by_cases d : y < T 13 t
        · rw [if_pos ⟨a, b, c, d⟩]
          simp (disch := omega) only [c1_hasPlace, ↓reduceIte, acall1_some, acall0_some, q_lt, q_nlt, q_le, q_nle, q_eq, q_ne, q_01, true_or, or_true, false_or, or_false, false_and, and_false, and_self, and_true, true_and, wq, wQ, alen_aput, ag_s, ag_x, ag_j, ag_e, rg_0 hL hp, rg_1 hL hp, rg_2 hL hp, rg_3 hL hp, np_15 hL hp, np_16 hL hp, np_17 hL hp, np_18 hL hp, e15, e16]
        · rw [if_neg (fun q => d q.2.2.2)]
          simp (disch := omega) only [c1_hasPlace, ↓reduceIte, acall1_some, acall0_some, q_lt, q_nlt, q_le, q_nle, q_eq, q_ne, q_01, true_or, or_true, false_or, or_false, false_and, and_false, and_self, and_true, true_and, wq, wQ, alen_aput, ag_s, ag_x, ag_j, ag_e, rg_0 hL hp, rg_1 hL hp, rg_2 hL hp, rg_3 hL hp, np_15 hL hp, np_16 hL hp, np_17 hL hp, np_18 hL hp, e15, e16]
      · rw [if_neg (fun q => c q.2.2.1)]
        simp (disch := omega) only [c1_hasPlace, ↓reduceIte, acall1_some, acall0_some, q_lt, q_nlt, q_le, q_nle, q_eq, q_ne, q_01, true_or, or_true, false_or, or_false, false_and, and_false, and_self, and_true, true_and, wq, wQ, alen_aput, ag_s, ag_x, ag_j, ag_e, rg_0 hL hp, rg_1 hL hp, rg_2 hL hp, rg_3 hL hp, np_15 hL hp, np_16 hL hp, np_17 hL hp, np_18 hL hp, e15, e16]
    · rw [if_neg (fun q => b q.2.1)]
      simp (disch := omega) only [c1_hasPlace, ↓reduceIte, acall1_some, acall0_some, q_lt, q_nlt, q_le, q_nle, q_eq, q_ne, q_01, true_or, or_true, false_or, or_false, false_and, and_false, and_self, and_true, true_and, wq, wQ, alen_aput, ag_s, ag_x, ag_j, ag_e, rg_0 hL hp, rg_1 hL hp, rg_2 hL hp, rg_3 hL hp, np_15 hL hp, np_16 hL hp, np_17 hL hp, np_18 hL hp, e15, e16]
  · rw [if_neg (fun q => a q.1)]
    simp (disch := omega) only [c1_hasPlace, ↓reduceIte, acall1_some, acall0_some, q_lt, q_nlt, q_le, q_nle, q_eq, q_ne, q_01, true_or, or_true, false_or, or_false, false_and, and_false, and_self, and_true, true_and, wq, wQ, alen_aput, ag_s, ag_x, ag_j, ag_e, rg_0 hL hp, rg_1 hL hp, rg_2 hL hp, rg_3 hL hp, np_15 hL hp, np_16 hL hp, np_17 hL hp, np_18 hL hp, e15, e16]
theorem c1_movedAt_ok {pl : Int} {T : aH} {σ : aS} (hC : CQ pl T σ) {t : Int} (t0 : 0 ≤ t) (t1 : t < T 0 2) (x y : Int) :
    c1_movedAt (pl + 14) t x y σ = some (0, [gat (T 12 t) (T 13 t) (vl pl σ) x y], σ) := by
  have hh := c1_hasPlace_ok hC t0 t1 x y
  obtain ⟨hL, hp, hT, hB⟩ := hC
  have g := hB.gr t0 t1
  unfold gat
  by_cases c : 0 ≤ x ∧ x < T 12 t ∧ 0 ≤ y ∧ y < T 13 t
  · rw [if_pos c] at hh ⊢
    simp (disch := omega) only [c1_movedAt, hh, ↓reduceIte, acall1_some, acall0_some, q_lt, q_nlt, q_le, q_nle, q_eq, q_ne, q_01, true_or, or_true, false_or, or_false, false_and, and_false, and_self, and_true, true_and, wq, wQ, alen_aput, ag_s, ag_x, ag_j, ag_e, rg_0 hL hp, rg_1 hL hp, rg_2 hL hp, rg_3 hL hp, np_15 hL hp, np_16 hL hp, np_17 hL hp, np_18 hL hp]
    rfl
  · rw [if_neg c] at hh ⊢
    simp (disch := omega) only [c1_movedAt, hh, ↓reduceIte, acall1_some, acall0_some, q_lt, q_nlt, q_le, q_nle, q_eq, q_ne, q_01, true_or, or_true, false_or, or_false, false_and, and_false, and_self, and_true, true_and, wq, wQ, alen_aput, ag_s, ag_x, ag_j, ag_e]
theorem c1_isTaken_ok {pl : Int} {T : aH} {σ : aS} (hC : CQ pl T σ) {t : Int} (t0 : 0 ≤ t) (t1 : t < T 0 2) {x y : Int} (hi : inn (T 12 t) (T 13 t) x y) :
    c1_isTaken (pl + 14) t x y σ = some (0, [tkw T t x y], σ) := by
  obtain ⟨hL, hp, hT, hB⟩ := hC
  have h4 := hB.2.2.1
  have g := hB.gr t0 t1
  unfold inn at hi
  have gy := g.2.2 y (by omega) (by omega)
  have er := hT.2.2.2.2.2.2.2.2.2.2 t y t0 t1 (by omega) (by omega)
  have e6 : t * 6 + y = 6 * t + y := by omega
  have hb := bI_shr (x := T 14 (6 * t + y)) (k := x) gy.1 (by omega) (by omega) (by omega)
  have h01 := bI_01 (T 14 (6 * t + y)) x
  unfold tkw
  by_cases c : bI (T 14 (6 * t + y)) x = 0
  · simp (disch := omega) only [c1_isTaken, ↓reduceIte, acall1_some, acall0_some, q_lt, q_nlt, q_le, q_nle, q_eq, q_ne, q_01, true_or, or_true, false_or, or_false, false_and, and_false, and_self, and_true, true_and, wq, wQ, alen_aput, ag_s, ag_x, ag_j, ag_e, rg_0 hL hp, rg_1 hL hp, rg_2 hL hp, rg_3 hL hp, np_15 hL hp, np_16 hL hp, np_17 hL hp, np_18 hL hp, e6, er, hb, c]
  · rw [show bI (T 14 (6 * t + y)) x = 1 by omega] at hb ⊢
    simp (disch := omega) only [c1_isTaken, ↓reduceIte, acall1_some, acall0_some, q_lt, q_nlt, q_le, q_nle, q_eq, q_ne, q_01, true_or, or_true, false_or, or_false, false_and, and_false, and_self, and_true, true_and, wq, wQ, alen_aput, ag_s, ag_x, ag_j, ag_e, rg_0 hL hp, rg_1 hL hp, rg_2 hL hp, rg_3 hL hp, np_15 hL hp, np_16 hL hp, np_17 hL hp, np_18 hL hp, e6, er, hb]
/-- what stands in the places -/
def VB (pl W H : Int) (τ : aS) : Prop := ∀ x y, inn W H x y → 0 ≤ vl pl τ x y ∧ vl pl τ x y ≤ 1000
theorem jmin_mn (a b : Int) (σ : aS) : jmin a b σ = some (0, [mn a b], σ) := by
  unfold jmin mn
  split <;> rfl
theorem sp_cell {pl : Int} {T : aH} {σ : aS} (hC : CQ pl T σ) {t : Int} (t0 : 0 ≤ t) (t1 : t < T 0 2) {x y : Int} (hi : inn (T 12 t) (T 13 t) x y) (hV : VB pl (T 12 t) (T 13 t) σ) (fl : Int) :
    aU5 c1_spread_b17 [pl + 14, t, fl, y, x] σ = if gnr (T 12 t) (T 13 t) (vl pl σ) x y + tkw T t x y < vl pl σ x y
      then some (18, [pl + 14, t, 1, y, x + 1], aput σ (pl + 18) (y * 6 + x) (gnr (T 12 t) (T 13 t) (vl pl σ) x y + tkw T t x y))
      else some (18, [pl + 14, t, fl, y, x + 1], σ) := by
  have hL := hC.1
  have hp := hC.2.1
  have hB := hC.2.2.2
  have h4 := hB.2.2.1
  have g := hB.gr t0 t1
  have hi2 := hi
  unfold inn at hi2
  have e15 := (hC.2.2.1.2.2.2.2.2.1 t t0 t1).2.2.2.2.1
  have m1 := c1_movedAt_ok hC t0 t1 (x - 1) y
  have m2 := c1_movedAt_ok hC t0 t1 (x + 1) y
  have m3 := c1_movedAt_ok hC t0 t1 x (y - 1)
  have m4 := c1_movedAt_ok hC t0 t1 x (y + 1)
  have hk := c1_isTaken_ok hC t0 t1 hi
  have w01 := tkw_ok T t x y
  have nb : 0 ≤ gnr (T 12 t) (T 13 t) (vl pl σ) x y ∧ gnr (T 12 t) (T 13 t) (vl pl σ) x y ≤ 1000 := by
    obtain ⟨u, v, -, e⟩ := gnr_at (W := T 12 t) (H := T 13 t) (vl pl σ) x y
    rw [e]
    unfold gat
    by_cases c : 0 ≤ u ∧ u < T 12 t ∧ 0 ≤ v ∧ v < T 13 t
    · rw [if_pos c]; exact hV u v c
    · rw [if_neg c]; omega
  have r3 := rg_3 hL hp
  have n18 := np_18 hL hp
  have r0 := rg_0 hL hp
  have n15 := np_15 hL hp
  have hp97 : ∀ k, (k = 0 ∨ k = 1) → c1_spread_p97 k (gnr (T 12 t) (T 13 t) (vl pl σ) x y) (pl + 14) t fl y x σ = if gnr (T 12 t) (T 13 t) (vl pl σ) x y + k < vl pl σ x y
      then some (18, [pl + 14, t, 1, y, x + 1], aput σ (pl + 18) (y * 6 + x) (gnr (T 12 t) (T 13 t) (vl pl σ) x y + k))
      else some (18, [pl + 14, t, fl, y, x + 1], σ) := by
    intro k hk
    unfold c1_spread_p97 c1_spread_p133
    rw [r3, wq (x := y * 6) (by omega) (by omega), wq (x := y * 6 + x) (by omega) (by omega), wq (x := gnr (T 12 t) (T 13 t) (vl pl σ) x y + k) (by omega) (by omega), wq (x := x + 1) (by omega) (by omega), n18]
    refine ite_n (by omega) (ite_p (by omega) ?_)
    show (if gnr (T 12 t) (T 13 t) (vl pl σ) x y + k < vl pl σ x y then _ else _) = _
    by_cases c : gnr (T 12 t) (T 13 t) (vl pl σ) x y + k < vl pl σ x y
    · rw [if_pos c, if_pos c]
      exact ite_n (by omega) (ite_p (by omega) rfl)
    · rw [if_neg c, if_neg c]
  show c1_spread_b17 (pl + 14) t fl y x σ = _
  unfold c1_spread_b17 c1_spread_p74
  rw [r0, n15, e15, wq (x := x - 1) (by omega) (by omega), wq (x := x + 1) (by omega) (by omega), wq (x := y - 1) (by omega) (by omega), wq (x := y + 1) (by omega) (by omega)]
  refine ite_n (by omega) (ite_p (by omega) (ite_p (by omega) (acall1_h m1 (acall1_h m2 (acall1_h (jmin_mn _ _ _) (acall1_h m3 (acall1_h m4 (acall1_h (jmin_mn _ _ _) (acall1_h (jmin_mn _ _ _) (acall1_h hk ?_))))))))))
  by_cases z : tkw T t x y = 0
  · rw [z]
    exact ite_p rfl (hp97 0 (Or.inl rfl))
  · rw [show tkw T t x y = 1 by omega]
    exact ite_n (by omega) (hp97 1 (Or.inr rfl))
