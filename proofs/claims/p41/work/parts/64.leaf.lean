/-! the class's half of whole's part of this name -/
theorem rp_0 {σ : aS} (h : LR σ) {pl : Int} (hp : pl = 90 ∨ pl = 110) : aget σ pl 0 = pl + 1 := by rcases hp with rfl | rfl; exact r_90_0 h; exact r_110_0 h
theorem rp_1 {σ : aS} (h : LR σ) {pl : Int} (hp : pl = 90 ∨ pl = 110) : aget σ pl 1 = pl + 2 := by rcases hp with rfl | rfl; exact r_90_1 h; exact r_110_1 h
theorem rp_2 {σ : aS} (h : LR σ) {pl : Int} (hp : pl = 90 ∨ pl = 110) : aget σ pl 2 = pl + 3 := by rcases hp with rfl | rfl; exact r_90_2 h; exact r_110_2 h
theorem rp_3 {σ : aS} (h : LR σ) {pl : Int} (hp : pl = 90 ∨ pl = 110) : aget σ pl 3 = pl + 4 := by rcases hp with rfl | rfl; exact r_90_3 h; exact r_110_3 h
theorem rp_4 {σ : aS} (h : LR σ) {pl : Int} (hp : pl = 90 ∨ pl = 110) : aget σ pl 4 = pl + 5 := by rcases hp with rfl | rfl; exact r_90_4 h; exact r_110_4 h
theorem rp_5 {σ : aS} (h : LR σ) {pl : Int} (hp : pl = 90 ∨ pl = 110) : aget σ pl 5 = pl + 6 := by rcases hp with rfl | rfl; exact r_90_5 h; exact r_110_5 h
theorem rp_6 {σ : aS} (h : LR σ) {pl : Int} (hp : pl = 90 ∨ pl = 110) : aget σ pl 6 = pl + 7 := by rcases hp with rfl | rfl; exact r_90_6 h; exact r_110_6 h
theorem rp_7 {σ : aS} (h : LR σ) {pl : Int} (hp : pl = 90 ∨ pl = 110) : aget σ pl 7 = pl + 14 := by rcases hp with rfl | rfl; exact r_90_7 h; exact r_110_7 h
theorem rp_16 {σ : aS} (h : LR σ) {pl : Int} (hp : pl = 90 ∨ pl = 110) : aget σ pl 16 = pl + 19 := by rcases hp with rfl | rfl; exact r_90_16 h; exact r_110_16 h
theorem ru_0 {σ : aS} (h : LR σ) {pl : Int} (hp : pl = 90 ∨ pl = 110) : aget σ (pl + 7) 0 = pl + 8 := by rcases hp with rfl | rfl; exact r_97_0 h; exact r_117_0 h
theorem ru_2 {σ : aS} (h : LR σ) {pl : Int} (hp : pl = 90 ∨ pl = 110) : aget σ (pl + 7) 2 = pl + 9 := by rcases hp with rfl | rfl; exact r_97_2 h; exact r_117_2 h
theorem ru_3 {σ : aS} (h : LR σ) {pl : Int} (hp : pl = 90 ∨ pl = 110) : aget σ (pl + 7) 3 = pl + 10 := by rcases hp with rfl | rfl; exact r_97_3 h; exact r_117_3 h
theorem ru_4 {σ : aS} (h : LR σ) {pl : Int} (hp : pl = 90 ∨ pl = 110) : aget σ (pl + 7) 4 = pl + 11 := by rcases hp with rfl | rfl; exact r_97_4 h; exact r_117_4 h
theorem ru_5 {σ : aS} (h : LR σ) {pl : Int} (hp : pl = 90 ∨ pl = 110) : aget σ (pl + 7) 5 = pl + 12 := by rcases hp with rfl | rfl; exact r_97_5 h; exact r_117_5 h
theorem ru_6 {σ : aS} (h : LR σ) {pl : Int} (hp : pl = 90 ∨ pl = 110) : aget σ (pl + 7) 6 = pl + 13 := by rcases hp with rfl | rfl; exact r_97_6 h; exact r_117_6 h
theorem rg_0 {σ : aS} (h : LR σ) {pl : Int} (hp : pl = 90 ∨ pl = 110) : aget σ (pl + 14) 0 = pl + 15 := by rcases hp with rfl | rfl; exact r_104_0 h; exact r_124_0 h
theorem rg_1 {σ : aS} (h : LR σ) {pl : Int} (hp : pl = 90 ∨ pl = 110) : aget σ (pl + 14) 1 = pl + 16 := by rcases hp with rfl | rfl; exact r_104_1 h; exact r_124_1 h
theorem rg_2 {σ : aS} (h : LR σ) {pl : Int} (hp : pl = 90 ∨ pl = 110) : aget σ (pl + 14) 2 = pl + 17 := by rcases hp with rfl | rfl; exact r_104_2 h; exact r_124_2 h
theorem rg_3 {σ : aS} (h : LR σ) {pl : Int} (hp : pl = 90 ∨ pl = 110) : aget σ (pl + 14) 3 = pl + 18 := by rcases hp with rfl | rfl; exact r_104_3 h; exact r_124_3 h
theorem np_1 {σ : aS} (h : LR σ) {pl : Int} (hp : pl = 90 ∨ pl = 110) : alen σ (pl + 1) = 3 := by rcases hp with rfl | rfl; exact n_91 h; exact n_111 h
theorem np_2 {σ : aS} (h : LR σ) {pl : Int} (hp : pl = 90 ∨ pl = 110) : alen σ (pl + 2) = 5 := by rcases hp with rfl | rfl; exact n_92 h; exact n_112 h
theorem np_3 {σ : aS} (h : LR σ) {pl : Int} (hp : pl = 90 ∨ pl = 110) : alen σ (pl + 3) = 20 := by rcases hp with rfl | rfl; exact n_93 h; exact n_113 h
theorem np_4 {σ : aS} (h : LR σ) {pl : Int} (hp : pl = 90 ∨ pl = 110) : alen σ (pl + 4) = 25 := by rcases hp with rfl | rfl; exact n_94 h; exact n_114 h
theorem np_5 {σ : aS} (h : LR σ) {pl : Int} (hp : pl = 90 ∨ pl = 110) : alen σ (pl + 5) = 25 := by rcases hp with rfl | rfl; exact n_95 h; exact n_115 h
theorem np_6 {σ : aS} (h : LR σ) {pl : Int} (hp : pl = 90 ∨ pl = 110) : alen σ (pl + 6) = 4 := by rcases hp with rfl | rfl; exact n_96 h; exact n_116 h
theorem np_8 {σ : aS} (h : LR σ) {pl : Int} (hp : pl = 90 ∨ pl = 110) : alen σ (pl + 8) = 5 := by rcases hp with rfl | rfl; exact n_98 h; exact n_118 h
theorem np_9 {σ : aS} (h : LR σ) {pl : Int} (hp : pl = 90 ∨ pl = 110) : alen σ (pl + 9) = 64 := by rcases hp with rfl | rfl; exact n_99 h; exact n_119 h
theorem np_10 {σ : aS} (h : LR σ) {pl : Int} (hp : pl = 90 ∨ pl = 110) : alen σ (pl + 10) = 4 := by rcases hp with rfl | rfl; exact n_100 h; exact n_120 h
theorem np_11 {σ : aS} (h : LR σ) {pl : Int} (hp : pl = 90 ∨ pl = 110) : alen σ (pl + 11) = 4 := by rcases hp with rfl | rfl; exact n_101 h; exact n_121 h
theorem np_12 {σ : aS} (h : LR σ) {pl : Int} (hp : pl = 90 ∨ pl = 110) : alen σ (pl + 12) = 64 := by rcases hp with rfl | rfl; exact n_102 h; exact n_122 h
theorem np_13 {σ : aS} (h : LR σ) {pl : Int} (hp : pl = 90 ∨ pl = 110) : alen σ (pl + 13) = 72 := by rcases hp with rfl | rfl; exact n_103 h; exact n_123 h
theorem np_15 {σ : aS} (h : LR σ) {pl : Int} (hp : pl = 90 ∨ pl = 110) : alen σ (pl + 15) = 4 := by rcases hp with rfl | rfl; exact n_105 h; exact n_125 h
theorem np_16 {σ : aS} (h : LR σ) {pl : Int} (hp : pl = 90 ∨ pl = 110) : alen σ (pl + 16) = 4 := by rcases hp with rfl | rfl; exact n_106 h; exact n_126 h
theorem np_17 {σ : aS} (h : LR σ) {pl : Int} (hp : pl = 90 ∨ pl = 110) : alen σ (pl + 17) = 24 := by rcases hp with rfl | rfl; exact n_107 h; exact n_127 h
theorem np_18 {σ : aS} (h : LR σ) {pl : Int} (hp : pl = 90 ∨ pl = 110) : alen σ (pl + 18) = 36 := by rcases hp with rfl | rfl; exact n_108 h; exact n_128 h
theorem np_19 {σ : aS} (h : LR σ) {pl : Int} (hp : pl = 90 ∨ pl = 110) : alen σ (pl + 19) = 15 := by rcases hp with rfl | rfl; exact n_109 h; exact n_129 h
/-- the scenes that are worked with -/
def SH (sc : Int) : Prop := sc = 88 ∨ sc = 16 ∨ sc = 18 ∨ sc = 22
theorem SH.p {sc : Int} (h : SH sc) : 16 ≤ sc ∧ sc ≤ 88 := by unfold SH at h; omega
theorem rs_0 {σ : aS} (h : LR σ) {sc : Int} (hs : SH sc) : aget σ sc 0 = sc + 1 := by rcases hs with rfl | rfl | rfl | rfl; exact r_88_0 h; exact r_16_0 h; exact r_18_0 h; exact r_22_0 h
theorem ns_1 {σ : aS} (h : LR σ) {sc : Int} (hs : SH sc) : alen σ (sc + 1) = 4 := by rcases hs with rfl | rfl | rfl | rfl; exact n_89 h; exact n_17 h; exact n_19 h; exact n_23 h
/-- the plan tells T -/
def CT (pl : Int) (T : aH) (σ : aS) : Prop :=
  (aget σ (pl + 1) 0 = T 0 0 ∧ aget σ (pl + 1) 1 = T 0 1 ∧ aget σ (pl + 1) 2 = T 0 2 ∧ aget σ pl 14 = T 0 3 ∧ aget σ (pl + 7) 1 = T 0 4 ∧ aget σ pl 12 = T 0 5) ∧
  (∀ g, 0 ≤ g → g < T 0 0 → aget σ (pl + 2) g = T 1 g) ∧
  (∀ s w, 0 ≤ s → s < T 0 1 → 0 ≤ w → w < 4 → aget σ (pl + 3) (4 * s + w) = T 2 (4 * s + w)) ∧
  (∀ s g, 0 ≤ s → s < T 0 1 → 0 ≤ g → g < T 0 0 → aget σ (pl + 4) (5 * s + g) = T 3 (5 * s + g)) ∧
  (∀ s o, 0 ≤ s → s < T 0 1 → 0 ≤ o → o < T 0 1 → aget σ (pl + 5) (5 * s + o) = T 4 (5 * s + o)) ∧
  (∀ t, 0 ≤ t → t < T 0 2 → aget σ (pl + 6) t = T 5 t ∧ bI (aget σ pl 10) t = T 6 t ∧ aget σ (pl + 10) t = T 9 t ∧ aget σ (pl + 11) t = T 10 t ∧ aget σ (pl + 15) t = T 12 t ∧ aget σ (pl + 16) t = T 13 t) ∧
  (0 ≤ aget σ pl 10 ∧ aget σ pl 10 < 16) ∧ aget σ pl 15 = pk5 (hsf T) ∧
  (∀ t k, 0 ≤ t → t < T 0 2 → T 9 t ≤ k → k < T 10 t → aget σ (pl + 9) k = T 8 k) ∧
  (∀ k i, 0 ≤ k → k < 3 → 0 ≤ i → i < T 0 k → aget σ (pl + 19) (5 * k + i) = T 11 (5 * k + i)) ∧
  (∀ t y, 0 ≤ t → t < T 0 2 → 0 ≤ y → y < T 13 t → aget σ (pl + 17) (6 * t + y) = T 14 (6 * t + y))
/-- the ledger's rows are worked out for T -/
def LG (T : aH) (σ : aS) : Prop :=
  (aget σ 13 0 = wt0 T ∧ aget σ 13 1 = wt1 T ∧ aget σ 13 2 = wt2 T ∧ aget σ 13 3 = wt3 T ∧ aget σ 13 4 = 1 ∧ aget σ 9 1 = crw T) ∧
  ∀ t f, 0 ≤ t → t < T 0 2 → BF T f → aget σ 10 (432 * t + nuf T f) = gvn T t f ∧
    ∀ s, 0 ≤ s → s < T 0 1 → aget σ 11 ((432 * t + nuf T f) * 5 + s) = lik T t f s ∧ aget σ 12 ((432 * t + nuf T f) * 5 + s) = rul T t f s
def CI (pl : Int) (T : aH) (σ : aS) : Prop := LR σ ∧ (pl = 90 ∨ pl = 110) ∧ (aget σ 8 0 = pl ∧ aget σ 9 5 = pl ∧ aget σ 1 7 = pl) ∧ CT pl T σ ∧ LG T σ ∧ TB T
/-- a scene tells N -/
def pkT (T N : aH) (t : Int) : Int := if t < T 0 2 then pk5 (ctn T N t) else 0
def pkP (T N : aH) : Int := pkT T N 0 + 32768 * pkT T N 1 + 1073741824 * pkT T N 2 + 35184372088832 * pkT T N 3
def bnI (T N : aH) : Int := sI (fun t => N 2 t * p2 t) (T 0 2)
def SC (T N : aH) (sc : Int) (σ : aS) : Prop := aget σ sc 1 = pkP T N ∧ (∀ t, 0 ≤ t → t < 4 → aget σ (sc + 1) t = N 1 t) ∧ aget σ sc 2 = bnI T N ∧ aget σ sc 3 = N 3 0 ∧ aget σ sc 4 = N 3 1
/-- what a town asks otherwise -/
def RE (N : aH) (σ : aS) : Prop := aget σ 8 9 = N 4 0 ∧ (N 4 0 ≠ -1 → aget σ 8 5 = N 4 1 ∧ aget σ 8 6 = N 4 2)
theorem c4_sorts_ok {pl : Int} {T : aH} {σ : aS} (hC : CI pl T σ) : c4_sorts pl σ = some (0, [T 0 1], σ) := by
  obtain ⟨hL, hp, hq, hT, hG, hB⟩ := hC
  simp (disch := omega) only [c4_sorts, ↓reduceIte, acall1_some, acall0_some, q_lt, q_nlt, q_le, q_nle, q_eq, q_ne, q_01, true_or, or_true, false_or, or_false, false_and, and_false, and_self, and_true, true_and, wq, wQ, alen_aput, ag_s, ag_x, ag_j, ag_e, rp_0 hL hp, rp_1 hL hp, rp_2 hL hp, rp_3 hL hp, rp_4 hL hp, rp_5 hL hp, rp_6 hL hp, rp_7 hL hp, rp_16 hL hp, np_1 hL hp, np_2 hL hp, np_3 hL hp, np_4 hL hp, np_5 hL hp, np_6 hL hp, np_19 hL hp, hT.1.2.1]
theorem c4_alone_ok {pl : Int} {T : aH} {σ : aS} (hC : CI pl T σ) : c4_alone pl σ = some (0, [T 0 2], σ) := by
  obtain ⟨hL, hp, hq, hT, hG, hB⟩ := hC
  simp (disch := omega) only [c4_alone, ↓reduceIte, acall1_some, acall0_some, q_lt, q_nlt, q_le, q_nle, q_eq, q_ne, q_01, true_or, or_true, false_or, or_false, false_and, and_false, and_self, and_true, true_and, wq, wQ, alen_aput, ag_s, ag_x, ag_j, ag_e, rp_0 hL hp, rp_1 hL hp, rp_2 hL hp, rp_3 hL hp, rp_4 hL hp, rp_5 hL hp, rp_6 hL hp, rp_7 hL hp, rp_16 hL hp, np_1 hL hp, np_2 hL hp, np_3 hL hp, np_4 hL hp, np_5 hL hp, np_6 hL hp, np_19 hL hp, hT.1.2.2.1]
theorem c4_figure_ok {pl : Int} {T : aH} {σ : aS} (hC : CI pl T σ) {s w : Int} (h0 : 0 ≤ s) (h1 : s < T 0 1) (h2 : 0 ≤ w) (h3 : w < 4) : c4_figure pl s w σ = some (0, [T 2 (4 * s + w)], σ) := by
  obtain ⟨hL, hp, hq, hT, hG, hB⟩ := hC
  have hs := hB.2.1
  have e := hT.2.2.1 s w h0 h1 h2 h3
  simp (disch := omega) only [c4_figure, ↓reduceIte, acall1_some, acall0_some, q_lt, q_nlt, q_le, q_nle, q_eq, q_ne, q_01, true_or, or_true, false_or, or_false, false_and, and_false, and_self, and_true, true_and, wq, wQ, alen_aput, ag_s, ag_x, ag_j, ag_e, rp_0 hL hp, rp_1 hL hp, rp_2 hL hp, rp_3 hL hp, rp_4 hL hp, rp_5 hL hp, rp_6 hL hp, rp_7 hL hp, rp_16 hL hp, np_1 hL hp, np_2 hL hp, np_3 hL hp, np_4 hL hp, np_5 hL hp, np_6 hL hp, np_19 hL hp]
  rw [show s * 4 + w = 4 * s + w by omega, e]
theorem c11_one_ok {s : Int} (σ : aS) (h0 : 0 ≤ s) (h1 : s < 5) : c11_one s σ = some (0, [p2 (3 * s)], σ) := by
  simp (disch := omega) only [c11_one, wq, ashl_1]
theorem p2_30 : p2 (3 * 0) = 1 := rfl
theorem p2_31 : p2 (3 * 1) = 8 := rfl
theorem p2_32 : p2 (3 * 2) = 64 := rfl
theorem p2_33 : p2 (3 * 3) = 512 := rfl
theorem p2_34 : p2 (3 * 4) = 4096 := rfl
theorem cs5 {s : Int} (h0 : 0 ≤ s) (h1 : s < 5) : s = 0 ∨ s = 1 ∨ s = 2 ∨ s = 3 ∨ s = 4 := by omega
/-- a packed crew's part -/
theorem pk_part {f : Int → Int} (hf : ∀ s, 0 ≤ s → s < 5 → 0 ≤ f s ∧ f s ≤ 7) {s : Int} (h0 : 0 ≤ s) (h1 : s < 5) : aand (ashr (pk5 f) (3 * s)) 7 = f s := by
  have a0 := hf 0 (by omega) (by omega)
  have a1 := hf 1 (by omega) (by omega)
  have a2 := hf 2 (by omega) (by omega)
  have a3 := hf 3 (by omega) (by omega)
  have a4 := hf 4 (by omega) (by omega)
  rw [aand_7, ashr_p (by unfold pk5; omega) (by unfold pk5; omega) (by omega) (by omega)]
  rcases cs5 h0 h1 with rfl | rfl | rfl | rfl | rfl
  · rw [p2_30]; unfold pk5; omega
  · rw [p2_31]; unfold pk5; omega
  · rw [p2_32]; unfold pk5; omega
  · rw [p2_33]; unfold pk5; omega
  · rw [p2_34]; unfold pk5; omega
theorem c11_part_ok {f : Int → Int} (hf : ∀ s, 0 ≤ s → s < 5 → 0 ≤ f s ∧ f s ≤ 7) {s : Int} (h0 : 0 ≤ s) (h1 : s < 5) (σ : aS) : c11_part (pk5 f) s σ = some (0, [f s], σ) := by
  simp (disch := omega) only [c11_part, wq, pk_part hf h0 h1]
theorem pk5_bd {f : Int → Int} (hf : ∀ s, 0 ≤ s → s < 5 → 0 ≤ f s ∧ f s ≤ 7) : 0 ≤ pk5 f ∧ pk5 f ≤ 32767 := by
  have a0 := hf 0 (by omega) (by omega)
  have a1 := hf 1 (by omega) (by omega)
  have a2 := hf 2 (by omega) (by omega)
  have a3 := hf 3 (by omega) (by omega)
  have a4 := hf 4 (by omega) (by omega)
  unfold pk5; omega
theorem pk5_congr {f g : Int → Int} (h : ∀ s, 0 ≤ s → s < 5 → f s = g s) : pk5 f = pk5 g := by
  unfold pk5
  rw [h 0 (by omega) (by omega), h 1 (by omega) (by omega), h 2 (by omega) (by omega), h 3 (by omega) (by omega), h 4 (by omega) (by omega)]
