/-! the class's half of whole's part of this name -/
/-- the cells that CI speaks of, beside the references -/
def cor (x j : Int) : Prop := (90 ≤ x ∧ x ≤ 129) ∨ (9 ≤ x ∧ x ≤ 13) ∨ (x = 8 ∧ j = 0) ∨ (x = 1 ∧ j = 7)
theorem CT.co {pl : Int} {T : aH} {σ τ : aS} (hp : pl = 90 ∨ pl = 110) (hT : CT pl T σ) (g : ∀ x j, 90 ≤ x ∧ x ≤ 129 → aget τ x j = aget σ x j) : CT pl T τ := by
  refine ⟨⟨?_, ?_, ?_, ?_, ?_, ?_⟩, ?_, ?_, ?_, ?_, ?_, ?_, ?_, ?_, ?_, ?_⟩
  · rw [g _ _ (by omega)]; exact hT.1.1
  · rw [g _ _ (by omega)]; exact hT.1.2.1
  · rw [g _ _ (by omega)]; exact hT.1.2.2.1
  · rw [g _ _ (by omega)]; exact hT.1.2.2.2.1
  · rw [g _ _ (by omega)]; exact hT.1.2.2.2.2.1
  · rw [g _ _ (by omega)]; exact hT.1.2.2.2.2.2
  · intro k a b; rw [g _ _ (by omega)]; exact hT.2.1 k a b
  · intro s w a b c d; rw [g _ _ (by omega)]; exact hT.2.2.1 s w a b c d
  · intro s w a b c d; rw [g _ _ (by omega)]; exact hT.2.2.2.1 s w a b c d
  · intro s w a b c d; rw [g _ _ (by omega)]; exact hT.2.2.2.2.1 s w a b c d
  · intro t a b
    rw [g (pl + 6) t (by omega), g pl 10 (by omega), g (pl + 10) t (by omega), g (pl + 11) t (by omega), g (pl + 15) t (by omega), g (pl + 16) t (by omega)]
    exact hT.2.2.2.2.2.1 t a b
  · rw [g pl 10 (by omega)]; exact hT.2.2.2.2.2.2.1
  · rw [g pl 15 (by omega)]; exact hT.2.2.2.2.2.2.2.1
  · intro t k a b c d; rw [g _ _ (by omega)]; exact hT.2.2.2.2.2.2.2.2.1 t k a b c d
  · intro t k a b c d; rw [g _ _ (by omega)]; exact hT.2.2.2.2.2.2.2.2.2.1 t k a b c d
  · intro t k a b c d; rw [g _ _ (by omega)]; exact hT.2.2.2.2.2.2.2.2.2.2 t k a b c d
theorem LG.co {T : aH} {σ τ : aS} (h : LG T σ) (g : ∀ x j, 9 ≤ x ∧ x ≤ 13 → aget τ x j = aget σ x j) : LG T τ := by
  refine ⟨?_, ?_⟩
  · rw [g 13 0 (by omega), g 13 1 (by omega), g 13 2 (by omega), g 13 3 (by omega), g 13 4 (by omega), g 9 1 (by omega)]; exact h.1
  · intro t f a b c
    rw [g 10 _ (by omega)]
    refine ⟨(h.2 t f a b c).1, fun s s0 s1 => ?_⟩
    rw [g 11 _ (by omega), g 12 _ (by omega)]
    exact (h.2 t f a b c).2 s s0 s1
theorem CI.co {pl : Int} {T : aH} {σ τ : aS} (h : CI pl T σ) (hL : LR τ) (g : ∀ x j, cor x j → aget τ x j = aget σ x j) : CI pl T τ := by
  obtain ⟨_, hp, hq, hT, hG, hB⟩ := h
  refine ⟨hL, hp, ?_, hT.co hp (fun x j hx => g x j (Or.inl hx)), hG.co (fun x j hx => g x j (Or.inr (Or.inl hx))), hB⟩
  rw [g 8 0 (Or.inr (Or.inr (Or.inl ⟨rfl, rfl⟩))), g 9 5 (Or.inr (Or.inl (by omega))), g 1 7 (Or.inr (Or.inr (Or.inr ⟨rfl, rfl⟩)))]
  exact hq
theorem CI.put {pl : Int} {T : aH} {σ : aS} (h : CI pl T σ) {x j v : Int} (hL : LR (aput σ x j v)) (hx : ¬ cor x j) : CI pl T (aput σ x j v) :=
  h.co hL (fun y k hy => by rw [ag_if, if_neg (fun q => hx (by rw [q.1, q.2] at hy; exact hy))])
theorem LR.s8 {σ : aS} (h : LR σ) {j : Int} (hj : ¬ j = 8) (v : Int) : LR (aput σ 8 j v) := by
  refine ⟨h.1, fun q hq => ?_⟩
  rw [ag_if, if_neg (fun e => ?_)]
  · exact h.2 q hq
  · have : (kR.all fun q => !(q.1 == 8) || q.2.1 == 8) = true := by decide
    have h1 := List.all_eq_true.mp this q hq
    simp only [e.1, beq_self_eq_true, Bool.not_true, Bool.false_or, beq_iff_eq] at h1
    omega
/-- the cells of what was found -/
theorem CI.s8 {pl : Int} {T : aH} {σ : aS} (h : CI pl T σ) {j : Int} (hj : 1 ≤ j ∧ ¬ j = 8) (v : Int) : CI pl T (aput σ 8 j v) := h.put (h.1.s8 hj.2 v) (by unfold cor; omega)
/-- what a scene tells hangs on its own cells alone -/
theorem SC.co {T N : aH} {sc : Int} {σ τ : aS} (h : SC T N sc σ) (g : ∀ j, aget τ sc j = aget σ sc j) (g2 : ∀ j, aget τ (sc + 1) j = aget σ (sc + 1) j) : SC T N sc τ := by
  refine ⟨by rw [g]; exact h.1, fun t a b => by rw [g2]; exact h.2.1 t a b, by rw [g]; exact h.2.2.1, by rw [g]; exact h.2.2.2.1, by rw [g]; exact h.2.2.2.2⟩
theorem SC.s8 {T N : aH} {sc : Int} {σ : aS} (h : SC T N sc σ) (hs : SH sc) (j v : Int) : SC T N sc (aput σ 8 j v) := by
  have := hs.p
  exact h.co (fun k => ag_x (by omega)) (fun k => ag_x (by omega))
theorem RE.co {N : aH} {σ τ : aS} (h : RE N σ) (g9 : aget τ 8 9 = aget σ 8 9) (g5 : aget τ 8 5 = aget σ 8 5) (g6 : aget τ 8 6 = aget σ 8 6) : RE N τ := by
  unfold RE; rw [g9, g5, g6]; exact h
theorem mvN_0 (N : aH) (f : Int → Int) (a b : Int) {s p : Int} (p0 : 0 ≤ p) (p1 : p < 5) : mvN N f a b 0 (5 * s + p) = N 0 (5 * s + p) - (if p = a then f s else 0) + (if p = b then f s else 0) := by
  have e1 : (5 * s + p) % 5 = p := by omega
  have e2 : (5 * s + p) / 5 = s := by omega
  unfold mvN
  rw [if_pos rfl, e1, e2]
theorem mvN_x (N : aH) (f : Int → Int) (a b : Int) {x : Int} (h : x ≠ 0) (j : Int) : mvN N f a b x j = N x j := if_neg h
theorem smN_upd (g : Int → Int) (a c : Int) (a0 : 0 ≤ a) : ∀ n : Nat, smN (fun p => g p + (if p = a then c else 0)) n = smN g n + (if a < n then c else 0) := by
  intro n
  induction n with
  | zero => simp only [smN]; rw [if_neg (by omega)]; rfl
  | succ n ih =>
    unfold smN
    rw [ih]
    by_cases h : (n : Int) = a
    · rw [if_pos h, if_neg (by omega), if_pos (by omega)]; omega
    · rw [if_neg h]
      by_cases h2 : a < n
      · rw [if_pos h2, if_pos (by omega)]; omega
      · rw [if_neg h2, if_neg (by omega)]; omega
theorem sI_upd (g : Int → Int) {a c n : Int} (a0 : 0 ≤ a) (h : a < n) : sI (fun p => g p + (if p = a then c else 0)) n = sI g n + c := by
  unfold sI
  rw [smN_upd g a c a0, if_pos (by omega)]
theorem mv_NB {T N : aH} (hN : NB T N) (hB : TB T) {f : Int → Int} {a b : Int} (a0 : 0 ≤ a) (a1 : a ≤ T 0 2) (b0 : 0 ≤ b) (b1 : b ≤ T 0 2) (hab : a ≠ b) (hf : ∀ s, 0 ≤ s → s < T 0 1 → 0 ≤ f s ∧ f s ≤ N 0 (5 * s + a)) : NB T (mvN N f a b) := by
  have h4 := hB.2.2.1
  refine ⟨?_, ?_, ?_⟩
  · intro s p s0 s1 p0 p1
    rw [mvN_0 _ _ _ _ p0 (by omega)]
    have h1 := hf s s0 s1
    have h2 := hN.1 s p s0 s1 p0 p1
    by_cases e1 : p = a
    · subst e1; rw [if_pos rfl, if_neg hab]; omega
    · rw [if_neg e1]; split <;> omega
  · intro s s0 s1
    have e : sI (fun p => mvN N f a b 0 (5 * s + p)) (T 0 2 + 1) = sI (fun p => (N 0 (5 * s + p) + (if p = a then -(f s) else 0)) + (if p = b then f s else 0)) (T 0 2 + 1) := sI_congr (fun p p0 p1 => by
      rw [mvN_0 _ _ _ _ p0 (by omega)]
      by_cases e1 : p = a
      · rw [if_pos e1, if_pos e1]; omega
      · rw [if_neg e1, if_neg e1]; omega)
    rw [e, sI_upd (fun p => N 0 (5 * s + p) + (if p = a then -(f s) else 0)) b0 (by omega), sI_upd (fun p => N 0 (5 * s + p)) a0 (by omega)]
    have := hN.2.1 s s0 s1
    omega
  · simp only [mvN_x _ _ _ _ (show (1 : Int) ≠ 0 by omega), mvN_x _ _ _ _ (show (2 : Int) ≠ 0 by omega), mvN_x _ _ _ _ (show (3 : Int) ≠ 0 by omega), mvN_x _ _ _ _ (show (4 : Int) ≠ 0 by omega)]
    exact hN.2.2
theorem ctn_mv {T N : aH} {f : Int → Int} {a b p : Int} (hf : ∀ s, ¬ (0 ≤ s ∧ s < T 0 1) → f s = 0) (p0 : 0 ≤ p) (p1 : p < 5) (s : Int) : ctn T (mvN N f a b) p s = ctn T N p s - (if p = a then f s else 0) + (if p = b then f s else 0) := by
  unfold ctn
  by_cases h : 0 ≤ s ∧ s < T 0 1
  · rw [if_pos h, if_pos h, mvN_0 _ _ _ _ p0 p1]
  · rw [if_neg h, if_neg h, hf s h]; split <;> split <;> omega
theorem pkT_mv {T N : aH} {f : Int → Int} {a b t : Int} (hf : ∀ s, ¬ (0 ≤ s ∧ s < T 0 1) → f s = 0) (t0 : 0 ≤ t) (t1 : t < 5) :
    pkT T (mvN N f a b) t = if t < T 0 2 then pkT T N t - (if t = a then pk5 f else 0) + (if t = b then pk5 f else 0) else 0 := by
  unfold pkT
  by_cases h : t < T 0 2
  · rw [if_pos h, if_pos h, if_pos h]
    unfold pk5
    rw [ctn_mv hf t0 t1 0, ctn_mv hf t0 t1 1, ctn_mv hf t0 t1 2, ctn_mv hf t0 t1 3, ctn_mv hf t0 t1 4]
    by_cases e1 : t = a <;> by_cases e2 : t = b
    · simp only [if_pos e1, if_pos e2]; omega
    · simp only [if_pos e1, if_neg e2]; omega
    · simp only [if_neg e1, if_pos e2]; omega
    · simp only [if_neg e1, if_neg e2]; omega
  · rw [if_neg h, if_neg h]
theorem pkP_mv {T N : aH} (hB : TB T) {f : Int → Int} {a b : Int} (hf : ∀ s, ¬ (0 ≤ s ∧ s < T 0 1) → f s = 0) (a0 : 0 ≤ a) (a1 : a ≤ T 0 2) (b0 : 0 ≤ b) (b1 : b ≤ T 0 2) :
    pkP T (mvN N f a b) = pkP T N - (if a < T 0 2 then pk5 f * p2 (15 * a) else 0) + (if b < T 0 2 then pk5 f * p2 (15 * b) else 0) := by
  have h4 := hB.2.2.1
  have z : ∀ t, T 0 2 ≤ t → pkT T N t = 0 := fun t h => if_neg (by omega)
  unfold pkP
  rw [pkT_mv hf (t := 0) (by omega) (by omega), pkT_mv hf (t := 1) (by omega) (by omega), pkT_mv hf (t := 2) (by omega) (by omega), pkT_mv hf (t := 3) (by omega) (by omega)]
  have A : ∀ c : Int, 0 ≤ c → c ≤ T 0 2 → (if c < T 0 2 then pk5 f * p2 (15 * c) else 0) = (if (0 : Int) < T 0 2 ∧ 0 = c then pk5 f else 0) + 32768 * (if (1 : Int) < T 0 2 ∧ 1 = c then pk5 f else 0) + 1073741824 * (if (2 : Int) < T 0 2 ∧ 2 = c then pk5 f else 0) + 35184372088832 * (if (3 : Int) < T 0 2 ∧ 3 = c then pk5 f else 0) := by
    intro c c0 c1
    rcases (show c = 0 ∨ c = 1 ∨ c = 2 ∨ c = 3 ∨ c = 4 by omega) with rfl | rfl | rfl | rfl | rfl
    · by_cases h : (0 : Int) < T 0 2
      · simp only [p2_150, h]; simp
      · simp [h]
    · by_cases h : (1 : Int) < T 0 2
      · simp only [p2_151, h]; simp; omega
      · simp [h]
    · by_cases h : (2 : Int) < T 0 2
      · simp only [p2_152, h]; simp; omega
      · simp [h]
    · by_cases h : (3 : Int) < T 0 2
      · simp only [p2_153, h]; simp; omega
      · simp [h]
    · rw [if_neg (by omega)]; simp
  rw [A a a0 a1, A b b0 b1]
  have B : ∀ t : Int, (if t < T 0 2 then pkT T N t - (if t = a then pk5 f else 0) + (if t = b then pk5 f else 0) else 0) = pkT T N t - (if t < T 0 2 ∧ t = a then pk5 f else 0) + (if t < T 0 2 ∧ t = b then pk5 f else 0) := by
    intro t
    by_cases h : t < T 0 2
    · simp only [h, true_and, if_true]
    · rw [if_neg h, z t (by omega)]; simp only [h, false_and, if_false]; omega
  rw [B 0, B 1, B 2, B 3]
  omega
theorem c4_inTown_ok {f : Int → Int} (hf : ∀ s, 0 ≤ s → s < 5 → 0 ≤ f s ∧ f s ≤ 7) {t : Int} (t0 : 0 ≤ t) (t1 : t < 4) (σ : aS) : c4_inTown (pk5 f) t σ = some (0, [pk5 f * p2 (15 * t)], σ) ∧ 0 ≤ pk5 f * p2 (15 * t) ∧ pk5 f * p2 (15 * t) ≤ 1152921504606846976 := by
  have h := pk5_bd hf
  have hb : 0 ≤ pk5 f * p2 (15 * t) ∧ pk5 f * p2 (15 * t) ≤ 1152921504606846976 := by
    rcases cs4 t0 t1 with rfl | rfl | rfl | rfl
    · rw [p2_150]; omega
    · rw [p2_151]; omega
    · rw [p2_152]; omega
    · rw [p2_153]; omega
  refine ⟨?_, hb⟩
  unfold c4_inTown
  rw [wq (by omega) (by omega), ashll_p h.1 (by omega) (by omega) (by omega)]
theorem c4_shifted_ok {pl : Int} {T N : aH} {σ : aS} (hC : CI pl T σ) (hN : NB T N) {f : Int → Int} {a b : Int} (a0 : 0 ≤ a) (a1 : a ≤ T 0 2) (b0 : 0 ≤ b) (b1 : b ≤ T 0 2) (hab : a ≠ b) (hf : ∀ s, 0 ≤ s → s < T 0 1 → 0 ≤ f s ∧ f s ≤ N 0 (5 * s + a)) (hz : ∀ s, ¬ (0 ≤ s ∧ s < T 0 1) → f s = 0) :
    c4_shifted pl (pkP T N) (pk5 f) a b σ = some (0, [pkP T (mvN N f a b)], σ) := by
  have hB := hC.2.2.2.2.2
  have h4 := hB.2.2.1
  have hal := c4_alone_ok hC
  have hf7 : ∀ s, 0 ≤ s → s < 5 → 0 ≤ f s ∧ f s ≤ 7 := fun s s0 s5 => by
    by_cases h : s < T 0 1
    · have h1 := hf s s0 h
      have h2 := hN.le hB s0 h a0 a1
      omega
    · rw [hz s (fun q => h q.2)]; omega
  have hP := pkP_bd hN hB
  have hP2 := pkP_bd (mv_NB hN hB a0 a1 b0 b1 hab hf) hB
  have hmv := pkP_mv (N := N) hB (f := f) (a := a) (b := b) hz a0 a1 b0 b1
  by_cases ha : a < T 0 2
  · have ia := c4_inTown_ok hf7 a0 (show a < 4 by omega) σ
    rw [if_pos ha] at hmv
    by_cases hb : b < T 0 2
    · have ib := c4_inTown_ok hf7 b0 (show b < 4 by omega) σ
      rw [if_pos hb] at hmv
      simp (disch := omega) only [c4_shifted, c4_shifted_p21, ↓reduceIte, acall1_some, acall0_some, q_lt, q_nlt, q_le, q_nle, q_eq, q_ne, q_01, true_or, or_true, false_or, or_false, false_and, and_false, and_self, and_true, true_and, wq, wQ, alen_aput, ag_s, ag_x, ag_j, ag_e, hal, ia.1, ib.1, hmv]
    · rw [if_neg hb] at hmv
      simp (disch := omega) only [c4_shifted, c4_shifted_p21, ↓reduceIte, acall1_some, acall0_some, q_lt, q_nlt, q_le, q_nle, q_eq, q_ne, q_01, true_or, or_true, false_or, or_false, false_and, and_false, and_self, and_true, true_and, wq, wQ, alen_aput, ag_s, ag_x, ag_j, ag_e, hal, ia.1, hmv, Int.add_zero]
  · rw [if_neg ha] at hmv
    by_cases hb : b < T 0 2
    · have ib := c4_inTown_ok hf7 b0 (show b < 4 by omega) σ
      rw [if_pos hb] at hmv
      simp (disch := omega) only [c4_shifted, c4_shifted_p21, ↓reduceIte, acall1_some, acall0_some, q_lt, q_nlt, q_le, q_nle, q_eq, q_ne, q_01, true_or, or_true, false_or, or_false, false_and, and_false, and_self, and_true, true_and, wq, wQ, alen_aput, ag_s, ag_x, ag_j, ag_e, hal, ib.1, hmv, Int.sub_zero]
    · omega
