/-! the class's half of whole's part of this name -/
/-- the plan alone -/
def CQ (pl : Int) (T : aH) (σ : aS) : Prop := LR σ ∧ (pl = 90 ∨ pl = 110) ∧ CT pl T σ ∧ TB T
theorem CI.cq {pl : Int} {T : aH} {σ : aS} (h : CI pl T σ) : CQ pl T σ := ⟨h.1, h.2.1, h.2.2.2.1, h.2.2.2.2.2⟩
/-- a plan's cells that tell T -/
def ctp (pl x : Int) : Prop := (pl ≤ x ∧ x ≤ pl + 7) ∨ (pl + 9 ≤ x ∧ x ≤ pl + 11) ∨ (pl + 15 ≤ x ∧ x ≤ pl + 17) ∨ x = pl + 19
theorem CT.c2 {pl : Int} {T : aH} {σ τ : aS} (hT : CT pl T σ) (g : ∀ x j, ctp pl x → aget τ x j = aget σ x j) : CT pl T τ := by
  unfold ctp at g
  refine ⟨⟨?_, ?_, ?_, ?_, ?_, ?_⟩, ?_, ?_, ?_, ?_, ?_, ?_, ?_, ?_, ?_, ?_⟩
  · rw [g _ _ (by omega)]; exact hT.1.1
  · rw [g _ _ (by omega)]; exact hT.1.2.1
  · rw [g _ _ (by omega)]; exact hT.1.2.2.1
  · rw [g _ _ (by omega)]; exact hT.1.2.2.2.1
  · rw [g _ _ (by omega)]; exact hT.1.2.2.2.2.1
  · rw [g _ _ (by omega)]; exact hT.1.2.2.2.2.2
  · intro k a b; rw [g _ _ (by omega)]; exact hT.2.1 k a b
  · intro s w a b c d; rw [g _ _ (by omega)]; exact hT.2.2.1 s w a b c d
  · intro s w a b c d; rw [g _ _ (by omega)]; exact hT.2.2.2.1 s w a b c d
  · intro s w a b c d; rw [g _ _ (by omega)]; exact hT.2.2.2.2.1 s w a b c d
  · intro t a b
    rw [g (pl + 6) t (by omega), g pl 10 (by omega), g (pl + 10) t (by omega), g (pl + 11) t (by omega), g (pl + 15) t (by omega), g (pl + 16) t (by omega)]
    exact hT.2.2.2.2.2.1 t a b
  · rw [g pl 10 (by omega)]; exact hT.2.2.2.2.2.2.1
  · rw [g pl 15 (by omega)]; exact hT.2.2.2.2.2.2.2.1
  · intro t k a b c d; rw [g _ _ (by omega)]; exact hT.2.2.2.2.2.2.2.2.1 t k a b c d
  · intro t k a b c d; rw [g _ _ (by omega)]; exact hT.2.2.2.2.2.2.2.2.2.1 t k a b c d
  · intro t k a b c d; rw [g _ _ (by omega)]; exact hT.2.2.2.2.2.2.2.2.2.2 t k a b c d
theorem q_sorts {pl : Int} {T : aH} {σ : aS} (hC : CQ pl T σ) : c4_sorts pl σ = some (0, [T 0 1], σ) := by
  obtain ⟨hL, hp, hT, hB⟩ := hC
  simp (disch := omega) only [c4_sorts, ↓reduceIte, acall1_some, acall0_some, q_lt, q_nlt, q_le, q_nle, q_eq, q_ne, q_01, true_or, or_true, false_or, or_false, false_and, and_false, and_self, and_true, true_and, wq, wQ, alen_aput, ag_s, ag_x, ag_j, ag_e, rp_0 hL hp, rp_1 hL hp, rp_2 hL hp, rp_3 hL hp, rp_4 hL hp, rp_5 hL hp, rp_6 hL hp, rp_7 hL hp, rp_16 hL hp, np_1 hL hp, np_2 hL hp, np_3 hL hp, np_4 hL hp, np_5 hL hp, np_6 hL hp, np_19 hL hp, hT.1.2.1]
theorem q_alone {pl : Int} {T : aH} {σ : aS} (hC : CQ pl T σ) : c4_alone pl σ = some (0, [T 0 2], σ) := by
  obtain ⟨hL, hp, hT, hB⟩ := hC
  simp (disch := omega) only [c4_alone, ↓reduceIte, acall1_some, acall0_some, q_lt, q_nlt, q_le, q_nle, q_eq, q_ne, q_01, true_or, or_true, false_or, or_false, false_and, and_false, and_self, and_true, true_and, wq, wQ, alen_aput, ag_s, ag_x, ag_j, ag_e, rp_0 hL hp, rp_1 hL hp, rp_2 hL hp, rp_3 hL hp, rp_4 hL hp, rp_5 hL hp, rp_6 hL hp, rp_7 hL hp, rp_16 hL hp, np_1 hL hp, np_2 hL hp, np_3 hL hp, np_4 hL hp, np_5 hL hp, np_6 hL hp, np_19 hL hp, hT.1.2.2.1]
theorem q_figure {pl : Int} {T : aH} {σ : aS} (hC : CQ pl T σ) {s w : Int} (h0 : 0 ≤ s) (h1 : s < T 0 1) (h2 : 0 ≤ w) (h3 : w < 4) : c4_figure pl s w σ = some (0, [T 2 (4 * s + w)], σ) := by
  obtain ⟨hL, hp, hT, hB⟩ := hC
  have hs := hB.2.1
  have e := hT.2.2.1 s w h0 h1 h2 h3
  simp (disch := omega) only [c4_figure, ↓reduceIte, acall1_some, acall0_some, q_lt, q_nlt, q_le, q_nle, q_eq, q_ne, q_01, true_or, or_true, false_or, or_false, false_and, and_false, and_self, and_true, true_and, wq, wQ, alen_aput, ag_s, ag_x, ag_j, ag_e, rp_0 hL hp, rp_1 hL hp, rp_2 hL hp, rp_3 hL hp, rp_4 hL hp, rp_5 hL hp, rp_6 hL hp, rp_7 hL hp, rp_16 hL hp, np_1 hL hp, np_2 hL hp, np_3 hL hp, np_4 hL hp, np_5 hL hp, np_6 hL hp, np_19 hL hp]
  rw [show s * 4 + w = 4 * s + w by omega, e]
theorem q_costOf {pl : Int} {T : aH} {σ : aS} (hC : CQ pl T σ) (t : Int) (f : Int → Int) : c4_costOf pl (gvn T t f) σ = some (0, [gco T t f], σ) := by
  obtain ⟨hL, hp, hT, hB⟩ := hC
  have hg := hB.1
  have h32 := gvn_32 hB t f
  have e : ∀ k : Int, 0 ≤ k → k ≤ 5 → 0 ≤ sI (fun g => bI (gvn T t f) g * aget σ (pl + 2) g) k ∧ sI (fun g => bI (gvn T t f) g * aget σ (pl + 2) g) k ≤ 4995 ∧ (k = 5 → sI (fun g => bI (gvn T t f) g * aget σ (pl + 2) g) k = gco T t f) := by
    intro k k0 k5
    by_cases hk : k ≤ T 0 0
    · have h1 := gco_bd hB t f k0 hk
      have h2 : sI (fun g => bI (gvn T t f) g * aget σ (pl + 2) g) k = sI (fun g => gvb T t f g * T 1 g) k := sI_congr (fun g g0 g1 => by
        rw [(gvn_bit hB t f g0 (show g < T 0 0 by omega)).1, hT.2.1 g g0 (by omega)])
      rw [h2]
      refine ⟨h1.1, h1.2, fun h => ?_⟩
      have : k = T 0 0 := by omega
      rw [this]; rfl
    · have h2 : sI (fun g => bI (gvn T t f) g * aget σ (pl + 2) g) k = sI (fun g => gvb T t f g * T 1 g) (T 0 0) := sI_ext hg.1 (by omega) (fun g g0 g1 => by
        rw [(gvn_bit hB t f g0 g1).1, hT.2.1 g g0 g1]) (fun g g0 g1 => by rw [gvn_hi hB t f g0, Int.zero_mul])
      have h1 := gco_bd hB t f hg.1 (Int.le_refl _)
      rw [h2]
      exact ⟨h1.1, h1.2, fun _ => rfl⟩
  have hl := al_0 (c := 5) (B := aU4 c4_costOf_b4) (fun k => [pl, gvn T t f, sI (fun g => bI (gvn T t f) g * aget σ (pl + 2) g) k, k]) (fun _ => σ) (n := 5) (r := (0, [gco T t f], σ)) (by omega) (by omega) ?_ ?_ (Nat.ne_of_beq_eq_false rfl)
  · unfold c4_costOf c4_costOf_l4
    simp only [sI_0] at hl
    rw [hl]; rfl
  · intro k k0 k1
    have e1 := e k k0 (by omega)
    have e2 := e (k + 1) (by omega) (by omega)
    rw [sI_s k0] at e2
    have hb := bI_shr (x := gvn T t f) (k := k) h32.1 (by omega) k0 (by omega)
    simp (disch := omega) only [aU4, c4_costOf_b4, ↓reduceIte, acall1_some, acall0_some, q_lt, q_nlt, q_le, q_nle, q_eq, q_ne, q_01, true_or, or_true, false_or, or_false, false_and, and_false, and_self, and_true, true_and, wq, wQ, alen_aput, ag_s, ag_x, ag_j, ag_e, rp_0 hL hp, rp_1 hL hp, rp_2 hL hp, rp_3 hL hp, rp_4 hL hp, rp_5 hL hp, rp_6 hL hp, rp_7 hL hp, rp_16 hL hp, np_1 hL hp, np_2 hL hp, np_3 hL hp, np_4 hL hp, np_5 hL hp, np_6 hL hp, np_19 hL hp, hb, sI_s]
  · simp (disch := omega) only [aU4, c4_costOf_b4, ↓reduceIte, acall1_some, acall0_some, q_lt, q_nlt, q_le, q_nle, q_eq, q_ne, q_01, true_or, or_true, false_or, or_false, false_and, and_false, and_self, and_true, true_and, wq, wQ, alen_aput, ag_s, ag_x, ag_j, ag_e]
    rw [(e 5 (by omega) (by omega)).2.2 rfl]
theorem bsum_lt {b : Int → Int} (hb : ∀ g, 0 ≤ b g ∧ b g ≤ 1) : ∀ n : Nat, 0 ≤ smN (fun g => b g * p2 g) n ∧ smN (fun g => b g * p2 g) n < p2 n := by
  intro n
  induction n with
  | zero => exact ⟨Int.le_refl _, by show (0 : Int) < p2 0; rw [p2_0]; omega⟩
  | succ n ih =>
    have h := hb n
    have hp := p2_pos (n : Int)
    have e := p2_s (k := (n : Int)) (by omega)
    unfold smN
    rw [show ((n + 1 : Nat) : Int) = (n : Int) + 1 from rfl, e]
    rcases (show b n = 0 ∨ b n = 1 by omega) with z | z <;> simp only [z] <;> omega
theorem bsum_l {b : Int → Int} (hb : ∀ g, 0 ≤ b g ∧ b g ≤ 1) {n : Int} (hn : 0 ≤ n) : 0 ≤ sI (fun g => b g * p2 g) n ∧ sI (fun g => b g * p2 g) n < p2 n := by
  have := bsum_lt hb n.toNat
  rwa [Int.toNat_of_nonneg hn] at this
theorem bsum_bit {b : Int → Int} (hb : ∀ g, 0 ≤ b g ∧ b g ≤ 1) {n g : Int} (n5 : n ≤ 5) (g0 : 0 ≤ g) (g1 : g < n) : bI (sI (fun g => b g * p2 g) n) g = b g := by
  have b0 := hb 0
  have b1 := hb 1
  have b2 := hb 2
  have b3 := hb 3
  have b4 := hb 4
  rcases (show n = 1 ∨ n = 2 ∨ n = 3 ∨ n = 4 ∨ n = 5 by omega) with e | e | e | e | e <;> rw [e] at g1 ⊢
  · rw [sI_1, p2_0]
    rcases (show g = 0 by omega) with rfl
    unfold bI; rw [p2_0]; omega
  · rw [sI_2, p2_0, p2_1]
    rcases (show g = 0 ∨ g = 1 by omega) with rfl | rfl
    · unfold bI; rw [p2_0]; omega
    · unfold bI; rw [p2_1]; omega
  · rw [sI_3, p2_0, p2_1, p2_2]
    rcases (show g = 0 ∨ g = 1 ∨ g = 2 by omega) with rfl | rfl | rfl
    · unfold bI; rw [p2_0]; omega
    · unfold bI; rw [p2_1]; omega
    · unfold bI; rw [p2_2]; omega
  · rw [sI_4, p2_0, p2_1, p2_2, p2_3]
    rcases (show g = 0 ∨ g = 1 ∨ g = 2 ∨ g = 3 by omega) with rfl | rfl | rfl | rfl
    · unfold bI; rw [p2_0]; omega
    · unfold bI; rw [p2_1]; omega
    · unfold bI; rw [p2_2]; omega
    · unfold bI; rw [p2_3]; omega
  · rw [sI_5, p2_0, p2_1, p2_2, p2_3, p2_4]
    rcases (show g = 0 ∨ g = 1 ∨ g = 2 ∨ g = 3 ∨ g = 4 by omega) with rfl | rfl | rfl | rfl | rfl
    · unfold bI; rw [p2_0]; omega
    · unfold bI; rw [p2_1]; omega
    · unfold bI; rw [p2_2]; omega
    · unfold bI; rw [p2_3]; omega
    · unfold bI; rw [p2_4]; omega
theorem bI_hi {x k n : Int} (hx : 0 ≤ x) (hn : x < p2 n) (n0 : 0 ≤ n) (h : n ≤ k) : bI x k = 0 := by
  have b := p2_mono n0 h
  have c : x / p2 k = 0 := Int.ediv_eq_zero_of_lt hx (by omega)
  unfold bI; rw [c]; rfl
/-- two numbers with the same bits below n, both below p2 n -/
theorem bI_ext {x y n : Int} (n0 : 0 ≤ n) (n5 : n ≤ 5) (hx : 0 ≤ x) (hx2 : x < p2 n) (hy : 0 ≤ y) (hy2 : y < p2 n) (h : ∀ g, 0 ≤ g → g < n → bI x g = bI y g) : x = y := by
  have p5 : p2 n ≤ 32 := by have := p2_mono n0 n5; rwa [show p2 5 = 32 from rfl] at this
  have k : ∀ g, 0 ≤ g → bI x g = bI y g := fun g g0 => by
    by_cases c : g < n
    · exact h g g0 c
    · rw [bI_hi hx hx2 n0 (show n ≤ g by omega), bI_hi hy hy2 n0 (show n ≤ g by omega)]
  rw [bI_5 hx (by omega), bI_5 hy (by omega), k 0 (by omega), k 1 (by omega), k 2 (by omega), k 3 (by omega), k 4 (by omega)]
/-- more than half for it -/
def mjb (T : aH) (f : Int → Int) (g : Int) : Int := if szf f < 2 * vot T f g then 1 else 0
theorem mjb_01 (T : aH) (f : Int → Int) (g : Int) : 0 ≤ mjb T f g ∧ mjb T f g ≤ 1 := by unfold mjb; split <;> omega
theorem gvn_eq {T : aH} (hB : TB T) {t : Int} (t0 : 0 ≤ t) (t1 : t < T 0 2) (f : Int → Int) : gvn T t f = if T 6 t = 0 then T 5 t else aand (sI (fun g => mjb T f g * p2 g) (T 0 0)) (T 5 t) := by
  have hg := hB.1
  have h5 := (hB.2.2.2.2.2.2.2.2.2 t t0 t1).1
  have h6 := (hB.2.2.2.2.2.2.2.2.2 t t0 t1).2.1
  have hn := gsum_lt' T t f hg.1
  have hm := bsum_l (mjb_01 T f) hg.1
  have p5 : p2 (T 0 0) ≤ 32 := by have := p2_mono hg.1 hg.2; rwa [show p2 5 = 32 from rfl] at this
  by_cases c : T 6 t = 0
  · rw [if_pos c]
    refine bI_ext hg.1 hg.2 hn.1 hn.2 h5.1 h5.2 (fun g g0 g1 => ?_)
    rw [(gvn_bit hB t f g0 g1).1]
    have := bI_01 (T 5 t) g
    unfold gvb
    by_cases d : bI (T 5 t) g = 1
    · rw [if_pos ⟨d, fun e => by omega⟩, d]
    · rw [if_neg (fun e => d e.1)]; omega
  · rw [if_neg c]
    have ha := aand_bd (a := sI (fun g => mjb T f g * p2 g) (T 0 0)) (b := T 5 t) hm.1 (by omega) h5.1 (by omega)
    refine bI_ext hg.1 hg.2 hn.1 hn.2 ha.1 (by omega) (fun g g0 g1 => ?_)
    rw [(gvn_bit hB t f g0 g1).1, bI_and hm.1 (by omega) h5.1 (by omega) g0, bsum_bit (mjb_01 T f) hg.2 g0 g1]
    have := bI_01 (T 5 t) g
    unfold gvb mjb
    by_cases d : bI (T 5 t) g = 1
    · by_cases e : szf f < 2 * vot T f g
      · rw [if_pos ⟨d, fun _ => e⟩, if_pos e, d]; rfl
      · rw [if_neg (fun q => e (q.2 (by omega))), if_neg e]; omega
    · rw [if_neg (fun e => d e.1), show bI (T 5 t) g = 0 by omega]; omega
theorem szf_13 {T : aH} {f : Int → Int} (hf : B7 T f) : 0 ≤ szf f ∧ szf f ≤ 13 := by
  have a0 := hf.1 0 (by omega) (by omega)
  have a1 := hf.1 1 (by omega) (by omega)
  have a2 := hf.1 2 (by omega) (by omega)
  have a3 := hf.1 3 (by omega) (by omega)
  have a4 := hf.1 4 (by omega) (by omega)
  have := hf.2.1
  unfold szf at *; omega
theorem c4_givenTo_in {pl : Int} {T : aH} {σ : aS} (hC : CQ pl T σ) {f : Int → Int} (hf : B7 T f) (t : Int) {g : Int} (g0 : 0 ≤ g) (g1 : g < T 0 0) {A : Int} (hA : 0 ≤ A) (hA2 : A < p2 g) :
    c4_givenTo_l46 pl t (pk5 f) (szf f) A g 0 0 σ = some (30, [pl, t, pk5 f, szf f, A + mjb T f g * p2 g, g + 1], σ) := by
  have hso := q_sorts hC
  obtain ⟨hL, hp, hT, hB⟩ := hC
  have hg := hB.1
  have h5 := hB.2.1
  have hsz := szf_13 hf
  have hv := vot_bd hB hf.1 g h5.1 (Int.le_refl _)
  have hv' : 0 ≤ vot T f g ∧ vot T f g ≤ 35 := hv
  have p5 : p2 g ≤ 32 := by have := p2_mono g0 (show g ≤ 5 by omega); rwa [show p2 5 = 32 from rfl] at this
  have hl := al_0 (c := 47) (B := aU8 c4_givenTo_b46) (fun k => [pl, t, pk5 f, szf f, A, g, sI (fun s => if T 1 g < T 3 (5 * s + g) * szf f then f s else 0) k, k]) (fun _ => σ) (n := T 0 1) (r := (101, [pl, t, pk5 f, szf f, A, g, vot T f g], σ)) (by omega) (by omega) ?_ ?_ (Nat.ne_of_beq_eq_false rfl)
  · simp only [sI_0] at hl
    unfold mjb
    by_cases c : szf f < 2 * vot T f g
    · have ha := aor_add hA hA2 g0 (by omega)
      simp (disch := omega) only [c4_givenTo_l46, hl, abind, c4_givenTo_d46, aU7, c4_givenTo_p100, c4_givenTo_p118, ha, ↓reduceIte, acall1_some, acall0_some, q_lt, q_nlt, q_le, q_nle, q_eq, q_ne, q_01, true_or, or_true, false_or, or_false, false_and, and_false, and_self, and_true, true_and, wq, wQ, alen_aput, ag_s, ag_x, ag_j, ag_e, Int.one_mul]
    · have ha : aor A 0 = A := by
        rw [aor_N hA (by omega) (by omega) (by omega)]
        rw [show (0 : Int).toNat = 0 from rfl, Nat.or_zero]; omega
      simp (disch := omega) only [c4_givenTo_l46, hl, abind, c4_givenTo_d46, aU7, c4_givenTo_p100, c4_givenTo_p118, ha, ↓reduceIte, acall1_some, acall0_some, q_lt, q_nlt, q_le, q_nle, q_eq, q_ne, q_01, true_or, or_true, false_or, or_false, false_and, and_false, and_self, and_true, true_and, wq, wQ, alen_aput, ag_s, ag_x, ag_j, ag_e, Int.zero_mul, Int.add_zero]
  · intro k k0 k1
    have a := hf.1 k k0 (by omega)
    have b := vot_bd hB hf.1 g k0 (Int.le_of_lt k1)
    have w := hB.2.2.2.2.2.2.2.1 k g k0 k1 g0 g1
    have wm := mul_nn w.1 w.2 hsz.1 hsz.2
    have e1 := hT.2.1 g g0 g1
    have e3 : aget σ (pl + 4) (k * 5 + g) = T 3 (5 * k + g) := by rw [show k * 5 + g = 5 * k + g by omega]; exact hT.2.2.2.1 k g k0 k1 g0 g1
    have h1 := c11_part_ok hf.1 k0 (show k < 5 by omega) σ
    by_cases c : T 1 g < T 3 (5 * k + g) * szf f
    · simp (disch := omega) only [aU8, c4_givenTo_b46, c4_givenTo_p91, ↓reduceIte, acall1_some, acall0_some, q_lt, q_nlt, q_le, q_nle, q_eq, q_ne, q_01, true_or, or_true, false_or, or_false, false_and, and_false, and_self, and_true, true_and, wq, wQ, alen_aput, ag_s, ag_x, ag_j, ag_e, rp_0 hL hp, rp_1 hL hp, rp_2 hL hp, rp_3 hL hp, rp_4 hL hp, rp_5 hL hp, rp_6 hL hp, rp_7 hL hp, rp_16 hL hp, np_1 hL hp, np_2 hL hp, np_3 hL hp, np_4 hL hp, np_5 hL hp, np_6 hL hp, np_19 hL hp, hso, e1, e3, h1, sI_s]
    · simp (disch := omega) only [aU8, c4_givenTo_b46, c4_givenTo_p91, ↓reduceIte, acall1_some, acall0_some, q_lt, q_nlt, q_le, q_nle, q_eq, q_ne, q_01, true_or, or_true, false_or, or_false, false_and, and_false, and_self, and_true, true_and, wq, wQ, alen_aput, ag_s, ag_x, ag_j, ag_e, rp_0 hL hp, rp_1 hL hp, rp_2 hL hp, rp_3 hL hp, rp_4 hL hp, rp_5 hL hp, rp_6 hL hp, rp_7 hL hp, rp_16 hL hp, np_1 hL hp, np_2 hL hp, np_3 hL hp, np_4 hL hp, np_5 hL hp, np_6 hL hp, np_19 hL hp, hso, e1, e3, h1, sI_s, Int.add_zero]
  · simp (disch := omega) only [aU8, c4_givenTo_b46, ↓reduceIte, acall1_some, acall0_some, q_lt, q_nlt, q_le, q_nle, q_eq, q_ne, q_01, true_or, or_true, false_or, or_false, false_and, and_false, and_self, and_true, true_and, wq, wQ, alen_aput, ag_s, ag_x, ag_j, ag_e, hso]
    rfl
theorem c4_givenTo_ok {pl : Int} {T : aH} {σ : aS} (hC : CQ pl T σ) {f : Int → Int} (hf : B7 T f) {t : Int} (t0 : 0 ≤ t) (t1 : t < T 0 2) :
    c4_givenTo pl t (pk5 f) σ = some (0, [gvn T t f], σ) := by
  have hin := fun {g : Int} (g0 : 0 ≤ g) (g1 : g < T 0 0) {A : Int} (hA : 0 ≤ A) (hA2 : A < p2 g) => c4_givenTo_in hC hf t g0 g1 hA hA2
  obtain ⟨hL, hp, hT, hB⟩ := hC
  have hg := hB.1
  have h4 := hB.2.2.1
  have hsz := c11_sizeOf_ok hf.1 σ
  have e := hT.2.2.2.2.2.1 t t0 t1
  have b10 := hT.2.2.2.2.2.2.1
  have h6 := (hB.2.2.2.2.2.2.2.2.2 t t0 t1).2.1
  have hb := bI_shr (x := aget σ pl 10) (k := t) b10.1 (by omega) t0 (by omega)
  rw [e.2.1] at hb
  rw [gvn_eq hB t0 t1 f]
  by_cases c : T 6 t = 0
  · simp (disch := omega) only [c4_givenTo, hb, ↓reduceIte, acall1_some, acall0_some, q_lt, q_nlt, q_le, q_nle, q_eq, q_ne, q_01, true_or, or_true, false_or, or_false, false_and, and_false, and_self, and_true, true_and, wq, wQ, alen_aput, ag_s, ag_x, ag_j, ag_e, rp_0 hL hp, rp_1 hL hp, rp_2 hL hp, rp_3 hL hp, rp_4 hL hp, rp_5 hL hp, rp_6 hL hp, rp_7 hL hp, rp_16 hL hp, np_1 hL hp, np_2 hL hp, np_3 hL hp, np_4 hL hp, np_5 hL hp, np_6 hL hp, np_19 hL hp, e.1]
  · have hl := al_0 (c := 30) (B := aU6 c4_givenTo_b29) (fun k => [pl, t, pk5 f, szf f, sI (fun g => mjb T f g * p2 g) k, k]) (fun _ => σ) (n := T 0 0) (r := (128, [pl, t, sI (fun g => mjb T f g * p2 g) (T 0 0)], σ)) (by omega) (by omega) ?_ ?_ (Nat.ne_of_beq_eq_false rfl)
    · simp only [sI_0] at hl
      simp (disch := omega) only [c4_givenTo, hb, hsz, c4_givenTo_l29, hl, abind, c4_givenTo_d29, aU3, c4_givenTo_p127, ↓reduceIte, acall1_some, acall0_some, q_lt, q_nlt, q_le, q_nle, q_eq, q_ne, q_01, true_or, or_true, false_or, or_false, false_and, and_false, and_self, and_true, true_and, wq, wQ, alen_aput, ag_s, ag_x, ag_j, ag_e, rp_0 hL hp, rp_1 hL hp, rp_2 hL hp, rp_3 hL hp, rp_4 hL hp, rp_5 hL hp, rp_6 hL hp, rp_7 hL hp, rp_16 hL hp, np_1 hL hp, np_2 hL hp, np_3 hL hp, np_4 hL hp, np_5 hL hp, np_6 hL hp, np_19 hL hp, e.1]
    · intro k k0 k1
      have hm := bsum_l (mjb_01 T f) k0
      have hi := hin k0 k1 hm.1 hm.2
      simp (disch := omega) only [aU6, c4_givenTo_b29, ↓reduceIte, acall1_some, acall0_some, q_lt, q_nlt, q_le, q_nle, q_eq, q_ne, q_01, true_or, or_true, false_or, or_false, false_and, and_false, and_self, and_true, true_and, wq, wQ, alen_aput, ag_s, ag_x, ag_j, ag_e, rp_0 hL hp, rp_1 hL hp, rp_2 hL hp, rp_3 hL hp, rp_4 hL hp, rp_5 hL hp, rp_6 hL hp, rp_7 hL hp, rp_16 hL hp, np_1 hL hp, np_2 hL hp, np_3 hL hp, np_4 hL hp, np_5 hL hp, np_6 hL hp, np_19 hL hp, hT.1.1, hi, sI_s]
    · simp (disch := omega) only [aU6, c4_givenTo_b29, ↓reduceIte, acall1_some, acall0_some, q_lt, q_nlt, q_le, q_nle, q_eq, q_ne, q_01, true_or, or_true, false_or, or_false, false_and, and_false, and_self, and_true, true_and, wq, wQ, alen_aput, ag_s, ag_x, ag_j, ag_e, rp_0 hL hp, rp_1 hL hp, rp_2 hL hp, rp_3 hL hp, rp_4 hL hp, rp_5 hL hp, rp_6 hL hp, rp_7 hL hp, rp_16 hL hp, np_1 hL hp, np_2 hL hp, np_3 hL hp, np_4 hL hp, np_5 hL hp, np_6 hL hp, np_19 hL hp, hT.1.1]
theorem c3_likedIn_ok {pl : Int} {T : aH} {σ : aS} (hC : CQ pl T σ) (h95 : aget σ 9 5 = pl) {f : Int → Int} (hf : B7 T f) (t : Int) {s : Int} (s0 : 0 ≤ s) (s1 : s < T 0 1) :
    c3_likedIn 9 s (gvn T t f) (pk5 f) σ = some (0, [lik T t f s], σ) := by
  have hso := q_sorts hC
  obtain ⟨hL, hp, hT, hB⟩ := hC
  have hg := hB.1
  have h5 := hB.2.1
  have h32 := gvn_32 hB t f
  have e : ∀ k : Int, 0 ≤ k → k ≤ 5 → 0 ≤ sI (fun g => bI (gvn T t f) g * aget σ (pl + 4) (5 * s + g)) k ∧ sI (fun g => bI (gvn T t f) g * aget σ (pl + 4) (5 * s + g)) k ≤ 495 ∧ (k = 5 → sI (fun g => bI (gvn T t f) g * aget σ (pl + 4) (5 * s + g)) k = sI (fun g => gvb T t f g * T 3 (5 * s + g)) (T 0 0)) := by
    intro k k0 k5
    by_cases hk : k ≤ T 0 0
    · have h1 := lik1_bd hB t f s0 s1 k0 hk
      have h2 : sI (fun g => bI (gvn T t f) g * aget σ (pl + 4) (5 * s + g)) k = sI (fun g => gvb T t f g * T 3 (5 * s + g)) k := sI_congr (fun g g0 g1 => by
        rw [(gvn_bit hB t f g0 (show g < T 0 0 by omega)).1, hT.2.2.2.1 s g s0 s1 g0 (by omega)])
      rw [h2]
      refine ⟨h1.1, h1.2, fun h => ?_⟩
      have : k = T 0 0 := by omega
      rw [this]
    · have h2 : sI (fun g => bI (gvn T t f) g * aget σ (pl + 4) (5 * s + g)) k = sI (fun g => gvb T t f g * T 3 (5 * s + g)) (T 0 0) := sI_ext hg.1 (by omega) (fun g g0 g1 => by
        rw [(gvn_bit hB t f g0 g1).1, hT.2.2.2.1 s g s0 s1 g0 g1]) (fun g g0 g1 => by rw [gvn_hi hB t f g0, Int.zero_mul])
      have h1 := lik1_bd hB t f s0 s1 hg.1 (Int.le_refl _)
      rw [h2]
      exact ⟨h1.1, h1.2, fun _ => rfl⟩
  have e5 := e 5 (by omega) (by omega)
  have ef := e5.2.2 rfl
  rw [ef] at e5
  have hl1 := al_0 (c := 7) (B := aU6 c3_likedIn_b6) (fun k => [9, s, gvn T t f, pk5 f, sI (fun g => bI (gvn T t f) g * aget σ (pl + 4) (5 * s + g)) k, k]) (fun _ => σ) (n := 5) (r := (45, [9, s, pk5 f, sI (fun g => gvb T t f g * T 3 (5 * s + g)) (T 0 0)], σ)) (by omega) (by omega) ?_ ?_ (Nat.ne_of_beq_eq_false rfl)
  · have hl2 := al_0 (c := 48) (B := aU5 c3_likedIn_b47) (fun k => [9, s, pk5 f, sI (fun g => gvb T t f g * T 3 (5 * s + g)) (T 0 0) + sI (fun o => T 4 (5 * s + o) * (f o - if o = s then 1 else 0)) k, k]) (fun _ => σ) (n := T 0 1) (r := (0, [lik T t f s], σ)) (by omega) (by omega) ?_ ?_ (Nat.ne_of_beq_eq_false rfl)
    · simp only [sI_0, Int.add_zero] at hl1 hl2
      simp only [c3_likedIn, c3_likedIn_l6, hl1, abind, c3_likedIn_d6, if_true, aU4, c3_likedIn_p44, c3_likedIn_l47, hl2, c3_likedIn_d47]
    · intro k k0 k1
      have h1 := c11_part_ok hf.1 k0 (show k < 5 by omega) σ
      have a := hf.1 k k0 (by omega)
      have b := hB.2.2.2.2.2.2.2.2.1 s k s0 s1 k0 k1
      have d := lik2_bd hB hf.1 s0 s1 k0 (Int.le_of_lt k1)
      have e3 : aget σ (pl + 5) (s * 5 + k) = T 4 (5 * s + k) := by rw [show s * 5 + k = 5 * s + k by omega]; exact hT.2.2.2.2.1 s k s0 s1 k0 k1
      by_cases c : k = s
      · have m := mul_bd (a := T 4 (5 * s + k)) (b := f k - 1) (A := 20) (B := 7) (by omega) (by omega) (by omega) (by omega)
        have mc : (f k - 1) * T 4 (5 * s + k) = T 4 (5 * s + k) * (f k - 1) := Int.mul_comm _ _
        simp (disch := omega) only [aU5, c3_likedIn_b47, c3_likedIn_p76, ↓reduceIte, acall1_some, acall0_some, q_lt, q_nlt, q_le, q_nle, q_eq, q_ne, q_01, true_or, or_true, false_or, or_false, false_and, and_false, and_self, and_true, true_and, wq, wQ, alen_aput, ag_s, ag_x, ag_j, ag_e, rp_0 hL hp, rp_1 hL hp, rp_2 hL hp, rp_3 hL hp, rp_4 hL hp, rp_5 hL hp, rp_6 hL hp, rp_7 hL hp, rp_16 hL hp, np_1 hL hp, np_2 hL hp, np_3 hL hp, np_4 hL hp, np_5 hL hp, np_6 hL hp, np_19 hL hp, h95, hso, h1, e3, sI_s, mc]
        rw [Int.add_assoc]
      · have m := mul_bd (a := T 4 (5 * s + k)) (b := f k - 0) (A := 20) (B := 7) (by omega) (by omega) (by omega) (by omega)
        have mc : (f k - 0) * T 4 (5 * s + k) = T 4 (5 * s + k) * (f k - 0) := Int.mul_comm _ _
        simp (disch := omega) only [aU5, c3_likedIn_b47, c3_likedIn_p76, ↓reduceIte, acall1_some, acall0_some, q_lt, q_nlt, q_le, q_nle, q_eq, q_ne, q_01, true_or, or_true, false_or, or_false, false_and, and_false, and_self, and_true, true_and, wq, wQ, alen_aput, ag_s, ag_x, ag_j, ag_e, rp_0 hL hp, rp_1 hL hp, rp_2 hL hp, rp_3 hL hp, rp_4 hL hp, rp_5 hL hp, rp_6 hL hp, rp_7 hL hp, rp_16 hL hp, np_1 hL hp, np_2 hL hp, np_3 hL hp, np_4 hL hp, np_5 hL hp, np_6 hL hp, np_19 hL hp, h95, hso, h1, e3, sI_s, mc]
        rw [Int.add_assoc]
    · simp (disch := omega) only [aU5, c3_likedIn_b47, ↓reduceIte, acall1_some, acall0_some, q_lt, q_nlt, q_le, q_nle, q_eq, q_ne, q_01, true_or, or_true, false_or, or_false, false_and, and_false, and_self, and_true, true_and, wq, wQ, alen_aput, ag_s, ag_x, ag_j, ag_e, h95, hso]
      rfl
  · intro k k0 k1
    have e1 := e k k0 (by omega)
    have e2 := e (k + 1) (by omega) (by omega)
    rw [sI_s k0] at e2
    have hb := bI_shr (x := gvn T t f) (k := k) h32.1 (by omega) k0 (by omega)
    have e3 : s * 5 + k = 5 * s + k := by omega
    simp (disch := omega) only [aU6, c3_likedIn_b6, ↓reduceIte, acall1_some, acall0_some, q_lt, q_nlt, q_le, q_nle, q_eq, q_ne, q_01, true_or, or_true, false_or, or_false, false_and, and_false, and_self, and_true, true_and, wq, wQ, alen_aput, ag_s, ag_x, ag_j, ag_e, rp_0 hL hp, rp_1 hL hp, rp_2 hL hp, rp_3 hL hp, rp_4 hL hp, rp_5 hL hp, rp_6 hL hp, rp_7 hL hp, rp_16 hL hp, np_1 hL hp, np_2 hL hp, np_3 hL hp, np_4 hL hp, np_5 hL hp, np_6 hL hp, np_19 hL hp, h95, hb, e3, sI_s]
  · simp (disch := omega) only [aU6, c3_likedIn_b6, ↓reduceIte, acall1_some, acall0_some, q_lt, q_nlt, q_le, q_nle, q_eq, q_ne, q_01, true_or, or_true, false_or, or_false, false_and, and_false, and_self, and_true, true_and, wq, wQ, alen_aput, ag_s, ag_x, ag_j, ag_e]
    rw [ef]
