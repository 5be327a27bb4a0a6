/-! the class's half of whole's part of this name -/
def suW (T N : aH) (p : Int) (f : Int → Int) : Int := sI (fun s => f s * wrA T N s p f) (T 0 1)
def tot (T N : aH) : Int := sI (fun p => suW T N p (ctn T N p)) (T 0 2 + 1)
def suA (T N : aH) (t : Int) (f : Int → Int) : Int := sI (fun s => f s * ask T N t f s) (T 0 1)
def metB (T N : aH) (t : Int) : Bool := decide (27720 * gco T t (ctn T N t) ≤ suA T N t (ctn T N t))
theorem suW_bd {T N : aH} (hB : TB T) (hN : NB T N) {p : Int} (p0 : 0 ≤ p) (p1 : p ≤ T 0 2) {f : Int → Int} (hf : ∀ s, 0 ≤ s → s < 5 → 0 ≤ f s ∧ f s ≤ 7) {k : Int} (k0 : 0 ≤ k) (k1 : k ≤ T 0 1) : -42000000000000 ≤ sI (fun s => f s * wrA T N s p f) k ∧ sI (fun s => f s * wrA T N s p f) k ≤ 42000000000000 := by
  have h5 := hB.2.1
  have := sI_bd (f := fun s => f s * wrA T N s p f) (a := -8400000000000) (b := 8400000000000) k0 (fun s s0 s1 => by
    have a := hf s s0 (by omega)
    have b := wrA_bd hB hN p0 p1 hf s0 (show s < T 0 1 by omega)
    have := mul_bd (a := f s) (b := wrA T N s p f) (A := 7) (B := 1200000000000) (by omega) (by omega) b.1 b.2
    try simp only
    omega)
  omega
theorem suA_bd {T N : aH} (hB : TB T) (hN : NB T N) {t : Int} (t0 : 0 ≤ t) (t1 : t < T 0 2) {f : Int → Int} (hf : ∀ s, 0 ≤ s → s < 5 → 0 ≤ f s ∧ f s ≤ 7) {k : Int} (k0 : 0 ≤ k) (k1 : k ≤ T 0 1) : -42000000000000 ≤ sI (fun s => f s * ask T N t f s) k ∧ sI (fun s => f s * ask T N t f s) k ≤ 42000000000000 := by
  have h5 := hB.2.1
  have := sI_bd (f := fun s => f s * ask T N t f s) (a := -7700000000000) (b := 7700000000000) k0 (fun s s0 s1 => by
    have a := hf s s0 (by omega)
    have b := ask_bd hB hN t0 t1 hf s0 (show s < T 0 1 by omega)
    have := mul_bd (a := f s) (b := ask T N t f s) (A := 7) (B := 1100000000000) (by omega) (by omega) b.1 b.2
    try simp only
    omega)
  omega
theorem c7_sumIn_ok {pl : Int} {T N : aH} {σ : aS} (hC : CI pl T σ) (hN : NB T N) {sc : Int} (hs : SH sc) (hS : SC T N sc σ) (hR : RE N σ) {f : Int → Int} (hf : BF T f) {p : Int} (p0 : 0 ≤ p) (p1 : p ≤ T 0 2) :
    c7_sumIn 8 sc p (pk5 f) σ = some (0, [suW T N p f], σ) := by
  have hB := hC.2.2.2.2.2
  have h5 := hB.2.1
  have hp := hC.2.1
  have q := hC.2.2.1.1
  have hal := c4_sorts_ok hC
  have hb7 := hf.b7 hB
  have hl := al_0 (c := 7) (B := aU6 c7_sumIn_b6) (fun k => [8, sc, p, pk5 f, sI (fun s => f s * wrA T N s p f) k, k]) (fun _ => σ) (n := T 0 1) (r := (0, [suW T N p f], σ)) (by omega) (by omega) ?_ ?_ (Nat.ne_of_beq_eq_false rfl)
  · unfold c7_sumIn c7_sumIn_l6
    simp only [sI_0] at hl
    rw [hl]; rfl
  · intro k k0 k1
    have h1 := c11_part_ok hb7 k0 (show k < 5 by omega) σ
    have hw := c7_worthIn_ok hC hN hs hS hR hf p0 p1 k0 k1
    have a := hb7 k k0 (by omega)
    have b := wrA_bd hB hN p0 p1 hb7 k0 k1
    have m := mul_bd (a := f k) (b := wrA T N k p f) (A := 7) (B := 1200000000000) (by omega) (by omega) b.1 b.2
    have c := suW_bd hB hN p0 p1 hb7 k0 (Int.le_of_lt k1)
    by_cases h : 0 < f k
    · simp (disch := omega) only [aU6, c7_sumIn_b6, c7_sumIn_p49, ↓reduceIte, acall1_some, acall0_some, q_lt, q_nlt, q_le, q_nle, q_eq, q_ne, q_01, true_or, or_true, false_or, or_false, false_and, and_false, and_self, and_true, true_and, wq, wQ, alen_aput, ag_s, ag_x, ag_j, ag_e, q, hal, h1, hw, sI_s]
    · have z : f k = 0 := by omega
      simp (disch := omega) only [aU6, c7_sumIn_b6, c7_sumIn_p49, ↓reduceIte, acall1_some, acall0_some, q_lt, q_nlt, q_le, q_nle, q_eq, q_ne, q_01, true_or, or_true, false_or, or_false, false_and, and_false, and_self, and_true, true_and, wq, wQ, alen_aput, ag_s, ag_x, ag_j, ag_e, q, hal, h1, z, sI_s, Int.zero_mul, Int.add_zero]
  · simp (disch := omega) only [aU6, c7_sumIn_b6, ↓reduceIte, acall1_some, acall0_some, q_lt, q_nlt, q_le, q_nle, q_eq, q_ne, q_01, true_or, or_true, false_or, or_false, false_and, and_false, and_self, and_true, true_and, wq, wQ, alen_aput, ag_s, ag_x, ag_j, ag_e, q, hal]
    rfl
theorem tot_bd {T N : aH} (hB : TB T) (hN : NB T N) {k : Int} (k0 : 0 ≤ k) (k1 : k ≤ T 0 2 + 1) : -210000000000000 ≤ sI (fun p => suW T N p (ctn T N p)) k ∧ sI (fun p => suW T N p (ctn T N p)) k ≤ 210000000000000 := by
  have h4 := hB.2.2.1
  have := sI_bd (f := fun p => suW T N p (ctn T N p)) (a := -42000000000000) (b := 42000000000000) k0 (fun p p0 p1 => suW_bd hB hN p0 (show p ≤ T 0 2 by omega) ((ctn_BF hN hB p0 (by omega)).b7 hB) hB.2.1.1 (Int.le_refl _))
  omega
theorem c7_totalOf_ok {pl : Int} {T N : aH} {σ : aS} (hC : CI pl T σ) (hN : NB T N) {sc : Int} (hs : SH sc) (hS : SC T N sc σ) (hR : RE N σ) : c7_totalOf 8 sc σ = some (0, [tot T N], σ) := by
  have hB := hC.2.2.2.2.2
  have h4 := hB.2.2.1
  have hp := hC.2.1
  have q := hC.2.2.1.1
  have hal := c4_alone_ok hC
  have hl := al_0 (c := 6) (B := aU4 c7_totalOf_b5) (fun k => [8, sc, sI (fun p => suW T N p (ctn T N p)) k, k]) (fun _ => σ) (n := T 0 2 + 1) (r := (0, [tot T N], σ)) (by omega) (by omega) ?_ ?_ (Nat.ne_of_beq_eq_false rfl)
  · unfold c7_totalOf c7_totalOf_l5
    simp only [sI_0] at hl
    rw [hl]; rfl
  · intro k k0 k1
    have hcr := c4_crewAt_ok hC hN k0 (show k ≤ T 0 2 by omega)
    have hsu := c7_sumIn_ok hC hN hs hS hR (ctn_BF hN hB k0 (show k ≤ T 0 2 by omega)) k0 (by omega)
    have c := tot_bd hB hN k0 (Int.le_of_lt k1)
    have b := suW_bd hB hN k0 (show k ≤ T 0 2 by omega) ((ctn_BF hN hB k0 (by omega)).b7 hB) hB.2.1.1 (Int.le_refl _)
    have b' : -42000000000000 ≤ suW T N k (ctn T N k) ∧ suW T N k (ctn T N k) ≤ 42000000000000 := b
    simp (disch := omega) only [aU4, c7_totalOf_b5, ↓reduceIte, acall1_some, acall0_some, q_lt, q_nlt, q_le, q_nle, q_eq, q_ne, q_01, true_or, or_true, false_or, or_false, false_and, and_false, and_self, and_true, true_and, wq, wQ, alen_aput, ag_s, ag_x, ag_j, ag_e, q, hal, hS.1, hcr, hsu, sI_s]
  · simp (disch := omega) only [aU4, c7_totalOf_b5, ↓reduceIte, acall1_some, acall0_some, q_lt, q_nlt, q_le, q_nle, q_eq, q_ne, q_01, true_or, or_true, false_or, or_false, false_and, and_false, and_self, and_true, true_and, wq, wQ, alen_aput, ag_s, ag_x, ag_j, ag_e, q, hal]
    rfl
theorem p2_mono {a b : Int} (a0 : 0 ≤ a) (h : a ≤ b) : p2 a ≤ p2 b := by
  unfold p2
  have : 2 ^ a.toNat ≤ 2 ^ b.toNat := Nat.pow_le_pow_right (by decide) (by omega)
  omega
/-- bits of goods that aren't told -/
theorem gvn_hi {T : aH} (hB : TB T) (t : Int) (f : Int → Int) {g : Int} (h : T 0 0 ≤ g) : bI (gvn T t f) g = 0 := by
  have a := gsum_lt' T t f hB.1.1
  have b := p2_mono hB.1.1 h
  have c : gvn T t f / p2 g = 0 := Int.ediv_eq_zero_of_lt a.1 (by unfold gvn; omega)
  unfold bI; rw [c]; rfl
theorem sI_ext {f g : Int → Int} {m n : Int} (h0 : 0 ≤ m) (h1 : m ≤ n) (hf : ∀ k, 0 ≤ k → k < m → g k = f k) (hz : ∀ k, m ≤ k → k < n → g k = 0) : sI g n = sI f m := by
  obtain ⟨d, hd⟩ := Int.eq_ofNat_of_zero_le (show 0 ≤ n - m by omega)
  have e : n = m + d := by omega
  subst e
  clear hd
  induction d with
  | zero => rw [show m + ((0 : Nat) : Int) = m by omega]; exact sI_congr hf
  | succ d ih =>
    rw [show m + ((d + 1 : Nat) : Int) = (m + d) + 1 by omega, sI_s (by omega), ih (by omega) (fun k a b => hz k a (by omega)), hz _ (by omega) (by omega)]
    omega
theorem c4_costOf_ok {pl : Int} {T : aH} {σ : aS} (hC : CI pl T σ) (t : Int) (f : Int → Int) : c4_costOf pl (gvn T t f) σ = some (0, [gco T t f], σ) := by
  obtain ⟨hL, hp, hq, hT, hG, hB⟩ := hC
  have hg := hB.1
  have h32 := gvn_32 hB t f
  have e : ∀ k : Int, 0 ≤ k → k ≤ 5 → 0 ≤ sI (fun g => bI (gvn T t f) g * aget σ (pl + 2) g) k ∧ sI (fun g => bI (gvn T t f) g * aget σ (pl + 2) g) k ≤ 4995 ∧ (k = 5 → sI (fun g => bI (gvn T t f) g * aget σ (pl + 2) g) k = gco T t f) := by
    intro k k0 k5
    by_cases hk : k ≤ T 0 0
    · have h1 := gco_bd hB t f k0 hk
      have h2 : sI (fun g => bI (gvn T t f) g * aget σ (pl + 2) g) k = sI (fun g => gvb T t f g * T 1 g) k := sI_congr (fun g g0 g1 => by
        rw [(gvn_bit hB t f g0 (show g < T 0 0 by omega)).1, hT.2.1 g g0 (by omega)])
      rw [h2]
      refine ⟨h1.1, h1.2, fun h => ?_⟩
      have : k = T 0 0 := by omega
      rw [this]; rfl
    · have h2 : sI (fun g => bI (gvn T t f) g * aget σ (pl + 2) g) k = sI (fun g => gvb T t f g * T 1 g) (T 0 0) := sI_ext hg.1 (by omega) (fun g g0 g1 => by
        rw [(gvn_bit hB t f g0 g1).1, hT.2.1 g g0 g1]) (fun g g0 g1 => by rw [gvn_hi hB t f g0, Int.zero_mul])
      have h1 := gco_bd hB t f hg.1 (Int.le_refl _)
      rw [h2]
      exact ⟨h1.1, h1.2, fun _ => rfl⟩
  have hl := al_0 (c := 5) (B := aU4 c4_costOf_b4) (fun k => [pl, gvn T t f, sI (fun g => bI (gvn T t f) g * aget σ (pl + 2) g) k, k]) (fun _ => σ) (n := 5) (r := (0, [gco T t f], σ)) (by omega) (by omega) ?_ ?_ (Nat.ne_of_beq_eq_false rfl)
  · unfold c4_costOf c4_costOf_l4
    simp only [sI_0] at hl
    rw [hl]; rfl
  · intro k k0 k1
    have e1 := e k k0 (by omega)
    have e2 := e (k + 1) (by omega) (by omega)
    rw [sI_s k0] at e2
    have hb := bI_shr (x := gvn T t f) (k := k) h32.1 (by omega) k0 (by omega)
    simp (disch := omega) only [aU4, c4_costOf_b4, ↓reduceIte, acall1_some, acall0_some, q_lt, q_nlt, q_le, q_nle, q_eq, q_ne, q_01, true_or, or_true, false_or, or_false, false_and, and_false, and_self, and_true, true_and, wq, wQ, alen_aput, ag_s, ag_x, ag_j, ag_e, rp_0 hL hp, rp_1 hL hp, rp_2 hL hp, rp_3 hL hp, rp_4 hL hp, rp_5 hL hp, rp_6 hL hp, rp_7 hL hp, rp_16 hL hp, np_1 hL hp, np_2 hL hp, np_3 hL hp, np_4 hL hp, np_5 hL hp, np_6 hL hp, np_19 hL hp, hb, sI_s]
  · simp (disch := omega) only [aU4, c4_costOf_b4, ↓reduceIte, acall1_some, acall0_some, q_lt, q_nlt, q_le, q_nle, q_eq, q_ne, q_01, true_or, or_true, false_or, or_false, false_and, and_false, and_self, and_true, true_and, wq, wQ, alen_aput, ag_s, ag_x, ag_j, ag_e]
    rw [(e 5 (by omega) (by omega)).2.2 rfl]
theorem c7_isMet_ok {pl : Int} {T N : aH} {σ : aS} (hC : CI pl T σ) (hN : NB T N) {sc : Int} (hs : SH sc) (hS : SC T N sc σ) (hR : RE N σ) {t : Int} (t0 : 0 ≤ t) (t1 : t < T 0 2) :
    c7_isMet 8 sc t σ = some (0, [if metB T N t = true then 1 else 0], σ) := by
  have hB := hC.2.2.2.2.2
  have h5 := hB.2.1
  have h4 := hB.2.2.1
  have hL := hC.1
  have hp := hC.2.1
  have q := hC.2.2.1.1
  have hal := c4_sorts_ok hC
  have hf := ctn_BF hN hB t0 (Int.le_of_lt t1)
  have hb7 := hf.b7 hB
  have hcr := c4_crewAt_ok hC hN t0 (Int.le_of_lt t1)
  have hrow := c3_row_ok hC hf t0 (show t < 4 by omega)
  have hn := nuf_bd hB hf
  have hc := crw_le hB
  have hg := (hC.2.2.2.2.1.2 t _ t0 t1 hf).1
  have hco := c4_costOf_ok hC t (ctn T N t)
  have hcb := gco_bd hB t (ctn T N t) hB.1.1 (Int.le_refl _)
  have hcb' : 0 ≤ gco T t (ctn T N t) ∧ gco T t (ctn T N t) ≤ 4995 := hcb
  have hl := al_0 (c := 31) (B := aU7 c7_isMet_b30) (fun k => [8, sc, t, pk5 (ctn T N t), 432 * t + nuf T (ctn T N t), sI (fun s => ctn T N t s * ask T N t (ctn T N t) s) k, k]) (fun _ => σ) (n := T 0 1) (r := (81, [8, 432 * t + nuf T (ctn T N t), suA T N t (ctn T N t)], σ)) (by omega) (by omega) ?_ ?_ (Nat.ne_of_beq_eq_false rfl)
  · simp only [sI_0] at hl
    unfold metB
    by_cases h : 27720 * gco T t (ctn T N t) ≤ suA T N t (ctn T N t)
    · rw [decide_eq_true h]
      simp (disch := omega) only [c7_isMet, ↓reduceIte, acall1_some, acall0_some, q_lt, q_nlt, q_le, q_nle, q_eq, q_ne, q_01, true_or, or_true, false_or, or_false, false_and, and_false, and_self, and_true, true_and, wq, wQ, alen_aput, ag_s, ag_x, ag_j, ag_e, q, hS.1, hcr, r_8_8 hL, hrow, c7_isMet_l30, hl, abind, c7_isMet_d30, aU3, c7_isMet_p80, r_9_0 hL, n_10 hL, hg, hco, acmp_n]
    · rw [decide_eq_false h]
      simp (disch := omega) only [c7_isMet, ↓reduceIte, acall1_some, acall0_some, q_lt, q_nlt, q_le, q_nle, q_eq, q_ne, q_01, true_or, or_true, false_or, or_false, false_and, and_false, and_self, and_true, true_and, wq, wQ, alen_aput, ag_s, ag_x, ag_j, ag_e, q, hS.1, hcr, r_8_8 hL, hrow, c7_isMet_l30, hl, abind, c7_isMet_d30, aU3, c7_isMet_p80, r_9_0 hL, n_10 hL, hg, hco, acmp_n]
      rfl
  · intro k k0 k1
    have h1 := c11_part_ok hb7 k0 (show k < 5 by omega) σ
    have hw := c7_askedByRow_ok hC hN hs hS hR hf t0 t1 k0 k1
    have a := hb7 k k0 (by omega)
    have b := ask_bd hB hN t0 t1 hb7 k0 k1
    have m := mul_bd (a := ctn T N t k) (b := ask T N t (ctn T N t) k) (A := 7) (B := 1100000000000) (by omega) (by omega) b.1 b.2
    have c := suA_bd hB hN t0 t1 hb7 k0 (Int.le_of_lt k1)
    by_cases h : 0 < ctn T N t k
    · simp (disch := omega) only [aU7, c7_isMet_b30, c7_isMet_p74, ↓reduceIte, acall1_some, acall0_some, q_lt, q_nlt, q_le, q_nle, q_eq, q_ne, q_01, true_or, or_true, false_or, or_false, false_and, and_false, and_self, and_true, true_and, wq, wQ, alen_aput, ag_s, ag_x, ag_j, ag_e, q, hal, h1, hw, sI_s]
    · have z : ctn T N t k = 0 := by omega
      simp (disch := omega) only [aU7, c7_isMet_b30, c7_isMet_p74, ↓reduceIte, acall1_some, acall0_some, q_lt, q_nlt, q_le, q_nle, q_eq, q_ne, q_01, true_or, or_true, false_or, or_false, false_and, and_false, and_self, and_true, true_and, wq, wQ, alen_aput, ag_s, ag_x, ag_j, ag_e, q, hal, h1, z, sI_s, Int.zero_mul, Int.add_zero]
  · simp (disch := omega) only [aU7, c7_isMet_b30, ↓reduceIte, acall1_some, acall0_some, q_lt, q_nlt, q_le, q_nle, q_eq, q_ne, q_01, true_or, or_true, false_or, or_false, false_and, and_false, and_self, and_true, true_and, wq, wQ, alen_aput, ag_s, ag_x, ag_j, ag_e, q, hal]
    rfl
theorem c7_gainOf_ok {pl : Int} {T N : aH} {σ : aS} (hC : CI pl T σ) (hN : NB T N) {sc : Int} (hs : SH sc) (hS : SC T N sc σ) (hR : RE N σ) {s a b : Int} (s0 : 0 ≤ s) (s1 : s < T 0 1) (a0 : 0 ≤ a) (a1 : a ≤ T 0 2) (b0 : 0 ≤ b) (b1 : b ≤ T 0 2) (hab : a ≠ b) (h : 0 < N 0 (5 * s + a)) :
    c7_gainOf 8 sc s a b σ = some (0, [gai T N s a b], σ) := by
  have hB := hC.2.2.2.2.2
  have h5 := hB.2.1
  have hp := hC.2.1
  have q := hC.2.2.1.1
  have hcr := c4_crewAt_ok hC hN b0 b1
  have h1 := c11_one_ok (s := s) σ s0 (by omega)
  have hpk := pk5_adc (f := ctn T N b) s0 (show s < 5 by omega)
  have hbf := adc_BF hN hB s0 s1 a0 a1 b0 b1 hab h
  have hk2 := pk5_bd (hbf.b7 hB)
  have hw := c7_worthIn_ok hC hN hs hS hR hbf b0 b1 s0 s1
  have hst := c7_stayOf_ok hC hN hs hS hR a0 a1 s0 s1
  have w1 := wrA_bd hB hN b0 b1 (hbf.b7 hB) s0 s1
  have w2 := wrA_bd hB hN a0 a1 ((ctn_BF hN hB a0 a1).b7 hB) s0 s1
  have d := (hB.2.2.2.2.2.1 s s0 s1).2.2.2
  simp (disch := omega) only [c7_gainOf, ↓reduceIte, acall1_some, acall0_some, q_lt, q_nlt, q_le, q_nle, q_eq, q_ne, q_01, true_or, or_true, false_or, or_false, false_and, and_false, and_self, and_true, true_and, wq, wQ, alen_aput, ag_s, ag_x, ag_j, ag_e, q, hS.1, hcr, h1, hpk, hw, hst]
  unfold gai
  rw [show wrA T N s b (adc (ctn T N b) s) - (wrA T N s a (ctn T N a) + 27720 * T 2 (4 * s + 3)) = wrA T N s b (adc (ctn T N b) s) - wrA T N s a (ctn T N a) - 27720 * T 2 (4 * s + 3) by omega]
