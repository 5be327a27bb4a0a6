/-! the class's half of whole's part of this name -/
def adg (f g : Int → Int) : Int → Int := fun s => f s + g s
/-- a party at a: not more than are there -/
def PA (T N : aH) (g : Int → Int) (a : Int) : Prop := (∀ s, 0 ≤ s → s < T 0 1 → 0 ≤ g s ∧ g s ≤ N 0 (5 * s + a)) ∧ ∀ s, ¬ (0 ≤ s ∧ s < T 0 1) → g s = 0
/-- the first sort of the party that would lose -/
def pwS (T N : aH) (g : Int → Int) (a b : Int) : Int := ff (fun s => decide (0 < g s) && !decide (wrA T N s a (ctn T N a) + 27720 * T 2 (4 * s + 3) < wrA T N s b (adg (ctn T N b) g))) (T 0 1)
def pwB (T N : aH) (g : Int → Int) (a b : Int) : Bool := decide (bnd T N a = 0) && decide (pwS T N g a b = T 0 1)
theorem PA.BF {T N : aH} {g : Int → Int} {a : Int} (h : PA T N g a) (hN : NB T N) (hB : TB T) (a0 : 0 ≤ a) (a1 : a ≤ T 0 2) : BF T g := by
  refine ⟨fun s s0 s5 => ?_, h.2⟩
  by_cases c : s < T 0 1
  · have h1 := h.1 s s0 c
    have h2 := hN.le hB s0 c a0 a1
    rw [hsf_in s0 c]; omega
  · rw [h.2 s (fun q => c q.2)]
    have := hsf_bd hB s
    omega
theorem adg_BF {T N : aH} (hN : NB T N) (hB : TB T) {g : Int → Int} {a b : Int} (a0 : 0 ≤ a) (a1 : a ≤ T 0 2) (b0 : 0 ≤ b) (b1 : b ≤ T 0 2) (hab : a ≠ b) (h : PA T N g a) : BF T (adg (ctn T N b) g) := by
  refine ⟨fun s s0 s5 => ?_, fun s hs => by unfold adg; rw [h.2 s hs, show ctn T N b s = 0 from if_neg hs]; rfl⟩
  by_cases c : s < T 0 1
  · have h1 := h.1 s s0 c
    have h2 := hN.two s0 c a0 a1 b0 b1 hab
    have h3 := hN.1 s b s0 c b0 b1
    unfold adg
    rw [hsf_in s0 c, ctn_in N b s0 c]; omega
  · unfold adg
    rw [h.2 s (fun q => c q.2), show ctn T N b s = 0 from if_neg (fun q => c q.2)]
    have := hsf_bd hB s
    omega
theorem pk5_adg (f g : Int → Int) : pk5 f + pk5 g = pk5 (adg f g) := by unfold pk5 adg; omega
theorem c7_partyWould_ok {pl : Int} {T N : aH} {σ : aS} (hC : CI pl T σ) (hN : NB T N) {sc : Int} (hs : SH sc) (hS : SC T N sc σ) (hR : RE N σ) {g : Int → Int} {a b : Int} (a0 : 0 ≤ a) (a1 : a ≤ T 0 2) (b0 : 0 ≤ b) (b1 : b ≤ T 0 2) (hab : a ≠ b) (h : PA T N g a) :
    c7_partyWould 8 sc (pk5 g) a b σ = some (0, [if pwB T N g a b = true then 1 else 0], σ) := by
  have hB := hC.2.2.2.2.2
  have h5 := hB.2.1
  have hp := hC.2.1
  have q := hC.2.2.1.1
  have hal := c4_sorts_ok hC
  have hib := c8_isBound_ok hN hB hS a0 a1
  have hbn := bnd_01 hN (T := T) a0
  have hcr := c4_crewAt_ok hC hN b0 b1
  have hg := h.BF hN hB a0 a1
  have hg7 := hg.b7 hB
  have hag := adg_BF hN hB a0 a1 b0 b1 hab h
  have hpk := pk5_adg (ctn T N b) g
  have hk1 := pk5_bd hg7
  have hk2 := pk5_bd (hag.b7 hB)
  unfold pwB
  by_cases hbd : bnd T N a = 0
  · have n0 : 0 ≤ pwS T N g a b := ff_0 _
    have n1 : pwS T N g a b ≤ T 0 1 := ff_n _ h5.1
    have hl := al_0 (c := 31) (B := aU7 c7_partyWould_b30) (fun k => [8, sc, pk5 g, a, b, pk5 (adg (ctn T N b) g), k]) (fun _ => σ) (n := pwS T N g a b) (r := (0, [if pwS T N g a b = T 0 1 then 1 else 0], σ)) n0 (by omega) ?_ ?_ (Nat.ne_of_beq_eq_false rfl)
    · simp (disch := omega) only [c7_partyWould, ↓reduceIte, acall1_some, acall0_some, q_lt, q_nlt, q_le, q_nle, q_eq, q_ne, q_01, true_or, or_true, false_or, or_false, false_and, and_false, and_self, and_true, true_and, wq, wQ, alen_aput, ag_s, ag_x, ag_j, ag_e, hib, hbd, q, hS.1, hcr, hpk, c7_partyWould_l30, hl, abind, c7_partyWould_d30, decide_true, Bool.true_and, decide_eq_true_eq]
    · intro k k0 k1
      have z := ff_no (P := fun s => decide (0 < g s) && !decide (wrA T N s a (ctn T N a) + 27720 * T 2 (4 * s + 3) < wrA T N s b (adg (ctn T N b) g))) (n := T 0 1) k0 k1
      have h1 := c11_part_ok hg7 k0 (show k < 5 by omega) σ
      have gk := hg7 k k0 (by omega)
      by_cases c : 0 < g k
      · have hw := c7_worthIn_ok hC hN hs hS hR hag b0 b1 k0 (show k < T 0 1 by omega)
        have hst := c7_stayOf_ok hC hN hs hS hR a0 a1 k0 (show k < T 0 1 by omega)
        rw [decide_eq_true c, Bool.true_and, Bool.not_eq_false', decide_eq_true_iff] at z
        simp (disch := omega) only [aU7, c7_partyWould_b30, c7_partyWould_p76, ↓reduceIte, acall1_some, acall0_some, q_lt, q_nlt, q_le, q_nle, q_eq, q_ne, q_01, true_or, or_true, false_or, or_false, false_and, and_false, and_self, and_true, true_and, wq, wQ, alen_aput, ag_s, ag_x, ag_j, ag_e, q, hal, h1, hw, hst, acmp_p]
      · simp (disch := omega) only [aU7, c7_partyWould_b30, c7_partyWould_p76, ↓reduceIte, acall1_some, acall0_some, q_lt, q_nlt, q_le, q_nle, q_eq, q_ne, q_01, true_or, or_true, false_or, or_false, false_and, and_false, and_self, and_true, true_and, wq, wQ, alen_aput, ag_s, ag_x, ag_j, ag_e, q, hal, h1]
    · by_cases e : pwS T N g a b = T 0 1
      · rw [if_pos e]
        simp (disch := omega) only [aU7, c7_partyWould_b30, ↓reduceIte, acall1_some, acall0_some, q_lt, q_nlt, q_le, q_nle, q_eq, q_ne, q_01, true_or, or_true, false_or, or_false, false_and, and_false, and_self, and_true, true_and, wq, wQ, alen_aput, ag_s, ag_x, ag_j, ag_e, q, hal]
      · have z : (decide (0 < g (pwS T N g a b)) && !decide (wrA T N (pwS T N g a b) a (ctn T N a) + 27720 * T 2 (4 * (pwS T N g a b) + 3) < wrA T N (pwS T N g a b) b (adg (ctn T N b) g))) = true := ff_at (P := fun s => decide (0 < g s) && !decide (wrA T N s a (ctn T N a) + 27720 * T 2 (4 * s + 3) < wrA T N s b (adg (ctn T N b) g))) (n := T 0 1) (by unfold pwS at e n1; omega)
        simp only [Bool.and_eq_true, decide_eq_true_iff, Bool.not_eq_true', decide_eq_false_iff_not] at z
        have hlt : pwS T N g a b < T 0 1 := by omega
        rw [if_neg e]
        have z1 := z.1
        have z2 := z.2
        generalize pwS T N g a b = k at *
        have h1 := c11_part_ok hg7 n0 (show k < 5 by omega) σ
        have hw := c7_worthIn_ok hC hN hs hS hR hag b0 b1 n0 hlt
        have hst := c7_stayOf_ok hC hN hs hS hR a0 a1 n0 hlt
        simp (disch := omega) only [aU7, c7_partyWould_b30, ↓reduceIte, acall1_some, acall0_some, q_lt, q_nlt, q_le, q_nle, q_eq, q_ne, q_01, true_or, or_true, false_or, or_false, false_and, and_false, and_self, and_true, true_and, wq, wQ, alen_aput, ag_s, ag_x, ag_j, ag_e, q, hal, h1, hw, hst, acmp_p]
  · simp (disch := omega) only [c7_partyWould, ↓reduceIte, acall1_some, acall0_some, q_lt, q_nlt, q_le, q_nle, q_eq, q_ne, q_01, true_or, or_true, false_or, or_false, false_and, and_false, and_self, and_true, true_and, wq, wQ, alen_aput, ag_s, ag_x, ag_j, ag_e, hib, hbd, decide_false, Bool.false_and]
    rfl
def edV (g : Int) : Int := if 0 < g then 0 else Int.tdiv (-g) 27720 + 1
def edM (T N : aH) (t s : Int) : Nat → Int
  | 0 => 1000
  | n + 1 => if (n : Int) = t then edM T N t s n else if edV (gai T N s t n) < edM T N t s n then edV (gai T N s t n) else edM T N t s n
def edE (T N : aH) (t s : Int) : Int := if bnd T N t = 0 then edM T N t s (T 0 2 + 1).toNat else 1000
theorem edV_bd {g : Int} (h0 : -1000000000000000 ≤ g) : 0 ≤ edV g ∧ edV g ≤ 1000000000000000 := by
  unfold edV
  split
  · omega
  · rw [Int.tdiv_eq_ediv_of_nonneg (by omega)]; omega
theorem edM_bd {T N : aH} {t s : Int} (hg : ∀ b, 0 ≤ b → b ≤ T 0 2 → -1000000000000000 ≤ gai T N s t b) : ∀ n : Nat, (n : Int) ≤ T 0 2 + 1 → 0 ≤ edM T N t s n ∧ edM T N t s n ≤ 1000 := by
  intro n
  induction n with
  | zero => intro _; exact ⟨by show (0 : Int) ≤ 1000; omega, by show (1000 : Int) ≤ 1000; omega⟩
  | succ n ih =>
    intro h
    have h1 := ih (by omega)
    have h2 := edV_bd (hg n (by omega) (by omega))
    unfold edM
    repeat' split
    all_goals omega
theorem gai_bd {T N : aH} (hB : TB T) (hN : NB T N) {s a b : Int} (s0 : 0 ≤ s) (s1 : s < T 0 1) (a0 : 0 ≤ a) (a1 : a ≤ T 0 2) (b0 : 0 ≤ b) (b1 : b ≤ T 0 2) : -2500000000000 ≤ gai T N s a b ∧ gai T N s a b ≤ 2500000000000 := by
  have w1 := wrA_bd hB hN b0 b1 (B7.ad1 hB (ctn_BF hN hB b0 b1) s0 s1).1 s0 s1
  have w2 := wrA_bd hB hN a0 a1 ((ctn_BF hN hB a0 a1).b7 hB) s0 s1
  have hb := (hB.2.2.2.2.2.1 s s0 s1).2.2.2
  unfold gai; omega
theorem c7_edgeOf_ok {pl : Int} {T N : aH} {σ : aS} (hC : CI pl T σ) (hN : NB T N) {sc : Int} (hs : SH sc) (hS : SC T N sc σ) (hR : RE N σ) {t s : Int} (s0 : 0 ≤ s) (s1 : s < T 0 1) (t0 : 0 ≤ t) (t1 : t < T 0 2) (h : 0 < N 0 (5 * s + t)) :
    c7_edgeOf 8 sc t s σ = some (0, [edE T N t s], σ) := by
  have hB := hC.2.2.2.2.2
  have h4 := hB.2.2.1
  have hp := hC.2.1
  have q := hC.2.2.1.1
  have hal := c4_alone_ok hC
  have hib := c8_isBound_ok hN hB hS t0 (Int.le_of_lt t1)
  have hgb : ∀ b, 0 ≤ b → b ≤ T 0 2 → -1000000000000000 ≤ gai T N s t b := fun b b0 b1 => by have := gai_bd hB hN s0 s1 t0 (Int.le_of_lt t1) b0 b1; omega
  unfold edE
  by_cases hbd : bnd T N t = 0
  · rw [if_pos hbd]
    have hl := al_0 (c := 21) (B := aU6 c7_edgeOf_b20) (fun k => [8, sc, t, s, edM T N t s k.toNat, k]) (fun _ => σ) (n := T 0 2 + 1) (r := (83, [edM T N t s (T 0 2 + 1).toNat], σ)) (by omega) (by omega) ?_ ?_ (Nat.ne_of_beq_eq_false rfl)
    · have hb := edM_bd hgb (T 0 2 + 1).toNat (by omega)
      simp only [Int.toNat_zero, show edM T N t s 0 = 1000 from rfl] at hl
      simp (disch := omega) only [c7_edgeOf, ↓reduceIte, acall1_some, acall0_some, q_lt, q_nlt, q_le, q_nle, q_eq, q_ne, q_01, true_or, or_true, false_or, or_false, false_and, and_false, and_self, and_true, true_and, wq, wQ, alen_aput, ag_s, ag_x, ag_j, ag_e, hib, hbd, c7_edgeOf_l20, hl, abind, c7_edgeOf_d20, aU1, c7_edgeOf_p82]
    · intro k k0 k1
      obtain ⟨n, rfl⟩ := Int.eq_ofNat_of_zero_le k0
      have e : ((n : Int) + 1).toNat = n + 1 := by omega
      have hm := edM_bd hgb n (by omega)
      have hm1 : edM T N t s (n + 1) = if (n : Int) = t then edM T N t s n else if edV (gai T N s t n) < edM T N t s n then edV (gai T N s t n) else edM T N t s n := rfl
      rw [e, hm1, Int.toNat_natCast]
      by_cases c : (n : Int) = t
      · rw [if_pos c]
        simp (disch := omega) only [aU6, c7_edgeOf_b20, c7_edgeOf_p76, ↓reduceIte, acall1_some, acall0_some, q_lt, q_nlt, q_le, q_nle, q_eq, q_ne, q_01, true_or, or_true, false_or, or_false, false_and, and_false, and_self, and_true, true_and, wq, wQ, alen_aput, ag_s, ag_x, ag_j, ag_e, q, hal, c]
      · rw [if_neg c]
        have hga := c7_gainOf_ok hC hN hs hS hR s0 s1 t0 (Int.le_of_lt t1) k0 (show (n : Int) ≤ T 0 2 by omega) (fun z => c z.symm) h
        have hgb2 := gai_bd hB hN s0 s1 t0 (Int.le_of_lt t1) k0 (show (n : Int) ≤ T 0 2 by omega)
        have hv := edV_bd (hgb n k0 (by omega))
        unfold edV at hv ⊢
        by_cases d : 0 < gai T N s t n
        · rw [if_pos d]
          by_cases m : (0 : Int) < edM T N t s n
          · simp (disch := omega) only [aU6, c7_edgeOf_b20, c7_edgeOf_p76, c7_edgeOf_p71, jminl, ↓reduceIte, acall1_some, acall0_some, q_lt, q_nlt, q_le, q_nle, q_eq, q_ne, q_01, true_or, or_true, false_or, or_false, false_and, and_false, and_self, and_true, true_and, wq, wQ, alen_aput, ag_s, ag_x, ag_j, ag_e, q, hal, hga, acmp_p]
          · simp (disch := omega) only [aU6, c7_edgeOf_b20, c7_edgeOf_p76, c7_edgeOf_p71, jminl, ↓reduceIte, acall1_some, acall0_some, q_lt, q_nlt, q_le, q_nle, q_eq, q_ne, q_01, true_or, or_true, false_or, or_false, false_and, and_false, and_self, and_true, true_and, wq, wQ, alen_aput, ag_s, ag_x, ag_j, ag_e, q, hal, hga, acmp_p]
        · rw [if_neg d] at hv ⊢
          have ht : 0 ≤ Int.tdiv (-gai T N s t n) 27720 ∧ Int.tdiv (-gai T N s t n) 27720 ≤ 1000000000000000 := by
            rw [Int.tdiv_eq_ediv_of_nonneg (by omega)]; omega
          by_cases m : Int.tdiv (-gai T N s t n) 27720 + 1 < edM T N t s n
          · simp (disch := omega) only [aU6, c7_edgeOf_b20, c7_edgeOf_p76, c7_edgeOf_p71, jminl, ↓reduceIte, acall1_some, acall0_some, q_lt, q_nlt, q_le, q_nle, q_eq, q_ne, q_01, true_or, or_true, false_or, or_false, false_and, and_false, and_self, and_true, true_and, wq, wQ, alen_aput, ag_s, ag_x, ag_j, ag_e, q, hal, hga, acmp_p]
          · simp (disch := omega) only [aU6, c7_edgeOf_b20, c7_edgeOf_p76, c7_edgeOf_p71, jminl, ↓reduceIte, acall1_some, acall0_some, q_lt, q_nlt, q_le, q_nle, q_eq, q_ne, q_01, true_or, or_true, false_or, or_false, false_and, and_false, and_self, and_true, true_and, wq, wQ, alen_aput, ag_s, ag_x, ag_j, ag_e, q, hal, hga, acmp_p]
    · simp (disch := omega) only [aU6, c7_edgeOf_b20, ↓reduceIte, acall1_some, acall0_some, q_lt, q_nlt, q_le, q_nle, q_eq, q_ne, q_01, true_or, or_true, false_or, or_false, false_and, and_false, and_self, and_true, true_and, wq, wQ, alen_aput, ag_s, ag_x, ag_j, ag_e, q, hal]
  · rw [if_neg hbd]
    have hbn := bnd_01 hN (T := T) t0
    simp (disch := omega) only [c7_edgeOf, ↓reduceIte, acall1_some, acall0_some, q_lt, q_nlt, q_le, q_nle, q_eq, q_ne, q_01, true_or, or_true, false_or, or_false, false_and, and_false, and_self, and_true, true_and, wq, wQ, alen_aput, ag_s, ag_x, ag_j, ag_e, hib]
