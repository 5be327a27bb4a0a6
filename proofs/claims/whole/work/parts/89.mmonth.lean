/-! sums and months: the reference -/
theorem gai_co {T N M : aH} (h0 : ∀ j, N 0 j = M 0 j) (h1 : ∀ j, N 1 j = M 1 j) (h4 : ∀ j, N 4 j = M 4 j) (s a b : Int) : gai T N s a b = gai T M s a b := by
  have e : ∀ p, ctn T N p = ctn T M p := fun p => by funext s; unfold ctn; rw [h0]
  unfold gai wrA wor ask
  simp only [e, h1, h4]
theorem fi_co {T N M : aH} (h0 : ∀ j, N 0 j = M 0 j) (h1 : ∀ j, N 1 j = M 1 j) (h2 : ∀ j, N 2 j = M 2 j) (h4 : ∀ j, N 4 j = M 4 j) : (∀ s a, fiB T N s a = fiB T M s a) ∧ (∀ s, fiA T N s = fiA T M s) ∧ fiS T N = fiS T M := by
  have eB : ∀ s a, fiB T N s a = fiB T M s a := fun s a => by
    unfold fiB; exact ff_congr (fun b _ _ => by rw [gai_co h0 h1 h4])
  have eA : ∀ s, fiA T N s = fiA T M s := fun s => by
    unfold fiA
    exact ff_congr (fun a _ _ => by
      have eb : bnd T N a = bnd T M a := by unfold bnd; rw [h2]
      rw [h0, eb, eB])
  refine ⟨eB, eA, ?_⟩
  unfold fiS
  exact ff_congr (fun s _ _ => by rw [eA])
theorem nxt_co {T N M : aH} (h0 : ∀ j, N 0 j = M 0 j) (h1 : ∀ j, N 1 j = M 1 j) (h2 : ∀ j, N 2 j = M 2 j) (h4 : ∀ j, N 4 j = M 4 j) (j : Int) : nxt T N 0 j = nxt T M 0 j := by
  obtain ⟨eB, eA, eS⟩ := fi_co (T := T) h0 h1 h2 h4
  unfold nxt mvN
  rw [if_pos rfl, if_pos rfl, h0, eS, eA, eB]
theorem stv_co {N : aH} {v : Int} {x : Int} (h : x ≠ 3) (j : Int) : stv N 3 1 v x j = N x j := stv_x h j
theorem fiS_st (T N : aH) (v : Int) : fiS T (stv N 3 1 v) = fiS T N := (fi_co (fun j => stv_x (by omega) j) (fun j => stv_x (by omega) j) (fun j => stv_x (by omega) j) (fun j => stv_x (by omega) j)).2.2
theorem nxt_st (T N : aH) (v : Int) : nxt T (stv N 3 1 v) = stv (nxt T N) 3 1 v := by
  funext x j
  by_cases hx : x = 0
  · subst hx
    rw [nxt_co (M := N) (fun j => stv_x (by omega) j) (fun j => stv_x (by omega) j) (fun j => stv_x (by omega) j) (fun j => stv_x (by omega) j), stv_x (by omega)]
  · have e1 : nxt T (stv N 3 1 v) x j = stv N 3 1 v x j := mvN_x _ _ _ _ hx j
    rw [e1, stv_g, stv_g]
    have e2 : nxt T N x j = N x j := mvN_x _ _ _ _ hx j
    rw [e2]
theorem stv_2 (N : aH) (v w : Int) : stv (stv N 3 1 v) 3 0 w = stv (stv N 3 0 w) 3 1 v := by
  funext x j
  simp only [stv_g]
  by_cases a : x = 3 ∧ j = 0
  · rw [if_pos a, if_neg (fun b => by omega), if_pos a]
  · rw [if_neg a, if_neg a]
theorem stv_v (N : aH) (x j v w : Int) : stv (stv N x j v) x j w = stv N x j w := by
  funext y k
  simp only [stv_g]
  by_cases a : y = x ∧ k = j
  · rw [if_pos a, if_pos a]
  · rw [if_neg a, if_neg a, if_neg a]
theorem moA_st (T N : aH) (v : Int) : moA T (stv N 3 1 v) = stv (moA T N) 3 1 v := by
  unfold moA
  rw [stv_j (by omega), fiS_st]
  split
  · exact stv_2 N v _
  · split
    · exact nxt_st T N v
    · rfl
theorem moB_st (T N : aH) (c v : Int) : moB T (stv N 3 1 v) c = stv (moB T N c) 3 1 v := by
  unfold moB
  rw [moA_st]
  split
  · exact stv_2 _ v _
  · rfl
/-- months without their count -/
def mbN (T : aH) : Nat → aH → Int → aH
  | 0, N, _ => N
  | n + 1, N, c => moB T (mbN T n N c) (monN T n N c).2
def mbK (T N : aH) (c k : Int) : aH := mbN T k.toNat N c
theorem mbK_s {T N : aH} {c k : Int} (h : 0 ≤ k) : mbK T N c (k + 1) = moB T (mbK T N c k) (moS T N c k) := by
  obtain ⟨n, rfl⟩ := Int.eq_ofNat_of_zero_le h
  rfl
theorem mbK_mo (T N : aH) (c : Int) {k : Int} (k0 : 0 ≤ k) : moK T N c k = stv (mbK T N c k) 3 1 (N 3 1 + k) ∧ mbK T N c k 3 1 = N 3 1 := by
  obtain ⟨n, rfl⟩ := Int.eq_ofNat_of_zero_le k0
  induction n with
  | zero =>
    refine ⟨?_, rfl⟩
    show N = stv N 3 1 (N 3 1 + 0)
    rw [Int.add_zero]
    funext x j
    rw [stv_g]
    by_cases a : x = 3 ∧ j = 1
    · rw [if_pos a, a.1, a.2]
    · rw [if_neg a]
  | succ n ih =>
    obtain ⟨h1, h2⟩ := ih (by omega)
    rw [show ((n + 1 : Nat) : Int) = (n : Int) + 1 from rfl, (moK_s (by omega)).1, mbK_s (by omega)]
    refine ⟨?_, by rw [moB_1]; exact h2⟩
    unfold moN
    rw [h1, moB_st, stv_s, stv_v, show N 3 1 + (n : Int) + 1 = N 3 1 + ((n : Int) + 1) by omega]
theorem c12_crewOf_ok {T N : aH} {σ : aS} (hM : MI T σ) (hN : NB T N) (hS : MN T N σ) {t : Int} (t0 : 0 ≤ t) (t1 : t ≤ T 0 2) : c12_crewOf 130 t σ = some (0, [szf (ctn T N t)], σ) := by
  obtain ⟨hL, hT, hB⟩ := hM
  have h5 := hB.2.1
  have h4 := hB.2.2.1
  have hl := al_0 (c := 5) (B := aU4 c12_crewOf_b4) (fun k => [130, t, sI (ctn T N t) k, k]) (fun _ => σ) (n := T 0 1) (r := (0, [szf (ctn T N t)], σ)) (by omega) (by omega) ?_ ?_ (Nat.ne_of_beq_eq_false rfl)
  · unfold c12_crewOf c12_crewOf_l4
    simp only [sI_0] at hl
    rw [hl]; rfl
  · intro k k0 k1
    have e := hS.1 k t k0 k1 t0 t1
    have l := hN.le hB k0 k1 t0 t1
    have b := sI_bd (f := ctn T N t) (a := 0) (b := 6) k0 (fun j j0 j1 => by have := ctn_bd hN hB t0 t1 j; omega)
    have c := ctn_in N t k0 k1
    simp (disch := omega) only [aU4, c12_crewOf_b4, ↓reduceIte, acall1_some, acall0_some, q_lt, q_nlt, q_le, q_nle, q_eq, q_ne, q_01, true_or, or_true, false_or, or_false, false_and, and_false, and_self, and_true, true_and, wq, wQ, alen_aput, ag_s, ag_x, ag_j, ag_e, hT.1.2.1, r_130_51 hL, n_155 hL, e, sI_s, c]
  · simp (disch := omega) only [aU4, c12_crewOf_b4, ↓reduceIte, acall1_some, acall0_some, q_lt, q_nlt, q_le, q_nle, q_eq, q_ne, q_01, true_or, or_true, false_or, or_false, false_and, and_false, and_self, and_true, true_and, wq, wQ, alen_aput, ag_s, ag_x, ag_j, ag_e, hT.1.2.1]
    rw [szf_sI hB (f := ctn T N t) (fun s hs => if_neg hs)]
theorem c12_sumOf_ok {T N : aH} {σ : aS} (hM : MI T σ) (hN : NB T N) (hS : MN T N σ) {t : Int} (t0 : 0 ≤ t) (t1 : t < T 0 2) : ∃ τ, c12_sumOf 130 t σ = some (0, [suW T N t (ctn T N t)], τ) ∧ Fr wwor σ τ := by
  have hB := hM.2.2
  have h5 := hB.2.1
  have hf := ctn_BF hN hB t0 (Int.le_of_lt t1)
  have hb7 := hf.b7 hB
  have hlc := c12_layCrew_ok hM hN hS t0 t1
  have hal := al_I (c := 11) (B := aU4 c12_sumOf_b10) (n := T 0 1) (i := 0) (vs := [130, t, 0, 0]) (σ := lay T t (ctn T N t) σ)
    (fun k vs τ => 0 ≤ k ∧ vs = [130, t, sI (fun s => ctn T N t s * wrA T N s t (ctn T N t)) k, k] ∧ Fr wask (lay T t (ctn T N t) σ) τ)
    (fun r => ∃ τ, r = (0, [suW T N t (ctn T N t)], τ) ∧ Fr wask (lay T t (ctn T N t) σ) τ) h5.1 (by omega) ⟨Int.le_refl _, rfl, Fr.rf _ _⟩ (by
      rintro k vs τ hk ⟨k0, rfl, hF⟩
      have hM2 := (lay_MI hM t (ctn T N t)).fr hF (by decide +kernel) (wdj_spec (by decide +kernel))
      have hS2 := (lay_MN hS t (ctn T N t)).fr hF (wdj_spec (by decide +kernel))
      have hL2 := hM2.1
      have h13 := hM2.2.1.1.2.1
      have hC2 : CR (ctn T N t) τ := fun s s0 s5 => by rw [hF.g rfl]; exact lay_CR T t _ σ s s0 s5
      by_cases hkn : k < T 0 1
      · have hck := hC2 k k0 (by omega)
        have a := hb7 k k0 (by omega)
        have b := wrA_bd hB hN t0 (Int.le_of_lt t1) hb7 k0 hkn
        have m := mul_bd (a := ctn T N t k) (b := wrA T N k t (ctn T N t)) (A := 7) (B := 1200000000000) (by omega) (by omega) b.1 b.2
        have c := suW_bd hB hN t0 (Int.le_of_lt t1) hb7 k0 (Int.le_of_lt hkn)
        by_cases h : 0 < ctn T N t k
        · obtain ⟨υ, hw, hF2⟩ := c12_worthOf_ok hM2 hN hS2 (B7.of hB hf) hC2 (by rw [hF.g rfl]; exact lay_54 T t _ σ) (by rw [hF.g rfl]; exact lay_55 T t _ σ) (by rw [hF.g rfl]; exact lay_56 T t _ σ) k0 hkn t0 t1
          have e : wor T N t (ctn T N t) k = wrA T N k t (ctn T N t) := by unfold wrA; rw [if_neg (by omega)]
          rw [e] at hw
          refine Or.inl ⟨hkn, _, υ, ?_, by omega, rfl, hF.tr hF2⟩
          simp (disch := omega) only [aU4, c12_sumOf_b10, c12_sumOf_p48, ↓reduceIte, acall1_some, acall0_some, q_lt, q_nlt, q_le, q_nle, q_eq, q_ne, q_01, true_or, or_true, false_or, or_false, false_and, and_false, and_self, and_true, true_and, wq, wQ, alen_aput, ag_s, ag_x, ag_j, ag_e, h13, r_130_53 hL2, n_157 hL2, hck, hw, sI_s]
        · have z : ctn T N t k = 0 := by omega
          refine Or.inl ⟨hkn, _, τ, ?_, by omega, rfl, hF⟩
          simp (disch := omega) only [aU4, c12_sumOf_b10, c12_sumOf_p48, ↓reduceIte, acall1_some, acall0_some, q_lt, q_nlt, q_le, q_nle, q_eq, q_ne, q_01, true_or, or_true, false_or, or_false, false_and, and_false, and_self, and_true, true_and, wq, wQ, alen_aput, ag_s, ag_x, ag_j, ag_e, h13, r_130_53 hL2, n_157 hL2, hck, z, sI_s, Int.zero_mul, Int.add_zero]
      · have hke : k = T 0 1 := by omega
        subst hke
        refine Or.inr ⟨(0, [suW T N t (ctn T N t)], τ), ?_, Nat.ne_of_beq_eq_false rfl, τ, rfl, hF⟩
        simp (disch := omega) only [aU4, c12_sumOf_b10, ↓reduceIte, acall1_some, acall0_some, q_lt, q_nlt, q_le, q_nle, q_eq, q_ne, q_01, true_or, or_true, false_or, or_false, false_and, and_false, and_self, and_true, true_and, wq, wQ, alen_aput, ag_s, ag_x, ag_j, ag_e, h13]
        rfl)
  obtain ⟨r, hr, τ, hQ, hF⟩ := hal
  refine ⟨τ, ?_, ((lay_fr T t _ σ).mono rfl).tr (hF.mono rfl)⟩
  simp (disch := omega) only [c12_sumOf, ↓reduceIte, acall1_some, acall0_some, q_lt, q_nlt, q_le, q_nle, q_eq, q_ne, q_01, true_or, or_true, false_or, or_false, false_and, and_false, and_self, and_true, true_and, wq, wQ, alen_aput, ag_s, ag_x, ag_j, ag_e, hlc, c12_sumOf_l10, hr, hQ, abind, c12_sumOf_d10]
theorem c12_isMet_ok {T N : aH} {σ : aS} (hM : MI T σ) (hN : NB T N) (hS : MN T N σ) {t : Int} (t0 : 0 ≤ t) (t1 : t < T 0 2) : ∃ τ, c12_isMet 130 t σ = some (0, [if metB T N t = true then 1 else 0], τ) ∧ Fr wwor σ τ := by
  have hB := hM.2.2
  have h5 := hB.2.1
  have hf := ctn_BF hN hB t0 (Int.le_of_lt t1)
  have hb7 := hf.b7 hB
  have hlc := c12_layCrew_ok hM hN hS t0 t1
  have hal := al_I (c := 11) (B := aU4 c12_isMet_b10) (n := T 0 1) (i := 0) (vs := [130, t, 0, 0]) (σ := lay T t (ctn T N t) σ)
    (fun k vs τ => 0 ≤ k ∧ vs = [130, t, sI (fun s => ctn T N t s * ask T N t (ctn T N t) s) k, k] ∧ Fr wask (lay T t (ctn T N t) σ) τ)
    (fun r => ∃ τ, r = (55, [130, suA T N t (ctn T N t)], τ) ∧ Fr wask (lay T t (ctn T N t) σ) τ) h5.1 (by omega) ⟨Int.le_refl _, rfl, Fr.rf _ _⟩ (by
      rintro k vs τ hk ⟨k0, rfl, hF⟩
      have hM2 := (lay_MI hM t (ctn T N t)).fr hF (by decide +kernel) (wdj_spec (by decide +kernel))
      have hS2 := (lay_MN hS t (ctn T N t)).fr hF (wdj_spec (by decide +kernel))
      have hL2 := hM2.1
      have h13 := hM2.2.1.1.2.1
      have hC2 : CR (ctn T N t) τ := fun s s0 s5 => by rw [hF.g rfl]; exact lay_CR T t _ σ s s0 s5
      by_cases hkn : k < T 0 1
      · have hck := hC2 k k0 (by omega)
        have a := hb7 k k0 (by omega)
        have b := ask_bd hB hN t0 t1 hb7 k0 hkn
        have m := mul_bd (a := ctn T N t k) (b := ask T N t (ctn T N t) k) (A := 7) (B := 1100000000000) (by omega) (by omega) b.1 b.2
        have c := suA_bd hB hN t0 t1 hb7 k0 (Int.le_of_lt hkn)
        by_cases h : 0 < ctn T N t k
        · obtain ⟨υ, hw, hF2⟩ := c12_askedOf_ok hM2 hN hS2 (B7.of hB hf) hC2 (t := t) (by rw [hF.g rfl]; exact lay_54 T t _ σ) (by rw [hF.g rfl]; exact lay_56 T t _ σ) k0 hkn t0 t1
          refine Or.inl ⟨hkn, _, υ, ?_, by omega, rfl, hF.tr hF2⟩
          simp (disch := omega) only [aU4, c12_isMet_b10, c12_isMet_p48, ↓reduceIte, acall1_some, acall0_some, q_lt, q_nlt, q_le, q_nle, q_eq, q_ne, q_01, true_or, or_true, false_or, or_false, false_and, and_false, and_self, and_true, true_and, wq, wQ, alen_aput, ag_s, ag_x, ag_j, ag_e, h13, r_130_53 hL2, n_157 hL2, hck, hw, sI_s]
        · have z : ctn T N t k = 0 := by omega
          refine Or.inl ⟨hkn, _, τ, ?_, by omega, rfl, hF⟩
          simp (disch := omega) only [aU4, c12_isMet_b10, c12_isMet_p48, ↓reduceIte, acall1_some, acall0_some, q_lt, q_nlt, q_le, q_nle, q_eq, q_ne, q_01, true_or, or_true, false_or, or_false, false_and, and_false, and_self, and_true, true_and, wq, wQ, alen_aput, ag_s, ag_x, ag_j, ag_e, h13, r_130_53 hL2, n_157 hL2, hck, z, sI_s, Int.zero_mul, Int.add_zero]
      · have hke : k = T 0 1 := by omega
        subst hke
        refine Or.inr ⟨(55, [130, suA T N t (ctn T N t)], τ), ?_, Nat.ne_of_beq_eq_false rfl, τ, rfl, hF⟩
        simp (disch := omega) only [aU4, c12_isMet_b10, ↓reduceIte, acall1_some, acall0_some, q_lt, q_nlt, q_le, q_nle, q_eq, q_ne, q_01, true_or, or_true, false_or, or_false, false_and, and_false, and_self, and_true, true_and, wq, wQ, alen_aput, ag_s, ag_x, ag_j, ag_e, h13]
        rfl)
  obtain ⟨r, hr, τ, hQ, hF⟩ := hal
  refine ⟨τ, ?_, ((lay_fr T t _ σ).mono rfl).tr (hF.mono rfl)⟩
  have h56 : aget τ 130 56 = gco T t (ctn T N t) := by rw [hF.g rfl]; exact lay_56 T t _ σ
  have hcb : 0 ≤ gco T t (ctn T N t) ∧ gco T t (ctn T N t) ≤ 4995 := gco_bd hB t (ctn T N t) hB.1.1 (Int.le_refl _)
  unfold metB
  by_cases h : 27720 * gco T t (ctn T N t) ≤ suA T N t (ctn T N t)
  · rw [decide_eq_true h]
    simp (disch := omega) only [c12_isMet, ↓reduceIte, acall1_some, acall0_some, q_lt, q_nlt, q_le, q_nle, q_eq, q_ne, q_01, true_or, or_true, false_or, or_false, false_and, and_false, and_self, and_true, true_and, wq, wQ, alen_aput, ag_s, ag_x, ag_j, ag_e, hlc, c12_isMet_l10, hr, hQ, abind, c12_isMet_d10, aU2, c12_isMet_p54, h56, acmp_n]
  · rw [decide_eq_false h]
    simp (disch := omega) only [c12_isMet, ↓reduceIte, acall1_some, acall0_some, q_lt, q_nlt, q_le, q_nle, q_eq, q_ne, q_01, true_or, or_true, false_or, or_false, false_and, and_false, and_self, and_true, true_and, wq, wQ, alen_aput, ag_s, ag_x, ag_j, ag_e, hlc, c12_isMet_l10, hr, hQ, abind, c12_isMet_d10, aU2, c12_isMet_p54, h56, acmp_n]
    rfl
/-- one month of the reference -/
def wmo : List (Int × List Int) := [(155, []), (157, []), (158, []), (130, [54, 55, 56, 58, 62, 63, 64, 80, 82])]
theorem wmo_MI {T : aH} {σ τ : aS} (hM : MI T σ) (hF : Fr wmo σ τ) : MI T τ := hM.fr hF (by decide +kernel) (wdj_spec (by decide +kernel))
theorem mp_c {σ τ : aS} {st c : Int} (hc : aget σ 130 82 = c) (c0 : 0 ≤ c) (c1 : c ≤ 2147483647) (hst : aget σ 130 16 = st) (s0 : 0 ≤ st)
    (hτ : τ = if 0 < st then (if chN c / 65536 % st = 0 then aput (aput σ 130 82 (chN c)) 130 80 12 else aput σ 130 82 (chN c)) else σ) : c12_month_p45 130 0 σ = some (0, [], τ) := by
  have h := chN_bd c
  have e : aandl (c * 1103515245 + 12345) 2147483647 = chN c := aandl_mask _
  have e2 : Int.tdiv (chN c) 65536 = chN c / 65536 := Int.tdiv_eq_ediv_of_nonneg h.1
  have e3 : Int.tmod (chN c / 65536) st = chN c / 65536 % st := Int.tmod_eq_emod_of_nonneg (by omega)
  by_cases hs : 0 < st
  · rw [if_pos hs] at hτ
    by_cases hz : chN c / 65536 % st = 0
    · rw [if_pos hz] at hτ
      simp (disch := omega) only [c12_month_p45, c12_month_p96, c12_month_p97, ↓reduceIte, acall1_some, acall0_some, q_lt, q_nlt, q_le, q_nle, q_eq, q_ne, q_01, true_or, or_true, false_or, or_false, false_and, and_false, and_self, and_true, true_and, wq, wQ, alen_aput, ag_s, ag_x, ag_j, ag_e, hc, hst, e, e2, e3, hz, acmp_z, hτ]
    · rw [if_neg hz] at hτ
      simp (disch := omega) only [c12_month_p45, c12_month_p96, c12_month_p97, ↓reduceIte, acall1_some, acall0_some, q_lt, q_nlt, q_le, q_nle, q_eq, q_ne, q_01, true_or, or_true, false_or, or_false, false_and, and_false, and_self, and_true, true_and, wq, wQ, alen_aput, ag_s, ag_x, ag_j, ag_e, hc, hst, e, e2, e3, hz, acmp_z, hτ]
  · rw [if_neg hs] at hτ
    simp (disch := omega) only [c12_month_p45, c12_month_p97, ↓reduceIte, acall1_some, acall0_some, q_lt, q_nlt, q_le, q_nle, q_eq, q_ne, q_01, true_or, or_true, false_or, or_false, false_and, and_false, and_self, and_true, true_and, wq, wQ, alen_aput, ag_s, ag_x, ag_j, ag_e, hst, hτ]
theorem MN.st0 {T N : aH} {σ : aS} (hS : MN T N σ) (v : Int) : MN T (stv N 3 0 v) (aput σ 130 80 v) := by
  refine ⟨?_, ?_, ?_, ?_, ?_, ?_, ?_⟩
  · intro s p a b c d; rw [ag_x (by omega), stv_x (by omega)]; exact hS.1 s p a b c d
  · intro t a b; rw [ag_x (by omega), stv_x (by omega)]; exact hS.2.1 t a b
  · intro t a b; rw [ag_x (by omega), stv_x (by omega)]; exact hS.2.2.1 t a b
  · rw [ag_s, stv_s]
  · rw [ag_j (by omega), stv_j (by omega)]; exact hS.2.2.2.2.1
  · rw [ag_j (by omega), stv_x (by omega)]; exact hS.2.2.2.2.2.1
  · rw [ag_j (by omega), ag_j (by omega), stv_x (by omega), stv_x (by omega), stv_x (by omega)]; exact hS.2.2.2.2.2.2
theorem c12_month_ok {T N : aH} {σ : aS} (hM : MI T σ) (hN : NB T N) (hS : MN T N σ) {c : Int} (hc : aget σ 130 82 = c) (c0 : 0 ≤ c) (c1 : c ≤ 2147483647) :
    ∃ τ, c12_month 130 σ = some (0, [], τ) ∧ MN T (moB T N c) τ ∧ aget τ 130 82 = moC T c ∧ Fr wmo σ τ := by
  have hB := hM.2.2
  have hst := hB.2.2.2.1
  have hti := hN.2.2.2.2.2.1
  have h80 := hS.2.2.2.1
  have tail : ∀ υ, MN T (moA T N) υ → MI T υ → aget υ 130 82 = c → ∃ τ, c12_month_p45 130 0 υ = some (0, [], τ) ∧ MN T (moB T N c) τ ∧ aget τ 130 82 = moC T c ∧ Fr wmo υ τ := by
    intro υ hSA hMA hcA
    refine ⟨_, mp_c hcA c0 c1 hMA.2.1.1.2.2.2.2.2 hst.1 rfl, ?_, ?_, ?_⟩
    · unfold moB
      have hS8 : MN T (moA T N) (aput υ 130 82 (chN c)) := hSA.fr (l := [(130, [82])]) ((Fr.rf _ _).put _ rfl) (wdj_spec (by decide +kernel))
      by_cases h5 : 0 < T 0 5
      · rw [if_pos h5]
        by_cases hz : chN c / 65536 % T 0 5 = 0
        · rw [if_pos hz, if_pos ⟨h5, hz⟩]; exact hS8.st0 12
        · rw [if_neg hz, if_neg (fun q => hz q.2)]; exact hS8
      · rw [if_neg h5, if_neg (fun q => h5 q.1)]; exact hSA
    · unfold moC
      split
      · split
        · rw [ag_j (by omega), ag_s]
        · rw [ag_s]
      · exact hcA
    · split
      · split
        · exact ((Fr.rf _ _).put _ rfl).put _ rfl
        · exact (Fr.rf _ _).put _ rfl
      · exact Fr.rf _ _
  by_cases ht : 0 < N 3 0
  · have hF1 : Fr wmo σ (aput σ 130 80 (N 3 0 - 1)) := (Fr.rf _ _).put _ rfl
    obtain ⟨τ, e1, e2, e3, e4⟩ := tail (aput σ 130 80 (N 3 0 - 1)) (by unfold moA; rw [if_pos ht]; exact hS.st0 _) (wmo_MI hM hF1) (by rw [ag_j (by omega)]; exact hc)
    refine ⟨τ, ?_, e2, e3, hF1.tr e4⟩
    simp (disch := omega) only [c12_month, ↓reduceIte, acall1_some, acall0_some, q_lt, q_nlt, q_le, q_nle, q_eq, q_ne, q_01, true_or, or_true, false_or, or_false, false_and, and_false, and_self, and_true, true_and, wq, wQ, alen_aput, ag_s, ag_x, ag_j, ag_e, h80, e1]
  · rcases msail1 hM hN hS with ⟨c', τ1, d1, d2⟩ | ⟨c', φ, υ, d1, d2, d3, d4, d5, d6, d7, d8⟩
    · obtain ⟨τ, e1, e2, e3, e4⟩ := tail τ1 (by unfold moA; rw [if_neg ht, if_neg c']; exact wff_MN hS d2) (wff_MI hM d2) (by rw [d2.g rfl]; exact hc)
      refine ⟨τ, ?_, e2, e3, (d2.mono rfl).tr e4⟩
      simp (disch := omega) only [c12_month, ↓reduceIte, acall1_some, acall0_some, q_lt, q_nlt, q_le, q_nle, q_eq, q_ne, q_01, true_or, or_true, false_or, or_false, false_and, and_false, and_self, and_true, true_and, wq, wQ, alen_aput, ag_s, ag_x, ag_j, ag_e, h80, d1, e1]
    · obtain ⟨τ, e1, e2, e3, e4⟩ := tail υ (by unfold moA; rw [if_neg ht, if_pos c']; exact d3) (wst_MI hM d5) (by rw [d5.g rfl]; exact hc)
      refine ⟨τ, ?_, e2, e3, (d5.mono rfl).tr e4⟩
      simp (disch := omega) only [c12_month, ↓reduceIte, acall1_some, acall0_some, q_lt, q_nlt, q_le, q_nle, q_eq, q_ne, q_01, true_or, or_true, false_or, or_false, false_and, and_false, and_self, and_true, true_and, wq, wQ, alen_aput, ag_s, ag_x, ag_j, ag_e, h80, d1, d2, e1]
