/-! the class's half of whole's part of this name -/
theorem lsp_all {T N : aH} (hN : NB T N) (hB : TB T) {s : Int} (s0 : 0 ≤ s) (s1 : s < T 0 1) (h : lsp T N s = 0) : N 0 (5 * s + 0) = T 2 (4 * s) := by
  have h4 := hB.2.2.1
  have ls := lsp_sp (N := N) hB s
  rw [← hN.2.1 s s0 s1]
  have e : sI (fun p => N 0 (5 * s + p)) (T 0 2 + 1) = sI (fun p => if p = 0 then N 0 (5 * s + 0) else 0) (T 0 2 + 1) := sI_congr (fun p p0 p1 => by
    by_cases q : p = 0
    · rw [if_pos q, q]
    · rw [if_neg q]
      have a := ls.2.1 p (by omega) (by omega)
      have b := hN.1 s p s0 s1 p0 (by omega)
      omega)
  rw [e, sI_one _ _ (Int.le_refl _) (by omega)]
theorem rsv_al {T N M : aH} (hM : NB T M) (hB : TB T) {s : Int} (s0 : 0 ≤ s) (s1 : s < T 0 1) (h : lsp T M s = 0) (hv : ∀ u p, 0 ≤ u → u < T 0 1 → 0 ≤ p → p ≤ T 0 2 → M 0 (5 * u + p) = if s < u then alv T u p else N 0 (5 * u + p))
    {u p : Int} (u0 : 0 ≤ u) (u1 : u < T 0 1) (p0 : 0 ≤ p) (p1 : p ≤ T 0 2) : rsv T M s (-1) u p = if s - 1 < u then alv T u p else N 0 (5 * u + p) := by
  have e := lsp_all hM hB s0 s1 h
  unfold rsv
  by_cases q : u = s
  · rw [if_pos q, if_pos (show s - 1 < u by omega)]
    unfold alv
    by_cases d : p = T 0 2
    · rw [if_pos d, if_pos d, show (-1 : Int) + 1 = 0 by omega, e, q]
    · rw [if_neg d, if_neg d, if_pos (by omega)]
  · rw [if_neg q, hv u p u0 u1 p0 p1]
    by_cases d : s < u
    · rw [if_pos d, if_pos (by omega)]
    · rw [if_neg d, if_neg (by omega)]
theorem rsv_up {T N M L : aH} (hM : NB T M) (hB : TB T) {s : Int} (s0 : 0 ≤ s) (s1 : s < T 0 1) (hl : 0 < lsp T M s) (hls : lss T N = s) (he : lsp T M s = lsp T N s)
    (hv : ∀ u p, 0 ≤ u → u < T 0 1 → 0 ≤ p → p ≤ T 0 2 → M 0 (5 * u + p) = if s < u then alv T u p else N 0 (5 * u + p))
    (hL : ∀ u p, 0 ≤ u → u < T 0 1 → 0 ≤ p → p ≤ T 0 2 → L 0 (5 * u + p) = rsv T M s (lsp T M s - 1) u p)
    {u p : Int} (u0 : 0 ≤ u) (u1 : u < T 0 1) (p0 : 0 ≤ p) (p1 : p ≤ T 0 2) : mvN L (mon s 1) (T 0 2) (lsp T M s - 1) 0 (5 * u + p) = sq T N 0 (5 * u + p) := by
  have h4 := hB.2.2.1
  have ls := lsp_sp (N := M) hB s
  have hm : ∀ q, 0 ≤ q → q ≤ T 0 2 → M 0 (5 * s + q) = N 0 (5 * s + q) := fun q q0 q1 => by rw [hv s q s0 s1 q0 q1, if_neg (by omega)]
  rw [mvN_0 _ _ _ _ p0 (by omega), hL u p u0 u1 p0 p1, sq_0 _ _ p0 (by omega)]
  unfold sqv rsv mon
  rw [hls]
  by_cases q : u = s
  · rw [if_neg (show ¬ u < s by omega)]
    simp only [if_pos q]
    rw [q]
    unfold nwv
    rw [← he]
    by_cases d : p = lsp T M s - 1
    · rw [if_neg (show ¬ p = T 0 2 by omega), if_neg (show ¬ lsp T M s - 1 < p by omega), if_neg (show ¬ p = T 0 2 by omega), if_pos d, if_pos d, hm p p0 p1]; omega
    · rw [if_neg d, if_neg d]
      by_cases e : p = T 0 2
      · rw [if_pos e, if_pos e, if_pos e, show lsp T M s - 1 + 1 = lsp T M s by omega, hm _ ls.1.1 ls.1.2]; omega
      · rw [if_neg e, if_neg e, if_neg e]
        by_cases f : lsp T M s - 1 < p
        · rw [if_pos f]
          by_cases g : p = lsp T M s
          · rw [if_pos g]; omega
          · rw [if_neg g]
            have a := ls.2.1 p (by omega) p1
            have b := hM.1 s p s0 s1 p0 p1
            rw [hm p p0 p1] at a b
            omega
        · rw [if_neg f, if_neg (by omega), hm p p0 p1]; omega
  · simp only [if_neg q]
    rw [hv u p u0 u1 p0 p1]
    by_cases d : u < s
    · rw [if_pos d, if_neg (by omega)]; split <;> split <;> omega
    · rw [if_neg d, if_pos (by omega)]; split <;> split <;> omega
theorem c9_nextParting_ok {pl : Int} {T N : aH} {σ : aS} (hC : CI pl T σ) (hN : NB T N) : c9_nextParting 20 (pkP T N) σ = some (0, [pkP T (sq T N)], σ) := by
  have hB := hC.2.2.2.2.2
  have hL := hC.1
  have hp := hC.2.1
  have h4 := hB.2.2.1
  have h5 := hB.2.1
  have q8 := hC.2.2.1.1
  have hal := c4_alone_ok hC
  have hso := c4_sorts_ok hC
  have lss1 := lss_sp (N := N) hB
  have hal1 := al_I (c := 20) (B := aU3 c9_nextParting_b19) (n := T 0 1) (i := 0) (vs := [pl, pkP T N, T 0 1 - 1]) (σ := σ)
    (fun k vs τ => τ = σ ∧ 0 ≤ k ∧ ∃ M, vs = [pl, pkP T M, T 0 1 - 1 - k] ∧ NB T M ∧ (∀ u p, 0 ≤ u → u < T 0 1 → 0 ≤ p → p ≤ T 0 2 → M 0 (5 * u + p) = if T 0 1 - 1 - k < u then alv T u p else N 0 (5 * u + p)) ∧ ∀ u, T 0 1 - 1 - k < u → u < T 0 1 → lsp T N u = 0)
    (fun r => r = (0, [pkP T (sq T N)], σ) ∨ ∃ L M, r = (56, [pl, pkP T L, lss T N, lsp T M (lss T N) - 1], σ) ∧ 0 ≤ lss T N ∧ lss T N < T 0 1 ∧ 0 < lsp T M (lss T N) ∧ lsp T M (lss T N) ≤ T 0 2 ∧ NB T L ∧ 0 < L 0 (5 * lss T N + T 0 2) ∧
      (∀ u p, 0 ≤ u → u < T 0 1 → 0 ≤ p → p ≤ T 0 2 → mvN L (mon (lss T N) 1) (T 0 2) (lsp T M (lss T N) - 1) 0 (5 * u + p) = sq T N 0 (5 * u + p)))
    (by omega) (by omega) ⟨rfl, Int.le_refl _, N, by rw [Int.sub_zero], hN, fun u p u0 u1 p0 p1 => by rw [if_neg (by omega)], fun u a b => by omega⟩ ?_
  · obtain ⟨r, hr, h⟩ := hal1
    have e0 : c9_nextParting 20 (pkP T N) σ = abind (some r) c9_nextParting_d19 := by
      rw [← hr]
      unfold c9_nextParting c9_nextParting_l19
      rw [r_20_7 hL, q8]
      refine ite_n (by omega) (ite_n (by omega) (acall1_h hso ?_))
      rw [wq (by omega) (by omega)]
    rw [e0]
    rcases h with rfl | ⟨L, M, rfl, a0, a1, b0, b1, hNL, hal2, hv⟩
    · rfl
    · have h1 := c11_one_ok (s := lss T N) σ a0 (by omega)
      have hmon := pk5_mon (s := lss T N) 1 a0 (by omega)
      rw [Int.one_mul] at hmon
      have hf := npt_f hNL (s := lss T N) (t := T 0 2) h4.1 (Int.le_refl _) (c := 1) ⟨by omega, by omega⟩
      have hsh := c4_shifted_ok hC hNL (f := mon (lss T N) 1) (a := T 0 2) (b := lsp T M (lss T N) - 1) h4.1 (Int.le_refl _) (by omega) (by omega) (by omega) hf (mon_z a0 a1 1)
      show c9_nextParting_p55 pl (pkP T L) (lss T N) (lsp T M (lss T N) - 1) σ = _
      unfold c9_nextParting_p55
      refine acall1_h h1 (acall1_h hal (acall1_h (v := pkP T (sq T N)) (τ := σ) ?_ rfl))
      rw [hmon, hsh, pkP_cr (N := sq T N) (fun u p u0 u1 p0 p1 => hv u p u0 u1 p0 (by omega))]
  · rintro k vs τ k1 ⟨rfl, k0, M, rfl, hM, hv, hz⟩
    by_cases c : k < T 0 1
    · have s0 : 0 ≤ T 0 1 - 1 - k := by omega
      have s1 : T 0 1 - 1 - k < T 0 1 := by omega
      have he : lsp T M (T 0 1 - 1 - k) = lsp T N (T 0 1 - 1 - k) := lsp_cr _ (fun p p0 p1 => by rw [hv _ p s0 s1 p0 p1, if_neg (by omega)])
      have ls := lsp_sp (N := M) hB (T 0 1 - 1 - k)
      have ebd : aU3 c9_nextParting_b19 [pl, pkP T M, T 0 1 - 1 - k] τ = c9_nextParting_l32 pl (pkP T M) (T 0 1 - 1 - k) (T 0 2 - 1) τ := by
        show c9_nextParting_b19 pl (pkP T M) (T 0 1 - 1 - k) τ = _
        unfold c9_nextParting_b19
        exact ite_n (by omega) (acall1_h hal (by rw [wq (by omega) (by omega)]))
      rcases npt_in hC hM s0 s1 with ⟨L, hr, hl, hNL, hx, hLv⟩ | ⟨L, hr, hl, hNL, hx, hLv⟩
      · refine Or.inl ⟨c, [pl, pkP T L, T 0 1 - 1 - (k + 1)], τ, ?_, rfl, by omega, L, rfl, hNL, fun u p u0 u1 p0 p1 => ?_, fun u a b => ?_⟩
        · rw [ebd]
          unfold c9_nextParting_l32
          rw [hr]
          simp (disch := omega) only [abind, c9_nextParting_d32, aU3, c9_nextParting_p116, ↓reduceIte, acall1_some, acall0_some, q_lt, q_nlt, q_le, q_nle, q_eq, q_ne, q_01, true_or, or_true, false_or, or_false, false_and, and_false, and_self, and_true, true_and, wq, wQ, alen_aput, ag_s, ag_x, ag_j, ag_e]
          rw [show T 0 1 - 1 - k + (-1) = T 0 1 - 1 - (k + 1) by omega]
        · rw [hLv u p u0 u1 p0 p1, rsv_al hM hB s0 s1 hl hv u0 u1 p0 p1, show T 0 1 - 1 - k - 1 = T 0 1 - 1 - (k + 1) by omega]
        · by_cases q : u = T 0 1 - 1 - k
          · rw [q, ← he]; exact hl
          · exact hz u (by omega) b
      · have hls : lss T N = T 0 1 - 1 - k := by
          rcases (show lss T N < T 0 1 - 1 - k ∨ lss T N = T 0 1 - 1 - k ∨ T 0 1 - 1 - k < lss T N by omega) with q | q | q
          · exact absurd hl (by rw [he]; exact lss1.2.1 _ q s1)
          · exact q
          · have a := lss1.2.2 (by omega)
            rw [hz _ q (by omega)] at a
            omega
        refine Or.inr ⟨(56, [pl, pkP T L, T 0 1 - 1 - k, lsp T M (T 0 1 - 1 - k) - 1], τ), ?_, Nat.ne_of_beq_eq_false rfl, Or.inr ⟨L, M, ?_⟩⟩
        · rw [ebd]
          unfold c9_nextParting_l32
          rw [hr]; rfl
        · rw [hls]
          refine ⟨rfl, s0, s1, hl, ls.1.2, hNL, ?_, fun u p u0 u1 p0 p1 => rsv_up hM hB s0 s1 hl hls he hv hLv u0 u1 p0 p1⟩
          rw [hLv _ _ s0 s1 h4.1 (Int.le_refl _)]
          unfold rsv
          rw [if_pos rfl, if_pos rfl, show lsp T M (T 0 1 - 1 - k) - 1 + 1 = lsp T M (T 0 1 - 1 - k) by omega]
          exact ls.2.2 hl
    · have hk : k = T 0 1 := by omega
      have hls : lss T N = -1 := by
        rcases (show lss T N = -1 ∨ 0 ≤ lss T N by omega) with q | q
        · exact q
        · have a := lss1.2.2 q
          rw [hz _ (by omega) (by omega)] at a
          omega
      refine Or.inr ⟨(0, [pkP T (sq T N)], τ), ?_, Nat.ne_of_beq_eq_false rfl, Or.inl rfl⟩
      show c9_nextParting_b19 pl (pkP T M) (T 0 1 - 1 - k) τ = _
      unfold c9_nextParting_b19
      rw [if_pos (by omega), pkP_cr (N := sq T N) (M := M) (fun u p u0 u1 p0 p1 => by
        rw [hv u p u0 u1 p0 (by omega), if_pos (by omega), sq_0 _ _ p0 (by omega)]
        unfold sqv
        rw [if_neg (by omega), if_neg (by omega)])]
