/-! the class's half of whole's part of this name -/
theorem NB.st2 {T N : aH} (hN : NB T N) {t v : Int} (hv : v = 0 ∨ v = 1) : NB T (stv N 2 t v) := by
  refine ⟨fun s p a b c d => by rw [stv_x (by omega)]; exact hN.1 s p a b c d, fun s a b => ?_, fun u a b => by rw [stv_x (by omega)]; exact hN.2.2.1 u a b, fun u a b => by rw [stv_x (by omega)]; exact hN.2.2.2.1 u a b, fun u a b => ?_, ?_, ?_, ?_, ?_, ?_⟩
  · have e : (fun p => stv N 2 t v 0 (5 * s + p)) = fun p => N 0 (5 * s + p) := by funext p; exact stv_x (by omega) _
    rw [e]; exact hN.2.1 s a b
  · by_cases q : u = t
    · rw [q, stv_s]; omega
    · rw [stv_j q]; exact hN.2.2.2.2.1 u a b
  · rw [stv_x (by omega)]; exact hN.2.2.2.2.2.1
  · rw [stv_x (by omega)]; exact hN.2.2.2.2.2.2.1
  · rw [stv_x (by omega)]; exact hN.2.2.2.2.2.2.2.1
  · rw [stv_x (by omega)]; exact hN.2.2.2.2.2.2.2.2.1
  · rw [stv_x (by omega)]; exact hN.2.2.2.2.2.2.2.2.2
theorem bnI_lt {T N : aH} (hN : NB T N) (hB : TB T) : 0 ≤ bnI T N ∧ bnI T N < p2 (T 0 2) := by
  have h4 := hB.2.2.1
  have e : bnI T N = sI (fun g => (if 0 ≤ g ∧ g < T 0 2 then N 2 g else 0) * p2 g) (T 0 2) := by
    unfold bnI
    exact sI_congr (fun k k0 k1 => by rw [if_pos ⟨k0, k1⟩])
  rw [e]
  refine bsum_l (fun g => ?_) h4.1
  by_cases c : 0 ≤ g ∧ g < T 0 2
  · rw [if_pos c]; exact hN.2.2.2.2.1 g c.1 c.2
  · rw [if_neg c]; omega
theorem bnI_x {T N : aH} (hN : NB T N) (hB : TB T) {t on : Int} (t0 : 0 ≤ t) (t1 : t < T 0 2) (ho : on = 0 ∨ on = 1) (hne : N 2 t ≠ on) : axor (bnI T N) (ashl 1 t) = bnI T (stv N 2 t on) := by
  have h4 := hB.2.2.1
  have hN2 := hN.st2 (t := t) ho
  have a := bnI_lt hN hB
  have b := bnI_lt hN2 hB
  have c16 := (bnI_bit hN hB t0 (show t ≤ T 0 2 by omega)).2
  have hp := p2_pos t
  have hpt : p2 t < p2 (T 0 2) := by
    unfold p2
    have : 2 ^ t.toNat < 2 ^ (T 0 2).toNat := Nat.pow_lt_pow_right (by decide) (by omega)
    omega
  have hpl := p2_le t0 (show t ≤ 30 by omega)
  have hx : axor (bnI T N) (ashl 1 t) = ((bnI T N).toNat ^^^ (p2 t).toNat : Nat) := by
    rw [ashl_1 t0 (by omega)]
    exact axor_N a.1 (by omega) (by omega) (by omega)
  refine bI_ext h4.1 (by omega) ?_ ?_ b.1 b.2 (fun g g0 g1 => ?_)
  · rw [hx]; omega
  · rw [hx]
    have e2 : p2 (T 0 2) = ((2 ^ (T 0 2).toNat : Nat) : Int) := rfl
    have l1 : (bnI T N).toNat < 2 ^ (T 0 2).toNat := by omega
    have l2 : (p2 t).toNat < 2 ^ (T 0 2).toNat := by omega
    have := Nat.xor_lt_two_pow l1 l2
    omega
  · rw [bI_xor a.1 (by omega) t0 (by omega) g0, (bnI_bit hN hB g0 (show g ≤ T 0 2 by omega)).1, (bnI_bit hN2 hB g0 (show g ≤ T 0 2 by omega)).1]
    unfold bnd
    rw [if_pos g1, if_pos g1]
    by_cases e : g = t
    · have := hN.2.2.2.2.1 t t0 t1
      rw [if_pos e, e, stv_s]; omega
    · rw [if_neg e, stv_j e]
theorem SC.st2 {T N : aH} {σ : aS} (hS : SC T N 88 σ) (hN : NB T N) (hB : TB T) {t on : Int} (t0 : 0 ≤ t) (t1 : t < T 0 2) (ho : on = 0 ∨ on = 1) (hne : N 2 t ≠ on) : SC T (stv N 2 t on) 88 (aput σ 88 2 (axor (bnI T N) (ashl 1 t))) := by
  refine ⟨?_, fun u a b => ?_, ?_, ?_, ?_⟩
  · rw [ag_j (by omega), pkP_stv (by omega)]; exact hS.1
  · rw [ag_x (by omega), stv_x (by omega)]; exact hS.2.1 u a b
  · rw [ag_s]; exact bnI_x hN hB t0 t1 ho hne
  · rw [ag_j (by omega), stv_x (by omega)]; exact hS.2.2.2.1
  · rw [ag_j (by omega), stv_x (by omega)]; exact hS.2.2.2.2
theorem c11_bind_q {T : aH} {S : aH × (Int → aH) × Int × Int × aH} {σ : aS} (h : CSt T S σ) (hN : NB T S.1) (t : Int) {on : Int} (ho : on = 0 ∨ on = 1) : AnsC T (sBind T S t on) σ (c11_bind 1 t on σ) (if bdB T S.1 t on = true then 1 else 0) := by
  obtain ⟨pl, hC, hS, h89⟩ := h.e
  have hL := hC.1
  have hB := hC.2.2.2.2.2
  have h4 := hB.2.2.1
  unfold c11_bind sBind
  rw [c11_isTown_ok hC, acall1_some]
  by_cases c1 : 0 ≤ t ∧ t < T 0 2
  · have hbd : bnd T S.1 t = S.1 2 t := if_pos c1.2
    rw [if_pos c1, if_neg (show ¬ (1 : Int) = 0 by omega), r_1_6 hL, c8_isBound_ok hN hB hS c1.1 (show t ≤ T 0 2 by omega), acall1_some, hbd, if_neg (show ¬ (88 : Int) = 0 by omega)]
    by_cases c3 : S.1 2 t = on
    · have nq : ¬ bdB T S.1 t on = true := fun z => (bdB_t.1 z).2 c3
      rw [if_pos c3, if_pos (show (0 : Int) = 0 ∨ (0 : Int) = 1 by omega), if_neg nq, if_neg nq]
      exact AnsC.s h rfl
    · obtain ⟨τ, h1, hF1, hS1⟩ := h.rec
      obtain ⟨pl', hC1, hSc1, -⟩ := hS1.e
      have hSc1 : SC T S.1 88 τ := hSc1
      have hL1 := hC1.1
      have q := bdB_t.2 ⟨c1, c3⟩
      rw [r_1_6 hL] at h1
      rw [if_neg c3, r_1_6 hL, h1, acall0_some, r_1_5 hL, r_1_6 hL1, hSc1.2.2.1, if_neg (show ¬ (24 : Int) = 0 by omega), if_neg (show ¬ (88 : Int) = 0 by omega), if_neg (show ¬ (88 : Int) = 0 by omega), if_pos (show (1 : Int) = 0 ∨ (1 : Int) = 1 by omega), if_pos q, if_pos q]
      have hF2 : Fp (fun x j => x = 88 ∧ j = 2) τ (aput τ 88 2 (axor (bnI T S.1) (ashl 1 t))) := (Fp.rf _ _).put _ ⟨rfl, rfl⟩
      exact AnsC.k ((rec_a hF1).tr (chc_a hF2 (fun x j w => by unfold chc; omega))) (hS1.ch hF2 (fun x j w => by unfold chc; omega) (hSc1.st2 hN hB c1.1 c1.2 ho c3)) rfl
  · have nq : ¬ bdB T S.1 t on = true := fun z => c1 (bdB_t.1 z).1
    rw [if_neg c1, if_pos rfl, if_pos (show (0 : Int) = 0 ∨ (0 : Int) = 1 by omega), if_neg nq, if_neg nq]
    exact AnsC.s h rfl
theorem c11_goings_q {T : aH} {S : aH × (Int → aH) × Int × Int × aH} {σ : aS} (h : CSt T S σ) (hN : NB T S.1) (h40 : S.1 4 0 = -1) (n : Int) : AnsC T (sGoings T S n) σ (c11_goings 1 n σ) (aGoings T S.1 n) := by
  obtain ⟨pl, hC, hS, h89⟩ := h.e
  have hL := hC.1
  have hR : RE S.1 σ := RE.of h89 h40
  have hf := c7_seekFirst_ok hC hN (Or.inl rfl) hS hR
  have no : ¬ goC T S.1 n → ∀ v, AnsC T (sGoings T S n) σ (some (0, [v], σ)) v := fun q v => by
    unfold sGoings
    rw [if_neg (fun z => q (goB_t.1 z))]; exact AnsC.s h rfl
  unfold c11_goings aGoings
  by_cases a : n < 0
  · rw [if_pos a, if_neg (show ¬ (0 ≤ n ∧ n ≤ 300) by omega)]; exact no (fun q => by have := q.1; omega) _
  · by_cases b : 300 < n
    · rw [if_neg a, if_pos b, if_neg (show ¬ (0 ≤ n ∧ n ≤ 300) by omega)]; exact no (fun q => by have := q.1; omega) _
    · rw [if_neg a, if_neg b, if_pos (show 0 ≤ n ∧ n ≤ 300 by omega)]
      by_cases c2 : n = 0
      · rw [if_pos c2, if_pos c2]; exact no (fun q => q.2.1 c2) 0
      · rw [if_neg c2, if_neg c2, r_1_2 hL, r_1_6 hL, if_neg (show ¬ (8 : Int) = 0 by omega), if_neg (show ¬ (88 : Int) = 0 by omega)]
        by_cases c : fiS T S.1 < T 0 1
        · rw [if_pos c] at hf
          obtain ⟨υ, hυ⟩ : ∃ υ, υ = aput (aput (aput σ 8 1 (fiS T S.1)) 8 3 (fiA T S.1 (fiS T S.1))) 8 4 (fiB T S.1 (fiS T S.1) (fiA T S.1 (fiS T S.1))) := ⟨_, rfl⟩
          have hF : Fp (fun x j => x = 8 ∧ 1 ≤ j ∧ j ≤ 4) σ υ := by rw [hυ]; exact (((Fp.rf _ _).put _ (by omega)).put _ (by omega)).put _ (by omega)
          rw [← hυ] at hf
          have hq : ∀ x j, (x = 8 ∧ 1 ≤ j ∧ j ≤ 4) → qcl x j := fun x j q => by unfold qcl; omega
          have hu := h.fp hF hq
          have hLu := hu.LR
          obtain ⟨τ, h1, hF1, hS1⟩ := hu.rec
          obtain ⟨pl', hC1, hSc1, h89'⟩ := hS1.e
          have hSc1 : SC T S.1 88 τ := hSc1
          have hL1 := hC1.1
          have hR1 : RE S.1 τ := RE.of h89' h40
          obtain ⟨φ, h2, hS2, -, hF2⟩ := c0_sail_ok hC1 hN (Or.inl rfl) hSc1 hR1 (show 0 ≤ n by omega) (show n ≤ 300 by omega)
          have q : goB T S.1 n = true := goB_t.2 ⟨by omega, c2, c⟩
          rw [r_1_5 hLu, r_1_6 hLu] at h1
          unfold sGoings
          rw [if_pos c, hf, acall1_some, if_neg (show ¬ (1 : Int) = 0 by omega), r_1_5 hLu, r_1_6 hLu, h1, acall0_some, r_1_3 hL1, r_1_6 hL1, h2, acall1_some, if_neg (show ¬ (24 : Int) = 0 by omega), if_neg (show ¬ (88 : Int) = 0 by omega), if_neg (show ¬ (14 : Int) = 0 by omega), if_neg (show ¬ (88 : Int) = 0 by omega), if_pos q]
          have hc : ∀ x j, ((x = 88 ∧ j = 1) ∨ (x = 8 ∧ 1 ≤ j ∧ j ≤ 4)) → chc x j := fun x j w => by unfold chc; omega
          exact AnsC.k ((qcl_a hF hq).tr ((rec_a hF1).tr (chc_a hF2 hc))) (hS1.ch hF2 hc hS2) rfl
        · rw [if_neg c] at hf
          rw [if_neg c, hf, acall1_some, if_pos rfl]; exact no (fun q => c q.2.2) 0
theorem c11_months_q {T : aH} {S : aH × (Int → aH) × Int × Int × aH} {σ : aS} (h : CSt T S σ) (hN : NB T S.1) (h40 : S.1 4 0 = -1) {c m : Int} (c1 : c ≤ 2147483647) (hm : S.1 3 1 + 240 ≤ 130000) : AnsC T (sMonths T S c m) σ (c11_months 1 c m σ) (aMonths S.1 c m) := by
  obtain ⟨pl, hC, hS, h89⟩ := h.e
  have hL := hC.1
  have hB := hC.2.2.2.2.2
  unfold c11_months sMonths aMonths
  by_cases a : c < 0
  · rw [if_pos a, if_pos a, if_pos a]; exact AnsC.s h rfl
  · rw [if_neg a, if_neg a, if_neg a]
    by_cases b : 0 ≤ m ∧ m ≤ 240
    · rw [if_pos b, if_pos b, if_neg (show ¬ m < 0 by omega), if_neg (show ¬ 240 < m by omega)]
      by_cases d : 0 < m
      · obtain ⟨τ, h1, hF1, hS1⟩ := h.rec
        rw [r_1_5 hL, r_1_6 hL] at h1
        have hF2 : Fp (fun x j => x = 14 ∧ j = 7) τ (aput τ 14 7 c) := (Fp.rf _ _).put _ ⟨rfl, rfl⟩
        have hS2 := hS1.fp hF2 (fun x j q => by unfold qcl; omega)
        obtain ⟨pl', hC2, hSc2, h89'⟩ := hS2.e
        have hSc2 : SC T S.1 88 (aput τ 14 7 c) := hSc2
        have hL2 := hC2.1
        have hL1 := hS1.LR
        obtain ⟨φ, h3, hS3, -, -, hF3⟩ := c0_pass_ok hC2 hN (Or.inl rfl) hSc2 (RE.of h89' h40) (ag_s τ 14 7 c) (show 0 ≤ c by omega) c1 b.1 b.2 (by omega)
        have hc : ∀ x j, wpa 88 x j → chc x j := fun x j w => by unfold wpa at w; unfold chc; omega
        have hS4 := hS2.ch hF3 hc hS3
        have hk := (moK_NB hN hB c b.1 (show S.1 3 1 + m ≤ 130000 by omega)).2
        rw [if_pos d, if_pos d, r_1_5 hL, r_1_6 hL, h1, acall0_some, r_1_3 hL1]
        unfold c0_sow
        rw [acall0_some, r_1_3 hL2, r_1_6 hL2, h3, acall0_some, r_1_6 hS4.LR]
        simp only [if_neg (show ¬ (24 : Int) = 0 by omega), if_neg (show ¬ (88 : Int) = 0 by omega), if_neg (show ¬ (14 : Int) = 0 by omega)]
        exact AnsC.k ((rec_a hF1).tr ((qcl_a hF2 (fun x j q => by unfold qcl; omega)).tr (chc_a hF3 hc))) hS4 (by rw [hS3.2.2.2.2, hk])
      · rw [if_neg d, if_neg d, r_1_6 hL, if_neg (show ¬ (88 : Int) = 0 by omega)]
        exact AnsC.s h (by rw [hS.2.2.2.2]; omega)
    · rw [if_neg b, if_neg b]
      by_cases d : m < 0
      · rw [if_pos d]; exact AnsC.s h rfl
      · rw [if_neg d, if_pos (show 240 < m by omega)]; exact AnsC.s h rfl
theorem SC.pk {T N M : aH} {σ : aS} (h : SC T M 88 σ) (hx : ∀ x j : Int, x ≠ 0 → N x j = M x j) : SC T N 88 (aput σ 88 1 (pkP T N)) := by
  refine ⟨ag_s _ _ _ _, fun t t0 t1 => ?_, ?_, ?_, ?_⟩
  · rw [ag_x (by omega), hx _ _ (by omega)]; exact h.2.1 t t0 t1
  · rw [ag_j (by omega), h.2.2.1]
    unfold bnI
    exact sI_congr (fun k k0 k1 => by rw [hx _ _ (by omega)])
  · rw [ag_j (by omega), hx _ _ (by omega)]; exact h.2.2.2.1
  · rw [ag_j (by omega), hx _ _ (by omega)]; exact h.2.2.2.2
theorem c11_best_q {T : aH} {S : aH × (Int → aH) × Int × Int × aH} {σ : aS} (h : CSt T S σ) (hN : NB T S.1) (h40 : S.1 4 0 = -1) : AnsC T (sBest T S) σ (c11_best 1 σ) (if bsB T S.1 = true then 1 else 0) := by
  have hL := h.LR
  have hB : TB T := by obtain ⟨pl, hC, -⟩ := h; exact hC.2.2.2.2.2
  have hn1 : 1 ≤ npT T := npK_pos hB hB.2.1.1 (Int.le_refl _)
  obtain ⟨τ, h1, hF, h2, e0, hv⟩ := h.make hN h40
  have hLt := h2.LR
  unfold c11_best sBest
  rw [h1, acall1_some, r_1_4 hL, r_1_6 hL, if_neg (show ¬ (20 : Int) = 0 by omega), if_neg (show ¬ (88 : Int) = 0 by omega)]
  by_cases c : npT T ≤ 3000
  · obtain ⟨-, v2, -, -⟩ := hv c
    have v2 : aget τ 20 2 = pkP T (bstN T S.1) := (v2 (by omega)).1
    obtain ⟨pl, hC, hS, -⟩ := h2.e
    rw [if_pos c, if_neg (show ¬ (1 : Int) = 0 by omega), r_1_4 hLt, r_1_6 hLt, v2, hS.1]
    by_cases e : pkP T (bstN T S.1) = pkP T S.1
    · have nq : ¬ bsB T S.1 = true := fun z => by
        unfold bsB same at z
        rw [decide_eq_true e.symm, Bool.and_eq_true] at z
        exact absurd z.2 (by decide)
      have ez : acmp (pkP T (bstN T S.1)) (pkP T S.1) = 0 := by rw [acmp_z]; exact e
      rw [if_pos ez, if_neg (show ¬ (20 : Int) = 0 by omega), if_neg (show ¬ (88 : Int) = 0 by omega), if_pos (show (0 : Int) = 0 ∨ (0 : Int) = 1 by omega), if_neg nq, if_neg nq]
      exact AnsC.k (mkf_a hF) h2 rfl
    · have q : bsB T S.1 = true := by
        unfold bsB same
        rw [decide_eq_true c, decide_eq_false (fun z => e z.symm)]; rfl
      have ez : ¬ acmp (pkP T (bstN T S.1)) (pkP T S.1) = 0 := by rw [acmp_z]; exact e
      obtain ⟨υ, h3, hF3, hS3⟩ := h2.rec
      obtain ⟨pl', hC3, hSc3, -⟩ := hS3.e
      have hSc3 : SC T S.1 88 υ := hSc3
      have hL3 := hC3.1
      rw [r_1_5 hLt, r_1_6 hLt] at h3
      have e20 : aget υ 20 2 = pkP T (bstN T S.1) := by rw [hF3.g (by omega)]; exact v2
      rw [if_neg ez, r_1_5 hLt, h3, acall0_some, r_1_6 hL3, r_1_4 hL3, e20, if_pos q, if_pos q]
      simp only [if_neg (show ¬ (24 : Int) = 0 by omega), if_neg (show ¬ (88 : Int) = 0 by omega), if_neg (show ¬ (20 : Int) = 0 by omega)]
      rw [if_pos (show (1 : Int) = 0 ∨ True from Or.inr trivial)]
      have hF4 : Fp (fun x j => x = 88 ∧ j = 1) υ (aput υ 88 1 (pkP T (bstN T S.1))) := (Fp.rf _ _).put _ ⟨rfl, rfl⟩
      exact AnsC.k ((mkf_a hF).tr ((rec_a hF3).tr (chc_a hF4 (fun x j w => by unfold chc; omega)))) (hS3.ch hF4 (fun x j w => by unfold chc; omega) (hSc3.pk (fun x j hx => PN_x T S.1 _ hx j))) rfl
  · have nq : ¬ bsB T S.1 = true := fun z => by
      unfold bsB at z
      rw [Bool.and_eq_true, decide_eq_true_iff] at z
      exact c z.1
    rw [if_neg c, if_pos rfl, if_pos (show (0 : Int) = 0 ∨ (0 : Int) = 1 by omega), if_neg nq, if_neg nq]
    exact AnsC.k (mkf_a hF) h2 rfl
theorem c11_undo_q {T : aH} {S : aH × (Int → aH) × Int × Int × aH} {σ : aS} (h : CSt T S σ) : AnsC T (sUndo S) σ (c11_undo 1 σ) (aUndo S) := by
  have h' := h
  obtain ⟨pl, hC, h18, hS, h89, hH, hI, hV⟩ := h'
  have hL := hC.1
  unfold c11_undo sUndo aUndo
  rw [r_1_5 hL, r_1_6 hL, if_neg (show ¬ (24 : Int) = 0 by omega), if_neg (show ¬ (88 : Int) = 0 by omega)]
  rcases c2_stepBack_ok (N := S.1) hL hH with ⟨z, h1⟩ | ⟨z, τ, h1, hF, hH2, hS2⟩
  · rw [h1, acall1_some, if_pos rfl, if_pos z, if_pos z]; exact AnsC.s h rfl
  · have hCt : CI pl T τ := hC.fh hF (fun x j q => by unfold hsf'; omega)
    have hE : CSt T (S.2.1 (S.2.2.1 - 1), S.2.1, S.2.2.1 - 1, S.2.2.2) τ := ⟨pl, hCt, by rw [hF.g (by omega)]; exact h18, hS2, by rw [hF.g (by omega)]; exact h89, hH2,
      ⟨by rw [hF.g (by omega)]; exact hI.1, hI.2.1, fun w => (hI.2.2 w).fp hF (fun j q => by omega) (fun j _ q => by omega)⟩, hV.fp hF (fun x j q w => by omega)⟩
    rw [h1, acall1_some, if_neg (show ¬ (1 : Int) = 0 by omega), r_1_5 hCt.1, if_neg (show ¬ (24 : Int) = 0 by omega), if_neg (show ¬ S.2.2.1 = 0 by omega), if_neg (show ¬ S.2.2.1 = 0 by omega)]
    unfold c2_steps
    rw [acall1_some]
    exact AnsC.k (hF.mono (fun x j q => by unfold wca; omega)) hE hH2.1
