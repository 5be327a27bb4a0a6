/-! the class's half of whole's part of this name -/
def same (T N M : aH) : Bool := decide (pkP T N = pkP T M)
/-- the first going ahead of g behind which the parting was the same (g: none) -/
def trF (T N : aH) (g : Int) : Int := ff (fun i => same T (itN T N i) (itN T N g)) g
def trG (T N : aH) : Int := ff (fun g => decide (trF T N g < g) || !decide (fiS T (itN T N g) < T 0 1)) 301
def trE (T N : aH) : Int := if trG T N ≤ 300 then (if trF T N (trG T N) < trG T N then 2 else 1) else 3
def trB (T N : aH) : Int := if trG T N ≤ 300 then (if trF T N (trG T N) < trG T N then trF T N (trG T N) else trG T N) else -1
def trP (T N : aH) : Int := if trG T N ≤ 300 ∧ trF T N (trG T N) < trG T N then trG T N - trF T N (trG T N) else -1
theorem itN_NBk {T N : aH} (hN : NB T N) (hB : TB T) {k : Int} (k0 : 0 ≤ k) (h : ∀ j, 0 ≤ j → j < k → fiS T (itN T N j) < T 0 1) : NB T (itN T N k) := by
  obtain ⟨m, rfl⟩ := Int.eq_ofNat_of_zero_le k0
  induction m with
  | zero => exact hN
  | succ m ih =>
    have h1 := ih (by omega) (fun j j0 j1 => h j j0 (by omega))
    rw [show ((m + 1 : Nat) : Int) = (m : Int) + 1 from rfl, itN_s (by omega)]
    exact nxt_NB h1 hB (h m (by omega) (by omega))
theorem trF_0 (T N : aH) (g : Int) : 0 ≤ trF T N g := ff_0 _
theorem trF_n (T N : aH) {g : Int} (h : 0 ≤ g) : trF T N g ≤ g := ff_n _ h
theorem trG_0 (T N : aH) : 0 ≤ trG T N := ff_0 _
theorem trG_n (T N : aH) : trG T N ≤ 301 := ff_n _ (by omega)
theorem trG_no {T N : aH} {k : Int} (h0 : 0 ≤ k) (h1 : k < trG T N) : ¬ trF T N k < k ∧ fiS T (itN T N k) < T 0 1 := by
  have := ff_no (P := fun g => decide (trF T N g < g) || !decide (fiS T (itN T N g) < T 0 1)) (n := 301) h0 h1
  simp only [Bool.or_eq_false_iff, decide_eq_false_iff_not, Bool.not_eq_false', decide_eq_true_iff] at this
  exact this
theorem trG_at {T N : aH} (h : trG T N ≤ 300) : trF T N (trG T N) < trG T N ∨ ¬ fiS T (itN T N (trG T N)) < T 0 1 := by
  have := ff_at (P := fun g => decide (trF T N g < g) || !decide (fiS T (itN T N g) < T 0 1)) (n := 301) (by unfold trG at h; omega)
  simp only [Bool.or_eq_true, decide_eq_true_iff, Bool.not_eq_true', decide_eq_false_iff_not] at this
  exact this
theorem trG_NB {T N : aH} (hN : NB T N) (hB : TB T) {k : Int} (h0 : 0 ≤ k) (h1 : k ≤ trG T N) : NB T (itN T N k) := itN_NBk hN hB h0 (fun j j0 j1 => (trG_no j0 (by omega)).2)
theorem c0_seenBefore_ok {T N : aH} {σ : aS} (hL : LR σ) {g : Int} (g0 : 0 ≤ g) (g1 : g ≤ 300) (hp : aget σ 16 1 = pkP T (itN T N g)) (hs : ∀ i, 0 ≤ i → i < g → aget σ 15 i = pkP T (itN T N i)) :
    c0_seenBefore 14 g σ = some (0, [if trF T N g < g then trF T N g else -1], σ) := by
  have n0 := trF_0 T N g
  have n1 := trF_n T N g0
  have hl := al_0 (c := 3) (B := aU3 c0_seenBefore_b2) (fun k => [14, g, k]) (fun _ => σ) (n := trF T N g) (r := (0, [if trF T N g < g then trF T N g else -1], σ)) n0 (by omega) ?_ ?_ (Nat.ne_of_beq_eq_false rfl)
  · unfold c0_seenBefore c0_seenBefore_l2
    rw [hl]; rfl
  · intro k k0 k1
    have z := ff_no (P := fun i => same T (itN T N i) (itN T N g)) (n := g) k0 k1
    unfold same at z
    simp only [decide_eq_false_iff_not] at z
    have hk := hs k k0 (by omega)
    simp (disch := omega) only [aU3, c0_seenBefore_b2, ↓reduceIte, acall1_some, acall0_some, q_lt, q_nlt, q_le, q_nle, q_eq, q_ne, q_01, true_or, or_true, false_or, or_false, false_and, and_false, and_self, and_true, true_and, wq, wQ, alen_aput, ag_s, ag_x, ag_j, ag_e, r_14_4 hL, r_14_5 hL, n_15 hL, hk, hp, acmp_z, z]
  · by_cases h : trF T N g < g
    · have z := ff_at (P := fun i => same T (itN T N i) (itN T N g)) (n := g) h
      unfold same at z
      simp only [decide_eq_true_iff] at z
      have hk := hs _ n0 h
      have z2 : pkP T (itN T N (trF T N g)) = pkP T (itN T N g) := z
      rw [if_pos h]
      simp (disch := omega) only [aU3, c0_seenBefore_b2, ↓reduceIte, acall1_some, acall0_some, q_lt, q_nlt, q_le, q_nle, q_eq, q_ne, q_01, true_or, or_true, false_or, or_false, false_and, and_false, and_self, and_true, true_and, wq, wQ, alen_aput, ag_s, ag_x, ag_j, ag_e, r_14_4 hL, r_14_5 hL, n_15 hL, hk, hp, acmp_z, z2]
    · rw [if_neg h]
      simp (disch := omega) only [aU3, c0_seenBefore_b2, ↓reduceIte, acall1_some, acall0_some, q_lt, q_nlt, q_le, q_nle, q_eq, q_ne, q_01, true_or, or_true, false_or, or_false, false_and, and_false, and_self, and_true, true_and, wq, wQ, alen_aput, ag_s, ag_x, ag_j, ag_e]
def wtr (x j : Int) : Prop := (x = 16 ∧ 1 ≤ j) ∨ x = 17 ∨ x = 15 ∨ (x = 14 ∧ j ≤ 2) ∨ (x = 8 ∧ 1 ≤ j ∧ j ≤ 4)
theorem wtr_wkc : ∀ x j, wtr x j → wkc x j := by intro x j; unfold wtr wkc; omega
theorem tb_1 {σ : aS} {g v : Int} (h3 : g ≤ 300) (hsb : c0_seenBefore 14 g σ = some (0, [v], σ)) (hv : v ≠ -1) : aU2 c0_trace_b25 [14, g] σ = some (44, [14, g, v], σ) := by
  simp (disch := omega) only [aU2, c0_trace_b25, ↓reduceIte, acall1_some, acall0_some, q_lt, q_nlt, q_le, q_nle, q_eq, q_ne, q_01, true_or, or_true, false_or, or_false, false_and, and_false, and_self, and_true, true_and, wq, wQ, alen_aput, ag_s, ag_x, ag_j, ag_e, hsb]
theorem tb_2 {σ σ2 : aS} (hL : LR σ) {g v : Int} (g0 : 0 ≤ g) (h3 : g ≤ 300) (hsb : c0_seenBefore 14 g σ = some (0, [-1], σ)) (hv : aget σ 16 1 = v) (hsf : c7_seekFirst 8 16 (aput σ 15 g v) = some (0, [0], σ2)) : aU2 c0_trace_b25 [14, g] σ = some (89, [14, g], σ2) := by
  simp (disch := omega) only [aU2, c0_trace_b25, ↓reduceIte, acall1_some, acall0_some, q_lt, q_nlt, q_le, q_nle, q_eq, q_ne, q_01, true_or, or_true, false_or, or_false, false_and, and_false, and_self, and_true, true_and, wq, wQ, alen_aput, ag_s, ag_x, ag_j, ag_e, hsb, r_14_3 hL, r_14_4 hL, r_14_5 hL, n_15 hL, hv, hsf]
theorem tb_3 {σ τ υ : aS} (hL : LR σ) {g v : Int} (g0 : 0 ≤ g) (h3 : g ≤ 300) (hsb : c0_seenBefore 14 g σ = some (0, [-1], σ)) (hv : aget σ 16 1 = v) (hsf : c7_seekFirst 8 16 (aput σ 15 g v) = some (0, [1], τ)) (hL4 : LR τ) (hsa : c7_sailFound 8 16 τ = some (0, [], υ)) : aU2 c0_trace_b25 [14, g] σ = some (26, [14, g + 1], υ) := by
  simp (disch := omega) only [aU2, c0_trace_b25, ↓reduceIte, acall1_some, acall0_some, q_lt, q_nlt, q_le, q_nle, q_eq, q_ne, q_01, true_or, or_true, false_or, or_false, false_and, and_false, and_self, and_true, true_and, wq, wQ, alen_aput, ag_s, ag_x, ag_j, ag_e, hsb, r_14_3 hL, r_14_4 hL, r_14_5 hL, n_15 hL, hv, hsf, r_14_3 hL4, r_14_5 hL4, hsa]
set_option maxHeartbeats 4000000 in
theorem c0_trace_ok {pl : Int} {T N : aH} {σ : aS} (hC : CI pl T σ) (hN : NB T N) {sc : Int} (hs : SH sc) (h16 : sc ≠ 16) (hS : SC T N sc σ) (hR : RE N σ) :
    ∃ τ, c0_trace 14 sc σ = some (0, [], τ) ∧ aget τ 14 0 = trE T N ∧ aget τ 14 1 = trB T N ∧ aget τ 14 2 = trP T N ∧ (trG T N ≤ 300 → aget τ 16 1 = pkP T (itN T N (trG T N))) ∧ Fp wtr σ τ := by
  have hB := hC.2.2.2.2.2
  have hL := hC.1
  obtain ⟨τ0, c1, c2, c3⟩ := copy_SH hL (d := 16) (s := sc) (Or.inr (Or.inl rfl)) hs (fun e => h16 e.symm) hS
  have hF0 : Fp wtr σ (aput (aput (aput τ0 14 0 3) 14 1 (-1)) 14 2 (-1)) := (((c2.mono (by intro x j; unfold wtr; omega)).put _ (by unfold wtr; omega)).put _ (by unfold wtr; omega)).put _ (by unfold wtr; omega)
  have hS0 : SC T N 16 (aput (aput (aput τ0 14 0 3) 14 1 (-1)) 14 2 (-1)) := c3.co (fun j => by rw [ag_x (by omega), ag_x (by omega), ag_x (by omega)]) (fun j => by rw [ag_x (by omega), ag_x (by omega), ag_x (by omega)])
  have hR0 : RE N (aput (aput (aput τ0 14 0 3) 14 1 (-1)) 14 2 (-1)) := hR.fp hF0 (by unfold wtr; omega) (by unfold wtr; omega) (by unfold wtr; omega)
  have n0 := trG_0 T N
  have n1 := trG_n T N
  have hal := al_I (c := 26) (B := aU2 c0_trace_b25) (n := trG T N) (i := 0) (vs := [14, 0]) (σ := aput (aput (aput τ0 14 0 3) 14 1 (-1)) 14 2 (-1))
    (fun k vs τ => 0 ≤ k ∧ vs = [14, k] ∧ SC T (itN T N k) 16 τ ∧ RE (itN T N k) τ ∧ (∀ i, 0 ≤ i → i < k → aget τ 15 i = pkP T (itN T N i)) ∧ (aget τ 14 0 = 3 ∧ aget τ 14 1 = -1 ∧ aget τ 14 2 = -1) ∧ Fp wtr σ τ)
    (fun r => ∃ τ, r = (if trG T N ≤ 300 then (if trF T N (trG T N) < trG T N then (44, [14, trG T N, trF T N (trG T N)], τ) else (89, [14, trG T N], τ)) else (0, [], τ)) ∧ (trG T N ≤ 300 → aget τ 16 1 = pkP T (itN T N (trG T N))) ∧ (aget τ 14 0 = 3 ∧ aget τ 14 1 = -1 ∧ aget τ 14 2 = -1) ∧ Fp wtr σ τ)
    n0 (by omega) ⟨Int.le_refl _, rfl, hS0, hR0, fun i i0 i1 => by omega, ⟨by rw [ag_j (by omega), ag_j (by omega), ag_s], by rw [ag_j (by omega), ag_s], ag_s _ _ _ _⟩, hF0⟩ (by
      rintro k vs τ hk ⟨k0, rfl, hS2, hR2, hsn, h14, hF⟩
      have hC2 := hC.fp hF wtr_wkc
      have hL2 := hC2.1
      have hN2 := trG_NB hN hB k0 hk
      by_cases h3 : k ≤ 300
      · have hsb := c0_seenBefore_ok (T := T) (N := N) hL2 k0 h3 hS2.1 hsn
        by_cases hfl : trF T N k < k
        · have hke : k = trG T N := by
            by_cases e : k < trG T N
            · exact absurd hfl (trG_no k0 e).1
            · omega
          have hfp := trF_0 T N k
          rw [if_pos hfl] at hsb
          refine Or.inr ⟨(44, [14, k, trF T N k], τ), ?_, Nat.ne_of_beq_eq_false rfl, τ, by rw [← hke, if_pos h3, if_pos hfl], fun _ => by rw [← hke]; exact hS2.1, h14, hF⟩
          exact tb_1 h3 hsb (by omega)
        · rw [if_neg hfl] at hsb
          have hFp : Fp (fun x j => x = 15) τ (aput τ 15 k (pkP T (itN T N k))) := (Fp.rf _ _).put _ rfl
          have hC3 := hC2.fp hFp (by intro x j; unfold wkc; omega)
          have hS3 : SC T (itN T N k) 16 (aput τ 15 k (pkP T (itN T N k))) := hS2.fp hFp (by intro j; omega) (by intro j _; omega)
          have hR3 : RE (itN T N k) (aput τ 15 k (pkP T (itN T N k))) := hR2.fp hFp (by omega) (by omega) (by omega)
          have hL3 := hC3.1
          have h161 := hS2.1
          rcases sail1 hC3 hN2 (Or.inr (Or.inl rfl)) hS3 hR3 with ⟨c, e1⟩ | ⟨c, τ1, υ, e1, e2, e3, e4, e5, e6, e7⟩
          · have hke : k = trG T N := by
              by_cases e : k < trG T N
              · exact absurd (trG_no k0 e).2 c
              · omega
            refine Or.inr ⟨(89, [14, k], aput τ 15 k (pkP T (itN T N k))), ?_, Nat.ne_of_beq_eq_false rfl, _, by rw [← hke, if_pos h3, if_neg hfl], fun _ => by rw [← hke]; exact hS3.1, by rw [ag_x (by omega), ag_x (by omega), ag_x (by omega)]; exact h14, hF.tr (hFp.mono (by intro x j; unfold wtr; omega))⟩
            exact tb_2 hL2 k0 h3 hsb h161 e1
          · have hkl : k < trG T N := by
              by_cases e : k < trG T N
              · exact e
              · have hke : k = trG T N := by omega
                have := trG_at (T := T) (N := N) (by omega)
                rw [← hke] at this
                rcases this with q | q
                · exact absurd q hfl
                · exact absurd c q
            have hL4 := (hC3.fp e7 (by intro x j; unfold wkc; omega)).1
            have hF2 : Fp wtr σ υ := (hF.tr (hFp.mono (by intro x j; unfold wtr; omega))).tr (e6.mono (by intro x j; unfold wtr; omega))
            refine Or.inl ⟨hkl, [14, k + 1], υ, ?_, by omega, rfl, by rw [itN_s k0]; exact e3, by rw [itN_s k0]; exact e4, fun i i0 i1 => ?_, ?_, hF2⟩
            · exact tb_3 hL2 k0 h3 hsb h161 e1 hL4 e2
            · rw [e6.g (by omega)]
              by_cases e : i = k
              · subst e; rw [ag_s]
              · rw [ag_j e]; exact hsn i i0 (by omega)
            · rw [e6.g (by omega), e6.g (by omega), e6.g (by omega), ag_x (by omega), ag_x (by omega), ag_x (by omega)]; exact h14
      · have hke : trG T N = 301 := by omega
        refine Or.inr ⟨(0, [], τ), ?_, Nat.ne_of_beq_eq_false rfl, τ, by rw [if_neg (by omega)], fun h => by omega, h14, hF⟩
        simp (disch := omega) only [aU2, c0_trace_b25, ↓reduceIte, acall1_some, acall0_some, q_lt, q_nlt, q_le, q_nle, q_eq, q_ne, q_01, true_or, or_true, false_or, or_false, false_and, and_false, and_self, and_true, true_and, wq, wQ, alen_aput, ag_s, ag_x, ag_j, ag_e])
  obtain ⟨r, hr, τ, hQ, q1, q2, q3⟩ := hal
  have e0 : c0_trace 14 sc σ = c0_trace_d25 r.1 r.2.1 r.2.2 := by
    simp (disch := omega) only [c0_trace, ↓reduceIte, acall1_some, acall0_some, q_lt, q_nlt, q_le, q_nle, q_eq, q_ne, q_01, true_or, or_true, false_or, or_false, false_and, and_false, and_self, and_true, true_and, wq, wQ, alen_aput, ag_s, ag_x, ag_j, ag_e, r_14_5 hL, c1, c0_trace_l25, hr, abind]
  have n2 := trF_0 T N (trG T N)
  have n3 := trF_n T N n0
  by_cases h3 : trG T N ≤ 300
  · rw [if_pos h3] at hQ
    by_cases hfl : trF T N (trG T N) < trG T N
    · rw [if_pos hfl] at hQ
      subst hQ
      refine ⟨aput (aput (aput τ 14 0 2) 14 1 (trF T N (trG T N))) 14 2 (trG T N - trF T N (trG T N)), ?_, ?_, ?_, ?_, fun h => ?_, ?_⟩
      · rw [e0]
        simp (disch := omega) only [c0_trace_d25, aU3, c0_trace_p43, if_true, wq]
      · rw [ag_j (by omega), ag_j (by omega), ag_s]; unfold trE; rw [if_pos h3, if_pos hfl]
      · rw [ag_j (by omega), ag_s]; unfold trB; rw [if_pos h3, if_pos hfl]
      · rw [ag_s]; unfold trP; rw [if_pos ⟨h3, hfl⟩]
      · rw [ag_x (by omega), ag_x (by omega), ag_x (by omega)]; exact q1 h
      · exact ((q3.put _ (by unfold wtr; omega)).put _ (by unfold wtr; omega)).put _ (by unfold wtr; omega)
    · rw [if_neg hfl] at hQ
      subst hQ
      refine ⟨aput (aput τ 14 0 1) 14 1 (trG T N), ?_, ?_, ?_, ?_, fun h => ?_, ?_⟩
      · rw [e0]
        simp (disch := omega) only [c0_trace_d25, aU2, c0_trace_p88, if_true]
        rfl
      · rw [ag_j (by omega), ag_s]; unfold trE; rw [if_pos h3, if_neg hfl]
      · rw [ag_s]; unfold trB; rw [if_pos h3, if_neg hfl]
      · rw [ag_j (by omega), ag_j (by omega)]; unfold trP; rw [if_neg (fun z => hfl z.2)]; exact q2.2.2
      · rw [ag_x (by omega), ag_x (by omega)]; exact q1 h
      · exact (q3.put _ (by unfold wtr; omega)).put _ (by unfold wtr; omega)
  · rw [if_neg h3] at hQ
    subst hQ
    refine ⟨τ, ?_, ?_, ?_, ?_, fun h => absurd h h3, q3⟩
    · rw [e0]; rfl
    · unfold trE; rw [if_neg h3]; exact q2.1
    · unfold trB; rw [if_neg h3]; exact q2.2.1
    · unfold trP; rw [if_neg (fun z => h3 z.1)]; exact q2.2.2
