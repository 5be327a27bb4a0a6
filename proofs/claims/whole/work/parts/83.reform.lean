/-! reforms: the class -/
def rfN (N : aH) (t x y : Int) : aH := fun x' j => if x' = 4 then (if j = 0 then t else if j = 1 then x else if j = 2 then y else N 4 j) else N x' j
theorem rfN_x (N : aH) (t x y : Int) {x' : Int} (h : x' ≠ 4) (j : Int) : rfN N t x y x' j = N x' j := if_neg h
theorem rfN_0 (N : aH) (t x y : Int) : rfN N t x y 4 0 = t := rfl
theorem rfN_1 (N : aH) (t x y : Int) : rfN N t x y 4 1 = x := rfl
theorem rfN_2 (N : aH) (t x y : Int) : rfN N t x y 4 2 = y := rfl
def rfC (T N : aH) (t x y : Int) : Bool := metB T (rfN N t x y) t && !decide (fiS T (rfN N t x y) < T 0 1)
def rfY (T N : aH) (t b x : Int) : Int := ff (fun y => rfC T N t x y) (b + 1)
def rfX (T N : aH) (t a b : Int) : Int := ff (fun x => decide (rfY T N t b x ≤ b)) (a + 1)
theorem rfY_0 (T N : aH) (t b x : Int) : 0 ≤ rfY T N t b x := ff_0 _
theorem rfY_n (T N : aH) (t x : Int) {b : Int} (h : 0 ≤ b) : rfY T N t b x ≤ b + 1 := ff_n _ (by omega)
theorem rfY_no {T N : aH} {t b x k : Int} (h0 : 0 ≤ k) (h1 : k < rfY T N t b x) : rfC T N t x k = false := ff_no (P := fun y => rfC T N t x y) h0 h1
theorem rfY_at {T N : aH} {t b x : Int} (h : rfY T N t b x ≤ b) : rfC T N t x (rfY T N t b x) = true := ff_at (P := fun y => rfC T N t x y) (by unfold rfY at h; omega)
theorem rfX_0 (T N : aH) (t a b : Int) : 0 ≤ rfX T N t a b := ff_0 _
theorem rfX_n (T N : aH) (t b : Int) {a : Int} (h : 0 ≤ a) : rfX T N t a b ≤ a + 1 := ff_n _ (by omega)
theorem rfX_no {T N : aH} {t a b k : Int} (h0 : 0 ≤ k) (h1 : k < rfX T N t a b) : ¬ rfY T N t b k ≤ b := of_decide_eq_false (ff_no (P := fun x => decide (rfY T N t b x ≤ b)) h0 h1)
theorem rfX_at {T N : aH} {t a b : Int} (h : rfX T N t a b ≤ a) : rfY T N t b (rfX T N t a b) ≤ b := of_decide_eq_true (ff_at (P := fun x => decide (rfY T N t b x ≤ b)) (by unfold rfX at h; omega))
theorem pkP_co {T N M : aH} (h : ∀ j, N 0 j = M 0 j) : pkP T N = pkP T M := by
  have e : ∀ p, ctn T N p = ctn T M p := fun p => by funext s; unfold ctn; rw [h]
  unfold pkP pkT; simp only [e]
theorem NB.rf {T N : aH} (hN : NB T N) {t x y : Int} (t0 : -1 ≤ t) (t1 : t ≤ 3) (x0 : 0 ≤ x) (x1 : x ≤ 30) (y0 : 0 ≤ y) (y1 : y ≤ 30) : NB T (rfN N t x y) := by
  refine ⟨?_, ?_, ?_, ?_, ?_, ?_, ?_, ⟨t0, t1⟩, ⟨x0, x1⟩, ⟨y0, y1⟩⟩
  · intro s p a b c d; rw [rfN_x _ _ _ _ (by omega)]; exact hN.1 s p a b c d
  · intro s a b
    rw [← hN.2.1 s a b]
    exact sI_congr (fun k _ _ => rfN_x _ _ _ _ (by omega) _)
  · intro u a b; rw [rfN_x _ _ _ _ (by omega)]; exact hN.2.2.1 u a b
  · intro u a b; rw [rfN_x _ _ _ _ (by omega)]; exact hN.2.2.2.1 u a b
  · intro u a b; rw [rfN_x _ _ _ _ (by omega)]; exact hN.2.2.2.2.1 u a b
  · rw [rfN_x _ _ _ _ (by omega)]; exact hN.2.2.2.2.2.1
  · rw [rfN_x _ _ _ _ (by omega)]; exact hN.2.2.2.2.2.2.1
theorem SC.rf {T N : aH} {sc : Int} {σ : aS} (hS : SC T N sc σ) (t x y : Int) : SC T (rfN N t x y) sc σ := by
  refine ⟨by rw [pkP_co (M := N) (fun j => rfN_x _ _ _ _ (by omega) j)]; exact hS.1, fun u a b => by rw [rfN_x _ _ _ _ (by omega)]; exact hS.2.1 u a b, ?_, by rw [rfN_x _ _ _ _ (by omega)]; exact hS.2.2.2.1, by rw [rfN_x _ _ _ _ (by omega)]; exact hS.2.2.2.2⟩
  have e : bnI T (rfN N t x y) = bnI T N := by unfold bnI; exact sI_congr (fun k _ _ => by rw [rfN_x _ _ _ _ (by omega)])
  rw [e]; exact hS.2.2.1
/-- what was found, and what is asked otherwise -/
def wrf (x j : Int) : Prop := x = 8 ∧ 1 ≤ j ∧ j ≤ 6
theorem rb_1 {σ υ : aS} {sc t A B x y : Int} (h0 : y ≤ B) (y0 : 0 ≤ y) (y1 : y ≤ 30) (hm : c7_isMet 8 sc t (aput (aput σ 8 5 x) 8 6 y) = some (0, [0], υ)) : aU8 c7_seekReform_b25 [8, sc, t, A, B, 0, x, y] σ = some (26, [8, sc, t, A, B, 0, x, y + 1], υ) := by
  simp (disch := omega) only [aU8, c7_seekReform_b25, c7_seekReform_p70, c7_seekReform_p71, ↓reduceIte, acall1_some, acall0_some, q_lt, q_nlt, q_le, q_nle, q_eq, q_ne, q_01, true_or, or_true, false_or, or_false, false_and, and_false, and_self, and_true, true_and, wq, wQ, alen_aput, ag_s, ag_x, ag_j, ag_e, hm]
theorem rb_2 {σ υ φ : aS} {sc t A B x y v : Int} (h0 : y ≤ B) (y0 : 0 ≤ y) (y1 : y ≤ 30) (v01 : v = 0 ∨ v = 1) (hm : c7_isMet 8 sc t (aput (aput σ 8 5 x) 8 6 y) = some (0, [1], υ)) (hf : c7_seekFirst 8 sc υ = some (0, [v], φ)) : aU8 c7_seekReform_b25 [8, sc, t, A, B, 0, x, y] σ = some (26, [8, sc, t, A, B, 1 - v, x, y + 1], φ) := by
  rcases v01 with rfl | rfl
  · simp (disch := omega) only [aU8, c7_seekReform_b25, c7_seekReform_p70, c7_seekReform_p71, ↓reduceIte, acall1_some, acall0_some, q_lt, q_nlt, q_le, q_nle, q_eq, q_ne, q_01, true_or, or_true, false_or, or_false, false_and, and_false, and_self, and_true, true_and, wq, wQ, alen_aput, ag_s, ag_x, ag_j, ag_e, hm, hf]
    rfl
  · simp (disch := omega) only [aU8, c7_seekReform_b25, c7_seekReform_p70, c7_seekReform_p71, ↓reduceIte, acall1_some, acall0_some, q_lt, q_nlt, q_le, q_nle, q_eq, q_ne, q_01, true_or, or_true, false_or, or_false, false_and, and_false, and_self, and_true, true_and, wq, wQ, alen_aput, ag_s, ag_x, ag_j, ag_e, hm, hf]
    rfl
theorem rb_3 {σ : aS} {sc t A B v x y : Int} (h : B < y ∨ v = 1) : aU8 c7_seekReform_b25 [8, sc, t, A, B, v, x, y] σ = some (80, [8, sc, t, A, B, v, x], σ) := by
  by_cases c : B < y
  · simp (disch := omega) only [aU8, c7_seekReform_b25, ↓reduceIte, acall1_some, acall0_some, q_lt, q_nlt, q_le, q_nle, q_eq, q_ne, q_01, true_or, or_true, false_or, or_false, false_and, and_false, and_self, and_true, true_and, wq, wQ, alen_aput, ag_s, ag_x, ag_j, ag_e]
  · simp (disch := omega) only [aU8, c7_seekReform_b25, ↓reduceIte, acall1_some, acall0_some, q_lt, q_nlt, q_le, q_nle, q_eq, q_ne, q_01, true_or, or_true, false_or, or_false, false_and, and_false, and_self, and_true, true_and, wq, wQ, alen_aput, ag_s, ag_x, ag_j, ag_e]
set_option maxHeartbeats 4000000 in
theorem rf_in {pl : Int} {T N : aH} {σ : aS} (hC : CI pl T σ) (hN : NB T N) {sc : Int} (hs : SH sc) (hS : SC T N sc σ) {t A B x : Int} (t0 : 0 ≤ t) (t1 : t < T 0 2) (b0 : 0 ≤ B) (b1 : B ≤ 30) (x0 : 0 ≤ x) (x1 : x ≤ 30) (h9 : aget σ 8 9 = t) :
    ∃ τ, c7_seekReform_l25 8 sc t A B 0 x 0 σ = some (12, [8, sc, t, A, B, if rfY T N t B x ≤ B then 1 else 0, x + 1], τ) ∧ Fp wrf σ τ ∧ (rfY T N t B x ≤ B → aget τ 8 5 = x ∧ aget τ 8 6 = rfY T N t B x) := by
  have hsp := hs
  unfold SH at hsp
  have hB := hC.2.2.2.2.2
  have ht := hB.2.2.1
  have n0 := rfY_0 T N t B x
  have n1 := rfY_n T N t x b0
  have hal := al_I (c := 26) (B := aU8 c7_seekReform_b25) (n := if rfY T N t B x ≤ B then rfY T N t B x + 1 else B + 1) (i := 0) (vs := [8, sc, t, A, B, 0, x, 0]) (σ := σ)
    (fun k vs τ => 0 ≤ k ∧ vs = [8, sc, t, A, B, if rfY T N t B x < k then 1 else 0, x, k] ∧ Fp wrf σ τ ∧ (rfY T N t B x < k → aget τ 8 5 = x ∧ aget τ 8 6 = rfY T N t B x))
    (fun r => ∃ τ, r = (80, [8, sc, t, A, B, if rfY T N t B x ≤ B then 1 else 0, x], τ) ∧ Fp wrf σ τ ∧ (rfY T N t B x ≤ B → aget τ 8 5 = x ∧ aget τ 8 6 = rfY T N t B x))
    (by split <;> omega) (by split <;> omega) ⟨Int.le_refl _, by rw [if_neg (by omega)], Fp.rf _ _, fun h => by omega⟩ (by
      rintro k vs τ hk ⟨k0, rfl, hF, hfo⟩
      by_cases hlt : rfY T N t B x < k
      · -- found just ahead
        have hle : rfY T N t B x ≤ B := by split at hk <;> omega
        refine Or.inr ⟨_, rb_3 (Or.inr (by rw [if_pos hlt])), Nat.ne_of_beq_eq_false rfl, τ, by rw [if_pos hlt, if_pos hle], hF, fun _ => hfo hlt⟩
      · by_cases hkb : k ≤ B
        · have hFp : Fp wrf τ (aput (aput τ 8 5 x) 8 6 k) := ((Fp.rf _ _).put _ ⟨rfl, by omega, by omega⟩).put _ ⟨rfl, by omega, by omega⟩
          have hF2 := hF.tr hFp
          have hC2 := hC.fp hF2 (by intro x j; unfold wrf wkc; omega)
          have hS2 : SC T (rfN N t x k) sc (aput (aput τ 8 5 x) 8 6 k) := (hS.fp hF2 (by intro j; unfold wrf; omega) (by intro j _; unfold wrf; omega)).rf t x k
          have hN2 : NB T (rfN N t x k) := hN.rf (by omega) (by omega) x0 x1 k0 (by omega)
          have hR2 : RE (rfN N t x k) (aput (aput τ 8 5 x) 8 6 k) := by
            refine ⟨?_, fun _ => ⟨?_, ?_⟩⟩
            · rw [ag_j (by omega), ag_j (by omega), hF.g (by unfold wrf; omega), h9]; rfl
            · rw [ag_j (by omega), ag_s]; rfl
            · rw [ag_s]; rfl
          have hm := c7_isMet_ok hC2 hN2 hs hS2 hR2 t0 t1
          rw [if_neg hlt]
          have hkn : k < (if rfY T N t B x ≤ B then rfY T N t B x + 1 else B + 1) := by split <;> omega
          have h5 : aget (aput (aput τ 8 5 x) 8 6 k) 8 5 = x := by rw [ag_j (by omega), ag_s]
          have h6 : aget (aput (aput τ 8 5 x) 8 6 k) 8 6 = k := ag_s _ _ _ _
          by_cases hc : rfC T N t x k = true
          · have hke : k = rfY T N t B x := by
              by_cases e : k < rfY T N t B x
              · rw [rfY_no k0 e] at hc; cases hc
              · omega
            have hc2 := hc
            unfold rfC at hc2
            rw [Bool.and_eq_true, Bool.not_eq_true', decide_eq_false_iff_not] at hc2
            rw [if_pos hc2.1] at hm
            have hsf := c7_seekFirst_ok hC2 hN2 hs hS2 hR2
            rw [if_neg hc2.2] at hsf
            exact Or.inl ⟨hkn, _, _, rb_2 hkb k0 (by omega) (Or.inl rfl) hm hsf, by omega, by rw [if_pos (by omega)]; rfl, hF2, fun _ => ⟨h5, by rw [h6, hke]⟩⟩
          · have hke : k < rfY T N t B x := by
              by_cases e : k < rfY T N t B x
              · exact e
              · have e2 : rfY T N t B x = k := by omega
                have := rfY_at (T := T) (N := N) (t := t) (b := B) (x := x) (by omega)
                rw [e2] at this
                exact absurd this hc
            by_cases hm1 : metB T (rfN N t x k) t = true
            · rw [if_pos hm1] at hm
              have hff : fiS T (rfN N t x k) < T 0 1 := by
                by_cases z : fiS T (rfN N t x k) < T 0 1
                · exact z
                · exact absurd (by unfold rfC; rw [hm1, decide_eq_false z]; rfl) hc
              have hsf := c7_seekFirst_ok hC2 hN2 hs hS2 hR2
              rw [if_pos hff] at hsf
              exact Or.inl ⟨hkn, _, _, rb_2 hkb k0 (by omega) (Or.inr rfl) hm hsf, by omega, by rw [if_neg (by omega)]; rfl, ((hF2.put _ ⟨rfl, by omega, by omega⟩).put _ ⟨rfl, by omega, by omega⟩).put _ ⟨rfl, by omega, by omega⟩, fun h => by omega⟩
            · rw [if_neg hm1] at hm
              exact Or.inl ⟨hkn, _, _, rb_1 hkb k0 (by omega) hm, by omega, by rw [if_neg (by omega)], hF2, fun h => by omega⟩
        · have hgt : ¬ rfY T N t B x ≤ B := by omega
          refine Or.inr ⟨_, rb_3 (Or.inl (by omega)), Nat.ne_of_beq_eq_false rfl, τ, by rw [if_neg hlt, if_neg hgt], hF, fun h => absurd h hgt⟩)
  obtain ⟨r, hr, τ, hQ, h1, h2⟩ := hal
  refine ⟨τ, ?_, h1, h2⟩
  unfold c7_seekReform_l25
  rw [hr, hQ]
  simp (disch := omega) only [abind, c7_seekReform_d25, if_true, aU7, c7_seekReform_p79, wq]
set_option maxHeartbeats 4000000 in
theorem c7_seekReform_ok {pl : Int} {T N : aH} {σ : aS} (hC : CI pl T σ) (hN : NB T N) {sc : Int} (hs : SH sc) (hS : SC T N sc σ) {t A B : Int} (t0 : 0 ≤ t) (t1 : t < T 0 2) (a0 : 0 ≤ A) (a1 : A ≤ 30) (b0 : 0 ≤ B) (b1 : B ≤ 30) :
    ∃ τ, c7_seekReform 8 sc t A B σ = some (0, [if rfX T N t A B ≤ A then 1 else 0], τ) ∧ aget τ 8 9 = -1 ∧ Fp (fun x j => wrf x j ∨ (x = 8 ∧ j = 9)) σ τ ∧ (rfX T N t A B ≤ A → aget τ 8 5 = rfX T N t A B ∧ aget τ 8 6 = rfY T N t B (rfX T N t A B)) := by
  have hsp := hs
  unfold SH at hsp
  have hB := hC.2.2.2.2.2
  have n0 := rfX_0 T N t A B
  have n1 := rfX_n T N t B a0
  have hF0 : Fp (fun x j => wrf x j ∨ (x = 8 ∧ j = 9)) σ (aput σ 8 9 t) := (Fp.rf _ _).put _ (Or.inr ⟨rfl, rfl⟩)
  have hal := al_I (c := 12) (B := aU7 c7_seekReform_b11) (n := if rfX T N t A B ≤ A then rfX T N t A B + 1 else A + 1) (i := 0) (vs := [8, sc, t, A, B, 0, 0]) (σ := aput σ 8 9 t)
    (fun k vs τ => 0 ≤ k ∧ vs = [8, sc, t, A, B, if rfX T N t A B < k then 1 else 0, k] ∧ Fp (fun x j => wrf x j ∨ (x = 8 ∧ j = 9)) σ τ ∧ aget τ 8 9 = t ∧ (rfX T N t A B < k → aget τ 8 5 = rfX T N t A B ∧ aget τ 8 6 = rfY T N t B (rfX T N t A B)))
    (fun r => ∃ τ, r = (86, [8, if rfX T N t A B ≤ A then 1 else 0], τ) ∧ Fp (fun x j => wrf x j ∨ (x = 8 ∧ j = 9)) σ τ ∧ (rfX T N t A B ≤ A → aget τ 8 5 = rfX T N t A B ∧ aget τ 8 6 = rfY T N t B (rfX T N t A B)))
    (by split <;> omega) (by split <;> omega) ⟨Int.le_refl _, by rw [if_neg (by omega)], hF0, ag_s _ _ _ _, fun h => by omega⟩ (by
      rintro k vs τ hk ⟨k0, rfl, hF, h9, hfo⟩
      by_cases hlt : rfX T N t A B < k
      · have hle : rfX T N t A B ≤ A := by split at hk <;> omega
        refine Or.inr ⟨(86, [8, 1], τ), ?_, Nat.ne_of_beq_eq_false rfl, τ, by rw [if_pos hle], hF, fun _ => hfo hlt⟩
        rw [if_pos hlt]
        by_cases c : A < k
        · simp (disch := omega) only [aU7, c7_seekReform_b11, ↓reduceIte, acall1_some, acall0_some, q_lt, q_nlt, q_le, q_nle, q_eq, q_ne, q_01, true_or, or_true, false_or, or_false, false_and, and_false, and_self, and_true, true_and, wq, wQ, alen_aput, ag_s, ag_x, ag_j, ag_e]
        · simp (disch := omega) only [aU7, c7_seekReform_b11, ↓reduceIte, acall1_some, acall0_some, q_lt, q_nlt, q_le, q_nle, q_eq, q_ne, q_01, true_or, or_true, false_or, or_false, false_and, and_false, and_self, and_true, true_and, wq, wQ, alen_aput, ag_s, ag_x, ag_j, ag_e]
      · by_cases hka : k ≤ A
        · have hC2 := hC.fp hF (by intro x j; unfold wrf wkc; omega)
          have hS2 : SC T N sc τ := hS.fp hF (by intro j; unfold wrf; omega) (by intro j _; unfold wrf; omega)
          obtain ⟨υ, e1, e2, e3⟩ := rf_in hC2 hN hs hS2 (A := A) (x := k) t0 t1 b0 b1 k0 (by omega) h9
          have hkn : k < (if rfX T N t A B ≤ A then rfX T N t A B + 1 else A + 1) := by split <;> omega
          refine Or.inl ⟨hkn, _, υ, ?_, by omega, rfl, hF.tr (e2.mono (fun x j h => Or.inl h)), by rw [e2.g (by unfold wrf; omega)]; exact h9, ?_⟩
          · rw [if_neg hlt]
            by_cases hy : rfY T N t B k ≤ B
            · have hke : rfX T N t A B = k := by
                by_cases e : k < rfX T N t A B
                · exact absurd hy (rfX_no k0 e)
                · omega
              rw [if_pos hy] at e1
              rw [if_pos (by omega)]
              simp (disch := omega) only [aU7, c7_seekReform_b11, ↓reduceIte, acall1_some, acall0_some, q_lt, q_nlt, q_le, q_nle, q_eq, q_ne, q_01, true_or, or_true, false_or, or_false, false_and, and_false, and_self, and_true, true_and, wq, wQ, alen_aput, ag_s, ag_x, ag_j, ag_e, e1]
            · have hke : k < rfX T N t A B := by
                by_cases e : k < rfX T N t A B
                · exact e
                · have e2 : rfX T N t A B = k := by omega
                  have := rfX_at (T := T) (N := N) (t := t) (a := A) (b := B) (by omega)
                  rw [e2] at this
                  exact absurd this hy
              rw [if_neg hy] at e1
              rw [if_neg (by omega)]
              simp (disch := omega) only [aU7, c7_seekReform_b11, ↓reduceIte, acall1_some, acall0_some, q_lt, q_nlt, q_le, q_nle, q_eq, q_ne, q_01, true_or, or_true, false_or, or_false, false_and, and_false, and_self, and_true, true_and, wq, wQ, alen_aput, ag_s, ag_x, ag_j, ag_e, e1]
          · intro h
            have hke : rfX T N t A B = k := by omega
            have := rfX_at (T := T) (N := N) (t := t) (a := A) (b := B) (by omega)
            rw [hke] at this ⊢
            exact e3 this
        · have hgt : ¬ rfX T N t A B ≤ A := by omega
          refine Or.inr ⟨(86, [8, 0], τ), ?_, Nat.ne_of_beq_eq_false rfl, τ, by rw [if_neg hgt], hF, fun h => absurd h hgt⟩
          rw [if_neg hlt]
          simp (disch := omega) only [aU7, c7_seekReform_b11, ↓reduceIte, acall1_some, acall0_some, q_lt, q_nlt, q_le, q_nle, q_eq, q_ne, q_01, true_or, or_true, false_or, or_false, false_and, and_false, and_self, and_true, true_and, wq, wQ, alen_aput, ag_s, ag_x, ag_j, ag_e])
  obtain ⟨r, hr, τ, hQ, h1, h2⟩ := hal
  refine ⟨aput τ 8 9 (-1), ?_, ag_s _ _ _ _, h1.put _ (Or.inr ⟨rfl, rfl⟩), fun h => ?_⟩
  · unfold c7_seekReform c7_seekReform_l11
    rw [hr, hQ]
    by_cases c : rfX T N t A B ≤ A
    · rw [if_pos c]
      simp (disch := omega) only [abind, c7_seekReform_d11, aU2, c7_seekReform_p85, ↓reduceIte, acall1_some, acall0_some, q_lt, q_nlt, q_le, q_nle, q_eq, q_ne, q_01, true_or, or_true, false_or, or_false, false_and, and_false, and_self, and_true, true_and, wq, wQ, alen_aput, ag_s, ag_x, ag_j, ag_e]
    · rw [if_neg c]
      simp (disch := omega) only [abind, c7_seekReform_d11, aU2, c7_seekReform_p85, ↓reduceIte, acall1_some, acall0_some, q_lt, q_nlt, q_le, q_nle, q_eq, q_ne, q_01, true_or, or_true, false_or, or_false, false_and, and_false, and_self, and_true, true_and, wq, wQ, alen_aput, ag_s, ag_x, ag_j, ag_e]
  · rw [ag_j (by omega), ag_j (by omega)]; exact h2 h
