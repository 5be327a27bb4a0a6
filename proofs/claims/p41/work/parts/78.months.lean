/-! the class's half of whole's part of this name -/
def stv (N : aH) (x j v : Int) : aH := fun x' j' => if x' = x ∧ j' = j then v else N x' j'
theorem stv_g (N : aH) (x j v x' j' : Int) : stv N x j v x' j' = if x' = x ∧ j' = j then v else N x' j' := rfl
theorem stv_x {N : aH} {x j v x' : Int} (h : x' ≠ x) (j' : Int) : stv N x j v x' j' = N x' j' := if_neg (fun q => h q.1)
theorem stv_s (N : aH) (x j v : Int) : stv N x j v x j = v := if_pos ⟨rfl, rfl⟩
theorem stv_j {N : aH} {x j v j' : Int} (h : j' ≠ j) : stv N x j v x j' = N x j' := if_neg (fun q => h q.2)
theorem ctn_stv {T N : aH} {x j v : Int} (hx : x ≠ 0) (p : Int) : ctn T (stv N x j v) p = ctn T N p := by
  funext s; unfold ctn; rw [stv_x (fun e => hx e.symm)]
theorem pkP_stv {T N : aH} {x j v : Int} (hx : x ≠ 0) : pkP T (stv N x j v) = pkP T N := by
  unfold pkP pkT; simp only [ctn_stv hx]
/-- the extras of a state that calls may reach -/
def NM (N : aH) : Prop := ∀ t, 0 ≤ t → t < 4 → -999 ≤ N 1 t ∧ N 1 t ≤ 999
theorem NB.st1 {T N : aH} (hN : NB T N) {t v : Int} (ht : t < T 0 2) (h1 : -3000 ≤ v) (h2 : v ≤ 3000) : NB T (stv N 1 t v) := by
  refine ⟨?_, ?_, ?_, ?_, ?_, ?_⟩
  · intro s p a b c d; rw [stv_x (by omega)]; exact hN.1 s p a b c d
  · intro s a b
    rw [← hN.2.1 s a b]
    exact sI_congr (fun k _ _ => stv_x (by omega) _)
  · intro u a b
    by_cases e : u = t
    · subst e; rw [stv_s]; omega
    · rw [stv_j e]; exact hN.2.2.1 u a b
  · intro u a b; rw [stv_j (by omega)]; exact hN.2.2.2.1 u a b
  · intro u a b; rw [stv_x (by omega)]; exact hN.2.2.2.2.1 u a b
  · rw [stv_x (by omega), stv_x (by omega), stv_x (by omega), stv_x (by omega), stv_x (by omega)]; exact hN.2.2.2.2.2
theorem NB.st3 {T N : aH} (hN : NB T N) {j v : Int} (h0 : j = 0 → 0 ≤ v ∧ v ≤ 12) (h1 : j = 1 → 0 ≤ v ∧ v ≤ 130000) : NB T (stv N 3 j v) := by
  refine ⟨?_, ?_, ?_, ?_, ?_, ?_, ?_, ?_⟩
  · intro s p a b c d; rw [stv_x (by omega)]; exact hN.1 s p a b c d
  · intro s a b
    rw [← hN.2.1 s a b]
    exact sI_congr (fun k _ _ => stv_x (by omega) _)
  · intro u a b; rw [stv_x (by omega)]; exact hN.2.2.1 u a b
  · intro u a b; rw [stv_x (by omega)]; exact hN.2.2.2.1 u a b
  · intro u a b; rw [stv_x (by omega)]; exact hN.2.2.2.2.1 u a b
  · by_cases e : j = 0
    · subst e; rw [stv_s]; exact h0 rfl
    · rw [stv_j (fun q => e q.symm)]; exact hN.2.2.2.2.2.1
  · by_cases e : j = 1
    · subst e; rw [stv_s]; exact h1 rfl
    · rw [stv_j (fun q => e q.symm)]; exact hN.2.2.2.2.2.2.1
  · rw [stv_x (by omega), stv_x (by omega), stv_x (by omega)]; exact hN.2.2.2.2.2.2.2
theorem SC.st1 {T N : aH} {sc : Int} {σ : aS} (hS : SC T N sc σ) (hs : SH sc) {t v : Int} : SC T (stv N 1 t v) sc (aput σ (sc + 1) t v) := by
  have := hs.p
  refine ⟨by rw [ag_x (by omega), pkP_stv (by omega)]; exact hS.1, fun u a b => ?_, ?_, ?_, ?_⟩
  · by_cases e : u = t
    · subst e; rw [ag_s, stv_s]
    · rw [ag_j e, stv_j e]; exact hS.2.1 u a b
  · rw [ag_x (by omega)]
    have e : bnI T (stv N 1 t v) = bnI T N := by unfold bnI; exact sI_congr (fun k _ _ => by rw [stv_x (by omega)])
    rw [e]; exact hS.2.2.1
  · rw [ag_x (by omega), stv_x (by omega)]; exact hS.2.2.2.1
  · rw [ag_x (by omega), stv_x (by omega)]; exact hS.2.2.2.2
theorem SC.st3 {T N : aH} {sc : Int} {σ : aS} (hS : SC T N sc σ) (hs : SH sc) {j v : Int} (hj : j = 0 ∨ j = 1) : SC T (stv N 3 j v) sc (aput σ sc (3 + j) v) := by
  have := hs.p
  refine ⟨by rw [ag_j (by omega), pkP_stv (by omega)]; exact hS.1, fun u a b => ?_, ?_, ?_, ?_⟩
  · rw [ag_x (by omega), stv_x (by omega)]; exact hS.2.1 u a b
  · rw [ag_j (by omega)]
    have e : bnI T (stv N 3 j v) = bnI T N := by unfold bnI; exact sI_congr (fun k _ _ => by rw [stv_x (by omega)])
    rw [e]; exact hS.2.2.1
  · rcases hj with rfl | rfl
    · rw [stv_s, show (3 : Int) + 0 = 3 from rfl, ag_s]
    · rw [stv_j (by omega), ag_j (by omega)]; exact hS.2.2.2.1
  · rcases hj with rfl | rfl
    · rw [stv_j (by omega), ag_j (by omega)]; exact hS.2.2.2.2
    · rw [stv_s, show (3 : Int) + 1 = 4 from rfl, ag_s]
/-- nobody is in a town -/
theorem pk5_z {f : Int → Int} (hf : ∀ s, 0 ≤ s → s < 5 → 0 ≤ f s ∧ f s ≤ 7) : pk5 f = 0 ↔ szf f = 0 := by
  have a0 := hf 0 (by omega) (by omega)
  have a1 := hf 1 (by omega) (by omega)
  have a2 := hf 2 (by omega) (by omega)
  have a3 := hf 3 (by omega) (by omega)
  have a4 := hf 4 (by omega) (by omega)
  unfold pk5 szf
  omega
def emB (T N : aH) (t e : Int) : Bool := decide (trE T (stv N 1 t (N 1 t + e)) = 1) && decide (szf (ctn T (itN T (stv N 1 t (N 1 t + e)) (trG T (stv N 1 t (N 1 t + e)))) t) = 0)
def emE (T N : aH) (t : Int) : Int := ff (emB T N t) 41
theorem trE_1 {T N : aH} (h : trE T N = 1) : trG T N ≤ 300 := by
  unfold trE at h
  by_cases c : trG T N ≤ 300
  · exact c
  · rw [if_neg c] at h; omega
def wle (x j : Int) : Prop := wtr x j ∨ (x = 18 ∧ 1 ≤ j) ∨ x = 19
theorem le_1 {σ τ : aS} (hL : LR σ) {t e v : Int} (t0 : 0 ≤ t) (t1 : t < 4) (e0 : 0 ≤ e) (e1 : e ≤ 40) (hv : aget σ 89 t = v) (hv1 : -999 ≤ v) (hv2 : v ≤ 999) (htr : c0_trace 14 18 (aput σ 19 t (v + e)) = some (0, [], τ)) (h14 : aget τ 14 0 ≠ 1) :
    aU4 c0_leastEmptying_b10 [14, 88, t, e] σ = some (11, [14, 88, t, e + 1], τ) := by
  simp (disch := omega) only [aU4, c0_leastEmptying_b10, c0_leastEmptying_p72, ↓reduceIte, acall1_some, acall0_some, q_lt, q_nlt, q_le, q_nle, q_eq, q_ne, q_01, true_or, or_true, false_or, or_false, false_and, and_false, and_self, and_true, true_and, wq, wQ, alen_aput, ag_s, ag_x, ag_j, ag_e, r_14_6 hL, r_18_0 hL, r_88_0 hL, n_89 hL, n_19 hL, hv, htr, h14]
theorem le_2 {σ τ : aS} (hL : LR σ) (hL2 : LR τ) {pl P c t e v : Int} (hp : pl = 90 ∨ pl = 110) (h8 : aget τ 8 0 = pl) (t0 : 0 ≤ t) (t1 : t < 4) (e0 : 0 ≤ e) (e1 : e ≤ 40) (hv : aget σ 89 t = v) (hv1 : -999 ≤ v) (hv2 : v ≤ 999) (htr : c0_trace 14 18 (aput σ 19 t (v + e)) = some (0, [], τ)) (h14 : aget τ 14 0 = 1)
    (h16 : aget τ 16 1 = P) (hc : c4_crewAt pl P t τ = some (0, [c], τ)) : aU4 c0_leastEmptying_b10 [14, 88, t, e] σ = if c = 0 then some (0, [e], τ) else some (11, [14, 88, t, e + 1], τ) := by
  by_cases c0 : c = 0
  · simp (disch := omega) only [aU4, c0_leastEmptying_b10, c0_leastEmptying_p72, ↓reduceIte, acall1_some, acall0_some, q_lt, q_nlt, q_le, q_nle, q_eq, q_ne, q_01, true_or, or_true, false_or, or_false, false_and, and_false, and_self, and_true, true_and, wq, wQ, alen_aput, ag_s, ag_x, ag_j, ag_e, r_14_6 hL, r_18_0 hL, r_88_0 hL, n_89 hL, n_19 hL, hv, htr, h14, r_14_3 hL2, r_14_5 hL2, h8, h16, hc, c0]
  · simp (disch := omega) only [aU4, c0_leastEmptying_b10, c0_leastEmptying_p72, ↓reduceIte, acall1_some, acall0_some, q_lt, q_nlt, q_le, q_nle, q_eq, q_ne, q_01, true_or, or_true, false_or, or_false, false_and, and_false, and_self, and_true, true_and, wq, wQ, alen_aput, ag_s, ag_x, ag_j, ag_e, r_14_6 hL, r_18_0 hL, r_88_0 hL, n_89 hL, n_19 hL, hv, htr, h14, r_14_3 hL2, r_14_5 hL2, h8, h16, hc, c0]
set_option maxHeartbeats 4000000 in
theorem c0_leastEmptying_ok {pl : Int} {T N : aH} {σ : aS} (hC : CI pl T σ) (hN : NB T N) (hM : NM N) (hS : SC T N 88 σ) (hR : RE N σ) {t : Int} (t0 : 0 ≤ t) (t1 : t < T 0 2) :
    ∃ τ, c0_leastEmptying 14 88 t σ = some (0, [emE T N t], τ) ∧ Fp wle σ τ := by
  have hB := hC.2.2.2.2.2
  have ht := hB.2.2.1
  have hL := hC.1
  have hm := hM t t0 (by omega)
  obtain ⟨τ0, c1, c2, c3⟩ := copy_SH hL (d := 18) (s := 88) (Or.inr (Or.inr (Or.inl rfl))) (Or.inl rfl) (by omega) hS
  have n0 := ff_0 (emB T N t) (n := 41)
  have n1 := ff_n (emB T N t) (n := 41) (by omega)
  have hal := al_I (c := 11) (B := aU4 c0_leastEmptying_b10) (n := emE T N t) (i := 0) (vs := [14, 88, t, 0]) (σ := τ0)
    (fun k vs τ => 0 ≤ k ∧ vs = [14, 88, t, k] ∧ (∃ v, SC T (stv N 1 t v) 18 τ) ∧ Fp wle σ τ) (fun r => ∃ τ, r = (0, [emE T N t], τ) ∧ Fp wle σ τ)
    n0 (by unfold emE; omega) ⟨Int.le_refl _, rfl, ⟨N 1 t, by
      have e : stv N 1 t (N 1 t) = N := by funext x j; rw [stv_g]; by_cases q : x = 1 ∧ j = t; rw [if_pos q, q.1, q.2]; rw [if_neg q]
      rw [e]; exact c3⟩, c2.mono (by intro x j; unfold wle; omega)⟩ (by
      rintro k vs τ hk ⟨k0, rfl, ⟨v, hv⟩, hF⟩
      have hC2 := hC.fp hF (by intro x j; unfold wle wtr wkc; omega)
      have hL2 := hC2.1
      have h89 : aget τ 89 t = N 1 t := by rw [hF.g (by unfold wle wtr; omega)]; exact hS.2.1 t t0 (by omega)
      by_cases h41 : k ≤ 40
      · have hFp : Fp wle τ (aput τ 19 t (N 1 t + k)) := (Fp.rf _ _).put _ (by unfold wle; omega)
        have hC3 := hC2.fp hFp (by intro x j; unfold wle wtr wkc; omega)
        have hS3 : SC T (stv N 1 t (N 1 t + k)) 18 (aput τ 19 t (N 1 t + k)) := by
          have := hv.st1 (Or.inr (Or.inr (Or.inl rfl))) (t := t) (v := N 1 t + k)
          have e : stv (stv N 1 t v) 1 t (N 1 t + k) = stv N 1 t (N 1 t + k) := by
            funext x j; simp only [stv_g]; by_cases q : x = 1 ∧ j = t
            · rw [if_pos q, if_pos q]
            · rw [if_neg q, if_neg q, if_neg q]
          rw [e] at this
          exact this
        have hR3 : RE (stv N 1 t (N 1 t + k)) (aput τ 19 t (N 1 t + k)) := by
          have h1 := (hR.fp hF (by unfold wle wtr; omega) (by unfold wle wtr; omega) (by unfold wle wtr; omega)).fp hFp (by unfold wle wtr; omega) (by unfold wle wtr; omega) (by unfold wle wtr; omega)
          unfold RE at h1 ⊢
          rw [stv_x (by omega), stv_x (by omega), stv_x (by omega)]
          exact h1
        have hN3 := hN.st1 (t := t) (v := N 1 t + k) t1 (by omega) (by omega)
        obtain ⟨υ, d1, d2, d3, d4, d5, d6⟩ := c0_trace_ok hC3 hN3 (sc := 18) (Or.inr (Or.inr (Or.inl rfl))) (by omega) hS3 hR3
        have hC4 := hC3.fp d6 wtr_wkc
        have hF2 : Fp wle σ υ := (hF.tr hFp).tr (d6.mono (fun x j h => Or.inl h))
        have hS4 : ∃ v, SC T (stv N 1 t v) 18 υ := ⟨_, hS3.fp d6 (by intro j; unfold wtr; omega) (by intro j _; unfold wtr; omega)⟩
        by_cases e1 : trE T (stv N 1 t (N 1 t + k)) = 1
        · have hG := trE_1 e1
          have hNG := trG_NB hN3 hB (trG_0 T _) (Int.le_refl _)
          have hcr := c4_crewAt_ok hC4 hNG t0 (by omega)
          have h7 := (ctn_BF hNG hB t0 (Int.le_of_lt t1)).b7 hB
          have hz := pk5_z h7
          have hb := le_2 hL2 hC4.1 hC4.2.1 hC4.2.2.1.1 t0 (by omega) k0 h41 h89 hm.1 hm.2 d1 (d2.trans e1) (d5 hG) hcr
          by_cases z : szf (ctn T (itN T (stv N 1 t (N 1 t + k)) (trG T (stv N 1 t (N 1 t + k)))) t) = 0
          · have hke : k = emE T N t := by
              by_cases q : k < emE T N t
              · have := ff_no (P := emB T N t) (n := 41) k0 q
                unfold emB at this
                rw [e1, z] at this
                cases this
              · omega
            rw [if_pos (hz.mpr z)] at hb
            exact Or.inr ⟨_, hb, Nat.ne_of_beq_eq_false rfl, υ, by rw [← hke], hF2⟩
          · have hkl : k < emE T N t := by
              by_cases q : k < emE T N t
              · exact q
              · have hke : emE T N t = k := by omega
                have := ff_at (P := emB T N t) (n := 41) (by unfold emE at hke; omega)
                rw [show ff (emB T N t) 41 = k from hke] at this
                unfold emB at this
                simp only [Bool.and_eq_true, decide_eq_true_iff] at this
                exact absurd this.2 z
            rw [if_neg (fun q => z (hz.mp q))] at hb
            exact Or.inl ⟨hkl, _, υ, hb, by omega, rfl, hS4, hF2⟩
        · have hb := le_1 hL2 t0 (show t < 4 by omega) k0 h41 h89 hm.1 hm.2 d1 (by rw [d2]; exact e1)
          have hkl : k < emE T N t := by
            by_cases q : k < emE T N t
            · exact q
            · have hke : emE T N t = k := by omega
              have := ff_at (P := emB T N t) (n := 41) (by unfold emE at hke; omega)
              rw [show ff (emB T N t) 41 = k from hke] at this
              unfold emB at this
              simp only [Bool.and_eq_true, decide_eq_true_iff] at this
              exact absurd this.1 e1
          exact Or.inl ⟨hkl, _, υ, hb, by omega, rfl, hS4, hF2⟩
      · have hke : emE T N t = 41 := by unfold emE at hk ⊢; omega
        refine Or.inr ⟨(0, [41], τ), ?_, Nat.ne_of_beq_eq_false rfl, τ, by rw [hke], hF⟩
        simp (disch := omega) only [aU4, c0_leastEmptying_b10, ↓reduceIte, acall1_some, acall0_some, q_lt, q_nlt, q_le, q_nle, q_eq, q_ne, q_01, true_or, or_true, false_or, or_false, false_and, and_false, and_self, and_true, true_and, wq, wQ, alen_aput, ag_s, ag_x, ag_j, ag_e])
  obtain ⟨r, hr, τ, hQ, hF⟩ := hal
  refine ⟨τ, ?_, hF⟩
  simp (disch := omega) only [c0_leastEmptying, ↓reduceIte, acall1_some, acall0_some, q_lt, q_nlt, q_le, q_nle, q_eq, q_ne, q_01, true_or, or_true, false_or, or_false, false_and, and_false, and_self, and_true, true_and, wq, wQ, alen_aput, ag_s, ag_x, ag_j, ag_e, r_14_6 hL, c1, c0_leastEmptying_l10, hr, hQ, abind, c0_leastEmptying_d10]
