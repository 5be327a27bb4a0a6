/-! names, faults, the looks -/
def aNamed (T : aH) (w l : Int) : Int := if 0 ≤ w ∧ w < 3 then (if ff (fun i => decide (T 11 (5 * w + i) = l)) (T 0 w) < T 0 w then ff (fun i => decide (T 11 (5 * w + i) = l)) (T 0 w) else -1) else -1
theorem TB.k5 {T : aH} (hB : TB T) {w : Int} (w0 : 0 ≤ w) (w3 : w < 3) : 0 ≤ T 0 w ∧ T 0 w ≤ 5 := by
  have a := hB.1
  have b := hB.2.1
  have c := hB.2.2.1
  rcases (show w = 0 ∨ w = 1 ∨ w = 2 by omega) with e | e | e <;> rw [e] <;> omega
theorem c12_find_ok {T : aH} {σ : aS} {x w l n : Int} (hn : alen σ x = n) (n5 : 5 ≤ n ∨ (w = 2 ∧ 4 ≤ n)) (w0 : 0 ≤ w) (w3 : w < 3) (hB : TB T) (hv : ∀ k, 0 ≤ k → k < T 0 w → aget σ x k = T 11 (5 * w + k)) :
    c12_find x 0 (T 0 w) l σ = some (0, [aNamed T w l], σ) := by
  have h5 := hB.k5 w0 w3
  have h4 := hB.2.2.1
  have h4' : w = 2 → T 0 w ≤ 4 := fun e => by rw [e]; exact h4.2
  unfold aNamed
  rw [if_pos ⟨w0, w3⟩]
  have p0 := ff_0 (fun i => decide (T 11 (5 * w + i) = l)) (n := T 0 w)
  have pn := ff_n (fun i => decide (T 11 (5 * w + i) = l)) (n := T 0 w) h5.1
  have pat := ff_at (P := fun i => decide (T 11 (5 * w + i) = l)) (n := T 0 w)
  have pno := fun k => ff_no (P := fun i => decide (T 11 (5 * w + i) = l)) (n := T 0 w) (k := k)
  generalize ff (fun i => decide (T 11 (5 * w + i) = l)) (T 0 w) = X at p0 pn pat pno
  have hal := al_I (c := 4) (B := aU5 c12_find_b3) (n := T 0 w) (i := 0) (vs := [x, 0, T 0 w, l, 0]) (σ := σ)
    (fun k vs τ => 0 ≤ k ∧ vs = [x, 0, T 0 w, l, k] ∧ τ = σ ∧ k ≤ X) (fun r => r = (0, [if X < T 0 w then X else -1], σ)) (by omega) (by omega) ⟨Int.le_refl _, rfl, rfl, p0⟩ ?_
  · obtain ⟨r, hr, rfl⟩ := hal
    unfold c12_find c12_find_l3
    rw [hr]; rfl
  · rintro k vs τ hk ⟨k0, rfl, rfl, hX⟩
    by_cases c : k < T 0 w
    · have hvk := hv k k0 c
      by_cases q : T 11 (5 * w + k) = l
      · have hXk : X = k := by
          by_cases v : k < X
          · have := pno k k0 v
            rw [decide_eq_true q] at this; cases this
          · omega
        refine Or.inr ⟨_, ?_, Nat.ne_of_beq_eq_false rfl, rfl⟩
        rw [if_pos (by omega), hXk]
        show c12_find_b3 x 0 (T 0 w) l k τ = _
        unfold c12_find_b3
        rw [wq (x := 0 + k) (by omega) (by omega), hn, show (0 : Int) + k = k by omega, hvk]
        exact ite_p c (ite_p (by omega) (ite_p q rfl))
      · refine Or.inl ⟨c, [x, 0, T 0 w, l, k + 1], τ, ?_, by omega, rfl, rfl, ?_⟩
        · show c12_find_b3 x 0 (T 0 w) l k τ = _
          unfold c12_find_b3
          rw [wq (x := 0 + k) (by omega) (by omega), hn, show (0 : Int) + k = k by omega, hvk, wq (x := k + 1) (by omega) (by omega)]
          exact ite_p c (ite_p (by omega) (ite_n q rfl))
        · by_cases v : X = k
          · have := pat (by omega)
            rw [v, decide_eq_true_iff] at this; exact absurd this q
          · omega
    · refine Or.inr ⟨_, ?_, Nat.ne_of_beq_eq_false rfl, rfl⟩
      rw [if_neg (by omega)]
      show c12_find_b3 x 0 (T 0 w) l k τ = _
      unfold c12_find_b3
      exact ite_n c rfl
theorem c12_named_q {T N : aH} {σ : aS} (hM : MI T σ) (hS : MN T N σ) (w l : Int) : AnsM T N σ (c12_named 130 w l σ) (aNamed T w l) := by
  have hM0 := hM.t2
  have hL := hM0.1
  have hB := hM.2.2
  obtain ⟨⟨t0, t1, t2, -⟩, -, -, -, -, -, -, n1, n2, -⟩ := hM0.2.1
  unfold c12_named
  rw [show aput σ 130 2 0 = st2 σ from rfl, r_130_24 hL, r_130_26 hL, r_130_32 hL, t0, t1, t2, if_neg (show ¬ (133 : Int) = 0 by omega), if_neg (show ¬ (135 : Int) = 0 by omega), if_neg (show ¬ (141 : Int) = 0 by omega)]
  by_cases a : w = 0
  · have hf := c12_find_ok (T := T) (σ := st2 σ) (x := 133) (w := 0) (l := l) (n_133 hL) (by omega) (by omega) (by omega) hB (fun k k0 k1 => by have := hB.1; rw [(n1 k k0 (by omega)).1]; exact congrArg (T 11) (by omega))
    rw [if_pos a, hf, acall1_some, a]; exact AnsM.k (st2_q σ) hS.t2 rfl
  · rw [if_neg a]
    by_cases b : w = 1
    · have hf := c12_find_ok (T := T) (σ := st2 σ) (x := 135) (w := 1) (l := l) (n_135 hL) (by omega) (by omega) (by omega) hB (fun k k0 k1 => by have := hB.2.1; rw [(n1 k k0 (by omega)).2]; exact congrArg (T 11) (by omega))
      rw [if_pos b, hf, acall1_some, b]; exact AnsM.k (st2_q σ) hS.t2 rfl
    · rw [if_neg b]
      by_cases c : w = 2
      · have hf := c12_find_ok (T := T) (σ := st2 σ) (x := 141) (w := 2) (l := l) (n_141 hL) (by omega) (by omega) (by omega) hB (fun k k0 k1 => by have := hB.2.2.1; rw [n2 k k0 (by omega)]; exact congrArg (T 11) (by omega))
        rw [if_pos c, hf, acall1_some, c]; exact AnsM.k (st2_q σ) hS.t2 rfl
      · rw [if_neg c]
        exact AnsM.k (st2_q σ) hS.t2 (by unfold aNamed; rw [if_neg (by omega)])
theorem c4_find_ok {pl : Int} {T : aH} {σ : aS} (hC : CQ pl T σ) {w l : Int} (w0 : 0 ≤ w) (w3 : w < 3) : c4_find pl w l σ = some (0, [aNamed T w l], σ) := by
  obtain ⟨hL, hp, hT, hB⟩ := hC
  have h5 := hB.k5 w0 w3
  have hk : aget σ (pl + 1) w = T 0 w := by
    rcases (show w = 0 ∨ w = 1 ∨ w = 2 by omega) with e | e | e <;> rw [e]
    · exact hT.1.1
    · exact hT.1.2.1
    · exact hT.1.2.2.1
  have hv := fun k => hT.2.2.2.2.2.2.2.2.2.1 w k w0 w3
  unfold aNamed
  rw [if_pos ⟨w0, w3⟩]
  have p0 := ff_0 (fun i => decide (T 11 (5 * w + i) = l)) (n := T 0 w)
  have pn := ff_n (fun i => decide (T 11 (5 * w + i) = l)) (n := T 0 w) h5.1
  have pat := ff_at (P := fun i => decide (T 11 (5 * w + i) = l)) (n := T 0 w)
  have pno := fun k => ff_no (P := fun i => decide (T 11 (5 * w + i) = l)) (n := T 0 w) (k := k)
  generalize ff (fun i => decide (T 11 (5 * w + i) = l)) (T 0 w) = X at p0 pn pat pno
  have hal := al_I (c := 3) (B := aU4 c4_find_b2) (n := T 0 w) (i := 0) (vs := [pl, w, l, 0]) (σ := σ)
    (fun k vs τ => 0 ≤ k ∧ vs = [pl, w, l, k] ∧ τ = σ ∧ k ≤ X) (fun r => r = (0, [if X < T 0 w then X else -1], σ)) (by omega) (by omega) ⟨Int.le_refl _, rfl, rfl, p0⟩ ?_
  · obtain ⟨r, hr, rfl⟩ := hal
    unfold c4_find c4_find_l2
    rw [hr]; rfl
  · rintro k vs τ hk2 ⟨k0, rfl, rfl, hX⟩
    by_cases c : k < T 0 w
    · have hvk := hv k k0 c
      by_cases q : T 11 (5 * w + k) = l
      · have hXk : X = k := by
          by_cases v : k < X
          · have := pno k k0 v
            rw [decide_eq_true q] at this; cases this
          · omega
        refine Or.inr ⟨_, ?_, Nat.ne_of_beq_eq_false rfl, rfl⟩
        rw [if_pos (by omega), hXk]
        show c4_find_b2 pl w l k τ = _
        unfold c4_find_b2
        rw [rp_0 hL hp, np_1 hL hp, hk, rp_16 hL hp, np_19 hL hp, w5' (by omega) (by omega) (by omega) (by omega), hvk]
        exact ite_n (by omega) (ite_p (by omega) (ite_p c (ite_n (by omega) (ite_p (by omega) (ite_p q rfl)))))
      · refine Or.inl ⟨c, [pl, w, l, k + 1], τ, ?_, by omega, rfl, rfl, ?_⟩
        · show c4_find_b2 pl w l k τ = _
          unfold c4_find_b2
          rw [rp_0 hL hp, np_1 hL hp, hk, rp_16 hL hp, np_19 hL hp, w5' (by omega) (by omega) (by omega) (by omega), hvk, wq (x := k + 1) (by omega) (by omega)]
          exact ite_n (by omega) (ite_p (by omega) (ite_p c (ite_n (by omega) (ite_p (by omega) (ite_n q rfl)))))
        · by_cases v : X = k
          · have := pat (by omega)
            rw [v, decide_eq_true_iff] at this; exact absurd this q
          · omega
    · refine Or.inr ⟨_, ?_, Nat.ne_of_beq_eq_false rfl, rfl⟩
      rw [if_neg (by omega)]
      show c4_find_b2 pl w l k τ = _
      unfold c4_find_b2
      rw [rp_0 hL hp, np_1 hL hp, hk]
      exact ite_n (by omega) (ite_p (by omega) (ite_n c rfl))
theorem c11_named_q {T : aH} {S : aH × (Int → aH) × Int × Int × aH} {σ : aS} (h : CSt T S σ) (w l : Int) : AnsC T S σ (c11_named 1 w l σ) (aNamed T w l) := by
  obtain ⟨pl, hC, -, -⟩ := h.e
  have hp := hC.2.1
  unfold c11_named c11_named_p9
  by_cases a : w < 0
  · rw [if_pos a]; exact AnsC.s h (by unfold aNamed; rw [if_neg (by omega)])
  · rw [if_neg a]
    by_cases b : w < 3
    · rw [if_pos b, hC.2.2.1.2.2, if_neg (show ¬ pl = 0 by omega), c4_find_ok hC.cq (by omega) b, acall1_some]; exact AnsC.s h rfl
    · rw [if_neg b]; exact AnsC.s h (by unfold aNamed; rw [if_neg (by omega)])
