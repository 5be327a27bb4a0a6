/-! the class's half of whole's part of this name -/
theorem jabs_ok {a : Int} (h0 : -1000000000000 ≤ a) (h1 : a ≤ 1000000000000) (σ : aS) : jabs a σ = some (0, [(a.natAbs : Int)], σ) := by
  unfold jabs
  simp only [acmp_n]
  by_cases c : a < 0
  · rw [if_pos c, wQ (by omega) (by omega), show -a = (a.natAbs : Int) by omega]
  · rw [if_neg c, show (a.natAbs : Int) = a by omega]
theorem c6_checked_ok {v : Int} (σ : aS) : c6_checked v σ = some (0, [match vck v with | some w => w | none => -9223372036854775808], σ) := by
  unfold c6_checked c6_checked_p16 vck
  simp only [acmp_p, acmp_n]
  by_cases c : 1000000000000 < v
  · rw [if_pos c, if_pos (Or.inl c)]
  · by_cases d : v < -1000000000000
    · rw [if_neg c, if_pos d, if_pos (Or.inr d)]
    · rw [if_neg c, if_neg d, if_neg (by omega)]
theorem c6_product_ok {a b : Int} (a0 : -1000000000000 ≤ a) (a1 : a ≤ 1000000000000) (b0 : -1000000000000 ≤ b) (b1 : b ≤ 1000000000000) (σ : aS) :
    c6_product a b σ = some (0, [match vop 42 a b with | some w => w | none => -9223372036854775808], σ) := by
  have hv : vop 42 a b = if 27720000000027719 < (a * b).natAbs then none else some (Int.tdiv (a * b) 27720) := rfl
  rw [hv]
  unfold c6_product
  by_cases z : b = 0
  · subst z
    simp only [acmp_z, ↓reduceIte, Int.mul_zero]
    rfl
  · simp only [acmp_z, if_neg z, jabs_ok a0 a1, acall1_some, jabs_ok b0 b1, acmp_p]
    have hb : (0 : Int) < (b.natAbs : Int) := by omega
    rw [if_neg (show ¬ (b.natAbs : Int) = 0 by omega), Int.tdiv_eq_ediv_of_nonneg (by omega)]
    have e0 := Int.ediv_nonneg (show (0 : Int) ≤ 27720000000027719 by omega) (Int.le_of_lt hb)
    have e1 := Int.ediv_le_self (a := 27720000000027719) (b.natAbs : Int) (by omega)
    have em : ((a * b).natAbs : Int) = (a.natAbs : Int) * (b.natAbs : Int) := by rw [Int.natAbs_mul]; rfl
    rw [wQ (by omega) (by omega)]
    have key : (27720000000027719 / (b.natAbs : Int) < (a.natAbs : Int)) = (27720000000027719 < (a * b).natAbs) := by
      rw [Int.ediv_lt_iff_lt_mul hb, ← em]
      exact propext ⟨fun h => by omega, fun h => by omega⟩
    simp only [key]
    by_cases c : 27720000000027719 < (a * b).natAbs
    · rw [if_pos c, if_pos c]
    · have t := tdiv_bd (x := a * b) (by omega)
      rw [if_neg c, if_neg c, if_neg (show ¬ (27720 : Int) = 0 by omega), wQ (x := a * b) (by omega) (by omega), wQ (by omega) (by omega)]
theorem c6_joined_ok {c a b : Int} (hc : c = 42 ∨ c = 43 ∨ c = 45 ∨ c = 47) (a0 : -1000000000000 ≤ a) (a1 : a ≤ 1000000000000) (b0 : -1000000000000 ≤ b) (b1 : b ≤ 1000000000000) (σ : aS) :
    c6_joined c a b σ = some (0, [match vop c a b with | some w => w | none => -9223372036854775808], σ) := by
  rcases hc with rfl | rfl | rfl | rfl
  · unfold c6_joined
    rw [if_pos rfl, c6_product_ok a0 a1 b0 b1, acall1_some]
  · have hv : vop 43 a b = vck (a + b) := rfl
    rw [hv]
    unfold c6_joined
    rw [if_neg (by omega), if_pos rfl, wQ (by omega) (by omega), c6_checked_ok, acall1_some]
  · have hv : vop 45 a b = vck (a - b) := rfl
    rw [hv]
    unfold c6_joined
    rw [if_neg (by omega), if_neg (by omega), if_neg (by omega), if_pos rfl, wQ (by omega) (by omega), c6_checked_ok, acall1_some]
  · have hv : vop 47 a b = if b = 0 then none else vck (Int.tdiv (a * 27720) b) := rfl
    rw [hv]
    unfold c6_joined c6_joined_p52
    rw [if_neg (by omega), if_neg (by omega), if_neg (by omega), if_neg (by omega)]
    simp only [acmp_z]
    by_cases z : b = 0
    · rw [if_pos z, if_pos z]
    · have e : (Int.tdiv (a * 27720) b).natAbs = (a * 27720).natAbs / b.natAbs := Int.natAbs_tdiv _ _
      have e2 := Nat.div_le_self (a * 27720).natAbs b.natAbs
      rw [if_neg z, if_neg z, if_neg z, wQ (x := a * 27720) (by omega) (by omega), wQ (by omega) (by omega), c6_checked_ok, acall1_some]
/-- a stack's values, the top one first -/
def sk (σ : aS) (x : Int) : List Int → Prop
  | [] => True
  | v :: r => aget σ x (r.length : Int) = v ∧ sk σ x r
theorem sk_co {σ τ : aS} {x : Int} : ∀ {q : List Int}, sk σ x q → (∀ j : Int, 0 ≤ j → j < q.length → aget τ x j = aget σ x j) → sk τ x q := by
  intro q
  induction q with
  | nil => intro _ _; exact True.intro
  | cons v r ih =>
    intro h g
    have hl : ((v :: r).length : Int) = (r.length : Int) + 1 := by rw [List.length_cons]; rfl
    exact ⟨by rw [g _ (by omega) (by omega)]; exact h.1, ih h.2 (fun j j0 j1 => g j j0 (by omega))⟩
theorem sk_push {σ : aS} {x : Int} {q : List Int} (h : sk σ x q) (v : Int) : sk (aput σ x (q.length : Int) v) x (v :: q) :=
  ⟨ag_s _ _ _ _, sk_co h (fun j j0 j1 => ag_j (by omega))⟩
/-- the meanings of a crew's numbers for a sort stand ready -/
def MG (pl : Int) (T : aH) (t : Int) (f : Int → Int) (s : Int) (σ : aS) : Prop := ∀ k, 0 ≤ k → k < 5 → aget σ (pl + 8) k = nmv T t f s k * 27720
theorem wko_step {pl : Int} {T : aH} {σ : aS} (hC : CQ pl T σ) {t : Int} (t0 : 0 ≤ t) (t1 : t < T 0 2) {f : Int → Int} {s : Int} (hM : MG pl T t f s σ) {k : Int} (k0 : T 9 t ≤ k) (k1 : k < T 10 t) {q : List Int} (hq : sk σ (pl + 12) q) (hb : lm12 q) (hn : (q.length : Int) ≤ 63) :
    match rst T t f s (T 8 k) q with
    | some r => ∃ τ, aU4 c6_workedOut_b9 [pl + 7, t, (q.length : Int), k] σ = some (10, [pl + 7, t, (r.length : Int), k + 1], τ) ∧ Fp (fun x _ => x = pl + 12) σ τ ∧ sk τ (pl + 12) r ∧ (r.length : Int) ≤ (q.length : Int) + 1
    | none => ∃ τ, aU4 c6_workedOut_b9 [pl + 7, t, (q.length : Int), k] σ = some (0, [0], τ) ∧ Fp (fun x _ => x = pl + 12) σ τ := by
  obtain ⟨hL, hp, hT, hB⟩ := hC
  have h4 := hB.2.2.1
  obtain ⟨-, -, b9, -, -, b8, -⟩ := hB.2.2.2.2.2.2.2.2.2 t t0 t1
  have hc := b8 k k0 k1
  have e11 := (hT.2.2.2.2.2.1 t t0 t1).2.2.2.1
  have e9 := hT.2.2.2.2.2.2.2.2.1 t k t0 t1 k0 k1
  have kb : 0 ≤ k ∧ k < 64 := by omega
  have fr := Fp.rf (fun x _ => x = pl + 12) σ
  rcases hc with hc | hc | hc | hc | hc | hc
  · by_cases c : T 8 k < 1000
    · unfold rst
      rw [if_pos c]
      refine ⟨_, ?_, fr.put (x := pl + 12) (j := (q.length : Int)) (T 8 k * 27720) rfl, sk_push hq _, by rw [List.length_cons]; exact Int.le_refl _⟩
      simp (disch := omega) only [aU4, c6_workedOut_b9, c6_workedOut_p168, c6_workedOut_p172, ↓reduceIte, acall1_some, acall0_some, q_lt, q_nlt, q_le, q_nle, q_eq, q_ne, q_01, true_or, or_true, false_or, or_false, false_and, and_false, and_self, and_true, true_and, wq, wQ, alen_aput, ag_s, ag_x, ag_j, ag_e, ru_0 hL hp, ru_2 hL hp, ru_3 hL hp, ru_4 hL hp, ru_5 hL hp, ru_6 hL hp, np_8 hL hp, np_9 hL hp, np_10 hL hp, np_11 hL hp, np_12 hL hp, np_13 hL hp, e11, e9, List.length_cons, Int.natCast_add]
      rfl
    · have m := hM (T 8 k - 1000) (by omega) (by omega)
      unfold rst
      rw [if_neg c, if_pos (show T 8 k < 2000 by omega)]
      refine ⟨_, ?_, fr.put (x := pl + 12) (j := (q.length : Int)) (nmv T t f s (T 8 k - 1000) * 27720) rfl, sk_push hq _, by rw [List.length_cons]; exact Int.le_refl _⟩
      simp (disch := omega) only [aU4, c6_workedOut_b9, c6_workedOut_p168, c6_workedOut_p172, ↓reduceIte, acall1_some, acall0_some, q_lt, q_nlt, q_le, q_nle, q_eq, q_ne, q_01, true_or, or_true, false_or, or_false, false_and, and_false, and_self, and_true, true_and, wq, wQ, alen_aput, ag_s, ag_x, ag_j, ag_e, ru_0 hL hp, ru_2 hL hp, ru_3 hL hp, ru_4 hL hp, ru_5 hL hp, ru_6 hL hp, np_8 hL hp, np_9 hL hp, np_10 hL hp, np_11 hL hp, np_12 hL hp, np_13 hL hp, e11, e9, m, List.length_cons, Int.natCast_add]
      rfl
  · unfold rst
    rw [if_neg (show ¬ T 8 k < 1000 by omega), if_neg (show ¬ T 8 k < 2000 by omega), if_pos hc]
    cases q with
    | nil =>
      refine ⟨σ, ?_, fr⟩
      simp (disch := omega) only [aU4, c6_workedOut_b9, ↓reduceIte, acall1_some, acall0_some, q_lt, q_nlt, q_le, q_nle, q_eq, q_ne, q_01, true_or, or_true, false_or, or_false, false_and, and_false, and_self, and_true, true_and, wq, wQ, alen_aput, ag_s, ag_x, ag_j, ag_e, ru_0 hL hp, ru_2 hL hp, ru_3 hL hp, ru_4 hL hp, ru_5 hL hp, ru_6 hL hp, np_8 hL hp, np_9 hL hp, np_10 hL hp, np_11 hL hp, np_12 hL hp, np_13 hL hp, e11, e9, List.length_nil, Int.natCast_zero]
    | cons a r =>
      have hl : ((a :: r).length : Int) = (r.length : Int) + 1 := by rw [List.length_cons]; rfl
      have ha := hb a List.mem_cons_self
      refine ⟨_, ?_, fr.put (x := pl + 12) (j := (r.length : Int)) (-a) rfl, ⟨ag_s _ _ _ _, sk_co hq.2 (fun j j0 j1 => ag_j (by omega))⟩, by rw [List.length_cons, List.length_cons]; omega⟩
      rw [hl] at hn ⊢
      have e := hq.1
      have e2 : (r.length : Int) + 1 - 1 = (r.length : Int) := by omega
      simp (disch := omega) only [aU4, c6_workedOut_b9, c6_workedOut_p172, ↓reduceIte, acall1_some, acall0_some, q_lt, q_nlt, q_le, q_nle, q_eq, q_ne, q_01, true_or, or_true, false_or, or_false, false_and, and_false, and_self, and_true, true_and, wq, wQ, alen_aput, ag_s, ag_x, ag_j, ag_e, ru_0 hL hp, ru_2 hL hp, ru_3 hL hp, ru_4 hL hp, ru_5 hL hp, ru_6 hL hp, np_8 hL hp, np_9 hL hp, np_10 hL hp, np_11 hL hp, np_12 hL hp, np_13 hL hp, e11, e9, e2, e, List.length_cons, Int.natCast_add]
      rfl
  all_goals
    unfold rst
    rw [if_neg (show ¬ T 8 k < 1000 by omega), if_neg (show ¬ T 8 k < 2000 by omega), if_neg (show ¬ T 8 k = 2000 by omega)]
    cases q with
    | nil =>
      refine ⟨σ, ?_, fr⟩
      simp (disch := omega) only [aU4, c6_workedOut_b9, ↓reduceIte, acall1_some, acall0_some, q_lt, q_nlt, q_le, q_nle, q_eq, q_ne, q_01, true_or, or_true, false_or, or_false, false_and, and_false, and_self, and_true, true_and, wq, wQ, alen_aput, ag_s, ag_x, ag_j, ag_e, ru_0 hL hp, ru_2 hL hp, ru_3 hL hp, ru_4 hL hp, ru_5 hL hp, ru_6 hL hp, np_8 hL hp, np_9 hL hp, np_10 hL hp, np_11 hL hp, np_12 hL hp, np_13 hL hp, e11, e9, List.length_nil, Int.natCast_zero]
    | cons b r =>
      cases r with
      | nil =>
        refine ⟨σ, ?_, fr⟩
        simp (disch := omega) only [aU4, c6_workedOut_b9, ↓reduceIte, acall1_some, acall0_some, q_lt, q_nlt, q_le, q_nle, q_eq, q_ne, q_01, true_or, or_true, false_or, or_false, false_and, and_false, and_self, and_true, true_and, wq, wQ, alen_aput, ag_s, ag_x, ag_j, ag_e, ru_0 hL hp, ru_2 hL hp, ru_3 hL hp, ru_4 hL hp, ru_5 hL hp, ru_6 hL hp, np_8 hL hp, np_9 hL hp, np_10 hL hp, np_11 hL hp, np_12 hL hp, np_13 hL hp, e11, e9, List.length_cons, List.length_nil, Int.natCast_add, Int.natCast_zero]
      | cons a r =>
        have hl : ((b :: a :: r).length : Int) = (r.length : Int) + 2 := by rw [List.length_cons, List.length_cons]; omega
        have hl1 : ((a :: r).length : Int) = (r.length : Int) + 1 := by rw [List.length_cons]; rfl
        have ha := hb a (List.mem_cons_of_mem _ List.mem_cons_self)
        have hbb := hb b List.mem_cons_self
        have eb := hq.1
        have ea := hq.2.1
        rw [hl1] at eb
        have e1 : (r.length : Int) + 2 + (-1) = (r.length : Int) + 1 := by omega
        have e2 : (r.length : Int) + 1 - 1 = (r.length : Int) := by omega
        have hj := c6_joined_ok (c := T 8 k - 3000) (a := a) (b := b) (by omega) ha.1 ha.2 hbb.1 hbb.2 σ
        rw [hl] at hn ⊢
        cases hv : vop (T 8 k - 3000) a b with
        | none =>
          simp only [hv] at hj ⊢
          refine ⟨_, ?_, fr.put (x := pl + 12) (j := (r.length : Int)) (-9223372036854775808) rfl⟩
          simp (disch := omega) only [aU4, c6_workedOut_b9, c6_workedOut_p172, ↓reduceIte, acall1_some, acall0_some, q_lt, q_nlt, q_le, q_nle, q_eq, q_ne, q_01, true_or, or_true, false_or, or_false, false_and, and_false, and_self, and_true, true_and, wq, wQ, alen_aput, ag_s, ag_x, ag_j, ag_e, ru_0 hL hp, ru_2 hL hp, ru_3 hL hp, ru_4 hL hp, ru_5 hL hp, ru_6 hL hp, np_8 hL hp, np_9 hL hp, np_10 hL hp, np_11 hL hp, np_12 hL hp, np_13 hL hp, e11, e9, e1, e2, ea, eb, hj, acmp_z]
        | some v =>
          simp only [hv] at hj ⊢
          have vb := vop_bd hv
          refine ⟨_, ?_, fr.put (x := pl + 12) (j := (r.length : Int)) v rfl, ⟨ag_s _ _ _ _, sk_co hq.2.2 (fun j j0 j1 => ag_j (by omega))⟩, by rw [List.length_cons]; omega⟩
          simp (disch := omega) only [aU4, c6_workedOut_b9, c6_workedOut_p172, ↓reduceIte, acall1_some, acall0_some, q_lt, q_nlt, q_le, q_nle, q_eq, q_ne, q_01, true_or, or_true, false_or, or_false, false_and, and_false, and_self, and_true, true_and, wq, wQ, alen_aput, ag_s, ag_x, ag_j, ag_e, ru_0 hL hp, ru_2 hL hp, ru_3 hL hp, ru_4 hL hp, ru_5 hL hp, ru_6 hL hp, np_8 hL hp, np_9 hL hp, np_10 hL hp, np_11 hL hp, np_12 hL hp, np_13 hL hp, e11, e9, e1, e2, ea, eb, hj, acmp_z, List.length_cons, Int.natCast_add]
          rfl
