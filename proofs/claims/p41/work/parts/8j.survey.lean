/-! the class's half of whole's part of this name -/
/-- the same terms -/
def tme (T N M : aH) : Prop := (∀ t, 0 ≤ t → t < T 0 2 → N 1 t = M 1 t ∧ N 2 t = M 2 t) ∧ N 4 0 = -1 ∧ M 4 0 = -1
theorem ctn_0 {T N M : aH} (h : N 0 = M 0) (p : Int) : ctn T N p = ctn T M p := by unfold ctn; rw [h]
theorem wrA_tm {T N M : aH} (h : tme T N M) {s p : Int} (p0 : 0 ≤ p) (p1 : p ≤ T 0 2) (f : Int → Int) : wrA T N s p f = wrA T M s p f := by
  unfold wrA
  by_cases c : p = T 0 2
  · rw [if_pos c, if_pos c]
  · rw [if_neg c, if_neg c]
    unfold wor ask
    rw [h.2.1, h.2.2, if_neg (show ¬ p = -1 by omega), if_neg (show ¬ p = -1 by omega), (h.1 p p0 (by omega)).1]
theorem gai_tm {T N M : aH} (h : tme T N M) (h0 : N 0 = M 0) {s a b : Int} (a0 : 0 ≤ a) (a1 : a ≤ T 0 2) (b0 : 0 ≤ b) (b1 : b ≤ T 0 2) : gai T N s a b = gai T M s a b := by
  unfold gai
  rw [wrA_tm h b0 b1, wrA_tm h a0 a1, ctn_0 h0 a, ctn_0 h0 b]
theorem fiS_tm {T N M : aH} (h : tme T N M) (h0 : N 0 = M 0) : fiS T N = fiS T M := by
  have eB : ∀ s a, 0 ≤ a → a ≤ T 0 2 → fiB T N s a = fiB T M s a := fun s a a0 a1 => by
    unfold fiB; exact ff_congr (fun b b0 b1 => by rw [gai_tm h h0 a0 a1 b0 (by omega)])
  have eA : ∀ s, fiA T N s = fiA T M s := fun s => by
    unfold fiA
    exact ff_congr (fun a a0 a1 => by
      have eb : bnd T N a = bnd T M a := by
        unfold bnd
        by_cases c : a < T 0 2
        · rw [if_pos c, if_pos c, (h.1 a a0 c).2]
        · rw [if_neg c, if_neg c]
      rw [h0, eb, eB s a a0 (by omega)])
  unfold fiS
  exact ff_congr (fun s _ _ => by rw [eA])
theorem tot_tm {T N M : aH} (h : tme T N M) (h0 : N 0 = M 0) : tot T N = tot T M := by
  unfold tot
  exact sI_congr (fun p p0 p1 => by
    unfold suW
    rw [ctn_0 h0 p]
    exact sI_congr (fun s _ _ => by rw [wrA_tm h p0 (by omega)]))
theorem sq_c0 {T N M : aH} (h0 : N 0 = M 0) : sq T N 0 = sq T M 0 := by
  have e1 : ∀ s, lsp T N s = lsp T M s := fun s => by unfold lsp; rw [h0]
  have e2 : lss T N = lss T M := by unfold lss; simp only [e1]
  funext j
  show sqv T N (j / 5) (j % 5) = sqv T M (j / 5) (j % 5)
  unfold sqv nwv
  rw [e2, h0]
  simp only [e1]
theorem PN_c0 (T N M : aH) (k : Int) : PN T N k 0 = PN T M k 0 := by
  unfold PN
  generalize k.toNat = n
  induction n with
  | zero => rfl
  | succ n ih => exact sq_c0 ih
theorem tme_PN {T N M : aH} (h : tme T N M) (k : Int) : tme T (PN T N k) (PN T M k) := by
  refine ⟨fun t t0 t1 => ?_, ?_, ?_⟩
  · rw [PN_x _ _ _ (by omega), PN_x _ _ _ (by omega), PN_x _ _ _ (by omega), PN_x _ _ _ (by omega)]; exact h.1 t t0 t1
  · rw [PN_x _ _ _ (by omega)]; exact h.2.1
  · rw [PN_x _ _ _ (by omega)]; exact h.2.2
def svA (T N : aH) (k : Int) : Int := tot T (PN T N k)
def svH (T N : aH) (k : Int) : Bool := !decide (fiS T (PN T N k) < T 0 1)
def svK (T N : aH) (k : Int) : Int := pkP T (PN T N k)
theorem sv_tm {T N M : aH} (h : tme T N M) : svA T N = svA T M ∧ svH T N = svH T M ∧ svK T N = svK T M := by
  refine ⟨funext fun k => ?_, funext fun k => ?_, funext fun k => ?_⟩
  · exact tot_tm (tme_PN h k) (PN_c0 T N M k)
  · unfold svH; rw [fiS_tm (tme_PN h k) (PN_c0 T N M k)]
  · exact pkP_co (fun j => congrFun (PN_c0 T N M k) j)
/-- the survey's answers for N's terms -/
def SVR (T N : aH) (σ : aS) : Prop := aget σ 20 0 = mn 3001 (npT T) ∧ (npT T ≤ 3000 → SVn (svA T N) (svH T N) (svK T N) (npT T).toNat σ)
theorem SVR.tm {T N M : aH} {σ : aS} (h : SVR T N σ) (ht : tme T N M) : SVR T M σ := by
  obtain ⟨a, b, c⟩ := sv_tm ht
  refine ⟨h.1, fun q => ?_⟩
  rw [← a, ← b, ← c]
  exact h.2 q
/-- what was made before is true yet -/
def SVI (T : aH) (σ : aS) : Prop := aget σ 20 9 ≠ 0 → ∃ M, NB T M ∧ M 4 0 = -1 ∧ (∀ t, 0 ≤ t → t < 4 → aget σ 23 t = M 1 t) ∧ aget σ 22 2 = bnI T M ∧ SVR T M σ
theorem PN0_pk (T N : aH) : pkP T (PN0 T N) = 0 := by
  have e : ∀ t, 0 ≤ t → t < 5 → pkT T (PN0 T N) t = 0 := fun t t0 t5 => by
    unfold pkT
    by_cases c : t < T 0 2
    · rw [if_pos c]
      have z : ∀ s, ctn T (PN0 T N) t s = 0 := fun s => by
        unfold ctn
        by_cases d : 0 ≤ s ∧ s < T 0 1
        · rw [if_pos d, PN0_0 _ _ t0 t5]; unfold alv; rw [if_neg (by omega)]
        · rw [if_neg d]
      unfold pk5; rw [z, z, z, z, z]; rfl
    · rw [if_neg c]
  unfold pkP
  rw [e 0 (by omega) (by omega), e 1 (by omega) (by omega), e 2 (by omega) (by omega), e 3 (by omega) (by omega)]
  rfl
theorem bnI_eq {T N M : aH} (hN : NB T N) (hM : NB T M) (hB : TB T) (h : bnI T N = bnI T M) {t : Int} (t0 : 0 ≤ t) (t1 : t < T 0 2) : N 2 t = M 2 t := by
  have a := (bnI_bit hN hB t0 (Int.le_of_lt t1)).1
  have b := (bnI_bit hM hB t0 (Int.le_of_lt t1)).1
  rw [h, b] at a
  unfold bnd at a
  rw [if_pos t1, if_pos t1] at a
  exact a.symm
def htB (σ : aS) : Bool := decide (ff (fun t => !decide (aget σ 23 t = aget σ 89 t)) 4 = 4) && decide (aget σ 22 2 = aget σ 88 2)
theorem htB_t {σ : aS} (h : htB σ = true) : (∀ t, 0 ≤ t → t < 4 → aget σ 23 t = aget σ 89 t) ∧ aget σ 22 2 = aget σ 88 2 := by
  unfold htB at h
  rw [Bool.and_eq_true, decide_eq_true_iff, decide_eq_true_iff] at h
  refine ⟨fun t t0 t1 => ?_, h.2⟩
  have z := ff_no (P := fun t => !decide (aget σ 23 t = aget σ 89 t)) (n := 4) t0 (show t < _ by omega)
  simpa using z
theorem c8_hasTermsOf_ok {σ : aS} (hL : LR σ) : c8_hasTermsOf 22 88 σ = some (0, [if htB σ = true then 1 else 0], σ) := by
  have n0 := ff_0 (fun t => !decide (aget σ 23 t = aget σ 89 t)) (n := 4)
  have n4 := ff_n (fun t => !decide (aget σ 23 t = aget σ 89 t)) (n := 4) (by omega)
  have r1 := rs_0 hL (sc := 22) (Or.inr (Or.inr (Or.inr rfl)))
  have r2 := rs_0 hL (sc := 88) (Or.inl rfl)
  have m1 := ns_1 hL (sc := 22) (Or.inr (Or.inr (Or.inr rfl)))
  have m2 := ns_1 hL (sc := 88) (Or.inl rfl)
  rw [show (22 : Int) + 1 = 23 from rfl] at r1 m1
  rw [show (88 : Int) + 1 = 89 from rfl] at r2 m2
  by_cases c : ff (fun t => !decide (aget σ 23 t = aget σ 89 t)) 4 = 4
  · have ha : ∀ t, 0 ≤ t → t < 4 → aget σ 23 t = aget σ 89 t := fun t t0 t1 => by
      have z := ff_no (P := fun t => !decide (aget σ 23 t = aget σ 89 t)) (n := 4) t0 (show t < _ by omega)
      simpa using z
    have hl := al_0 (c := 3) (B := aU3 c8_hasTermsOf_b2) (fun k => [22, 88, k]) (fun _ => σ) (n := 4) (r := (31, [22, 88], σ)) (by omega) (by omega) ?_ ?_ (Nat.ne_of_beq_eq_false rfl)
    · unfold c8_hasTermsOf c8_hasTermsOf_l2
      rw [hl]
      show c8_hasTermsOf_p30 22 88 σ = _
      unfold c8_hasTermsOf_p30
      unfold htB
      rw [c]
      by_cases d : aget σ 22 2 = aget σ 88 2
      · rw [if_pos d, if_pos (by omega), decide_eq_true d]; rfl
      · rw [if_neg d, if_pos (by omega), decide_eq_false d]; rfl
    · intro k k0 k1
      have e := ha k k0 k1
      simp (disch := omega) only [aU3, c8_hasTermsOf_b2, ↓reduceIte, acall1_some, acall0_some, q_lt, q_nlt, q_le, q_nle, q_eq, q_ne, q_01, true_or, or_true, false_or, or_false, false_and, and_false, and_self, and_true, true_and, wq, wQ, alen_aput, ag_s, ag_x, ag_j, ag_e, r1, r2, m1, m2, e]
    · simp (disch := omega) only [aU3, c8_hasTermsOf_b2, ↓reduceIte, acall1_some, acall0_some, q_lt, q_nlt, q_le, q_nle, q_eq, q_ne, q_01, true_or, or_true, false_or, or_false, false_and, and_false, and_self, and_true, true_and, wq, wQ, alen_aput, ag_s, ag_x, ag_j, ag_e]
  · have z := ff_at (P := fun t => !decide (aget σ 23 t = aget σ 89 t)) (n := 4) (by omega)
    have z2 : ¬ aget σ 23 (ff (fun t => !decide (aget σ 23 t = aget σ 89 t)) 4) = aget σ 89 (ff (fun t => !decide (aget σ 23 t = aget σ 89 t)) 4) := by simpa using z
    have hl := al_0 (c := 3) (B := aU3 c8_hasTermsOf_b2) (fun k => [22, 88, k]) (fun _ => σ) (n := ff (fun t => !decide (aget σ 23 t = aget σ 89 t)) 4) (r := (0, [0], σ)) n0 (by omega) ?_ ?_ (Nat.ne_of_beq_eq_false rfl)
    · unfold c8_hasTermsOf c8_hasTermsOf_l2
      have hf : htB σ = false := by unfold htB; rw [decide_eq_false c]; rfl
      rw [hl, hf]
      rfl
    · intro k k0 k1
      have e2 := ff_no (P := fun t => !decide (aget σ 23 t = aget σ 89 t)) (n := 4) k0 k1
      have e : aget σ 23 k = aget σ 89 k := by simpa using e2
      simp (disch := omega) only [aU3, c8_hasTermsOf_b2, ↓reduceIte, acall1_some, acall0_some, q_lt, q_nlt, q_le, q_nle, q_eq, q_ne, q_01, true_or, or_true, false_or, or_false, false_and, and_false, and_self, and_true, true_and, wq, wQ, alen_aput, ag_s, ag_x, ag_j, ag_e, r1, r2, m1, m2, e]
    · simp (disch := omega) only [aU3, c8_hasTermsOf_b2, ↓reduceIte, acall1_some, acall0_some, q_lt, q_nlt, q_le, q_nle, q_eq, q_ne, q_01, true_or, or_true, false_or, or_false, false_and, and_false, and_self, and_true, true_and, wq, wQ, alen_aput, ag_s, ag_x, ag_j, ag_e, r1, r2, m1, m2, if_neg z2]
