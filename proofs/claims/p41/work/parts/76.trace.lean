/-! the class's half of whole's part of this name -/
theorem acpy_g (σ : aS) (s sp d dp n x j : Int) : aget (acpy σ s sp d dp n) x j = if x = d ∧ dp ≤ j ∧ j < dp + n then aget σ s (sp + (j - dp)) else aget σ x j := rfl
theorem acpy_x {σ : aS} {s sp d dp n x j : Int} (h : x ≠ d) : aget (acpy σ s sp d dp n) x j = aget σ x j := by rw [acpy_g, if_neg (fun q => h q.1)]
theorem acpy_n (σ : aS) (s sp d dp n y : Int) : alen (acpy σ s sp d dp n) y = alen σ y := rfl
theorem q_g5 {a b : Int} (ha : a = 4) (hb : b = 4) : ((0 : Int) ≤ 4 ∧ (0 : Int) ≤ 0 ∧ (0 : Int) ≤ 0 ∧ 0 + 4 ≤ a ∧ 0 + 4 ≤ b) = True := eq_true (by omega)
theorem c8_copyOf_ok {σ : aS} {d s : Int} (hd : 0 < d) (hs : 0 < s) (h1 : aget σ d 0 = d + 1) (h2 : alen σ (d + 1) = 4) (h3 : aget σ s 0 = s + 1) (h4 : alen σ (s + 1) = 4) (hds : d ≠ s) (hd1 : d ≠ s + 1) (hs1 : s ≠ d + 1) :
    ∃ τ, c8_copyOf d s σ = some (0, [], τ) ∧ Fp (fun x j => (x = d ∧ 1 ≤ j) ∨ x = d + 1) σ τ ∧ (∀ j, 1 ≤ j → j ≤ 4 → aget τ d j = aget σ s j) ∧ (∀ t, 0 ≤ t → t < 4 → aget τ (d + 1) t = aget σ (s + 1) t) := by
  have e : c8_copyOf d s σ = some (0, [], aput (aput (aput (aput (acpy σ (s + 1) 0 (d + 1) 0 4) d 1 (aget σ s 1)) d 2 (aget σ s 2)) d 3 (aget σ s 3)) d 4 (aget σ s 4)) := by
    simp (disch := omega) only [c8_copyOf, c8_copyOf_p38, h1, h3, h2, h4, q_g5, ↓reduceIte, acall1_some, acall0_some, q_lt, q_nlt, q_le, q_nle, q_eq, q_ne, q_01, true_or, or_true, false_or, or_false, false_and, and_false, and_self, and_true, true_and, wq, wQ, alen_aput, ag_s, ag_x, ag_j, ag_e, acpy_x, acpy_n]
  refine ⟨_, e, ?_, ?_, ?_⟩
  · refine ⟨rfl, rfl, fun x j hx => ?_⟩
    simp only [ag_if, acpy_g]
    rw [if_neg (fun q => hx (Or.inl (by omega))), if_neg (fun q => hx (Or.inl (by omega))), if_neg (fun q => hx (Or.inl (by omega))), if_neg (fun q => hx (Or.inl (by omega))), if_neg (fun q => hx (Or.inr q.1))]
  · intro j j0 j1
    rcases (show j = 1 ∨ j = 2 ∨ j = 3 ∨ j = 4 by omega) with rfl | rfl | rfl | rfl
    · rw [ag_j (by omega), ag_j (by omega), ag_j (by omega), ag_s]
    · rw [ag_j (by omega), ag_j (by omega), ag_s]
    · rw [ag_j (by omega), ag_s]
    · rw [ag_s]
  · intro t t0 t1
    rw [ag_x (by omega), ag_x (by omega), ag_x (by omega), ag_x (by omega), acpy_g, if_pos ⟨rfl, t0, by omega⟩, show 0 + (t - 0) = t by omega]
theorem SC.cp {T N : aH} {d s : Int} {σ τ : aS} (h : SC T N s σ) (h1 : ∀ j, 1 ≤ j → j ≤ 4 → aget τ d j = aget σ s j) (h2 : ∀ t, 0 ≤ t → t < 4 → aget τ (d + 1) t = aget σ (s + 1) t) : SC T N d τ :=
  ⟨by rw [h1 1 (by omega) (by omega)]; exact h.1, fun t a b => by rw [h2 t a b]; exact h.2.1 t a b, by rw [h1 2 (by omega) (by omega)]; exact h.2.2.1, by rw [h1 3 (by omega) (by omega)]; exact h.2.2.2.1, by rw [h1 4 (by omega) (by omega)]; exact h.2.2.2.2⟩
/-- between scenes that are worked with -/
theorem copy_SH {T N : aH} {σ : aS} (hL : LR σ) {d s : Int} (hd : SH d) (hs : SH s) (hds : d ≠ s) (hS : SC T N s σ) :
    ∃ τ, c8_copyOf d s σ = some (0, [], τ) ∧ Fp (fun x j => (x = d ∧ 1 ≤ j) ∨ x = d + 1) σ τ ∧ SC T N d τ := by
  have pd := hd
  have ps := hs
  unfold SH at pd ps
  obtain ⟨τ, h1, h2, h3, h4⟩ := c8_copyOf_ok (d := d) (s := s) (by omega) (by omega) (rs_0 hL hd) (ns_1 hL hd) (rs_0 hL hs) (ns_1 hL hs) hds (by omega) (by omega)
  exact ⟨τ, h1, h2, hS.cp h3 h4⟩
/-- behind how many goings, at most n, none would go -/
def stN (T N : aH) (n : Int) : Int := ff (fun k => !decide (fiS T (itN T N k) < T 0 1)) n
theorem itN_s {T N : aH} {k : Int} (h : 0 ≤ k) : itN T N (k + 1) = nxt T (itN T N k) := by
  obtain ⟨n, rfl⟩ := Int.eq_ofNat_of_zero_le h
  rfl
theorem itN_NB {T N : aH} (hN : NB T N) (hB : TB T) {n : Int} : ∀ k : Int, 0 ≤ k → k ≤ stN T N n → NB T (itN T N k) := by
  intro k k0
  obtain ⟨m, rfl⟩ := Int.eq_ofNat_of_zero_le k0
  induction m with
  | zero => intro _; exact hN
  | succ m ih =>
    intro h
    have h1 := ih (by omega) (by omega)
    have z := ff_no (P := fun k => !decide (fiS T (itN T N k) < T 0 1)) (n := n) (k := (m : Int)) (by omega) (by unfold stN at h; omega)
    simp only [Bool.not_eq_false', decide_eq_true_iff] at z
    rw [show ((m + 1 : Nat) : Int) = (m : Int) + 1 from rfl, itN_s (by omega)]
    exact nxt_NB h1 hB z
theorem c0_sail_ok {pl : Int} {T N : aH} {σ : aS} (hC : CI pl T σ) (hN : NB T N) {sc : Int} (hs : SH sc) (hS : SC T N sc σ) (hR : RE N σ) {n : Int} (n0 : 0 ≤ n) (n1 : n ≤ 300) :
    ∃ τ, c0_sail 14 sc n σ = some (0, [stN T N n], τ) ∧ SC T (itN T N (stN T N n)) sc τ ∧ RE (itN T N (stN T N n)) τ ∧ Fp (fun x j => (x = sc ∧ j = 1) ∨ (x = 8 ∧ 1 ≤ j ∧ j ≤ 4)) σ τ := by
  have hsp := hs
  unfold SH at hsp
  have hB := hC.2.2.2.2.2
  have z0 := ff_0 (fun k => !decide (fiS T (itN T N k) < T 0 1)) (n := n)
  have z1 := ff_n (fun k => !decide (fiS T (itN T N k) < T 0 1)) (n := n) n0
  obtain ⟨r, hr, τ, hQ, h1, h2, h3⟩ := al_I (c := 3) (B := aU4 c0_sail_b2) (n := stN T N n) (i := 0) (vs := [14, sc, n, 0]) (σ := σ)
    (fun k vs τ => 0 ≤ k ∧ vs = [14, sc, n, k] ∧ SC T (itN T N k) sc τ ∧ RE (itN T N k) τ ∧ Fp (fun x j => (x = sc ∧ j = 1) ∨ (x = 8 ∧ 1 ≤ j ∧ j ≤ 4)) σ τ)
    (fun r => ∃ τ, r = (0, [stN T N n], τ) ∧ SC T (itN T N (stN T N n)) sc τ ∧ RE (itN T N (stN T N n)) τ ∧ Fp (fun x j => (x = sc ∧ j = 1) ∨ (x = 8 ∧ 1 ≤ j ∧ j ≤ 4)) σ τ)
    z0 (by unfold stN; omega) ⟨Int.le_refl _, rfl, hS, hR, Fp.rf _ _⟩ (by
      rintro k vs τ hk ⟨k0, rfl, hS2, hR2, hF⟩
      have hC2 := hC.fp hF (by intro x j; unfold wkc; omega)
      have hL2 := hC2.1
      have hN2 := itN_NB hN hB (n := n) k k0 hk
      have hs1 := sail1 hC2 hN2 hs hS2 hR2
      by_cases hkn : k < stN T N n
      · have z := ff_no (P := fun k => !decide (fiS T (itN T N k) < T 0 1)) (n := n) (k := k) k0 hkn
        simp only [Bool.not_eq_false', decide_eq_true_iff] at z
        rcases hs1 with ⟨c, -⟩ | ⟨c, τ1, υ, e1, e2, e3, e4, e5, e6, e7⟩
        · exact absurd z c
        · have hL3 := (hC2.fp e7 (by intro x j; unfold wkc; omega)).1
          refine Or.inl ⟨hkn, [14, sc, n, k + 1], υ, ?_, by omega, rfl, by rw [itN_s k0]; exact e3, by rw [itN_s k0]; exact e4, hF.tr e6⟩
          unfold stN at hkn
          simp (disch := omega) only [aU4, c0_sail_b2, ↓reduceIte, acall1_some, acall0_some, q_lt, q_nlt, q_le, q_nle, q_eq, q_ne, q_01, true_or, or_true, false_or, or_false, false_and, and_false, and_self, and_true, true_and, wq, wQ, alen_aput, ag_s, ag_x, ag_j, ag_e, r_14_3 hL2, r_14_3 hL3, e1, e2]
      · have hke : k = stN T N n := by omega
        subst hke
        refine Or.inr ⟨(0, [stN T N n], τ), ?_, Nat.ne_of_beq_eq_false rfl, τ, rfl, hS2, hR2, hF⟩
        by_cases hn : stN T N n < n
        · have z := ff_at (P := fun k => !decide (fiS T (itN T N k) < T 0 1)) (n := n) hn
          simp only [Bool.not_eq_true', decide_eq_false_iff_not] at z
          rcases hs1 with ⟨c, e1⟩ | ⟨c, -⟩
          · simp (disch := omega) only [aU4, c0_sail_b2, ↓reduceIte, acall1_some, acall0_some, q_lt, q_nlt, q_le, q_nle, q_eq, q_ne, q_01, true_or, or_true, false_or, or_false, false_and, and_false, and_self, and_true, true_and, wq, wQ, alen_aput, ag_s, ag_x, ag_j, ag_e, r_14_3 hL2, e1]
          · exact absurd c z
        · simp (disch := omega) only [aU4, c0_sail_b2, ↓reduceIte, acall1_some, acall0_some, q_lt, q_nlt, q_le, q_nle, q_eq, q_ne, q_01, true_or, or_true, false_or, or_false, false_and, and_false, and_self, and_true, true_and, wq, wQ, alen_aput, ag_s, ag_x, ag_j, ag_e]
          rw [show stN T N n = n by unfold stN at hn ⊢; omega])
  refine ⟨τ, ?_, h1, h2, h3⟩
  unfold c0_sail c0_sail_l2
  rw [hr, hQ]
  rfl
