/-! draws: the class -/
def odN (T N : aH) (t m : Int) : Nat → Int → Int × Int
  | 0, c => (0, c)
  | n + 1, c => ((odN T N t m n c).1 + (if szf (ctn T (moK T N (odN T N t m n c).2 m) t) = 0 then 1 else 0), moS T N (odN T N t m n c).2 m)
def odK (T N : aH) (t m c k : Int) : Int := (odN T N t m k.toNat c).1
def odS (T N : aH) (t m c k : Int) : Int := (odN T N t m k.toNat c).2
theorem odK_s {T N : aH} {t m c k : Int} (h : 0 ≤ k) : odK T N t m c (k + 1) = odK T N t m c k + (if szf (ctn T (moK T N (odS T N t m c k) m) t) = 0 then 1 else 0) ∧ odS T N t m c (k + 1) = moS T N (odS T N t m c k) m := by
  obtain ⟨n, rfl⟩ := Int.eq_ofNat_of_zero_le h
  exact ⟨rfl, rfl⟩
theorem odS_bd (T N : aH) (t : Int) {m c : Int} (m0 : 0 ≤ m) (c0 : 0 ≤ c) (c1 : c ≤ 2147483647) {k : Int} (k0 : 0 ≤ k) : (0 ≤ odS T N t m c k ∧ odS T N t m c k ≤ 2147483647) ∧ (0 ≤ odK T N t m c k ∧ odK T N t m c k ≤ k) := by
  obtain ⟨n, rfl⟩ := Int.eq_ofNat_of_zero_le k0
  induction n with
  | zero => exact ⟨⟨c0, c1⟩, Int.le_refl _, Int.le_refl _⟩
  | succ n ih =>
    have h1 := ih (by omega)
    rw [show ((n + 1 : Nat) : Int) = (n : Int) + 1 from rfl, (odK_s (by omega)).1, (odK_s (by omega)).2]
    refine ⟨moS_bd T N h1.1.1 h1.1.2 m0, ?_⟩
    split <;> omega
theorem od_1 {σ τ υ : aS} (hL : LR σ) (hL1 : LR τ) (hL2 : LR υ) {pl P c t n m a k : Int} (hp : pl = 90 ∨ pl = 110) (k0 : 0 ≤ k) (k1 : k < n) (n1 : n ≤ 20) (a0 : 0 ≤ a) (a1 : a ≤ 20) (hcp : c8_copyOf 16 88 σ = some (0, [], τ)) (hps : c0_pass 14 16 m τ = some (0, [], υ)) (h8 : aget υ 8 0 = pl) (h16 : aget υ 16 1 = P) (hc : c4_crewAt pl P t υ = some (0, [c], υ)) :
    aU7 c0_emptyDraws_b6 [14, 88, t, n, m, a, k] σ = some (7, [14, 88, t, n, m, a + (if c = 0 then 1 else 0), k + 1], υ) := by
  by_cases c0 : c = 0
  · simp (disch := omega) only [aU7, c0_emptyDraws_b6, c0_emptyDraws_p54, ↓reduceIte, acall1_some, acall0_some, q_lt, q_nlt, q_le, q_nle, q_eq, q_ne, q_01, true_or, or_true, false_or, or_false, false_and, and_false, and_self, and_true, true_and, wq, wQ, alen_aput, ag_s, ag_x, ag_j, ag_e, r_14_5 hL, hcp, r_14_5 hL1, hps, r_14_3 hL2, r_14_5 hL2, h8, h16, hc, c0]
  · simp (disch := omega) only [aU7, c0_emptyDraws_b6, c0_emptyDraws_p54, ↓reduceIte, acall1_some, acall0_some, q_lt, q_nlt, q_le, q_nle, q_eq, q_ne, q_01, true_or, or_true, false_or, or_false, false_and, and_false, and_self, and_true, true_and, wq, wQ, alen_aput, ag_s, ag_x, ag_j, ag_e, r_14_5 hL, hcp, r_14_5 hL1, hps, r_14_3 hL2, r_14_5 hL2, h8, h16, hc, c0, Int.add_zero]
def wod (x j : Int) : Prop := (x = 16 ∧ 1 ≤ j) ∨ x = 17 ∨ (x = 8 ∧ 1 ≤ j ∧ j ≤ 4) ∨ (x = 14 ∧ j = 7)
set_option maxHeartbeats 4000000 in
theorem c0_emptyDraws_ok {pl : Int} {T N : aH} {σ : aS} (hC : CI pl T σ) (hN : NB T N) (hS : SC T N 88 σ) (hR : RE N σ) {t n m c : Int} (t0 : 0 ≤ t) (t1 : t < T 0 2) (hc : aget σ 14 7 = c) (c0 : 0 ≤ c) (c1 : c ≤ 2147483647) (n0 : 0 ≤ n) (n1 : n ≤ 20) (m0 : 0 ≤ m) (m1 : m ≤ 60) (hm : N 3 1 + m ≤ 130000) :
    ∃ τ, c0_emptyDraws 14 88 t n m σ = some (0, [odK T N t m c n], τ) ∧ Fp wod σ τ := by
  have hB := hC.2.2.2.2.2
  have hal := al_I (c := 7) (B := aU7 c0_emptyDraws_b6) (n := n) (i := 0) (vs := [14, 88, t, n, m, 0, 0]) (σ := σ)
    (fun k vs τ => 0 ≤ k ∧ vs = [14, 88, t, n, m, odK T N t m c k, k] ∧ aget τ 14 7 = odS T N t m c k ∧ Fp wod σ τ)
    (fun r => ∃ τ, r = (0, [odK T N t m c n], τ) ∧ Fp wod σ τ) n0 (by omega) ⟨Int.le_refl _, rfl, hc, Fp.rf _ _⟩ (by
      rintro k vs τ hk ⟨k0, rfl, hc2, hF⟩
      have hC2 := hC.fp hF (by intro x j; unfold wod wkc; omega)
      have hb := odS_bd T N t m0 c0 c1 k0
      by_cases hkn : k < n
      · have hS2 : SC T N 88 τ := hS.fp hF (by intro j; unfold wod; omega) (by intro j _; unfold wod; omega)
        obtain ⟨υ, d1, d2, d3⟩ := copy_SH hC2.1 (d := 16) (s := 88) (Or.inr (Or.inl rfl)) (Or.inl rfl) (by omega) hS2
        have hC3 := hC2.fp d2 (by intro x j; unfold wkc; omega)
        have hR3 : RE N υ := (hR.fp hF (by unfold wod; omega) (by unfold wod; omega) (by unfold wod; omega)).fp d2 (by omega) (by omega) (by omega)
        obtain ⟨φ, e1, e2, e3, e4, e5⟩ := c0_pass_ok hC3 hN (sc := 16) (Or.inr (Or.inl rfl)) d3 hR3 (n := m) (c := odS T N t m c k) (by rw [d2.g (by omega)]; exact hc2) hb.1.1 hb.1.2 m0 (by omega) hm
        have hC4 := hC3.fp e5 (by intro x j; unfold wpa wkc; omega)
        have hNk := (moK_NB hN hB (odS T N t m c k) m0 hm).1
        have hcr := c4_crewAt_ok hC4 hNk t0 (Int.le_of_lt t1)
        have hz := pk5_z ((ctn_BF hNk hB t0 (Int.le_of_lt t1)).b7 hB)
        have hst := od_1 (σ := τ) (τ := υ) (υ := φ) hC2.1 hC3.1 hC4.1 (t := t) (n := n) (m := m) hC4.2.1 k0 hkn n1 hb.2.1 (by omega) d1 e1 hC4.2.2.1.1 e2.1 hcr
        refine Or.inl ⟨hkn, _, φ, hst, by omega, ?_, by rw [(odK_s k0).2]; exact e4, (hF.tr (d2.mono (by intro x j; unfold wod; omega))).tr (e5.mono (by intro x j; unfold wpa wod; omega))⟩
        rw [(odK_s k0).1]
        by_cases z : szf (ctn T (moK T N (odS T N t m c k) m) t) = 0
        · rw [if_pos z, if_pos (hz.mpr z)]
        · rw [if_neg z, if_neg (fun q => z (hz.mp q))]
      · have hke : k = n := by omega
        subst hke
        refine Or.inr ⟨(0, [odK T N t m c k], τ), ?_, Nat.ne_of_beq_eq_false rfl, τ, rfl, hF⟩
        simp (disch := omega) only [aU7, c0_emptyDraws_b6, ↓reduceIte, acall1_some, acall0_some, q_lt, q_nlt, q_le, q_nle, q_eq, q_ne, q_01, true_or, or_true, false_or, or_false, false_and, and_false, and_self, and_true, true_and, wq, wQ, alen_aput, ag_s, ag_x, ag_j, ag_e])
  obtain ⟨r, hr, τ, hQ, e1⟩ := hal
  refine ⟨τ, ?_, e1⟩
  unfold c0_emptyDraws c0_emptyDraws_l6
  rw [hr, hQ]
  rfl
