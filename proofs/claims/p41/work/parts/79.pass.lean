/-! the class's half of whole's part of this name -/
def chN (c : Int) : Int := (c * 1103515245 + 12345) % 2147483648
/-- a month's going, by what is tied -/
def moA (T N : aH) : aH := if 0 < N 3 0 then stv N 3 0 (N 3 0 - 1) else if fiS T N < T 0 1 then nxt T N else N
def moC (T : aH) (c : Int) : Int := if 0 < T 0 5 then chN c else c
def moB (T N : aH) (c : Int) : aH := if 0 < T 0 5 ∧ chN c / 65536 % T 0 5 = 0 then stv (moA T N) 3 0 12 else moA T N
def moN (T N : aH) (c : Int) : aH := stv (moB T N c) 3 1 (N 3 1 + 1)
def monN (T : aH) : Nat → aH → Int → aH × Int
  | 0, N, c => (N, c)
  | n + 1, N, c => (moN T (monN T n N c).1 (monN T n N c).2, moC T (monN T n N c).2)
def moK (T N : aH) (c k : Int) : aH := (monN T k.toNat N c).1
def moS (T N : aH) (c k : Int) : Int := (monN T k.toNat N c).2
theorem moK_s {T N : aH} {c k : Int} (h : 0 ≤ k) : moK T N c (k + 1) = moN T (moK T N c k) (moS T N c k) ∧ moS T N c (k + 1) = moC T (moS T N c k) := by
  obtain ⟨n, rfl⟩ := Int.eq_ofNat_of_zero_le h
  exact ⟨rfl, rfl⟩
theorem nxt_3 (T N : aH) (j : Int) : nxt T N 3 j = N 3 j := mvN_x _ _ _ _ (by omega) j
theorem moA_NB {T N : aH} (hN : NB T N) (hB : TB T) : NB T (moA T N) := by
  have h := hN.2.2.2.2.2.1
  unfold moA
  split
  · exact hN.st3 (fun _ => by omega) (fun q => by omega)
  · split
    · exact nxt_NB hN hB (by assumption)
    · exact hN
theorem moB_NB {T N : aH} (hN : NB T N) (hB : TB T) (c : Int) : NB T (moB T N c) := by
  unfold moB
  split
  · exact (moA_NB hN hB).st3 (fun _ => by omega) (fun q => by omega)
  · exact moA_NB hN hB
theorem moN_NB {T N : aH} (hN : NB T N) (hB : TB T) (c : Int) (h : N 3 1 + 1 ≤ 130000) : NB T (moN T N c) := by
  have h1 := hN.2.2.2.2.2.2.1
  exact (moB_NB hN hB c).st3 (fun q => by omega) (fun _ => by omega)
theorem moK_NB {T N : aH} (hN : NB T N) (hB : TB T) (c : Int) {k : Int} (k0 : 0 ≤ k) (h : N 3 1 + k ≤ 130000) : NB T (moK T N c k) ∧ moK T N c k 3 1 = N 3 1 + k := by
  obtain ⟨m, rfl⟩ := Int.eq_ofNat_of_zero_le k0
  induction m with
  | zero => exact ⟨hN, (Int.add_zero _).symm⟩
  | succ m ih =>
    obtain ⟨h1, h2⟩ := ih (by omega) (by omega)
    rw [show ((m + 1 : Nat) : Int) = (m : Int) + 1 from rfl, (moK_s (by omega)).1]
    refine ⟨moN_NB h1 hB _ (by omega), ?_⟩
    unfold moN
    rw [stv_s, h2]; omega
theorem chN_bd (c : Int) : 0 ≤ chN c ∧ chN c ≤ 2147483647 := by unfold chN; omega
theorem moS_bd (T N : aH) {c : Int} (c0 : 0 ≤ c) (c1 : c ≤ 2147483647) {k : Int} (k0 : 0 ≤ k) : 0 ≤ moS T N c k ∧ moS T N c k ≤ 2147483647 := by
  obtain ⟨m, rfl⟩ := Int.eq_ofNat_of_zero_le k0
  induction m with
  | zero => exact ⟨c0, c1⟩
  | succ m ih =>
    have h1 := ih (by omega)
    rw [show ((m + 1 : Nat) : Int) = (m : Int) + 1 from rfl, (moK_s (by omega)).2]
    have := chN_bd (moS T N c m)
    unfold moC; split <;> omega
theorem c0_nextNumber_ok {σ : aS} {c : Int} (hc : aget σ 14 7 = c) (c0 : 0 ≤ c) (c1 : c ≤ 2147483647) : c0_nextNumber 14 σ = some (0, [chN c / 65536], aput σ 14 7 (chN c)) := by
  have h := chN_bd c
  have e : aandl (c * 1103515245 + 12345) 2147483647 = chN c := aandl_mask _
  have e2 : Int.tdiv (chN c) 65536 = chN c / 65536 := Int.tdiv_eq_ediv_of_nonneg h.1
  simp (disch := omega) only [c0_nextNumber, ↓reduceIte, acall1_some, acall0_some, q_lt, q_nlt, q_le, q_nle, q_eq, q_ne, q_01, true_or, or_true, false_or, or_false, false_and, and_false, and_self, and_true, true_and, wq, wQ, alen_aput, ag_s, ag_x, ag_j, ag_e, hc, e, e2]
/-- the months' cells -/
def wpa (sc x j : Int) : Prop := (x = sc ∧ 1 ≤ j) ∨ (x = 8 ∧ 1 ≤ j ∧ j ≤ 4) ∨ (x = 14 ∧ j = 7)
theorem ps_c {σ τ : aS} {sc n st k c m : Int} (hc : aget σ 14 7 = c) (c0 : 0 ≤ c) (c1 : c ≤ 2147483647) (s0 : 0 ≤ st) (k0 : 0 ≤ k) (k1 : k < 300) (hm : aget σ sc 4 = m) (m0 : 0 ≤ m) (m1 : m ≤ 130000) (h14 : sc ≠ 14)
    (hτ : τ = if 0 < st then (if chN c / 65536 % st = 0 then aput (aput (aput σ 14 7 (chN c)) sc 3 12) sc 4 (m + 1) else aput (aput σ 14 7 (chN c)) sc 4 (m + 1)) else aput σ sc 4 (m + 1)) :
    c0_pass_p59 14 sc n st k σ = some (15, [14, sc, n, st, k + 1], τ) := by
  have hn := c0_nextNumber_ok hc c0 c1
  have h := chN_bd c
  by_cases hs : 0 < st
  · rw [if_pos hs] at hτ
    have e : Int.tmod (chN c / 65536) st = chN c / 65536 % st := Int.tmod_eq_emod_of_nonneg (by omega)
    by_cases hz : chN c / 65536 % st = 0
    · rw [if_pos hz] at hτ
      simp (disch := omega) only [c0_pass_p59, c0_pass_p81, ↓reduceIte, acall1_some, acall0_some, q_lt, q_nlt, q_le, q_nle, q_eq, q_ne, q_01, true_or, or_true, false_or, or_false, false_and, and_false, and_self, and_true, true_and, wq, wQ, alen_aput, ag_s, ag_x, ag_j, ag_e, hn, e, hz, acmp_z, hm, hτ]
    · rw [if_neg hz] at hτ
      simp (disch := omega) only [c0_pass_p59, c0_pass_p81, ↓reduceIte, acall1_some, acall0_some, q_lt, q_nlt, q_le, q_nle, q_eq, q_ne, q_01, true_or, or_true, false_or, or_false, false_and, and_false, and_self, and_true, true_and, wq, wQ, alen_aput, ag_s, ag_x, ag_j, ag_e, hn, e, hz, acmp_z, hm, hτ]
  · rw [if_neg hs] at hτ
    simp (disch := omega) only [c0_pass_p59, c0_pass_p81, ↓reduceIte, acall1_some, acall0_some, q_lt, q_nlt, q_le, q_nle, q_eq, q_ne, q_01, true_or, or_true, false_or, or_false, false_and, and_false, and_self, and_true, true_and, wq, wQ, alen_aput, ag_s, ag_x, ag_j, ag_e, hm, hτ]
set_option maxHeartbeats 4000000 in
/-- one month -/
theorem month_ok {pl : Int} {T N : aH} {σ : aS} (hC : CI pl T σ) (hN : NB T N) {sc : Int} (hs : SH sc) (hS : SC T N sc σ) (hR : RE N σ) {n k c : Int} (hc : aget σ 14 7 = c) (c0 : 0 ≤ c) (c1 : c ≤ 2147483647) (k0 : 0 ≤ k) (k1 : k < n) (n1 : n ≤ 240) (hm : N 3 1 + 1 ≤ 130000) :
    ∃ τ, aU5 c0_pass_b14 [14, sc, n, T 0 5, k] σ = some (15, [14, sc, n, T 0 5, k + 1], τ) ∧ SC T (moN T N c) sc τ ∧ RE (moN T N c) τ ∧ aget τ 14 7 = moC T c ∧ Fp (wpa sc) σ τ := by
  have hB := hC.2.2.2.2.2
  have hst := hB.2.2.2.1
  have hL := hC.1
  have hsp := hs
  unfold SH at hsp
  have hti := hN.2.2.2.2.2.1
  have hmo := hN.2.2.2.2.2.2.1
  -- what comes behind the going, out of the state there
  have tail : ∀ υ M, SC T M sc υ → RE M υ → aget υ 14 7 = c → M 3 1 = N 3 1 → M = moA T N → ∃ τ, c0_pass_p59 14 sc n (T 0 5) k υ = some (15, [14, sc, n, T 0 5, k + 1], τ) ∧ SC T (moN T N c) sc τ ∧ RE (moN T N c) τ ∧ aget τ 14 7 = moC T c ∧ Fp (wpa sc) υ τ := by
    intro υ M hSM hRM hcM h31 hMA
    have hm4 : aget υ sc 4 = N 3 1 := by rw [hSM.2.2.2.2, h31]
    refine ⟨_, ps_c hcM c0 c1 hst.1 k0 (by omega) hm4 hmo.1 (by omega) (by omega) rfl, ?_, ?_, ?_, ?_⟩
    · unfold moN moB
      rw [← hMA]
      by_cases h5 : 0 < T 0 5
      · rw [if_pos h5]
        have hS7 : SC T M sc (aput υ 14 7 (chN c)) := hSM.co (fun j => ag_x (by omega)) (fun j => ag_x (by omega))
        by_cases hz : chN c / 65536 % T 0 5 = 0
        · rw [if_pos hz, if_pos ⟨h5, hz⟩]
          exact (hS7.st3 hs (j := 0) (Or.inl rfl)).st3 hs (j := 1) (Or.inr rfl)
        · rw [if_neg hz, if_neg (fun q => hz q.2)]
          exact hS7.st3 hs (j := 1) (Or.inr rfl)
      · rw [if_neg h5, if_neg (fun q => h5 q.1)]
        exact hSM.st3 hs (j := 1) (Or.inr rfl)
    · have e : ∀ j, moN T N c 4 j = M 4 j := by
        intro j
        unfold moN moB
        rw [stv_x (by omega), ← hMA]
        split
        · exact stv_x (by omega) j
        · rfl
      unfold RE at hRM ⊢
      simp only [e]
      split
      · split
        · rw [ag_x (by omega), ag_x (by omega), ag_x (by omega), ag_x (by omega), ag_x (by omega), ag_x (by omega), ag_x (by omega), ag_x (by omega), ag_x (by omega)]; exact hRM
        · rw [ag_x (by omega), ag_x (by omega), ag_x (by omega), ag_x (by omega), ag_x (by omega), ag_x (by omega)]; exact hRM
      · rw [ag_x (by omega), ag_x (by omega), ag_x (by omega)]; exact hRM
    · unfold moC
      split
      · split
        · rw [ag_x (by omega), ag_x (by omega), ag_s]
        · rw [ag_x (by omega), ag_s]
      · rw [ag_x (by omega)]; exact hcM
    · have w7 : wpa sc 14 7 := by unfold wpa; omega
      have w3 : wpa sc sc 3 := by unfold wpa; omega
      have w4 : wpa sc sc 4 := by unfold wpa; omega
      split
      · split
        · exact (((Fp.rf _ _).put _ w7).put _ w3).put _ w4
        · exact ((Fp.rf _ _).put _ w7).put _ w4
      · exact (Fp.rf _ _).put _ w4
  have h3 := hS.2.2.2.1
  by_cases ht : 0 < N 3 0
  · obtain ⟨τ, e1, e2, e3, e4, e5⟩ := tail (aput σ sc 3 (N 3 0 - 1)) (stv N 3 0 (N 3 0 - 1)) (hS.st3 hs (j := 0) (Or.inl rfl)) (by
      unfold RE at hR ⊢
      rw [stv_x (by omega), stv_x (by omega), stv_x (by omega), ag_x (by omega), ag_x (by omega), ag_x (by omega)]; exact hR) (by rw [ag_x (by omega)]; exact hc) (stv_j (by omega)) (by unfold moA; rw [if_pos ht])
    refine ⟨τ, ?_, e2, e3, e4, ((Fp.rf _ _).put _ (by unfold wpa; omega)).tr e5⟩
    simp (disch := omega) only [aU5, c0_pass_b14, ↓reduceIte, acall1_some, acall0_some, q_lt, q_nlt, q_le, q_nle, q_eq, q_ne, q_01, true_or, or_true, false_or, or_false, false_and, and_false, and_self, and_true, true_and, wq, wQ, alen_aput, ag_s, ag_x, ag_j, ag_e, h3, e1]
  · rcases sail1 hC hN hs hS hR with ⟨c', e1⟩ | ⟨c', τ1, υ, e1, e2, e3, e4, e5, e6, e7⟩
    · obtain ⟨τ, f1, f2, f3, f4, f5⟩ := tail σ N hS hR hc rfl (by unfold moA; rw [if_neg ht, if_neg c'])
      refine ⟨τ, ?_, f2, f3, f4, f5⟩
      simp (disch := omega) only [aU5, c0_pass_b14, ↓reduceIte, acall1_some, acall0_some, q_lt, q_nlt, q_le, q_nle, q_eq, q_ne, q_01, true_or, or_true, false_or, or_false, false_and, and_false, and_self, and_true, true_and, wq, wQ, alen_aput, ag_s, ag_x, ag_j, ag_e, h3, r_14_3 hL, e1, f1]
    · have hL3 := (hC.fp e7 (by intro x j; unfold wkc; omega)).1
      obtain ⟨τ, f1, f2, f3, f4, f5⟩ := tail υ (nxt T N) e3 e4 (by rw [e6.g (by omega)]; exact hc) (nxt_3 T N 1) (by unfold moA; rw [if_neg ht, if_pos c'])
      refine ⟨τ, ?_, f2, f3, f4, (e6.mono (by intro x j; unfold wpa; omega)).tr f5⟩
      simp (disch := omega) only [aU5, c0_pass_b14, ↓reduceIte, acall1_some, acall0_some, q_lt, q_nlt, q_le, q_nle, q_eq, q_ne, q_01, true_or, or_true, false_or, or_false, false_and, and_false, and_self, and_true, true_and, wq, wQ, alen_aput, ag_s, ag_x, ag_j, ag_e, h3, r_14_3 hL, r_14_3 hL3, e1, e2, f1]
theorem c0_pass_ok {pl : Int} {T N : aH} {σ : aS} (hC : CI pl T σ) (hN : NB T N) {sc : Int} (hs : SH sc) (hS : SC T N sc σ) (hR : RE N σ) {n c : Int} (hc : aget σ 14 7 = c) (c0 : 0 ≤ c) (c1 : c ≤ 2147483647) (n0 : 0 ≤ n) (n1 : n ≤ 240) (hm : N 3 1 + n ≤ 130000) :
    ∃ τ, c0_pass 14 sc n σ = some (0, [], τ) ∧ SC T (moK T N c n) sc τ ∧ RE (moK T N c n) τ ∧ aget τ 14 7 = moS T N c n ∧ Fp (wpa sc) σ τ := by
  have hB := hC.2.2.2.2.2
  have hL := hC.1
  have hsp := hs
  unfold SH at hsp
  have hp := hC.2.1
  have q8 := hC.2.2.1.1
  have hst := hC.2.2.2.1.1.2.2.2.2.2
  have hal := al_I (c := 15) (B := aU5 c0_pass_b14) (n := n) (i := 0) (vs := [14, sc, n, T 0 5, 0]) (σ := σ)
    (fun k vs τ => 0 ≤ k ∧ vs = [14, sc, n, T 0 5, k] ∧ SC T (moK T N c k) sc τ ∧ RE (moK T N c k) τ ∧ aget τ 14 7 = moS T N c k ∧ Fp (wpa sc) σ τ)
    (fun r => ∃ τ, r = (0, [], τ) ∧ SC T (moK T N c n) sc τ ∧ RE (moK T N c n) τ ∧ aget τ 14 7 = moS T N c n ∧ Fp (wpa sc) σ τ) n0 (by omega) ⟨Int.le_refl _, rfl, hS, hR, hc, Fp.rf _ _⟩ (by
      rintro k vs τ hk ⟨k0, rfl, hS2, hR2, hc2, hF⟩
      have hC2 := hC.fp hF (by intro x j; unfold wpa wkc; omega)
      have hN2 := moK_NB hN hB c k0 (by omega)
      by_cases hkn : k < n
      · have hb := moS_bd T N c0 c1 k0
        obtain ⟨υ, e1, e2, e3, e4, e5⟩ := month_ok hC2 hN2.1 hs hS2 hR2 hc2 hb.1 hb.2 k0 hkn n1 (by omega)
        rw [← (moK_s k0).1] at e2 e3
        rw [← (moK_s k0).2] at e4
        exact Or.inl ⟨hkn, _, υ, e1, by omega, rfl, e2, e3, e4, hF.tr e5⟩
      · have hke : k = n := by omega
        subst hke
        refine Or.inr ⟨(0, [], τ), ?_, Nat.ne_of_beq_eq_false rfl, τ, rfl, hS2, hR2, hc2, hF⟩
        simp (disch := omega) only [aU5, c0_pass_b14, ↓reduceIte, acall1_some, acall0_some, q_lt, q_nlt, q_le, q_nle, q_eq, q_ne, q_01, true_or, or_true, false_or, or_false, false_and, and_false, and_self, and_true, true_and, wq, wQ, alen_aput, ag_s, ag_x, ag_j, ag_e])
  obtain ⟨r, hr, τ, hQ, e1, e2, e3, e4⟩ := hal
  refine ⟨τ, ?_, e1, e2, e3, e4⟩
  simp (disch := omega) only [c0_pass, ↓reduceIte, acall1_some, acall0_some, q_lt, q_nlt, q_le, q_nle, q_eq, q_ne, q_01, true_or, or_true, false_or, or_false, false_and, and_false, and_self, and_true, true_and, wq, wQ, alen_aput, ag_s, ag_x, ag_j, ag_e, r_14_3 hL, q8, hst, c0_pass_l14, hr, hQ, abind, c0_pass_d14]
