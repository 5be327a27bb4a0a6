/-! what goings come to: the reference -/
/-- an array's cells from o on are f 0 .. f (n - 1) -/
def apo (σ : aS) (x o : Int) (f : Int → Int) (n : Int) : aS := (σ.1, (fun y k => if y = x ∧ o ≤ k ∧ k < o + n then f (k - o) else σ.2.1 y k), σ.2.2)
theorem apo_g (σ : aS) (x o : Int) (f : Int → Int) (n y k : Int) : aget (apo σ x o f n) y k = if y = x ∧ o ≤ k ∧ k < o + n then f (k - o) else aget σ y k := rfl
theorem apo_x {σ : aS} {x y o n k : Int} {f : Int → Int} (h : y ≠ x) : aget (apo σ x o f n) y k = aget σ y k := by rw [apo_g, if_neg (fun q => h q.1)]
theorem apo_i {σ : aS} {x o n k : Int} {f : Int → Int} (h0 : 0 ≤ k) (h1 : k < n) : aget (apo σ x o f n) x (o + k) = f k := by rw [apo_g, if_pos ⟨rfl, by omega, by omega⟩, show o + k - o = k by omega]
theorem apo_o {σ : aS} {x o n k : Int} {f : Int → Int} (h : k < o ∨ o + n ≤ k) : aget (apo σ x o f n) x k = aget σ x k := by rw [apo_g, if_neg (fun q => by omega)]
theorem apo_n (σ : aS) (x o : Int) (f : Int → Int) (n y : Int) : alen (apo σ x o f n) y = alen σ y := rfl
theorem apo_0 (σ : aS) (x o : Int) (f : Int → Int) : apo σ x o f 0 = σ := aS_ext rfl (fun y k => by rw [apo_g, if_neg (fun q => by omega)]) rfl
theorem apo_s {σ : aS} {x o n : Int} {f : Int → Int} (h : 0 ≤ n) : aput (apo σ x o f n) x (o + n) (f n) = apo σ x o f (n + 1) := by
  refine aS_ext rfl (fun y k => ?_) rfl
  rw [ag_if, apo_g, apo_g]
  by_cases q : y = x
  · subst q
    by_cases e : k = o + n
    · subst e; rw [if_pos ⟨rfl, rfl⟩, if_pos ⟨rfl, by omega, by omega⟩, show o + n - o = n by omega]
    · rw [if_neg (fun z => e z.2)]
      by_cases w : o ≤ k ∧ k < o + n
      · rw [if_pos ⟨rfl, w⟩, if_pos ⟨rfl, by omega⟩]
      · rw [if_neg (fun z => w z.2), if_neg (fun z => by omega)]
  · rw [if_neg (fun z => q z.1), if_neg (fun z => q z.1), if_neg (fun z => q z.1)]
theorem Fr.apo {l : List (Int × List Int)} {σ τ : aS} (h : Fr l σ τ) {x : Int} (o : Int) (f : Int → Int) (n : Int) (hw : ∀ k, wm l x k = true) : Fr l σ (apo τ x o f n) := by
  refine ⟨h.1, h.2.1, fun y k hk => ?_⟩
  rw [apo_g, if_neg (fun q => by rw [q.1, hw] at hk; cases hk)]
  exact h.2.2 y k hk
/-- the parting's cells: those that are none stay as c has them -/
def nwf (T M : aH) (c : Int → Int) (j : Int) : Int := if 0 ≤ j % 5 ∧ j % 5 ≤ T 0 2 ∧ 0 ≤ j / 5 ∧ j / 5 < T 0 1 then M 0 j else c j
theorem nwf_same {T N M : aH} (hN : NB T N) (hM : NB T M) (hB : TB T) (c : Int → Int) : same T N M = true ↔ ∀ j, 0 ≤ j → j < 25 → nwf T N c j = nwf T M c j := by
  have h5 := hB.2.1
  have h4 := hB.2.2.1
  rw [same_iff hN hM hB]
  constructor
  · intro h j j0 j1
    unfold nwf
    by_cases c : 0 ≤ j % 5 ∧ j % 5 ≤ T 0 2 ∧ 0 ≤ j / 5 ∧ j / 5 < T 0 1
    · rw [if_pos c, if_pos c]
      have := h (j / 5) (j % 5) c.2.2.1 c.2.2.2 c.1 c.2.1
      rw [show 5 * (j / 5) + j % 5 = j by omega] at this
      exact this
    · rw [if_neg c, if_neg c]
  · intro h s p s0 s1 p0 p1
    have := h (5 * s + p) (by omega) (by omega)
    unfold nwf at this
    rw [if_pos ⟨by omega, by omega, by omega, by omega⟩, if_pos ⟨by omega, by omega, by omega, by omega⟩] at this
    exact this
theorem c12_isBeen_ok {T N M : aH} {σ : aS} (hL : LR σ) (hB : TB T) (hN : NB T N) (hM : NB T M) {c : Int → Int} {i : Int} (i0 : 0 ≤ i) (i1 : i ≤ 300) (h1 : ∀ j, 0 ≤ j → j < 25 → aget σ 155 j = nwf T M c j) (h2 : ∀ j, 0 ≤ j → j < 25 → aget σ 161 (25 * i + j) = nwf T N c j) :
    c12_isBeen 130 i σ = some (0, [if same T N M = true then 1 else 0], σ) := by
  have n0 := ff_0 (fun j => !decide (nwf T N c j = nwf T M c j)) (n := 25)
  have n1 := ff_n (fun j => !decide (nwf T N c j = nwf T M c j)) (n := 25) (by omega)
  have hiff : same T N M = true ↔ ff (fun j => !decide (nwf T N c j = nwf T M c j)) 25 = 25 := by
    rw [nwf_same hN hM hB c]
    constructor
    · intro h
      exact ff_uniq (by omega) (by omega) (fun j j0 j1 => by simp only [Bool.not_eq_false', decide_eq_true_iff]; exact h j j0 j1) (fun q => by omega)
    · intro h j j0 j1
      have := ff_no (P := fun j => !decide (nwf T N c j = nwf T M c j)) (n := 25) j0 (by omega)
      simpa only [Bool.not_eq_false', decide_eq_true_iff] using this
  have hl := al_0 (c := 3) (B := aU3 c12_isBeen_b2) (fun k => [130, i, k]) (fun _ => σ) (n := ff (fun j => !decide (nwf T N c j = nwf T M c j)) 25) (r := (0, [if same T N M = true then 1 else 0], σ)) n0 (by omega) ?_ ?_ (Nat.ne_of_beq_eq_false rfl)
  · unfold c12_isBeen c12_isBeen_l2
    rw [hl]; rfl
  · intro k k0 k1
    have z := ff_no (P := fun j => !decide (nwf T N c j = nwf T M c j)) (n := 25) k0 k1
    simp only [Bool.not_eq_false', decide_eq_true_iff] at z
    have e1 := h1 k k0 (by omega)
    have e2 := h2 k k0 (by omega)
    rw [z] at e2
    simp (disch := omega) only [aU3, c12_isBeen_b2, ↓reduceIte, acall1_some, acall0_some, q_lt, q_nlt, q_le, q_nle, q_eq, q_ne, q_01, true_or, or_true, false_or, or_false, false_and, and_false, and_self, and_true, true_and, wq, wQ, alen_aput, ag_s, ag_x, ag_j, ag_e, r_130_69 hL, n_161 hL, r_130_51 hL, n_155 hL, e1, e2]
  · by_cases h : ff (fun j => !decide (nwf T N c j = nwf T M c j)) 25 = 25
    · rw [if_pos (hiff.mpr h), h]
      simp (disch := omega) only [aU3, c12_isBeen_b2, ↓reduceIte, acall1_some, acall0_some, q_lt, q_nlt, q_le, q_nle, q_eq, q_ne, q_01, true_or, or_true, false_or, or_false, false_and, and_false, and_self, and_true, true_and, wq, wQ, alen_aput, ag_s, ag_x, ag_j, ag_e]
    · have z := ff_at (P := fun j => !decide (nwf T N c j = nwf T M c j)) (n := 25) (by omega)
      simp only [Bool.not_eq_true', decide_eq_false_iff_not] at z
      rw [if_neg (fun q => h (hiff.mp q))]
      generalize ff (fun j => !decide (nwf T N c j = nwf T M c j)) 25 = k at *
      have e1 := h1 k n0 (by omega)
      have e2 := h2 k n0 (by omega)
      simp (disch := omega) only [aU3, c12_isBeen_b2, ↓reduceIte, acall1_some, acall0_some, q_lt, q_nlt, q_le, q_nle, q_eq, q_ne, q_01, true_or, or_true, false_or, or_false, false_and, and_false, and_self, and_true, true_and, wq, wQ, alen_aput, ag_s, ag_x, ag_j, ag_e, r_130_69 hL, n_161 hL, r_130_51 hL, n_155 hL, e1, e2]
def wfe : List (Int × List Int) := [(155, []), (157, []), (158, []), (161, []), (130, [54, 55, 56, 58, 62, 63, 64, 71, 72, 73])]
theorem fe_s {T N : aH} {σ : aS} (hL : LR σ) (hB : TB T) {c : Int → Int} {n : Int} (n0 : 0 ≤ n) (n1 : n ≤ 300) (hNB : ∀ i, 0 ≤ i → i ≤ n → NB T (itN T N i)) (h71 : aget σ 130 71 = 3) (h1 : ∀ j, 0 ≤ j → j < 25 → aget σ 155 j = nwf T (itN T N n) c j)
    (h2 : ∀ i, 0 ≤ i → i < n → ∀ j, 0 ≤ j → j < 25 → aget σ 161 (25 * i + j) = nwf T (itN T N i) c j) :
    aloop 28 (aU3 c12_findEnd_b27) aBig [130, n, 0] σ = some (75, [130, n], if trF T N n < n then aput (aput (aput σ 130 71 2) 130 72 (trF T N n)) 130 73 (n - trF T N n) else σ) := by
  have f0 := trF_0 T N n
  have f1 := trF_n T N n0
  have step : ∀ k, 0 ≤ k → k < trF T N n → aU3 c12_findEnd_b27 [130, n, k] σ = some (28, [130, n, k + 1], σ) := by
    intro k k0 k1
    have hb := c12_isBeen_ok hL hB (hNB k k0 (by omega)) (hNB n n0 (Int.le_refl _)) (c := c) k0 (by omega) h1 (h2 k k0 (by omega))
    have z : same T (itN T N k) (itN T N n) = false := ff_no (P := fun i => same T (itN T N i) (itN T N n)) k0 k1
    rw [z] at hb
    simp (disch := omega) only [aU3, c12_findEnd_b27, c12_findEnd_p68, ↓reduceIte, acall1_some, acall0_some, q_lt, q_nlt, q_le, q_nle, q_eq, q_ne, q_01, true_or, or_true, false_or, or_false, false_and, and_false, and_self, and_true, true_and, wq, wQ, alen_aput, ag_s, ag_x, ag_j, ag_e, h71, hb]
    simp
  by_cases c' : trF T N n < n
  · rw [if_pos c']
    have hb := c12_isBeen_ok hL hB (hNB _ f0 (by omega)) (hNB n n0 (Int.le_refl _)) (c := c) f0 (by omega) h1 (h2 _ f0 c')
    have z : same T (itN T N (trF T N n)) (itN T N n) = true := ff_at (P := fun i => same T (itN T N i) (itN T N n)) c'
    rw [z] at hb
    have st : aU3 c12_findEnd_b27 [130, n, trF T N n] σ = some (28, [130, n, trF T N n + 1], aput (aput (aput σ 130 71 2) 130 72 (trF T N n)) 130 73 (n - trF T N n)) := by
      generalize trF T N n = k at *
      simp (disch := omega) only [aU3, c12_findEnd_b27, c12_findEnd_p68, ↓reduceIte, acall1_some, acall0_some, q_lt, q_nlt, q_le, q_nle, q_eq, q_ne, q_01, true_or, or_true, false_or, or_false, false_and, and_false, and_self, and_true, true_and, wq, wQ, alen_aput, ag_s, ag_x, ag_j, ag_e, h71, hb]
      try simp
    have hl := al_0 (c := 28) (B := aU3 c12_findEnd_b27) (fun k => [130, n, k]) (fun k => if k ≤ trF T N n then σ else aput (aput (aput σ 130 71 2) 130 72 (trF T N n)) 130 73 (n - trF T N n)) (n := trF T N n + 1) (r := (75, [130, n], aput (aput (aput σ 130 71 2) 130 72 (trF T N n)) 130 73 (n - trF T N n))) (by omega) (by omega) ?_ ?_ (Nat.ne_of_beq_eq_false rfl)
    · simp only [if_pos f0] at hl
      exact hl
    · intro k k0 k1
      rw [if_pos (show k ≤ trF T N n by omega)]
      by_cases e : k = trF T N n
      · rw [e, if_neg (by omega)]; exact st
      · rw [if_pos (by omega)]; exact step k k0 (by omega)
    · rw [if_neg (by omega)]
      generalize trF T N n = k at *
      by_cases d : k + 1 < n
      · simp (disch := omega) only [aU3, c12_findEnd_b27, ↓reduceIte, acall1_some, acall0_some, q_lt, q_nlt, q_le, q_nle, q_eq, q_ne, q_01, true_or, or_true, false_or, or_false, false_and, and_false, and_self, and_true, true_and, wq, wQ, alen_aput, ag_s, ag_x, ag_j, ag_e]
      · simp (disch := omega) only [aU3, c12_findEnd_b27, ↓reduceIte, acall1_some, acall0_some, q_lt, q_nlt, q_le, q_nle, q_eq, q_ne, q_01, true_or, or_true, false_or, or_false, false_and, and_false, and_self, and_true, true_and, wq, wQ, alen_aput, ag_s, ag_x, ag_j, ag_e]
  · rw [if_neg c']
    have e : trF T N n = n := by omega
    rw [e] at step
    refine al_0 (c := 28) (B := aU3 c12_findEnd_b27) (fun k => [130, n, k]) (fun _ => σ) (n := n) n0 (by omega) step ?_ (Nat.ne_of_beq_eq_false rfl)
    simp (disch := omega) only [aU3, c12_findEnd_b27, ↓reduceIte, acall1_some, acall0_some, q_lt, q_nlt, q_le, q_nle, q_eq, q_ne, q_01, true_or, or_true, false_or, or_false, false_and, and_false, and_self, and_true, true_and, wq, wQ, alen_aput, ag_s, ag_x, ag_j, ag_e]
theorem fe_b {σ : aS} (hL : LR σ) {n : Int} (n0 : 0 ≤ n) (n1 : n ≤ 300) : aloop 77 (aU3 c12_findEnd_b76) aBig [130, n, 0] σ = some (106, [130, n], apo σ 161 (25 * n) (aget σ 155) 25) := by
  have hl := al_0 (c := 77) (B := aU3 c12_findEnd_b76) (fun k => [130, n, k]) (fun k => apo σ 161 (25 * n) (aget σ 155) k) (n := 25) (r := (106, [130, n], apo σ 161 (25 * n) (aget σ 155) 25)) (by omega) (by omega) ?_ ?_ (Nat.ne_of_beq_eq_false rfl)
  · simp only [apo_0] at hl
    exact hl
  · intro k k0 k1
    have e := apo_s (σ := σ) (x := 161) (o := 25 * n) (f := aget σ 155) k0
    simp (disch := omega) only [aU3, c12_findEnd_b76, ↓reduceIte, acall1_some, acall0_some, q_lt, q_nlt, q_le, q_nle, q_eq, q_ne, q_01, true_or, or_true, false_or, or_false, false_and, and_false, and_self, and_true, true_and, wq, wQ, alen_aput, ag_s, ag_x, ag_j, ag_e, apo_x, apo_n, r_130_51 hL, n_155 hL, r_130_69 hL, n_161 hL, e]
  · simp (disch := omega) only [aU3, c12_findEnd_b76, ↓reduceIte, acall1_some, acall0_some, q_lt, q_nlt, q_le, q_nle, q_eq, q_ne, q_01, true_or, or_true, false_or, or_false, false_and, and_false, and_self, and_true, true_and, wq, wQ, alen_aput, ag_s, ag_x, ag_j, ag_e]
theorem wfe_MI {T : aH} {σ τ : aS} (hM : MI T σ) (hF : Fr wfe σ τ) : MI T τ := hM.fr hF (by decide +kernel) (wdj_spec (by decide +kernel))
theorem nwf_now {T N : aH} {σ : aS} (hS : MN T N σ) (hB : TB T) : ∀ j, 0 ≤ j → j < 25 → aget σ 155 j = nwf T N (aget σ 155) j := by
  intro j j0 j1
  unfold nwf
  by_cases c : 0 ≤ j % 5 ∧ j % 5 ≤ T 0 2 ∧ 0 ≤ j / 5 ∧ j / 5 < T 0 1
  · rw [if_pos c]
    have := hS.1 (j / 5) (j % 5) c.2.2.1 c.2.2.2 c.1 c.2.1
    rw [show 5 * (j / 5) + j % 5 = j by omega] at this
    exact this
  · rw [if_neg c]
set_option maxHeartbeats 8000000 in
theorem c12_findEnd_ok {T N : aH} {σ : aS} (hM : MI T σ) (hN : NB T N) (hS : MN T N σ) :
    ∃ τ, c12_findEnd 130 σ = some (0, [], τ) ∧ aget τ 130 71 = trE T N ∧ aget τ 130 72 = trB T N ∧ aget τ 130 73 = trP T N ∧ (trG T N ≤ 300 → MN T (itN T N (trG T N)) τ) ∧ Fr wfe σ τ := by
  have hB := hM.2.2
  have g0 := trG_0 T N
  have g1 := trG_n T N
  have hF0 : Fr wfe σ (aput (aput (aput σ 130 71 3) 130 72 (-1)) 130 73 (-1)) := (((Fr.rf _ _).put _ rfl).put _ rfl).put _ rfl
  have hS0 : MN T N (aput (aput (aput σ 130 71 3) 130 72 (-1)) 130 73 (-1)) := hS.fr (l := [(130, [71, 72, 73])]) ((((Fr.rf _ _).put _ rfl).put _ rfl).put _ rfl) (wdj_spec (by decide +kernel))
  have hal := al_I (c := 18) (B := aU2 c12_findEnd_b17) (n := if trG T N ≤ 300 then trG T N else 300) (i := 0) (vs := [130, 0]) (σ := aput (aput (aput σ 130 71 3) 130 72 (-1)) 130 73 (-1))
    (fun k vs τ => 0 ≤ k ∧ vs = [130, k] ∧ MN T (itN T N k) τ ∧ (∀ j, 0 ≤ j → j < 25 → aget τ 155 j = nwf T (itN T N k) (aget σ 155) j) ∧ (∀ i, 0 ≤ i → i < k → ∀ j, 0 ≤ j → j < 25 → aget τ 161 (25 * i + j) = nwf T (itN T N i) (aget σ 155) j) ∧
      (aget τ 130 71 = 3 ∧ aget τ 130 72 = -1 ∧ aget τ 130 73 = -1) ∧ Fr wfe σ τ)
    (fun r => ∃ τ, (r = (0, [], τ) ∧ aget τ 130 71 = trE T N ∧ aget τ 130 72 = trB T N ∧ aget τ 130 73 = trP T N ∨ r = (122, [130, trG T N], τ) ∧ trE T N = 1 ∧ trB T N = trG T N ∧ trP T N = -1 ∧ aget τ 130 73 = -1) ∧ (trG T N ≤ 300 → MN T (itN T N (trG T N)) τ) ∧ Fr wfe σ τ)
    (by split <;> omega) (by split <;> omega) ⟨Int.le_refl _, rfl, hS0, by
      intro j j0 j1
      rw [ag_x (by omega), ag_x (by omega), ag_x (by omega)]
      exact nwf_now hS hB j j0 j1, fun i i0 i1 => by omega, ⟨by rw [ag_j (by omega), ag_j (by omega), ag_s], by rw [ag_j (by omega), ag_s], ag_s _ _ _ _⟩, hF0⟩ (by
      rintro k vs τ hk ⟨k0, rfl, hS2, hnw, hbe, h7, hF⟩
      have hM2 := wfe_MI hM hF
      have hL2 := hM2.1
      have k300 : k ≤ 300 := by split at hk <;> omega
      have kG : k ≤ trG T N := by split at hk <;> omega
      have hNB : ∀ i, 0 ≤ i → i ≤ k → NB T (itN T N i) := fun i i0 i1 => trG_NB hN hB i0 (by omega)
      have hl27 := fe_s hL2 hB k0 k300 hNB h7.1 hnw hbe
      have f0 := trF_0 T N k
      by_cases hfl : trF T N k < k
      · have hke : k = trG T N := by
          by_cases e : k < trG T N
          · exact absurd hfl (trG_no k0 e).1
          · omega
        rw [if_pos hfl] at hl27
        obtain ⟨ψ, hψ⟩ : ∃ ψ, ψ = aput (aput (aput τ 130 71 2) 130 72 (trF T N k)) 130 73 (k - trF T N k) := ⟨_, rfl⟩
        rw [← hψ] at hl27
        have hFp : Fr [(130, [71, 72, 73])] τ ψ := by rw [hψ]; exact (((Fr.rf _ _).put _ rfl).put _ rfl).put _ rfl
        have hL3 : LR ψ := hFp.LR (by decide +kernel) hL2
        have hl76 := fe_b hL3 k0 k300
        have h71 : aget (apo ψ 161 (25 * k) (aget ψ 155) 25) 130 71 = 2 := by rw [apo_x (by omega), hψ, ag_j (by omega), ag_j (by omega), ag_s]
        have h72 : aget (apo ψ 161 (25 * k) (aget ψ 155) 25) 130 72 = trF T N k := by rw [apo_x (by omega), hψ, ag_j (by omega), ag_s]
        have h73 : aget (apo ψ 161 (25 * k) (aget ψ 155) 25) 130 73 = k - trF T N k := by rw [apo_x (by omega), hψ, ag_s]
        have hFa : Fr [(161, []), (130, [71, 72, 73])] τ (apo ψ 161 (25 * k) (aget ψ 155) 25) := (hFp.mono rfl).apo _ _ _ (fun _ => rfl)
        have e1 := h7.1
        refine Or.inr ⟨(0, [], apo ψ 161 (25 * k) (aget ψ 155) 25), ?_, Nat.ne_of_beq_eq_false rfl, _, Or.inl ⟨rfl, ?_, ?_, ?_⟩, fun _ => by rw [← hke]; exact hS2.fr hFa (wdj_spec (by decide +kernel)), hF.tr (hFa.mono rfl)⟩
        · clear hS2 hnw hbe hF hNB hM2 hFp hFa hψ
          simp (disch := omega) only [aU2, c12_findEnd_b17, c12_findEnd_l27, ↓reduceIte, acall1_some, acall0_some, q_lt, q_nlt, q_le, q_nle, q_eq, q_ne, q_01, true_or, or_true, false_or, or_false, false_and, and_false, and_self, and_true, true_and, wq, wQ, alen_aput, ag_s, ag_x, ag_j, ag_e, e1, hl27, abind, c12_findEnd_d27, c12_findEnd_p74, c12_findEnd_l76, hl76, c12_findEnd_d76, c12_findEnd_p105, h71]
        · rw [h71]; unfold trE; rw [← hke, if_pos k300, if_pos hfl]
        · rw [h72]; unfold trB; rw [← hke, if_pos k300, if_pos hfl]
        · rw [h73]; unfold trP; rw [← hke, if_pos ⟨k300, hfl⟩]
      · rw [if_neg hfl] at hl27
        have hl76 := fe_b hL2 k0 k300
        obtain ⟨ψ, hψ⟩ : ∃ ψ, ψ = apo τ 161 (25 * k) (aget τ 155) 25 := ⟨_, rfl⟩
        rw [← hψ] at hl76
        have hFa : Fr [(161, [])] τ ψ := by rw [hψ]; exact (Fr.rf _ _).apo _ _ _ (fun _ => rfl)
        have hM3 : MI T ψ := hM2.fr hFa (by decide +kernel) (wdj_spec (by decide +kernel))
        have hS3 : MN T (itN T N k) ψ := hS2.fr hFa (wdj_spec (by decide +kernel))
        have h71 : aget ψ 130 71 = 3 := by rw [hFa.g rfl]; exact h7.1
        have e1 := h7.1
        rcases msail1 hM3 (hNB k k0 (Int.le_refl _)) hS3 with ⟨c, φ, d1, d2⟩ | ⟨c, φ, υ, d1, d2, d3, d4, d5, d6, d7, d8⟩
        · have hke : k = trG T N := by
            by_cases e : k < trG T N
            · exact absurd (trG_no k0 e).2 c
            · omega
          refine Or.inr ⟨(122, [130, k], φ), ?_, Nat.ne_of_beq_eq_false rfl, φ, Or.inr ⟨by rw [← hke], ?_, ?_, ?_, ?_⟩, fun _ => by rw [← hke]; exact wff_MN hS3 d2, (hF.tr (hFa.mono rfl)).tr (d2.mono rfl)⟩
          · clear hS2 hnw hbe hF hNB hM2 hFa hψ hM3 hS3
            simp (disch := omega) only [aU2, c12_findEnd_b17, c12_findEnd_l27, ↓reduceIte, acall1_some, acall0_some, q_lt, q_nlt, q_le, q_nle, q_eq, q_ne, q_01, true_or, or_true, false_or, or_false, false_and, and_false, and_self, and_true, true_and, wq, wQ, alen_aput, ag_s, ag_x, ag_j, ag_e, e1, hl27, abind, c12_findEnd_d27, c12_findEnd_p74, c12_findEnd_l76, hl76, c12_findEnd_d76, c12_findEnd_p105, h71, d1]
          · unfold trE; rw [← hke, if_pos k300, if_neg hfl]
          · unfold trB; rw [← hke, if_pos k300, if_neg hfl]
          · unfold trP; rw [← hke, if_neg (fun z => hfl z.2)]
          · rw [d2.g rfl, hFa.g rfl]; exact h7.2.2
        · have hkl : k < trG T N := by
            by_cases e : k < trG T N
            · exact e
            · have hke : k = trG T N := by omega
              have := trG_at (T := T) (N := N) (by omega)
              rw [← hke] at this
              rcases this with q | q
              · exact absurd q hfl
              · exact absurd c q
          by_cases hk3 : k = 300
          · have hG : ¬ trG T N ≤ 300 := by omega
            refine Or.inr ⟨(0, [], φ), ?_, Nat.ne_of_beq_eq_false rfl, φ, Or.inl ⟨rfl, ?_, ?_, ?_⟩, fun h => absurd h hG, (hF.tr (hFa.mono rfl)).tr (d6.mono rfl)⟩
            · clear hS2 hnw hbe hF hNB hM2 hFa hψ hM3 hS3
              simp (disch := omega) only [aU2, c12_findEnd_b17, c12_findEnd_l27, ↓reduceIte, acall1_some, acall0_some, q_lt, q_nlt, q_le, q_nle, q_eq, q_ne, q_01, true_or, or_true, false_or, or_false, false_and, and_false, and_self, and_true, true_and, wq, wQ, alen_aput, ag_s, ag_x, ag_j, ag_e, e1, hl27, abind, c12_findEnd_d27, c12_findEnd_p74, c12_findEnd_l76, hl76, c12_findEnd_d76, c12_findEnd_p105, h71, d1]
            · unfold trE; rw [if_neg hG, d6.g rfl, h71]
            · unfold trB; rw [if_neg hG, d6.g rfl, hFa.g rfl]; exact h7.2.1
            · unfold trP; rw [if_neg (fun z => hG z.1), d6.g rfl, hFa.g rfl]; exact h7.2.2
          · have hFu : Fr wfe σ υ := (hF.tr (hFa.mono rfl)).tr (d5.mono rfl)
            refine Or.inl ⟨by split <;> omega, [130, k + 1], υ, ?_, by omega, rfl, by rw [itN_s k0]; exact d3, ?_, ?_, ?_, hFu⟩
            · clear hS2 hnw hbe hF hNB hM2 hFa hψ hM3 hS3
              simp (disch := omega) only [aU2, c12_findEnd_b17, c12_findEnd_l27, ↓reduceIte, acall1_some, acall0_some, q_lt, q_nlt, q_le, q_nle, q_eq, q_ne, q_01, true_or, or_true, false_or, or_false, false_and, and_false, and_self, and_true, true_and, wq, wQ, alen_aput, ag_s, ag_x, ag_j, ag_e, e1, hl27, abind, c12_findEnd_d27, c12_findEnd_p74, c12_findEnd_l76, hl76, c12_findEnd_d76, c12_findEnd_p105, h71, d1, d2]
            · intro j j0 j1
              rw [itN_s k0]
              unfold nwf
              by_cases q : 0 ≤ j % 5 ∧ j % 5 ≤ T 0 2 ∧ 0 ≤ j / 5 ∧ j / 5 < T 0 1
              · rw [if_pos q]
                have := d3.1 (j / 5) (j % 5) q.2.2.1 q.2.2.2 q.1 q.2.1
                rw [show 5 * (j / 5) + j % 5 = j by omega] at this
                exact this
              · rw [if_neg q, d8 j q, hFa.g rfl, hnw j j0 j1]
                unfold nwf
                rw [if_neg q]
            · intro i i0 i1 j j0 j1
              rw [d5.g rfl, hψ]
              by_cases e : i = k
              · subst e
                rw [apo_i j0 j1]
                exact hnw j j0 j1
              · rw [apo_o (by omega)]
                exact hbe i i0 (by omega) j j0 j1
            · rw [d5.g rfl, d5.g rfl, d5.g rfl, hFa.g rfl, hFa.g rfl, hFa.g rfl]; exact h7)
  obtain ⟨r, hr, τ, hQ, q1, q2⟩ := hal
  have e0 : c12_findEnd 130 σ = c12_findEnd_d17 r.1 r.2.1 r.2.2 := by
    unfold c12_findEnd c12_findEnd_l17
    rw [hr]; rfl
  rcases hQ with ⟨rfl, h1, h2, h3⟩ | ⟨rfl, h1, h2, h3, h4⟩
  · exact ⟨τ, by rw [e0]; rfl, h1, h2, h3, q1, q2⟩
  · refine ⟨aput (aput τ 130 71 1) 130 72 (trG T N), by rw [e0]; rfl, ?_, ?_, ?_, fun h => ?_, (q2.put _ rfl).put _ rfl⟩
    · rw [ag_j (by omega), ag_s, h1]
    · rw [ag_s, h2]
    · rw [ag_j (by omega), ag_j (by omega), h4, h3]
    · exact (q1 h).fr (l := [(130, [71, 72])]) (((Fr.rf _ _).put _ rfl).put _ rfl) (wdj_spec (by decide +kernel))
