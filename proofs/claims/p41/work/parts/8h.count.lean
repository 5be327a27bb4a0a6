/-! the class's half of whole's part of this name -/
def wyN (h : Int) : Nat → Int
  | 0 => 1
  | n + 1 => Int.tdiv (wyN h n * (h + ((n : Int) + 1))) ((n : Int) + 1)
/-- the ways of one sort -/
def wyI (h k : Int) : Int := wyN h k.toNat
theorem wyI_0 (h : Int) : wyI h 0 = 1 := rfl
theorem wyI_s (h : Int) {k : Int} (k0 : 0 ≤ k) : wyI h (k + 1) = Int.tdiv (wyI h k * (h + (k + 1))) (k + 1) := by
  obtain ⟨n, rfl⟩ := Int.eq_ofNat_of_zero_le k0
  rfl
theorem wyF : ∀ h : Fin 7, ∀ n : Fin 5, 1 ≤ wyN (h.val : Int) n.val ∧ wyN (h.val : Int) n.val ≤ 210 := by decide +kernel
theorem wy_bd {h k : Int} (h0 : 0 ≤ h) (h6 : h ≤ 6) (k0 : 0 ≤ k) (k4 : k ≤ 4) : 1 ≤ wyI h k ∧ wyI h k ≤ 210 := by
  obtain ⟨n, rfl⟩ := Int.eq_ofNat_of_zero_le k0
  obtain ⟨m, rfl⟩ := Int.eq_ofNat_of_zero_le h0
  exact wyF ⟨m, by omega⟩ ⟨n, by omega⟩
def npN (T : aH) : Nat → Int
  | 0 => 1
  | n + 1 => npN T n * wyI (T 2 (4 * (n : Int))) (T 0 2)
/-- the ways of the first k sorts; of all of them -/
def npK (T : aH) (k : Int) : Int := npN T k.toNat
def npT (T : aH) : Int := npK T (T 0 1)
theorem npK_s (T : aH) {k : Int} (k0 : 0 ≤ k) : npK T (k + 1) = npK T k * wyI (T 2 (4 * k)) (T 0 2) := by
  obtain ⟨n, rfl⟩ := Int.eq_ofNat_of_zero_le k0
  rfl
theorem npN_pos {T : aH} (hB : TB T) : ∀ n : Nat, (n : Int) ≤ T 0 1 → 1 ≤ npN T n := by
  intro n
  induction n with
  | zero => intro _; show (1 : Int) ≤ 1; omega
  | succ n ih =>
    intro h
    have a := ih (by omega)
    have c := (hB.2.2.2.2.2.1 n (by omega) (by omega)).1
    have b := (wy_bd (h := T 2 (4 * (n : Int))) (by omega) c.2 hB.2.2.1.1 hB.2.2.1.2).1
    have d := Int.mul_le_mul a b (by omega) (by omega)
    show 1 ≤ npN T n * wyI (T 2 (4 * (n : Int))) (T 0 2)
    omega
theorem npK_pos {T : aH} (hB : TB T) {k : Int} (k0 : 0 ≤ k) (k1 : k ≤ T 0 1) : 1 ≤ npK T k := npN_pos hB _ (by omega)
def mn (a b : Int) : Int := if b < a then b else a
theorem mn_up {a b : Int} (ha : 1 ≤ a) (hb : 1 ≤ b) : mn 3001 (mn 3001 a * b) = mn 3001 (a * b) := by
  by_cases c : a < 3001
  · rw [show mn 3001 a = a from if_pos c]
  · have d := Int.mul_le_mul_of_nonneg_right (show (3001 : Int) ≤ a by omega) (show (0 : Int) ≤ b by omega)
    rw [show mn 3001 a = 3001 from if_neg c]
    rw [show mn 3001 (a * b) = 3001 from if_neg (by omega), show mn 3001 (3001 * b) = 3001 from if_neg (by omega)]
theorem mn_bd {a : Int} (ha : 1 ≤ a) : 1 ≤ mn 3001 a ∧ mn 3001 a ≤ 3001 := by unfold mn; split <;> omega
theorem cnt_in {pl : Int} {T : aH} {σ : aS} (hC : CI pl T σ) {s : Int} (s0 : 0 ≤ s) (s1 : s < T 0 1) {c : Int} (h0 : aget σ 20 0 = mn 3001 c) (hc : 1 ≤ c) :
    c9_countPartings_l28 20 pl s 1 1 σ = some (16, [20, pl, s + 1], aput σ 20 0 (mn 3001 (c * wyI (T 2 (4 * s)) (T 0 2)))) := by
  have hB := hC.2.2.2.2.2
  have h4 := hB.2.2.1
  have h5 := hB.2.1
  have hal := c4_alone_ok hC
  have hfg := c4_figure_ok hC s0 s1 (show (0 : Int) ≤ 0 by omega) (by omega)
  rw [Int.add_zero] at hfg
  have ch := (hB.2.2.2.2.2.1 s s0 s1).1
  have wT := wy_bd (h := T 2 (4 * s)) (k := T 0 2) (by omega) ch.2 h4.1 h4.2
  have mb := mn_bd hc
  have mm := mul_nn (a := mn 3001 c) (b := wyI (T 2 (4 * s)) (T 0 2)) (A := 3001) (B := 210) (by omega) mb.2 (by omega) wT.2
  have hl := al_0 (c := 29) (B := aU5 c9_countPartings_b28) (fun k => [20, pl, s, wyI (T 2 (4 * s)) k, k + 1]) (fun _ => σ) (n := T 0 2) (r := (59, [20, pl, s, wyI (T 2 (4 * s)) (T 0 2)], σ)) (by omega) (by omega) ?_ ?_ (Nat.ne_of_beq_eq_false rfl)
  · rw [wyI_0, Int.zero_add] at hl
    have ef := mn_up (a := c) (b := wyI (T 2 (4 * s)) (T 0 2)) hc wT.1
    unfold c9_countPartings_l28
    rw [hl]
    show c9_countPartings_p58 20 pl s (wyI (T 2 (4 * s)) (T 0 2)) σ = _
    unfold c9_countPartings_p58
    refine acall1_h (v := mn 3001 (c * wyI (T 2 (4 * s)) (T 0 2))) (τ := σ) ?_ ?_
    · rw [h0, wq (by omega) (by omega), ← ef]
      unfold jmin
      show (if mn 3001 c * wyI (T 2 (4 * s)) (T 0 2) < 3001 then _ else _) = some (0, [if mn 3001 c * wyI (T 2 (4 * s)) (T 0 2) < 3001 then _ else _], σ)
      by_cases e : mn 3001 c * wyI (T 2 (4 * s)) (T 0 2) < 3001
      · rw [if_pos e, if_pos e]
      · rw [if_neg e, if_neg e]
    · rw [wq (by omega) (by omega)]
  · intro k k0 k1
    have wk := wy_bd (h := T 2 (4 * s)) (k := k) (by omega) ch.2 k0 (by omega)
    have ws := wyI_s (T 2 (4 * s)) k0
    have wk2 := wy_bd (h := T 2 (4 * s)) (k := k + 1) (by omega) ch.2 (by omega) (by omega)
    have m2 := mul_nn (a := wyI (T 2 (4 * s)) k) (b := T 2 (4 * s) + (k + 1)) (A := 210) (B := 10) (by omega) wk.2 (by omega) (by omega)
    show c9_countPartings_b28 20 pl s (wyI (T 2 (4 * s)) k) (k + 1) σ = _
    unfold c9_countPartings_b28
    refine acall1_h hal (ite_n (by omega) (acall1_h hfg (ite_n (by omega) ?_)))
    rw [wq (x := T 2 (4 * s) + (k + 1)) (by omega) (by omega), wq (x := wyI (T 2 (4 * s)) k * (T 2 (4 * s) + (k + 1))) (by omega) (by omega), ← ws, wq (by omega) (by omega), wq (by omega) (by omega)]
  · show c9_countPartings_b28 20 pl s (wyI (T 2 (4 * s)) (T 0 2)) (T 0 2 + 1) σ = _
    unfold c9_countPartings_b28
    exact acall1_h hal (ite_p (by omega) rfl)
theorem c9_countPartings_ok {pl : Int} {T : aH} {σ : aS} (hC : CI pl T σ) : ∃ τ, c9_countPartings 20 σ = some (0, [], τ) ∧ Fp (fun x j => x = 20 ∧ j = 0) σ τ ∧ aget τ 20 0 = mn 3001 (npT T) := by
  have hB := hC.2.2.2.2.2
  have h5 := hB.2.1
  have hL := hC.1
  have hp := hC.2.1
  have q8 := hC.2.2.1.1
  have hw : ∀ x j : Int, (x = 20 ∧ j = 0) → wkc x j := fun x j e => by unfold wkc; omega
  have hal := al_I (c := 16) (B := aU3 c9_countPartings_b15) (n := T 0 1) (i := 0) (vs := [20, pl, 0]) (σ := aput σ 20 0 1)
    (fun k vs τ => vs = [20, pl, k] ∧ 0 ≤ k ∧ Fp (fun x j => x = 20 ∧ j = 0) σ τ ∧ aget τ 20 0 = mn 3001 (npK T k))
    (fun r => ∃ τ, r = (0, [], τ) ∧ Fp (fun x j => x = 20 ∧ j = 0) σ τ ∧ aget τ 20 0 = mn 3001 (npT T))
    (by omega) (by omega) ⟨rfl, Int.le_refl _, (Fp.rf _ _).put 1 ⟨rfl, rfl⟩, ag_s _ _ _ _⟩ ?_
  · obtain ⟨r, hr, τ, rfl, h1, h2⟩ := hal
    refine ⟨τ, ?_, h1, h2⟩
    unfold c9_countPartings c9_countPartings_l15
    rw [r_20_7 hL, q8, hr]
    exact ite_n (by omega) (ite_n (by omega) rfl)
  · rintro k vs τ k1 ⟨rfl, k0, hF, e0⟩
    have hCt := hC.fp hF hw
    by_cases c : k < T 0 1
    · refine Or.inl ⟨c, [20, pl, k + 1], _, ?_, rfl, by omega, hF.put (x := 20) (j := 0) (mn 3001 (npK T (k + 1))) ⟨rfl, rfl⟩, ag_s _ _ _ _⟩
      rw [npK_s T k0]
      have hi := cnt_in hCt k0 c e0 (npK_pos hB k0 k1)
      show c9_countPartings_b15 20 pl k τ = _
      unfold c9_countPartings_b15
      exact acall1_h (c4_sorts_ok hCt) (ite_p c hi)
    · have hk : k = T 0 1 := by omega
      subst hk
      refine Or.inr ⟨(0, [], τ), ?_, Nat.ne_of_beq_eq_false rfl, τ, rfl, hF, e0⟩
      show c9_countPartings_b15 20 pl (T 0 1) τ = _
      unfold c9_countPartings_b15
      exact acall1_h (c4_sorts_ok hCt) (ite_n (Int.lt_irrefl _) rfl)
def bsN (A : Int → Int) : Nat → Int
  | 0 => 0
  | n + 1 => if n = 0 ∨ A (bsN A n) < A n then n else bsN A n
def hcN (H : Int → Bool) : Nat → Int
  | 0 => 0
  | n + 1 => hcN H n + if H n = true then 1 else 0
def ghN (A : Int → Int) (H : Int → Bool) : Nat → Int
  | 0 => 0
  | n + 1 => if H n = true then (if hcN H n = 0 then A n else if ghN A H n < A n then A n else ghN A H n) else ghN A H n
def lhN (A : Int → Int) (H : Int → Bool) : Nat → Int
  | 0 => 0
  | n + 1 => if H n = true then (if hcN H n = 0 then A n else if A n < lhN A H n then A n else lhN A H n) else lhN A H n
theorem hcN_bd (H : Int → Bool) : ∀ n : Nat, 0 ≤ hcN H n ∧ hcN H n ≤ n := by
  intro n
  induction n with
  | zero => exact ⟨Int.le_refl _, Int.le_refl _⟩
  | succ n ih =>
    show 0 ≤ hcN H n + (if H n = true then 1 else 0) ∧ hcN H n + (if H n = true then 1 else 0) ≤ ((n + 1 : Nat) : Int)
    split <;> omega
theorem hcN_mono (H : Int → Bool) {m : Nat} : ∀ n : Nat, m ≤ n → hcN H m ≤ hcN H n := by
  intro n
  induction n with
  | zero => intro h; rw [show m = 0 by omega]; exact Int.le_refl _
  | succ n ih =>
    intro h
    by_cases c : m = n + 1
    · rw [c]; exact Int.le_refl _
    · have := ih (by omega)
      show hcN H m ≤ hcN H n + (if H n = true then 1 else 0)
      split <;> omega
/-- what the survey has after n partings: A totals, H held, K the partings packed -/
def SVn (A : Int → Int) (H : Int → Bool) (K : Int → Int) (n : Nat) (σ : aS) : Prop :=
  aget σ 20 1 = hcN H n ∧ (0 < n → aget σ 20 2 = K (bsN A n) ∧ aget σ 20 3 = A (bsN A n)) ∧ (0 < hcN H n → aget σ 20 4 = ghN A H n ∧ aget σ 20 5 = lhN A H n) ∧ ∀ j : Nat, j < n → H j = true → aget σ 21 (hcN H j) = K j
