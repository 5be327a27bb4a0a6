/-! the class's half of whole's part of this name -/
/-- how many hold -/
def hcT (T N : aH) : Int := hcN (svH T N) (npT T).toNat
def aAll (T N : aH) (w : Int) : Int := if 0 ≤ w ∧ w ≤ 1 then (if npT T ≤ 3000 then (if w = 0 then npT T else hcT T N) else -2) else -1
/-- the K-th that holds -/
def hel (T N : aH) (K : Int) : Int := ff (fun j => svH T N j && decide (hcN (svH T N) j.toNat = K)) (npT T)
theorem hcN_s (H : Int → Bool) {j : Int} (j0 : 0 ≤ j) : hcN H (j + 1).toNat = hcN H j.toNat + if H j = true then 1 else 0 := by
  rw [show (j + 1).toNat = j.toNat + 1 by omega]
  show hcN H j.toNat + (if H ((j.toNat : Nat) : Int) = true then 1 else 0) = _
  rw [Int.toNat_of_nonneg j0]
theorem hel_eq {T N : aH} {K k : Int} (k0 : 0 ≤ k) (k1 : k < npT T) (hk : svH T N k = true) (e : hcN (svH T N) k.toNat = K) : hel T N K = k := by
  have p0 := ff_0 (fun j => svH T N j && decide (hcN (svH T N) j.toNat = K)) (n := npT T)
  have hat : (fun j => svH T N j && decide (hcN (svH T N) j.toNat = K)) k = true := by
    show (svH T N k && decide (hcN (svH T N) k.toNat = K)) = true
    rw [hk, decide_eq_true e]; rfl
  unfold hel
  rcases (show ff (fun j => svH T N j && decide (hcN (svH T N) j.toNat = K)) (npT T) < k ∨ ff (fun j => svH T N j && decide (hcN (svH T N) j.toNat = K)) (npT T) = k ∨ k < ff (fun j => svH T N j && decide (hcN (svH T N) j.toNat = K)) (npT T) by omega) with c | c | c
  · exfalso
    have q := ff_at (P := fun j => svH T N j && decide (hcN (svH T N) j.toNat = K)) (n := npT T) (by omega)
    rw [Bool.and_eq_true, decide_eq_true_iff] at q
    have a := hcN_s (svH T N) p0
    rw [if_pos q.1, q.2] at a
    have b := hcN_mono (svH T N) (m := (ff (fun j => svH T N j && decide (hcN (svH T N) j.toNat = K)) (npT T) + 1).toNat) k.toNat (by omega)
    omega
  · exact c
  · exfalso
    have q := ff_no (P := fun j => svH T N j && decide (hcN (svH T N) j.toNat = K)) k0 c
    exact absurd (hat.symm.trans q) (by decide)
theorem hel_in {T N : aH} {K : Int} : ∀ n : Nat, (n : Int) ≤ npT T → 0 ≤ K → K < hcN (svH T N) n → 0 ≤ hel T N K ∧ hel T N K < n ∧ svH T N (hel T N K) = true ∧ hcN (svH T N) (hel T N K).toNat = K := by
  intro n
  induction n with
  | zero => intro _ h0 h; have h' : K < 0 := h; omega
  | succ n ih =>
    intro hn h0 h
    by_cases c : K < hcN (svH T N) n
    · have := ih (by omega) h0 c
      exact ⟨this.1, by omega, this.2.2⟩
    · have e : hcN (svH T N) (n + 1) = hcN (svH T N) n + if svH T N n = true then 1 else 0 := rfl
      by_cases q : svH T N n = true
      · rw [if_pos q] at e
        have he := hel_eq (T := T) (N := N) (K := K) (k := n) (by omega) (by omega) q (by rw [Int.toNat_natCast]; omega)
        rw [he]
        exact ⟨by omega, by omega, q, by rw [Int.toNat_natCast]; omega⟩
      · rw [if_neg q] at e; omega
def aHeld (T N : aH) (K s p : Int) : Int :=
  if npT T ≤ 3000 then (if K < 0 then -1 else if 0 ≤ s ∧ s < T 0 1 then (if 0 ≤ p ∧ p ≤ T 0 2 then (if K < hcT T N then PN T N (hel T N K) 0 (5 * s + p) else -1) else -1) else -1) else -2
def bsT (T N : aH) : Int := svA T N (bsN (svA T N) (npT T).toNat)
def aLost (T N : aH) (w : Int) : Int :=
  if 0 ≤ w ∧ w ≤ 2 then (if npT T ≤ 3000 then (if w = 0 then bsT T N else if hcT T N = 0 then MINL else if w = 1 then bsT T N - ghN (svA T N) (svH T N) (npT T).toNat else bsT T N - lhN (svA T N) (svH T N) (npT T).toNat) else -2) else MINL
theorem svA_bd {T N : aH} (hN : NB T N) (hB : TB T) (k : Int) : -210000000000000 ≤ svA T N k ∧ svA T N k ≤ 210000000000000 :=
  tot_bd hB (PN_NB hN hB k) (by have := hB.2.2.1; omega) (Int.le_refl _)
theorem ghN_bd {A : Int → Int} {H : Int → Bool} {b : Int} (b0 : 0 ≤ b) (h : ∀ k, -b ≤ A k ∧ A k ≤ b) : ∀ n : Nat, (-b ≤ ghN A H n ∧ ghN A H n ≤ b) ∧ (-b ≤ lhN A H n ∧ lhN A H n ≤ b) := by
  intro n
  induction n with
  | zero => exact ⟨⟨by show -b ≤ 0; omega, b0⟩, by show -b ≤ 0; omega, b0⟩
  | succ n ih =>
    have hn := h n
    refine ⟨?_, ?_⟩
    · show -b ≤ (if H n = true then (if hcN H n = 0 then A n else if ghN A H n < A n then A n else ghN A H n) else ghN A H n) ∧ (if H n = true then (if hcN H n = 0 then A n else if ghN A H n < A n then A n else ghN A H n) else ghN A H n) ≤ b
      split
      · split
        · exact hn
        · split
          · exact hn
          · exact ih.1
      · exact ih.1
    · show -b ≤ (if H n = true then (if hcN H n = 0 then A n else if A n < lhN A H n then A n else lhN A H n) else lhN A H n) ∧ (if H n = true then (if hcN H n = 0 then A n else if A n < lhN A H n then A n else lhN A H n) else lhN A H n) ≤ b
      split
      · split
        · exact hn
        · split
          · exact hn
          · exact ih.2
      · exact ih.2
