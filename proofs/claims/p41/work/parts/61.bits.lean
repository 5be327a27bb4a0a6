/-! the class's half of whole's part of this name -/
theorem sh_32 : ∀ k : Nat, k < 32 → ((Int32.ofInt (k : Int) &&& 31).toBitVec.smod 32).toNat = k := by decide +kernel
theorem sh_64 : ∀ k : Nat, k < 64 → (((Int32.ofInt (k : Int)).toInt64 &&& 63).toBitVec.smod 64).toNat = k := by decide +kernel
theorem ashr_N {x : Int} (hx : ar32 x) (n : Nat) (hn : n < 32) : ashr x (n : Int) = x / (2 ^ n : Nat) := by
  unfold ashr
  show ((Int32.ofInt x).toBitVec.sshiftRight' ((Int32.ofInt (n : Int) &&& 31).toBitVec.smod 32)).toInt = _
  rw [BitVec.toInt_sshiftRight', sh_32 n hn]
  rw [show (Int32.ofInt x).toBitVec.toInt = x from t32 hx]
  exact Int.shiftRight_eq_div_pow x n
theorem ashrl_N {x : Int} (hx : ar64 x) (n : Nat) (hn : n < 64) : ashrl x (n : Int) = x / (2 ^ n : Nat) := by
  unfold ashrl
  show ((Int64.ofInt x).toBitVec.sshiftRight' (((Int32.ofInt (n : Int)).toInt64 &&& 63).toBitVec.smod 64)).toInt = _
  rw [BitVec.toInt_sshiftRight', sh_64 n hn]
  rw [show (Int64.ofInt x).toBitVec.toInt = x from t64 hx]
  exact Int.shiftRight_eq_div_pow x n
theorem ti_32 {a : BitVec 32} (h : a.toNat < 2147483648) : a.toInt = (a.toNat : Int) := BitVec.toInt_eq_toNat_of_lt (by omega)
theorem ti_64 {a : BitVec 64} (h : a.toNat < 9223372036854775808) : a.toInt = (a.toNat : Int) := BitVec.toInt_eq_toNat_of_lt (by omega)
theorem tn_32 (x : Int) : (Int32.ofInt x).toBitVec.toNat = (x % 4294967296).toNat := by
  rw [Int32.toBitVec_ofInt, BitVec.toNat_ofInt]
  rfl
theorem tn_64 (x : Int) : (Int64.ofInt x).toBitVec.toNat = (x % 18446744073709551616).toNat := by
  rw [Int64.toBitVec_ofInt, BitVec.toNat_ofInt]
  rfl
theorem aand_N {a b : Int} (ha : 0 ≤ a) (ha2 : a ≤ 2147483647) (hb : 0 ≤ b) (hb2 : b ≤ 2147483647) : aand a b = ((a.toNat &&& b.toNat : Nat) : Int) := by
  unfold aand
  show ((Int32.ofInt a).toBitVec &&& (Int32.ofInt b).toBitVec).toInt = _
  have e : ((Int32.ofInt a).toBitVec &&& (Int32.ofInt b).toBitVec).toNat = a.toNat &&& b.toNat := by
    rw [BitVec.toNat_and, tn_32, tn_32, Int.emod_eq_of_lt ha (by omega), Int.emod_eq_of_lt hb (by omega)]
  rw [ti_32 (by rw [e]; exact Nat.lt_of_le_of_lt Nat.and_le_left (by omega)), e]
theorem aor_N {a b : Int} (ha : 0 ≤ a) (ha2 : a ≤ 2147483647) (hb : 0 ≤ b) (hb2 : b ≤ 2147483647) : aor a b = ((a.toNat ||| b.toNat : Nat) : Int) := by
  unfold aor
  show ((Int32.ofInt a).toBitVec ||| (Int32.ofInt b).toBitVec).toInt = _
  have e : ((Int32.ofInt a).toBitVec ||| (Int32.ofInt b).toBitVec).toNat = a.toNat ||| b.toNat := by
    rw [BitVec.toNat_or, tn_32, tn_32, Int.emod_eq_of_lt ha (by omega), Int.emod_eq_of_lt hb (by omega)]
  rw [ti_32 (by rw [e]; exact Nat.or_lt_two_pow (n := 31) (by omega) (by omega)), e]
theorem axor_N {a b : Int} (ha : 0 ≤ a) (ha2 : a ≤ 2147483647) (hb : 0 ≤ b) (hb2 : b ≤ 2147483647) : axor a b = ((a.toNat ^^^ b.toNat : Nat) : Int) := by
  unfold axor
  show ((Int32.ofInt a).toBitVec ^^^ (Int32.ofInt b).toBitVec).toInt = _
  have e : ((Int32.ofInt a).toBitVec ^^^ (Int32.ofInt b).toBitVec).toNat = a.toNat ^^^ b.toNat := by
    rw [BitVec.toNat_xor, tn_32, tn_32, Int.emod_eq_of_lt ha (by omega), Int.emod_eq_of_lt hb (by omega)]
  rw [ti_32 (by rw [e]; exact Nat.xor_lt_two_pow (n := 31) (by omega) (by omega)), e]
theorem aand_mask (x : Int) (n : Nat) (hn : n ≤ 31) {m : Int} (hm : m = ((2 ^ n - 1 : Nat) : Int)) : aand x m = x % (2 ^ n : Nat) := by
  subst hm
  have hp : (2 : Nat) ^ n ≤ 2 ^ 31 := Nat.pow_le_pow_right (by decide) hn
  have hp0 : 0 < (2 : Nat) ^ n := Nat.two_pow_pos n
  unfold aand
  show ((Int32.ofInt x).toBitVec &&& (Int32.ofInt ((2 ^ n - 1 : Nat) : Int)).toBitVec).toInt = _
  have e : ((Int32.ofInt x).toBitVec &&& (Int32.ofInt ((2 ^ n - 1 : Nat) : Int)).toBitVec).toNat = (x % 4294967296).toNat % 2 ^ n := by
    rw [BitVec.toNat_and, tn_32, tn_32]
    rw [show (((2 ^ n - 1 : Nat) : Int) % 4294967296).toNat = 2 ^ n - 1 by
      have : (((2 ^ n - 1 : Nat) : Int)) % 4294967296 = ((2 ^ n - 1 : Nat) : Int) := Int.emod_eq_of_lt (by omega) (by omega)
      rw [this]; rfl]
    exact Nat.and_two_pow_sub_one_eq_mod _ n
  rw [ti_32 (by rw [e]; exact Nat.lt_of_lt_of_le (Nat.mod_lt _ hp0) (by omega)), e]
  rw [Int.natCast_emod, Int.toNat_of_nonneg (Int.emod_nonneg _ (by decide))]
  refine Int.emod_emod_of_dvd x ?_
  have : ((2 ^ n : Nat) : Int) ∣ ((2 ^ 32 : Nat) : Int) := Int.natCast_dvd_natCast.mpr (Nat.pow_dvd_pow 2 (by omega))
  exact this
theorem aandl_mask (x : Int) : aandl x 2147483647 = x % 2147483648 := by
  unfold aandl
  show ((Int64.ofInt x).toBitVec &&& (Int64.ofInt 2147483647).toBitVec).toInt = _
  have e : ((Int64.ofInt x).toBitVec &&& (Int64.ofInt 2147483647).toBitVec).toNat = (x % 18446744073709551616).toNat % 2 ^ 31 := by
    rw [BitVec.toNat_and, tn_64, show (Int64.ofInt 2147483647).toBitVec.toNat = 2 ^ 31 - 1 by decide +kernel]
    exact Nat.and_two_pow_sub_one_eq_mod _ 31
  rw [ti_64 (by rw [e]; have := Nat.mod_lt (x % 18446744073709551616).toNat (show 0 < 2 ^ 31 by decide); omega), e]
  omega
theorem aand_1 (x : Int) : aand x 1 = x % 2 := aand_mask x 1 (by decide) rfl
theorem aand_7 (x : Int) : aand x 7 = x % 8 := aand_mask x 3 (by decide) rfl
theorem aand_32767 (x : Int) : aand x 32767 = x % 32768 := aand_mask x 15 (by decide) rfl
def p2 (k : Int) : Int := ((2 ^ k.toNat : Nat) : Int)
theorem p2_pos (k : Int) : 1 ≤ p2 k := by have := Nat.two_pow_pos k.toNat; unfold p2; omega
theorem ashl_N : ∀ k : Nat, k < 31 → ashl 1 (k : Int) = ((2 ^ k : Nat) : Int) := by decide +kernel
theorem ashl_1 {k : Int} (h0 : 0 ≤ k) (h1 : k ≤ 30) : ashl 1 k = p2 k := by
  obtain ⟨n, rfl⟩ := Int.eq_ofNat_of_zero_le h0
  exact ashl_N n (by omega)
theorem p2_le {k : Int} (h0 : 0 ≤ k) (h1 : k ≤ 30) : p2 k ≤ 1073741824 := by
  unfold p2
  have : 2 ^ k.toNat ≤ 2 ^ 30 := Nat.pow_le_pow_right (by decide) (by omega)
  omega
theorem p2_0 : p2 0 = 1 := rfl
theorem p2_1 : p2 1 = 2 := rfl
theorem p2_2 : p2 2 = 4 := rfl
theorem p2_3 : p2 3 = 8 := rfl
theorem p2_4 : p2 4 = 16 := rfl
theorem p2_s {k : Int} (h : 0 ≤ k) : p2 (k + 1) = 2 * p2 k := by
  unfold p2
  rw [show (k + 1).toNat = k.toNat + 1 by omega, Nat.pow_succ]
  omega
theorem ashr_p {x k : Int} (hx : -2147483648 ≤ x) (hx2 : x ≤ 2147483647) (h0 : 0 ≤ k) (h1 : k ≤ 31) : ashr x k = x / p2 k := by
  obtain ⟨n, rfl⟩ := Int.eq_ofNat_of_zero_le h0
  exact ashr_N ⟨hx, by omega⟩ n (by omega)
theorem ashrl_p {x k : Int} (hx : -9223372036854775808 ≤ x) (hx2 : x ≤ 9223372036854775807) (h0 : 0 ≤ k) (h1 : k ≤ 63) : ashrl x k = x / p2 k := by
  obtain ⟨n, rfl⟩ := Int.eq_ofNat_of_zero_le h0
  exact ashrl_N ⟨hx, by omega⟩ n (by omega)
theorem ashll_p {x k : Int} (hx : 0 ≤ x) (h0 : 0 ≤ k) (h1 : k ≤ 63) (h2 : x * p2 k ≤ 9223372036854775807) : ashll x k = x * p2 k := by
  obtain ⟨n, rfl⟩ := Int.eq_ofNat_of_zero_le h0
  obtain ⟨m, rfl⟩ := Int.eq_ofNat_of_zero_le hx
  have hp := p2_pos ((n : Nat) : Int)
  have hm : (m : Int) ≤ 9223372036854775807 := Int.le_trans (by have := Int.mul_le_mul_of_nonneg_left hp hx; omega) h2
  unfold ashll
  show ((Int64.ofInt (m : Int)).toBitVec <<< (((Int32.ofInt (n : Int)).toInt64 &&& 63).toBitVec.smod 64)).toInt = _
  have hs := sh_64 n (by omega)
  have h3 : m * 2 ^ n ≤ 9223372036854775807 := by
    unfold p2 at h2; rw [Int.toNat_natCast, ← Int.natCast_mul] at h2
    exact Int.ofNat_le.mp (show ((m * 2 ^ n : Nat) : Int) ≤ ((9223372036854775807 : Nat) : Int) from h2)
  have e : ((Int64.ofInt (m : Int)).toBitVec <<< (((Int32.ofInt (n : Int)).toInt64 &&& 63).toBitVec.smod 64)).toNat = m * 2 ^ n := by
    rw [BitVec.shiftLeft_eq', hs, BitVec.toNat_shiftLeft, tn_64, Nat.shiftLeft_eq, Int.emod_eq_of_lt (by omega) (by omega), Int.toNat_natCast, Nat.mod_eq_of_lt (by omega)]
  rw [ti_64 (by rw [e]; omega), e]
  unfold p2; rw [Int.toNat_natCast]; rfl
theorem ashl_p {x k : Int} (hx : 0 ≤ x) (h0 : 0 ≤ k) (h1 : k ≤ 31) (h2 : x * p2 k ≤ 2147483647) : ashl x k = x * p2 k := by
  obtain ⟨n, rfl⟩ := Int.eq_ofNat_of_zero_le h0
  obtain ⟨m, rfl⟩ := Int.eq_ofNat_of_zero_le hx
  have hp := p2_pos ((n : Nat) : Int)
  have hm : (m : Int) ≤ 2147483647 := Int.le_trans (by have := Int.mul_le_mul_of_nonneg_left hp hx; omega) h2
  unfold ashl
  show ((Int32.ofInt (m : Int)).toBitVec <<< ((Int32.ofInt (n : Int) &&& 31).toBitVec.smod 32)).toInt = _
  have hs := sh_32 n (by omega)
  have h3 : m * 2 ^ n ≤ 2147483647 := by
    unfold p2 at h2; rw [Int.toNat_natCast, ← Int.natCast_mul] at h2
    exact Int.ofNat_le.mp (show ((m * 2 ^ n : Nat) : Int) ≤ ((2147483647 : Nat) : Int) from h2)
  have e : ((Int32.ofInt (m : Int)).toBitVec <<< ((Int32.ofInt (n : Int) &&& 31).toBitVec.smod 32)).toNat = m * 2 ^ n := by
    rw [BitVec.shiftLeft_eq', hs, BitVec.toNat_shiftLeft, tn_32, Nat.shiftLeft_eq, Int.emod_eq_of_lt (by omega) (by omega), Int.toNat_natCast, Nat.mod_eq_of_lt (by omega)]
  rw [ti_32 (by rw [e]; omega), e]
  unfold p2; rw [Int.toNat_natCast]; rfl
/-- bit k of x -/
def bI (x k : Int) : Int := x / p2 k % 2
theorem bI_01 (x k : Int) : 0 ≤ bI x k ∧ bI x k ≤ 1 := by unfold bI; omega
theorem bI_T {n k : Nat} : bI (n : Int) (k : Int) = if n.testBit k = true then 1 else 0 := by
  unfold bI p2
  rw [Int.toNat_natCast, Nat.testBit_eq_decide_div_mod_eq]
  have e : (n : Int) / ((2 ^ k : Nat) : Int) % 2 = ((n / 2 ^ k % 2 : Nat) : Int) := by rw [Int.natCast_emod, Int.natCast_ediv]; rfl
  rw [e]
  by_cases h : n / 2 ^ k % 2 = 1
  · rw [h]; rfl
  · have h2 : n / 2 ^ k % 2 = 0 := by omega
    rw [h2]; rfl
theorem bI_shr {x k : Int} (hx : 0 ≤ x) (hx2 : x ≤ 2147483647) (h0 : 0 ≤ k) (h1 : k ≤ 31) : aand (ashr x k) 1 = bI x k := by
  rw [aand_1, ashr_p (by omega) hx2 h0 h1]; rfl
theorem nat_and_p2 (m n : Nat) : m &&& 2 ^ n = if m.testBit n = true then 2 ^ n else 0 := by
  apply Nat.eq_of_testBit_eq
  intro i
  rw [Nat.testBit_and, Nat.testBit_two_pow]
  by_cases h : m.testBit n = true
  · rw [if_pos h, Nat.testBit_two_pow]
    by_cases e : n = i
    · subst e; simp [h]
    · simp [e]
  · rw [if_neg h]
    by_cases e : n = i
    · subst e; simp [h]
    · simp [e]
theorem bI_and2 {x k : Int} (hx : 0 ≤ x) (hx2 : x ≤ 2147483647) (h0 : 0 ≤ k) (h1 : k ≤ 30) : aand x (ashl 1 k) = bI x k * p2 k := by
  have hp := p2_le h0 h1
  have hq := p2_pos k
  rw [ashl_1 h0 h1, aand_N hx hx2 (by omega) (by omega)]
  obtain ⟨n, rfl⟩ := Int.eq_ofNat_of_zero_le h0
  obtain ⟨m, rfl⟩ := Int.eq_ofNat_of_zero_le hx
  rw [bI_T, show (p2 ((n : Nat) : Int)).toNat = 2 ^ n by unfold p2; rw [Int.toNat_natCast, Int.toNat_natCast], Int.toNat_natCast, nat_and_p2]
  unfold p2; rw [Int.toNat_natCast]
  by_cases h : m.testBit n = true
  · rw [h]; simp
  · rw [Bool.not_eq_true] at h; rw [h]; simp
theorem bI_z {x k : Int} (hx : 0 ≤ x) (hx2 : x ≤ 2147483647) (h0 : 0 ≤ k) (h1 : k ≤ 30) : aand x (ashl 1 k) = 0 ↔ bI x k = 0 := by
  rw [bI_and2 hx hx2 h0 h1]
  have := p2_pos k
  have := bI_01 x k
  rcases (show bI x k = 0 ∨ bI x k = 1 by omega) with h | h <;> rw [h] <;> omega
theorem bI_or {x k j : Int} (hx : 0 ≤ x) (hx2 : x ≤ 2147483647) (h0 : 0 ≤ k) (h1 : k ≤ 30) (hj : 0 ≤ j) : bI (aor x (ashl 1 k)) j = if j = k then 1 else bI x j := by
  have hp := p2_le h0 h1
  have hq := p2_pos k
  rw [ashl_1 h0 h1, aor_N hx hx2 (by omega) (by omega)]
  obtain ⟨n, rfl⟩ := Int.eq_ofNat_of_zero_le h0
  obtain ⟨m, rfl⟩ := Int.eq_ofNat_of_zero_le hx
  obtain ⟨i, rfl⟩ := Int.eq_ofNat_of_zero_le hj
  rw [bI_T, bI_T, show (p2 ((n : Nat) : Int)).toNat = 2 ^ n by unfold p2; rw [Int.toNat_natCast, Int.toNat_natCast], Int.toNat_natCast, Nat.testBit_or, Nat.testBit_two_pow]
  by_cases h : n = i
  · subst h; simp
  · have h2 : ¬ ((i : Int) = (n : Int)) := by omega
    simp [h, h2]
theorem aor_bd {x k : Int} {b : Nat} (hx : 0 ≤ x) (hx2 : x < p2 b) (h0 : 0 ≤ k) (hk : k < b) (hb : b ≤ 31) : 0 ≤ aor x (ashl 1 k) ∧ aor x (ashl 1 k) < p2 b := by
  have hp := p2_le h0 (by omega)
  have hq := p2_pos k
  have e1 : p2 ((b : Nat) : Int) = ((2 ^ b : Nat) : Int) := by unfold p2; rw [Int.toNat_natCast]
  have e2 : 2 ^ b ≤ 2 ^ 31 := Nat.pow_le_pow_right (by decide) hb
  rw [e1] at hx2 ⊢
  rw [ashl_1 h0 (by omega), aor_N hx (by omega) (by omega) (by omega)]
  refine ⟨by omega, ?_⟩
  have : x.toNat ||| (p2 k).toNat < 2 ^ b := Nat.or_lt_two_pow (by omega) (by
    have : (p2 k).toNat = 2 ^ k.toNat := by unfold p2; rw [Int.toNat_natCast]
    rw [this]; exact Nat.pow_lt_pow_right (by decide) (by omega))
  omega
theorem bI_xor {x k j : Int} (hx : 0 ≤ x) (hx2 : x ≤ 2147483647) (h0 : 0 ≤ k) (h1 : k ≤ 30) (hj : 0 ≤ j) : bI (axor x (ashl 1 k)) j = if j = k then 1 - bI x j else bI x j := by
  have hp := p2_le h0 h1
  have hq := p2_pos k
  rw [ashl_1 h0 h1, axor_N hx hx2 (by omega) (by omega)]
  obtain ⟨n, rfl⟩ := Int.eq_ofNat_of_zero_le h0
  obtain ⟨m, rfl⟩ := Int.eq_ofNat_of_zero_le hx
  obtain ⟨i, rfl⟩ := Int.eq_ofNat_of_zero_le hj
  rw [bI_T, bI_T, show (p2 ((n : Nat) : Int)).toNat = 2 ^ n by unfold p2; rw [Int.toNat_natCast, Int.toNat_natCast], Int.toNat_natCast, Nat.testBit_xor, Nat.testBit_two_pow]
  by_cases h : n = i
  · subst h
    cases m.testBit n <;> simp
  · have h2 : ¬ ((i : Int) = (n : Int)) := by omega
    simp [h, h2]
theorem bI_and {a b j : Int} (ha : 0 ≤ a) (ha2 : a ≤ 2147483647) (hb : 0 ≤ b) (hb2 : b ≤ 2147483647) (hj : 0 ≤ j) : bI (aand a b) j = bI a j * bI b j := by
  rw [aand_N ha ha2 hb hb2]
  obtain ⟨n, rfl⟩ := Int.eq_ofNat_of_zero_le ha
  obtain ⟨m, rfl⟩ := Int.eq_ofNat_of_zero_le hb
  obtain ⟨i, rfl⟩ := Int.eq_ofNat_of_zero_le hj
  rw [bI_T, bI_T, bI_T, Int.toNat_natCast, Int.toNat_natCast, Nat.testBit_and]
  cases n.testBit i <;> cases m.testBit i <;> simp
theorem aand_bd {a b : Int} (ha : 0 ≤ a) (ha2 : a ≤ 2147483647) (hb : 0 ≤ b) (hb2 : b ≤ 2147483647) : 0 ≤ aand a b ∧ aand a b ≤ a := by
  rw [aand_N ha ha2 hb hb2]
  have := Nat.and_le_left (n := a.toNat) (m := b.toNat)
  omega
/-- a number below 32 out of its bits -/
theorem bI_5 {x : Int} (h0 : 0 ≤ x) (h1 : x < 32) : x = bI x 0 + 2 * bI x 1 + 4 * bI x 2 + 8 * bI x 3 + 16 * bI x 4 := by
  unfold bI; rw [p2_0, p2_1, p2_2, p2_3, p2_4]; omega
