/-! a text fed: twenty letters at a time, four a word -/
def orS (w : Int32) (c s : Nat) : Int32 := w ||| (nI c <<< (nI s &&& 31))
def wd (c0 c1 c2 c3 : Nat) : Int32 := orS (orS (orS (orS 0 c0 24) c1 16) c2 8) c3 0
theorem smF : ∀ s : Fin 32, ((nI s.val &&& 31).toBitVec.smod 32).toNat = s.val := by decide +kernel
theorem orS_n {a c s p : Nat} (hs : s < 32) (hp : 2 ^ s = p) (hc : c * p < 2 ^ 31) : orS (nI a) c s = nI (a ||| c * p) := by
  unfold orS
  rw [pk_shlN (nI s &&& 31) s (smF ⟨s, hs⟩) (by rw [hp]; omega), hp]
  apply Int32.toBitVec_inj.mp
  show (nI a).toBitVec ||| (nI (c * p)).toBitVec = (nI (a ||| c * p)).toBitVec
  have e : ∀ n : Nat, (nI n).toBitVec = BitVec.ofNat 32 n := fun n => rfl
  rw [e, e, e]
  apply BitVec.eq_of_toNat_eq
  simp [Nat.or_mod_two_pow]
theorem or_sum {a b k : Nat} (h : b < 2 ^ k) : a * 2 ^ k ||| b = a * 2 ^ k + b := by
  rw [← Nat.shiftLeft_eq, Nat.shiftLeft_add_eq_or_of_lt h]
theorem wd_n {c0 c1 c2 c3 : Nat} (h0 : c0 < 128) (h1 : c1 < 128) (h2 : c2 < 128) (h3 : c3 < 128) : wd c0 c1 c2 c3 = nI (c0 * 16777216 + c1 * 65536 + c2 * 256 + c3) := by
  unfold wd
  rw [show (0 : Int32) = nI 0 from rfl, orS_n (p := 16777216) (by decide) (by decide) (by omega), orS_n (p := 65536) (by decide) (by decide) (by omega), orS_n (p := 256) (by decide) (by decide) (by omega), orS_n (p := 1) (by decide) (by decide) (by omega), Nat.zero_or]
  have a1 := or_sum (a := c0) (b := c1 * 65536) (k := 24) (by omega)
  have a2 := or_sum (a := c0 * 256 + c1) (b := c2 * 256) (k := 16) (by omega)
  have a3 := or_sum (a := c0 * 65536 + c1 * 256 + c2) (b := c3) (k := 8) (by omega)
  rw [show c0 * 16777216 = c0 * 2 ^ 24 by omega, a1, show c0 * 2 ^ 24 + c1 * 65536 = (c0 * 256 + c1) * 2 ^ 16 by omega, a2, show (c0 * 256 + c1) * 2 ^ 16 + c2 * 256 = (c0 * 65536 + c1 * 256 + c2) * 2 ^ 8 by omega, Nat.mul_one, a3, show (c0 * 65536 + c1 * 256 + c2) * 2 ^ 8 + c3 = c0 * 16777216 + c1 * 65536 + c2 * 256 + c3 by omega]
theorem byt_n {N k p : Nat} (hN : N < 2 ^ 31) (hk : k < 32) (hp : 2 ^ k = p) : byt (N : Int) (k : Int) = ((N / p % 256 : Nat) : Int) := by
  unfold byt
  rw [ashr_N ⟨by omega, by omega⟩ k hk, aand_mask _ 8 (by decide) (show (255 : Int) = _ from rfl), hp]
  omega
def chs (t : Nat → Nat) (L j : Nat) : Nat := if j < L then t j else 32
theorem chs_bd {t : Nat → Nat} {L : Nat} (h : ∀ j, j < L → t j < 128) (j : Nat) : chs t L j < 128 := by
  unfold chs
  split
  · exact h j (by assumption)
  · omega
def fdw (t : Nat → Nat) (L k q : Nat) : Int32 := wd (chs t L (k + 4 * q)) (chs t L (k + 4 * q + 1)) (chs t L (k + 4 * q + 2)) (chs t L (k + 4 * q + 3))
theorem fdw_b {t : Nat → Nat} {L : Nat} (h : ∀ j, j < L → t j < 128) (k q r : Nat) (hr : r < 4) : byt (fdw t L k q).toInt (24 - 8 * (r : Int)) = (chs t L (k + 4 * q + r) : Int) := by
  have b := fun i => chs_bd h (k + 4 * q + i)
  have b0 := b 0
  have b1 := b 1
  have b2 := b 2
  have b3 := b 3
  rw [Nat.add_zero] at b0
  unfold fdw
  rw [wd_n b0 b1 b2 b3, nI_toInt (by omega)]
  rcases (show r = 0 ∨ r = 1 ∨ r = 2 ∨ r = 3 by omega) with rfl | rfl | rfl | rfl
  · rw [show (24 : Int) - 8 * ((0 : Nat) : Int) = ((24 : Nat) : Int) by omega, byt_n (p := 16777216) (by omega) (by decide) (by decide), show k + 4 * q + 0 = k + 4 * q from rfl]; omega
  · rw [show (24 : Int) - 8 * ((1 : Nat) : Int) = ((16 : Nat) : Int) by omega, byt_n (p := 65536) (by omega) (by decide) (by decide)]; omega
  · rw [show (24 : Int) - 8 * ((2 : Nat) : Int) = ((8 : Nat) : Int) by omega, byt_n (p := 256) (by omega) (by decide) (by decide)]; omega
  · rw [show (24 : Int) - 8 * ((3 : Nat) : Int) = ((0 : Nat) : Int) by omega, byt_n (p := 1) (by omega) (by decide) (by decide)]; omega
/-- the feeds, from letter k on -/
def FD (t : Nat → Nat) (L : Nat) : Nat → Nat → aS → aS → Prop
  | 0, k, σ, υ => L ≤ k ∧ υ = σ
  | n + 1, k, σ, υ => k < L ∧ ∃ r τ, c11_feed 1 (fdw t L k 0).toInt (fdw t L k 1).toInt (fdw t L k 2).toInt (fdw t L k 3).toInt (fdw t L k 4).toInt σ = some (0, [r], τ) ∧ (0 ≤ r ∧ r ≤ 800) ∧ τ.2.2 = σ.2.2 ∧ FD t L n (k + 20) τ υ
theorem fdb_n {t : Nat → Nat} {L : Nat} (h : ∀ j, j < L → t j < 128) (k i : Nat) (hi : i < 20) : fdb (fdw t L k 0).toInt (fdw t L k 1).toInt (fdw t L k 2).toInt (fdw t L k 3).toInt (fdw t L k 4).toInt (i : Int) = (chs t L (k + i) : Int) := by
  have e := fun q => fdw_b h k q (i % 4) (by omega)
  unfold fdb
  rw [show ((i : Int) % 4) = ((i % 4 : Nat) : Int) by omega]
  by_cases c1 : i < 4
  · rw [if_pos (by omega), e 0, show k + 4 * 0 + i % 4 = k + i by omega]
  by_cases c2 : i < 8
  · rw [if_neg (by omega), if_pos (by omega), e 1, show k + 4 * 1 + i % 4 = k + i by omega]
  by_cases c3 : i < 12
  · rw [if_neg (by omega), if_neg (by omega), if_pos (by omega), e 2, show k + 4 * 2 + i % 4 = k + i by omega]
  by_cases c4 : i < 16
  · rw [if_neg (by omega), if_neg (by omega), if_neg (by omega), if_pos (by omega), e 3, show k + 4 * 3 + i % 4 = k + i by omega]
  · rw [if_neg (by omega), if_neg (by omega), if_neg (by omega), if_neg (by omega), e 4, show k + 4 * 4 + i % 4 = k + i by omega]
theorem FD_ok {t : Nat → Nat} {L : Nat} (ht : ∀ j, j < L → t j < 128) (hL : L ≤ 300) {T : aH} {S : aSS} : ∀ (n k : Nat) (σ : aS) (bt : Int → Int), L ≤ k + 20 * n → (n = 0 ∨ k + 20 * (n - 1) < L) → CSt T S σ → TPc bt k σ → (∀ j : Nat, j < k → j < L → bt j = t j) →
    ∃ υ bt' M, FD t L n k σ υ ∧ CSt T S υ ∧ TPc bt' M υ ∧ (L : Int) ≤ M ∧ (∀ j : Nat, j < L → bt' j = t j) ∧ SK σ υ := by
  intro n
  induction n with
  | zero =>
    intro k σ bt h1 h2 hC hT hb
    exact ⟨σ, bt, k, ⟨by omega, rfl⟩, hC, hT, by omega, fun j hj => hb j (by omega) hj, rfl, rfl⟩
  | succ n ih =>
    intro k σ bt h1 h2 hC hT hb
    have hLR : LR σ := by obtain ⟨pl, a, -⟩ := hC; exact a.1
    obtain ⟨τ, e, hF, hT2⟩ := c11_feed_ok hLR hT (fdw t L k 0).toInt (fdw t L k 1).toInt (fdw t L k 2).toInt (fdw t L k 3).toInt (fdw t L k 4).toInt
    rw [if_neg (by omega)] at e
    rw [if_neg (by omega), if_neg (by omega)] at hT2
    have C1 : CSt T S τ := hC.tt hF (fun x j q => by unfold wtp at q; unfold wtt; omega)
    obtain ⟨υ, bt', M, a1, a2, a3, a4, a5, a6⟩ := ih (k + 20) τ (fdN bt k (fdw t L k 0).toInt (fdw t L k 1).toInt (fdw t L k 2).toInt (fdw t L k 3).toInt (fdw t L k 4).toInt) (by omega) (by omega) C1 (by rw [show (((k + 20 : Nat)) : Int) = (k : Int) + 20 by omega]; exact hT2) (fun j j0 j1 => by
      unfold fdN
      by_cases q : j < k
      · rw [if_pos (by omega)]; exact hb j q j1
      · rw [if_neg (by omega), show (j : Int) - (k : Int) = ((j - k : Nat) : Int) by omega, fdb_n ht k (j - k) (by omega), show k + (j - k) = j by omega]
        unfold chs
        rw [if_pos j1])
    refine ⟨υ, bt', M, ⟨by omega, _, τ, e, ⟨by omega, by omega⟩, hF.2.1, a1⟩, a2, a3, a4, a5, ?_⟩
    exact ⟨a6.1.trans hF.1, a6.2.trans hF.2.1⟩
theorem Sfx_of {t : Nat → Nat} {s : List Int} {bt : Int → Int} (h : ∀ (i : Nat) (v : Int), s[i]? = some v → (t i : Int) = v) (hb : ∀ j : Nat, j < s.length → bt j = t j) : Sfx bt (s.length : Int) 0 s := by
  refine ⟨Int.le_refl _, by omega, fun i v hv => ?_⟩
  rw [Int.zero_add, hb i (List.getElem?_eq_some_iff.mp hv).1]
  exact h i v hv
