/-! the machine's numbers as whole numbers -/
def ar32 (x : Int) : Prop := -2147483648 ≤ x ∧ x < 2147483648
def ar64 (x : Int) : Prop := -9223372036854775808 ≤ x ∧ x < 9223372036854775808
theorem w32_eq (x : Int) : w32 x = (Int32.ofInt x).toInt := by
  rw [Int32.toInt_ofInt]; unfold w32; simp only [Int.bmod, Int32.size]; split <;> omega
theorem w64_eq (x : Int) : w64 x = (Int64.ofInt x).toInt := by
  rw [Int64.toInt_ofInt]; unfold w64; simp only [Int.bmod, Int64.size]; split <;> omega
theorem ofInt_w32 (x : Int) : Int32.ofInt (w32 x) = Int32.ofInt x := by rw [w32_eq, Int32.ofInt_toInt]
theorem ofInt_w64 (x : Int) : Int64.ofInt (w64 x) = Int64.ofInt x := by rw [w64_eq, Int64.ofInt_toInt]
theorem ar32_w (x : Int) : ar32 (w32 x) := by unfold ar32 w32; omega
theorem ar64_w (x : Int) : ar64 (w64 x) := by unfold ar64 w64; omega
theorem w32_id {x : Int} (h : ar32 x) : w32 x = x := by unfold ar32 at h; unfold w32; omega
theorem w64_id {x : Int} (h : ar64 x) : w64 x = x := by unfold ar64 at h; unfold w64; omega
theorem ar32_t (x : Int32) : ar32 x.toInt := ⟨by have := Int32.le_toInt x; omega, by have := Int32.toInt_lt x; omega⟩
theorem ar64_t (x : Int64) : ar64 x.toInt := ⟨by have := Int64.le_toInt x; omega, by have := Int64.toInt_lt x; omega⟩
theorem t32 {x : Int} (h : ar32 x) : (Int32.ofInt x).toInt = x := by rw [← w32_eq, w32_id h]
theorem t64 {x : Int} (h : ar64 x) : (Int64.ofInt x).toInt = x := by rw [← w64_eq, w64_id h]
theorem n_add (a b : Int) : Int32.ofInt (w32 (a + b)) = Int32.ofInt a + Int32.ofInt b := by rw [ofInt_w32, Int32.ofInt_add]
theorem n_sub (a b : Int) : Int32.ofInt (w32 (a - b)) = Int32.ofInt a - Int32.ofInt b := by rw [ofInt_w32, Int32.ofInt_sub]
theorem n_mul (a b : Int) : Int32.ofInt (w32 (a * b)) = Int32.ofInt a * Int32.ofInt b := by rw [ofInt_w32, Int32.ofInt_mul]
theorem n_neg (a : Int) : Int32.ofInt (w32 (-a)) = -Int32.ofInt a := by rw [ofInt_w32, Int32.ofInt_neg]
theorem n_div {a b : Int} (ha : ar32 a) (hb : ar32 b) : Int32.ofInt (w32 (a.tdiv b)) = Int32.ofInt a / Int32.ofInt b := by
  apply Int32.toInt_inj.mp
  rw [Int32.toInt_div, t32 ha, t32 hb, ofInt_w32, Int32.toInt_ofInt]
theorem n_rem {a b : Int} (ha : ar32 a) (hb : ar32 b) : Int32.ofInt (a.tmod b) = Int32.ofInt a - Int32.ofInt a / Int32.ofInt b * Int32.ofInt b := by
  rw [irem_eq_mod]
  apply Int32.toInt_inj.mp
  rw [Int32.toInt_mod, t32 ha, t32 hb, t32]
  have h := Int32.toInt_mod (Int32.ofInt a) (Int32.ofInt b)
  rw [t32 ha, t32 hb] at h
  rw [← h]; exact ar32_t _
theorem ar32_rem {a b : Int} (ha : ar32 a) (hb : ar32 b) : ar32 (a.tmod b) := by
  have h := Int32.toInt_mod (Int32.ofInt a) (Int32.ofInt b)
  rw [t32 ha, t32 hb] at h
  rw [← h]; exact ar32_t _
theorem m_add (a b : Int) : Int64.ofInt (w64 (a + b)) = Int64.ofInt a + Int64.ofInt b := by rw [ofInt_w64, Int64.ofInt_add]
theorem m_sub (a b : Int) : Int64.ofInt (w64 (a - b)) = Int64.ofInt a - Int64.ofInt b := by rw [ofInt_w64, Int64.ofInt_sub]
theorem m_mul (a b : Int) : Int64.ofInt (w64 (a * b)) = Int64.ofInt a * Int64.ofInt b := by rw [ofInt_w64, Int64.ofInt_mul]
theorem m_neg (a : Int) : Int64.ofInt (w64 (-a)) = -Int64.ofInt a := by rw [ofInt_w64, Int64.ofInt_neg]
theorem m_div {a b : Int} (ha : ar64 a) (hb : ar64 b) : Int64.ofInt (w64 (a.tdiv b)) = Int64.ofInt a / Int64.ofInt b := by
  apply Int64.toInt_inj.mp
  rw [Int64.toInt_div, t64 ha, t64 hb, ofInt_w64, Int64.toInt_ofInt]
theorem ar64_rem {a b : Int} (ha : ar64 a) (hb : ar64 b) : ar64 (a.tmod b) := by
  have h := Int64.toInt_mod (Int64.ofInt a) (Int64.ofInt b)
  rw [t64 ha, t64 hb] at h
  rw [← h]; exact ar64_t _
theorem m_rem {a b : Int} (ha : ar64 a) (hb : ar64 b) : Int64.ofInt (a.tmod b) = Int64.ofInt a - Int64.ofInt a / Int64.ofInt b * Int64.ofInt b := by
  rw [← ofInt_w64, show w64 (a.tmod b) = w64 (a - w64 (w64 (a.tdiv b) * b)) from ?_, ofInt_w64, Int64.ofInt_sub, m_mul, m_div ha hb]
  have e : a.tmod b = a - a.tdiv b * b := by rw [Int.mul_comm]; have := Int.mul_tdiv_add_tmod a b; omega
  rw [e]
  have h1 : Int64.ofInt (a - a.tdiv b * b) = Int64.ofInt (a - w64 (w64 (a.tdiv b) * b)) := by
    rw [Int64.ofInt_sub, Int64.ofInt_sub, ofInt_w64, Int64.ofInt_mul, Int64.ofInt_mul, ofInt_w64]
  rw [w64_eq, w64_eq, h1]
theorem n_and (a b : Int) : Int32.ofInt (aand a b) = Int32.ofInt a &&& Int32.ofInt b := Int32.ofInt_toInt _
theorem n_or (a b : Int) : Int32.ofInt (aor a b) = Int32.ofInt a ||| Int32.ofInt b := Int32.ofInt_toInt _
theorem n_xor (a b : Int) : Int32.ofInt (axor a b) = Int32.ofInt a ^^^ Int32.ofInt b := Int32.ofInt_toInt _
theorem n_shl (a b : Int) : Int32.ofInt (ashl a b) = Int32.ofInt a <<< (Int32.ofInt b &&& 31) := Int32.ofInt_toInt _
theorem n_shr (a b : Int) : Int32.ofInt (ashr a b) = Int32.ofInt a >>> (Int32.ofInt b &&& 31) := Int32.ofInt_toInt _
theorem m_and (a b : Int) : Int64.ofInt (aandl a b) = Int64.ofInt a &&& Int64.ofInt b := Int64.ofInt_toInt _
theorem m_shl (a b : Int) : Int64.ofInt (ashll a b) = Int64.ofInt a <<< ((Int32.ofInt b).toInt64 &&& 63) := Int64.ofInt_toInt _
theorem m_shr (a b : Int) : Int64.ofInt (ashrl a b) = Int64.ofInt a >>> ((Int32.ofInt b).toInt64 &&& 63) := Int64.ofInt_toInt _
theorem n_zero {a : Int} (ha : ar32 a) : Int32.ofInt a = 0 ↔ a = 0 := by
  rw [← Int32.toInt_inj, t32 ha, Int32.toInt_zero]
theorem m_zero {a : Int} (ha : ar64 a) : Int64.ofInt a = 0 ↔ a = 0 := by
  rw [← Int64.toInt_inj, t64 ha, Int64.toInt_zero]
theorem n_eq {a b : Int} (ha : ar32 a) (hb : ar32 b) : Int32.ofInt a = Int32.ofInt b ↔ a = b := by
  rw [← Int32.toInt_inj, t32 ha, t32 hb]
theorem n_lt {a b : Int} (ha : ar32 a) (hb : ar32 b) : Int32.ofInt a < Int32.ofInt b ↔ a < b := by
  rw [Int32.lt_iff_toInt_lt, t32 ha, t32 hb]
theorem n_le {a b : Int} (ha : ar32 a) (hb : ar32 b) : Int32.ofInt a ≤ Int32.ofInt b ↔ a ≤ b := by
  rw [Int32.le_iff_toInt_le, t32 ha, t32 hb]
theorem n_lt0 {a : Int} (ha : ar32 a) : Int32.ofInt a < 0 ↔ a < 0 := by
  rw [Int32.lt_iff_toInt_lt, t32 ha, Int32.toInt_zero]
theorem n_0lt {a : Int} (ha : ar32 a) : 0 < Int32.ofInt a ↔ 0 < a := by
  rw [Int32.lt_iff_toInt_lt, t32 ha, Int32.toInt_zero]
theorem n_le0 {a : Int} (ha : ar32 a) : Int32.ofInt a ≤ 0 ↔ a ≤ 0 := by
  rw [Int32.le_iff_toInt_le, t32 ha, Int32.toInt_zero]
theorem n_0le {a : Int} (ha : ar32 a) : 0 ≤ Int32.ofInt a ↔ 0 ≤ a := by
  rw [Int32.le_iff_toInt_le, t32 ha, Int32.toInt_zero]
theorem m_cmp {a b : Int} (ha : ar64 a) (hb : ar64 b) : lg_cmp (Int64.ofInt a) (Int64.ofInt b) = Int32.ofInt (acmp a b) := by
  unfold lg_cmp acmp
  have h1 : Int64.ofInt a > Int64.ofInt b ↔ b < a := by
    show Int64.ofInt b < Int64.ofInt a ↔ _
    rw [Int64.lt_iff_toInt_lt, t64 ha, t64 hb]
  have h2 : Int64.ofInt a = Int64.ofInt b ↔ a = b := by rw [← Int64.toInt_inj, t64 ha, t64 hb]
  by_cases c1 : b < a
  · rw [if_pos (h1.mpr c1), if_pos c1]; rfl
  · rw [if_neg (fun h => c1 (h1.mp h)), if_neg c1]
    by_cases c2 : a = b
    · rw [if_pos (h2.mpr c2), if_pos c2]; rfl
    · rw [if_neg (fun h => c2 (h2.mp h)), if_neg c2]; rfl
theorem ar32_cmp (a b : Int) : ar32 (acmp a b) := by unfold acmp ar32; repeat (first | omega | split)
theorem n_nat {a : Int} (h0 : 0 ≤ a) (h : ar32 a) : (Int32.ofInt a).toNatClampNeg = a.toNat := by
  show (Int32.ofInt a).toInt.toNat = a.toNat
  rw [t32 h]
theorem n_i2l (a : Int) (h : ar32 a) : (Int32.ofInt a).toInt64 = Int64.ofInt a := by
  apply Int64.toInt_inj.mp
  rw [Int32.toInt_toInt64, t32 h, t64]
  unfold ar32 at h; unfold ar64; omega
theorem n_l2i (a : Int) : (Int64.ofInt a).toInt32 = Int32.ofInt (w32 a) := by rw [Int64.toInt32_ofInt, ofInt_w32]
theorem ar64_of {a : Int} (h : ar32 a) : ar64 a := by unfold ar32 at h; unfold ar64; omega
