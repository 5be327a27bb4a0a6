/-! two sorts that dislike each other; the best split -/
def A5 (T : aH) (n m l : Int) : Prop := (T 0 0 = 0 ∧ T 0 1 = 2 ∧ T 0 2 = 2) ∧ (T 2 0 = n ∧ T 2 2 = 0 ∧ T 2 3 = 0 ∧ T 2 4 = m ∧ T 2 6 = 0 ∧ T 2 7 = 0) ∧ (T 4 0 = 0 ∧ T 4 1 = -l ∧ T 4 5 = -l ∧ T 4 6 = 0) ∧ (T 8 0 = 0 ∧ T 8 1 = 0 ∧ T 9 0 = 0 ∧ T 10 0 = 1 ∧ T 9 1 = 1 ∧ T 10 1 = 2) ∧ (1 ≤ n ∧ n ≤ 6 ∧ 1 ≤ m ∧ m ≤ 6 ∧ 1 ≤ l ∧ l ≤ 20)
def M5 (N : aH) (n m i j : Int) : Prop := (N 0 0 = i ∧ N 0 1 = 0 ∧ N 0 2 = n - i) ∧ (N 0 5 = j ∧ N 0 6 = 0 ∧ N 0 7 = m - j) ∧ (N 1 0 = 0 ∧ N 1 1 = 0 ∧ N 4 0 = -1)
def c2f (x y : Int) : Int → Int := fun s => if s = 0 then x else if s = 1 then y else 0
theorem c2_0 (x y : Int) : c2f x y 0 = x := if_pos rfl
theorem c2_1 (x y : Int) : c2f x y 1 = y := rfl
theorem c2_sz (x y : Int) : szf (c2f x y) = x + y := by
  show x + y + 0 + 0 + 0 = _; omega
/-- the split's search, with the liking taken out -/
def fF (n m k : Int) : Int := n * m - (n - k / (m + 1)) * (m - k % (m + 1)) - k / (m + 1) * (k % (m + 1))
def spF (n m : Int) : Nat → Int × Int
  | 0 => (0, 0)
  | k + 1 => match spF n m k with
    | (v, j) => if 1 ≤ k ∧ v < fF n m k then (fF n m k, (k : Int)) else (v, j)
theorem spF_s (n m : Int) (k : Nat) : spF n m (k + 1) = if 1 ≤ k ∧ (spF n m k).1 < fF n m k then (fF n m k, (k : Int)) else spF n m k := by
  show (match spF n m k with
    | (v, j) => if 1 ≤ k ∧ v < fF n m k then (fF n m k, (k : Int)) else (v, j)) = _
  generalize spF n m k = p
  obtain ⟨v, j⟩ := p
  rfl
theorem spF_e : ∀ n : Fin 7, ∀ m : Fin 7, 1 ≤ n.val → 1 ≤ m.val → spF (n.val : Int) (m.val : Int) ((n.val + 1) * (m.val + 1)) = ((n.val : Int) * (m.val : Int), (m.val : Int)) := by decide +kernel
section FIVE
variable {T N : aH} {n m l : Int}
theorem A5.cn (h : A5 T n m l) (N : aH) (p : Int) : ctn T N p = c2f (N 0 p) (N 0 (5 + p)) := by
  funext s
  unfold ctn c2f
  rw [h.1.2.1]
  by_cases q : s = 0
  · rw [q, if_pos ⟨Int.le_refl _, by omega⟩, if_pos rfl, show 5 * (0 : Int) + p = p by omega]
  · rw [if_neg q]
    by_cases r : s = 1
    · rw [r, if_pos ⟨by omega, by omega⟩, if_pos rfl, show 5 * (1 : Int) + p = 5 + p by omega]
    · rw [if_neg (by omega), if_neg r]
theorem A5.ru (h : A5 T n m l) (f : Int → Int) (s : Int) : rul T 0 f s = 0 ∧ rul T 1 f s = 0 := by
  obtain ⟨-, -, -, ⟨h80, h81, h90, ha0, h91, ha1⟩, -⟩ := h
  have st : ∀ t k : Int, T 8 k = 0 → rrn T t f s 1 k [] = some [0] := by
    intro t k e1
    show (match rst T t f s (T 8 k) [] with
      | some r => some r
      | none => none) = _
    rw [e1]; rfl
  refine ⟨?_, ?_⟩
  · unfold rul
    rw [ha0, h90, show ((1 : Int) - 0).toNat = 1 from rfl, st 0 0 h80]
  · unfold rul
    rw [ha1, h91, show ((2 : Int) - 1).toNat = 1 from rfl, st 1 1 h81]
theorem A5.lk (h : A5 T n m l) (t : Int) (f : Int → Int) : lik T t f 0 = -(l * f 1) ∧ lik T t f 1 = -(l * f 0) := by
  obtain ⟨⟨h00, h01, -⟩, -, ⟨h40, h41, h45, h46⟩, -⟩ := h
  unfold lik
  rw [h00, h01, sI0, sI2, sI0, sI2, show 5 * (0 : Int) + 0 = 0 by omega, show 5 * (0 : Int) + 1 = 1 by omega, show 5 * (1 : Int) + 0 = 5 by omega, show 5 * (1 : Int) + 1 = 6 by omega, h40, h41, h45, h46]
  refine ⟨?_, ?_⟩
  · rw [if_neg (show ¬ (1 : Int) = 0 by omega), Int.sub_zero, Int.neg_mul]; omega
  · rw [if_neg (show ¬ (0 : Int) = 1 by omega), Int.sub_zero, Int.neg_mul]; omega
theorem mul5 (x l y : Int) : x * (27720 * -(l * y)) = -(27720 * (l * (x * y))) := by
  rw [Int.mul_left_comm, Int.mul_neg, Int.mul_neg, Int.mul_left_comm x l y]
theorem A5.su (h : A5 T n m l) {i j : Int} (hN : M5 N n m i j) (f : Int → Int) : suW T N 0 f = -(55440 * (l * (f 0 * f 1))) ∧ suW T N 1 f = -(55440 * (l * (f 0 * f 1))) := by
  obtain ⟨-, -, n10, n11, n4⟩ := hN
  have e : ∀ p : Int, p = 0 ∨ p = 1 → wrA T N 0 p f = 27720 * -(l * f 1) ∧ wrA T N 1 p f = 27720 * -(l * f 0) := by
    intro p hp
    unfold wrA wor ask
    rw [h.1.2.2, if_neg (by omega), if_neg (by omega), if_neg (by omega), (h.lk p f).1, (h.lk p f).2]
    rcases hp with q | q <;> rw [q]
    · rw [if_neg (by omega), (h.ru f 0).1, (h.ru f 1).1, n10]; omega
    · rw [if_neg (by omega), (h.ru f 0).2, (h.ru f 1).2, n11]; omega
  unfold suW
  rw [h.1.2.1, sI2, sI2, (e 0 (Or.inl rfl)).1, (e 0 (Or.inl rfl)).2, (e 1 (Or.inr rfl)).1, (e 1 (Or.inr rfl)).2, mul5, mul5, Int.mul_comm (f 1) (f 0)]
  omega
theorem A5.tt (h : A5 T n m l) (hN : M5 N n m n m) : tot T N = -(55440 * (l * (n * m))) := by
  have e2 : ∀ f, suW T N 2 f = 0 := fun f => by
    unfold suW
    rw [h.1.2.1, sI2]
    unfold wrA
    rw [h.1.2.2, if_pos rfl, if_pos rfl, show 4 * (0 : Int) + 2 = 2 by omega, show 4 * (1 : Int) + 2 = 6 by omega, h.2.1.2.1, h.2.1.2.2.2.2.1]; omega
  unfold tot
  rw [h.1.2.2, show (2 : Int) + 1 = 3 from rfl, sI3, e2, (h.su hN _).1, (h.su hN _).2, h.cn, h.cn, c2_0, c2_1, c2_0, c2_1, show (5 : Int) + 0 = 5 from rfl, hN.1.1, hN.2.1.1, hN.1.2.1, Int.zero_mul, Int.mul_zero]; omega
theorem A5.wt (h : A5 T n m l) : wt3 T = 1 ∧ wt2 T = 1 ∧ wt1 T = 1 ∧ wt0 T = m + 1 ∧ crw T = (n + 1) * (m + 1) := by
  have hs : ∀ s, hsf T s = c2f n m s := fun s => by
    unfold hsf c2f
    rw [h.1.2.1]
    by_cases q : s = 0
    · rw [q, if_pos ⟨Int.le_refl _, by omega⟩, if_pos rfl, show 4 * (0 : Int) = 0 by omega, h.2.1.1]
    · rw [if_neg q]
      by_cases r : s = 1
      · rw [r, if_pos ⟨by omega, by omega⟩, if_pos rfl, show 4 * (1 : Int) = 4 by omega, h.2.1.2.2.2.1]
      · rw [if_neg (by omega), if_neg r]
  have e3 : wt3 T = 1 := by unfold wt3; rw [hs]; rfl
  have e2 : wt2 T = 1 := by unfold wt2; rw [hs, e3]; rfl
  have e1 : wt1 T = 1 := by unfold wt1; rw [hs, e2]; rfl
  have e0 : wt0 T = m + 1 := by unfold wt0; rw [hs, c2_1, e1]; omega
  refine ⟨e3, e2, e1, e0, ?_⟩
  unfold crw
  rw [hs, c2_0, e0]
theorem A5.cr (h : A5 T n m l) (k : Int) : crf T k = c2f (k / (m + 1)) (k % (m + 1)) := by
  obtain ⟨e3, e2, e1, e0, -⟩ := h.wt
  funext s
  unfold crf c2f
  rw [e3, e2, e1, e0]
  by_cases q : s = 0
  · rw [if_pos q, if_pos q]
  · rw [if_neg q, if_neg q]
    by_cases r : s = 1
    · rw [if_pos r, if_pos r, Int.ediv_one]
    · rw [if_neg r, if_neg r, Int.emod_one, Int.zero_ediv, Int.zero_emod, Int.zero_ediv, Int.zero_emod]
      repeat' split
      all_goals rfl
theorem A5.spv (h : A5 T n m l) (hN : M5 N n m n m) (k : Int) : spV T N 0 1 (crf T k) = 55440 * (l * fF n m k) := by
  have em : mvc T (crf T k) = 0 := by
    unfold mvc
    rw [h.1.2.1, sI2, show 4 * (0 : Int) + 3 = 3 by omega, show 4 * (1 : Int) + 3 = 7 by omega, h.2.1.2.2.1, h.2.1.2.2.2.2.2]; omega
  unfold spV
  rw [em, (h.su hN _).1, (h.su hN _).2, (h.su hN _).1]
  unfold sbg
  rw [h.cr, h.cn, c2_0, c2_1, c2_0, c2_1, show (5 : Int) + 0 = 5 from rfl, hN.1.1, hN.2.1.1]
  unfold fF
  rw [Int.mul_sub l, Int.mul_sub l]; omega
theorem A5.cv (h : A5 T n m l) (hN : M5 N n m n m) {k : Int} (k0 : 0 ≤ k) (k1 : k < (n + 1) * (m + 1)) : cvf (ctn T N 0) (crf T k) = true := by
  obtain ⟨n1, n6, m1, m6, -⟩ := h.2.2.2.2
  have a0 : k / (m + 1) < n + 1 := Int.ediv_lt_of_lt_mul (by omega) k1
  have b0 := Int.emod_lt_of_pos k (show 0 < m + 1 by omega)
  rw [cvf_iff, h.cr, h.cn, show (5 : Int) + 0 = 5 from rfl, hN.1.1, hN.2.1.1]
  intro s s0 s5
  unfold c2f
  split
  · omega
  · split <;> omega
theorem A5.spn (h : A5 T n m l) (hN : M5 N n m n m) : ∀ k : Nat, (k : Int) ≤ (n + 1) * (m + 1) → spN T N 0 1 k = (55440 * (l * (spF n m k).1), (spF n m k).2) := by
  have hl := h.2.2.2.2.2.2.2.2
  intro k
  induction k with
  | zero =>
    intro _
    show ((0 : Int), (0 : Int)) = (55440 * (l * 0), 0)
    rw [Int.mul_zero]; rfl
  | succ k ih =>
    intro hk
    have i := ih (by omega)
    show (if 1 ≤ k ∧ cvf (ctn T N 0) (crf T k) = true ∧ (spN T N 0 1 k).1 < spV T N 0 1 (crf T k) then (spV T N 0 1 (crf T k), (k : Int)) else spN T N 0 1 k) = _
    rw [spF_s, h.spv hN, h.cv hN (k := k) (by omega) (by omega), i]
    by_cases c : 1 ≤ k ∧ (spF n m k).1 < fF n m k
    · have := (Int.mul_lt_mul_left (show 0 < l by omega)).mpr c.2
      rw [if_pos c, if_pos ⟨c.1, rfl, by show 55440 * (l * (spF n m k).1) < _; omega⟩]
    · rw [if_neg c, if_neg (fun q => c ⟨q.1, (Int.mul_lt_mul_left (show 0 < l by omega)).mp (by have := q.2.2; change 55440 * (l * (spF n m k).1) < _ at this; omega)⟩)]
theorem A5.spl (h : A5 T n m l) (hN : M5 N n m n m) : aSplit T N 0 1 1 = 55440 * (l * (n * m)) ∧ aSplit T N 0 1 0 = 7 * m ∧ aSplit T N 0 0 1 = MINL ∧ aSplit T N 1 0 1 = MINL := by
  obtain ⟨n1, n6, m1, m6, l1, l20⟩ := h.2.2.2.2
  obtain ⟨a, rfl⟩ := Int.eq_ofNat_of_zero_le (show 0 ≤ n by omega)
  obtain ⟨b, rfl⟩ := Int.eq_ofNat_of_zero_le (show 0 ≤ m by omega)
  have es := spF_e ⟨a, by omega⟩ ⟨b, by omega⟩ (by show 1 ≤ a; omega) (by show 1 ≤ b; omega)
  simp only at es
  have ec : (crw T).toNat = (a + 1) * (b + 1) := by
    rw [h.wt.2.2.2.2, show ((a : Int) + 1) * ((b : Int) + 1) = (((a + 1) * (b + 1) : Nat) : Int) by simp, Int.toNat_natCast]
  have en := h.spn hN ((a + 1) * (b + 1)) (by rw [show (((a + 1) * (b + 1) : Nat) : Int) = ((a : Int) + 1) * ((b : Int) + 1) by simp]; exact Int.le_refl _)
  rw [es] at en
  have s0 : szf (ctn T N 0) = a + b := by rw [h.cn, c2_sz, show (5 : Int) + 0 = 5 from rfl, hN.1.1, hN.2.1.1]
  have s1 : szf (ctn T N 1) = 0 := by rw [h.cn, c2_sz, show (5 : Int) + 1 = 6 from rfl, hN.1.2.1, hN.2.1.2.1]; rfl
  unfold aSplit
  rw [h.1.2.2, ec, en, s0, s1, h.cr]
  refine ⟨?_, ?_, rfl, ?_⟩
  · rw [if_pos (by omega), if_pos (by omega), if_neg (by omega), if_neg (by omega), if_pos (by omega), if_neg (by omega)]
  · rw [if_pos (by omega), if_pos (by omega), if_neg (by omega), if_neg (by omega), if_pos (by omega), if_pos rfl]
    have q1 : (b : Int) / ((b : Int) + 1) = 0 := Int.ediv_eq_zero_of_lt (by omega) (by omega)
    have q2 : (b : Int) % ((b : Int) + 1) = b := Int.emod_eq_of_lt (by omega) (by omega)
    show pty (c2f ((b : Int) / ((b : Int) + 1)) ((b : Int) % ((b : Int) + 1))) = _
    rw [q1, q2]
    show 0 + 7 * (b : Int) + 49 * 0 + 343 * 0 + 2401 * 0 = _
    omega
  · rw [if_pos (by omega), if_pos (by omega), if_neg (by omega), if_pos (by omega)]
theorem A5.g0 (h : A5 T n m l) {i j : Int} (hN : M5 N n m i j) (hi : i < n) : mgoB T N 0 2 0 = true ∧ M5 (mvN N (on1 0) 2 0) n m (i + 1) j := by
  obtain ⟨⟨x0, x1, x2⟩, ⟨y0, y1, y2⟩, z⟩ := hN
  refine ⟨decide_eq_true ⟨⟨by rw [h.1.2.1]; omega, by rw [h.1.2.2]; omega, by rw [h.1.2.2]; omega⟩, by omega, by rw [show 5 * (0 : Int) + 2 = 2 by omega, x2]; omega⟩, ⟨?_, ?_, ?_⟩, ⟨?_, ?_, ?_⟩, z⟩
  · show N 0 0 - 0 + on1 0 0 = _
    rw [x0, on1_eq, if_pos rfl]; omega
  · show N 0 1 - 0 + 0 = _
    rw [x1]; omega
  · show N 0 2 - on1 0 0 + 0 = _
    rw [x2, on1_eq, if_pos rfl]; omega
  · show N 0 5 - 0 + on1 0 1 = _
    rw [y0, on1_eq, if_neg (by omega)]; omega
  · show N 0 6 - 0 + 0 = _
    rw [y1]; omega
  · show N 0 7 - on1 0 1 + 0 = _
    rw [y2, on1_eq, if_neg (by omega)]; omega
theorem A5.g1 (h : A5 T n m l) {i j : Int} (hN : M5 N n m i j) (hj : j < m) : mgoB T N 1 2 0 = true ∧ M5 (mvN N (on1 1) 2 0) n m i (j + 1) := by
  obtain ⟨⟨x0, x1, x2⟩, ⟨y0, y1, y2⟩, z⟩ := hN
  refine ⟨decide_eq_true ⟨⟨by rw [h.1.2.1]; omega, by rw [h.1.2.2]; omega, by rw [h.1.2.2]; omega⟩, by omega, by rw [show 5 * (1 : Int) + 2 = 7 by omega, y2]; omega⟩, ⟨?_, ?_, ?_⟩, ⟨?_, ?_, ?_⟩, z⟩
  · show N 0 0 - 0 + on1 1 0 = _
    rw [x0, on1_eq, if_neg (by omega)]; omega
  · show N 0 1 - 0 + 0 = _
    rw [x1]; omega
  · show N 0 2 - on1 1 0 + 0 = _
    rw [x2, on1_eq, if_neg (by omega)]; omega
  · show N 0 5 - 0 + on1 1 1 = _
    rw [y0, on1_eq, if_pos rfl]; omega
  · show N 0 6 - 0 + 0 = _
    rw [y1]; omega
  · show N 0 7 - on1 1 1 + 0 = _
    rw [y2, on1_eq, if_pos rfl]; omega
end FIVE
section L5
variable {T : aH} {S : aSS} {σ : aS} {n m l K : Int}
theorem seg1240 (hA : A5 T n m l) (h0 : M5 S.1 n m n m) (hS : CSt T S σ) (hG : SG T K S) : Gd 1336 [1] σ (law_p1240 1 n l m σ) := by
  obtain ⟨n1, n6, m1, m6, l1, l20⟩ := hA.2.2.2.2
  obtain ⟨s1, s2, s3, s4⟩ := hA.spl h0
  have b1 : 1 ≤ l * n ∧ l * n ≤ 120 := ⟨Int.mul_le_mul l1 n1 (by omega) (by omega), Int.mul_le_mul l20 n6 (by omega) (by omega)⟩
  have b2 : 1 ≤ l * n * m ∧ l * n * m ≤ 720 := ⟨Int.mul_le_mul b1.1 m1 (by omega) (by omega), Int.mul_le_mul b1.2 m6 (by omega) (by omega)⟩
  have e1 : (-55440) * l * n = -(55440 * (l * n)) := by rw [Int.mul_assoc]; omega
  have e2 : (-(55440 * (l * n))) * m = -(55440 * (l * n * m)) := by rw [Int.neg_mul, Int.mul_assoc 55440]
  have e3 : 55440 * l * n = 55440 * (l * n) := Int.mul_assoc _ _ _
  have e4 : 55440 * (l * n) * m = 55440 * (l * n * m) := Int.mul_assoc _ _ _
  have e5 : l * (n * m) = l * n * m := (Int.mul_assoc _ _ _).symm
  unfold law_p1240
  rw [wQ (x := (-55440) * l) (by omega) (by omega), e1, wQ (x := -(55440 * (l * n))) (by omega) (by omega), e2, wQ (x := -(55440 * (l * n * m))) (by omega) (by omega), wQ (x := 55440 * l) (by omega) (by omega), e3, wQ (x := 55440 * (l * n)) (by omega) (by omega), e4, wQ (x := 55440 * (l * n * m)) (by omega) (by omega), wQ (x := 7 * m) (by omega) (by omega)]
  refine (c11_total_q hS hG.1.1 hG.1.2.1).g (x := -(55440 * (l * n * m))) (by rw [hA.tt h0, e5]) (fun τ1 c1 => ?_)
  refine Gd.p (acmp_0 rfl) ((c11_split_q c1 hG.1.1 hG.1.2.1 0 1 1).g (x := 55440 * (l * n * m)) (by rw [s1, e5]) (fun τ2 c2 => ?_))
  refine Gd.p (acmp_0 rfl) ((c11_split_q c2 hG.1.1 hG.1.2.1 0 1 0).g (x := 7 * m) s2 (fun τ3 c3 => ?_))
  refine Gd.p (acmp_0 rfl) ((c11_split_q c3 hG.1.1 hG.1.2.1 0 0 1).g (x := -9223372036854775808) s3 (fun τ4 c4 => ?_))
  refine Gd.p (acmp_0 rfl) ((c11_split_q c4 hG.1.1 hG.1.2.1 1 0 1).g (x := -9223372036854775808) s4 (fun τ5 c5 => ?_))
  exact Gd.p (acmp_0 rfl) (Gd.e c5)
theorem seg1215 (hA : A5 T n m l) (h0 : M5 S.1 n m n 0) (hS : CSt T S σ) (hG : SG T K S) : Gd 1336 [1] σ (law_l1215 1 n l m 0 σ) := by
  obtain ⟨n1, n6, m1, m6, -, -⟩ := hA.2.2.2.2
  have hB : TB T := by obtain ⟨pl, q, -⟩ := hS; exact q.2.2.2.2.2
  have hal := al_I (c := 1216) (B := aU5 law_b1215) (n := m) (i := 0) (vs := [1, n, l, m, 0]) (σ := σ)
    (fun k vs τ => (0 ≤ k ∧ k ≤ m) ∧ vs = [1, n, l, m, k] ∧ Fp wca σ τ ∧ ∃ S', CSt T S' τ ∧ SG T K S' ∧ M5 S'.1 n m n k)
    (fun r => ∃ τ, r = (1241, [1, n, l, m], τ) ∧ Fp wca σ τ ∧ ∃ S', CSt T S' τ ∧ SG T K S' ∧ M5 S'.1 n m n m) (by omega) (by omega) ⟨⟨by omega, by omega⟩, rfl, Fp.rf _ _, S, hS, hG, h0⟩ ?_
  · obtain ⟨r, hr, τ, rfl, hF, S', hC, hG', hM⟩ := hal
    unfold law_l1215
    rw [hr]
    refine Gd.tr hF ?_
    show Gd 1336 [1] τ (law_p1240 1 n l m τ)
    exact seg1240 hA hM hC hG'
  · rintro k vs τ hk ⟨⟨k0, kn⟩, rfl, hF, S', hC, hG', hM⟩
    by_cases q : k < m
    · obtain ⟨m1, m2⟩ := hA.g1 hM q
      have e1 := sGo_t m1
      have G2 := hG'.go hB 1 2 0
      obtain ⟨τ1, r1, F1, C1⟩ := c11_go_q hC hG'.1.1 1 2 0
      rw [if_pos m1] at r1
      refine Or.inl ⟨by omega, [1, n, l, m, k + 1], τ1, ?_, ⟨by omega, by omega⟩, rfl, hF.tr F1, _, C1, G2, by rw [e1]; exact m2⟩
      show law_b1215 1 n l m k τ = _
      unfold law_b1215
      rw [if_pos q, r1, acall1_some, if_neg (by omega), wq (x := k + 1) (by omega) (by omega)]
    · refine Or.inr ⟨(1241, [1, n, l, m], τ), ?_, Nat.ne_of_beq_eq_false rfl, τ, rfl, hF, S', hC, hG', by rw [show k = m by omega] at hM; exact hM⟩
      show law_b1215 1 n l m k τ = _
      unfold law_b1215
      exact if_neg q
theorem seg1178 (hA : A5 T n m l) (h0 : M5 S.1 n m 0 0) (hS : CSt T S σ) (hG : SG T K S) : Gd 1336 [1] σ (law_p1178 6 1 n l m σ) := by
  obtain ⟨n1, n6, m1, m6, -, -⟩ := hA.2.2.2.2
  have hB : TB T := by obtain ⟨pl, q, -⟩ := hS; exact q.2.2.2.2.2
  have hal := al_I (c := 1189) (B := aU5 law_b1188) (n := n) (i := 0) (vs := [1, n, l, m, 0]) (σ := σ)
    (fun k vs τ => (0 ≤ k ∧ k ≤ n) ∧ vs = [1, n, l, m, k] ∧ Fp wca σ τ ∧ ∃ S', CSt T S' τ ∧ SG T K S' ∧ M5 S'.1 n m k 0)
    (fun r => ∃ τ, r = (1213, [1, n, l, m], τ) ∧ Fp wca σ τ ∧ ∃ S', CSt T S' τ ∧ SG T K S' ∧ M5 S'.1 n m n 0) (by omega) (by omega) ⟨⟨by omega, by omega⟩, rfl, Fp.rf _ _, S, hS, hG, h0⟩ ?_
  · obtain ⟨r, hr, τ, rfl, hF, S', hC, hG', hM⟩ := hal
    unfold law_p1178
    rw [if_pos rfl]
    unfold law_l1188
    rw [hr]
    refine Gd.tr hF ?_
    show Gd 1336 [1] τ (law_l1215 1 n l m 0 τ)
    exact seg1215 hA hM hC hG'
  · rintro k vs τ hk ⟨⟨k0, kn⟩, rfl, hF, S', hC, hG', hM⟩
    by_cases q : k < n
    · obtain ⟨m1, m2⟩ := hA.g0 hM q
      have e1 := sGo_t m1
      have G2 := hG'.go hB 0 2 0
      obtain ⟨τ1, r1, F1, C1⟩ := c11_go_q hC hG'.1.1 0 2 0
      rw [if_pos m1] at r1
      refine Or.inl ⟨by omega, [1, n, l, m, k + 1], τ1, ?_, ⟨by omega, by omega⟩, rfl, hF.tr F1, _, C1, G2, by rw [e1]; exact m2⟩
      show law_b1188 1 n l m k τ = _
      unfold law_b1188
      rw [if_pos q, r1, acall1_some, if_neg (by omega), wq (x := k + 1) (by omega) (by omega)]
    · refine Or.inr ⟨(1213, [1, n, l, m], τ), ?_, Nat.ne_of_beq_eq_false rfl, τ, rfl, hF, S', hC, hG', by rw [show k = n by omega] at hM; exact hM⟩
      show law_b1188 1 n l m k τ = _
      unfold law_b1188
      exact if_neg q
end L5
