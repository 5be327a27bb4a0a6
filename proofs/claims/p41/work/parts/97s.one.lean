/-! one sort, one town -/
theorem ff1 (P : Int → Bool) : ff P 1 = if P 0 = true then 0 else 1 := rfl
theorem ff2 (P : Int → Bool) : ff P 2 = if P 0 = true then 0 else if P 1 = true then 1 else 2 := rfl
theorem ff3 (P : Int → Bool) : ff P 3 = if P 0 = true then 0 else if P 1 = true then 1 else if P 2 = true then 2 else 3 := rfl
theorem sI1 (f : Int → Int) : sI f 1 = f 0 := by show 0 + f 0 = f 0; omega
theorem sI2 (f : Int → Int) : sI f 2 = f 0 + f 1 := by show 0 + f 0 + f 1 = _; omega
theorem sI3 (f : Int → Int) : sI f 3 = f 0 + f 1 + f 2 := by show 0 + f 0 + f 1 + f 2 = _; omega
theorem sI0 (f : Int → Int) : sI f 0 = 0 := rfl
def c1 (x : Int) : Int → Int := fun s => if s = 0 then x else 0
theorem c1_0 (x : Int) : c1 x 0 = x := if_pos rfl
theorem c1_n (x : Int) {s : Int} (h : s ≠ 0) : c1 x s = 0 := if_neg h
theorem c1_sz (x : Int) : szf (c1 x) = x := by
  unfold szf
  rw [c1_0, c1_n _ (by omega), c1_n _ (by omega), c1_n _ (by omega), c1_n _ (by omega)]; omega
theorem c1_pk (x : Int) : pk5 (c1 x) = x := by
  unfold pk5
  rw [c1_0, c1_n _ (by omega), c1_n _ (by omega), c1_n _ (by omega), c1_n _ (by omega)]; omega
/-- a chain of goings to a stand -/
theorem chain {T N : aH} {r : Nat} (hr : r ≤ 300) (hfi : ∀ i : Nat, i < r → fiS T (itn T i N) < T 0 1) (hno : ¬ fiS T (itn T r N) < T 0 1) (hinj : ∀ i g : Nat, i < g → g ≤ r → pkP T (itn T i N) ≠ pkP T (itn T g N)) :
    trG T N = r ∧ trE T N = 1 ∧ trB T N = r ∧ stN T N 300 = r := by
  have hF : ∀ g : Nat, g ≤ r → trF T N g = g := by
    intro g hg
    unfold trF
    refine ff_uniq (by omega) (Int.le_refl _) (fun j j0 j1 => ?_) (fun q => by omega)
    obtain ⟨i, rfl⟩ := Int.eq_ofNat_of_zero_le j0
    unfold same itN
    rw [Int.toNat_natCast, Int.toNat_natCast]
    exact decide_eq_false (hinj i g (by omega) hg)
  have hG : trG T N = r := by
    unfold trG
    refine ff_uniq (by omega) (by omega) (fun j j0 j1 => ?_) (fun _ => ?_)
    · obtain ⟨i, rfl⟩ := Int.eq_ofNat_of_zero_le j0
      rw [hF i (by omega), decide_eq_false (by omega), Bool.false_or]
      unfold itN
      rw [Int.toNat_natCast, decide_eq_true (hfi i (by omega))]; rfl
    · unfold itN
      rw [Int.toNat_natCast, decide_eq_false hno]
      exact Bool.or_true _
  refine ⟨hG, ?_, ?_, ?_⟩
  · unfold trE
    rw [hG, if_pos (by omega), hF r (Nat.le_refl _), if_neg (by omega)]
  · unfold trB
    rw [hG, if_pos (by omega), hF r (Nat.le_refl _), if_neg (by omega)]
  · unfold stN
    refine ff_uniq (by omega) (by omega) (fun j j0 j1 => ?_) (fun _ => ?_)
    · obtain ⟨i, rfl⟩ := Int.eq_ofNat_of_zero_le j0
      unfold itN
      rw [Int.toNat_natCast, decide_eq_true (hfi i (by omega))]; rfl
    · unfold itN
      rw [Int.toNat_natCast, decide_eq_false hno]; rfl
/-- one alone of a row of partings holds -/
theorem one_hc {H : Int → Bool} {A : Int → Int} {m : Nat} (h0 : ∀ i : Nat, i < m → H i = false) (h1 : H m = true) : hcN H (m + 1) = 1 ∧ ghN A H (m + 1) = A m ∧ lhN A H (m + 1) = A m ∧ ∀ i : Nat, i ≤ m → hcN H i = 0 := by
  have z : ∀ i : Nat, i ≤ m → hcN H i = 0 := by
    intro i
    induction i with
    | zero => intro _; rfl
    | succ i ih =>
      intro hi
      show hcN H i + (if H i = true then 1 else 0) = 0
      rw [ih (by omega), h0 i (by omega)]; rfl
  have zm := z m (Nat.le_refl _)
  refine ⟨?_, ?_, ?_, z⟩
  · show hcN H m + (if H m = true then 1 else 0) = 1
    rw [zm, h1]; rfl
  · show (if H m = true then (if hcN H m = 0 then A m else if ghN A H m < A m then A m else ghN A H m) else ghN A H m) = A m
    rw [if_pos h1, if_pos zm]
  · show (if H m = true then (if hcN H m = 0 then A m else if A m < lhN A H m then A m else lhN A H m) else lhN A H m) = A m
    rw [if_pos h1, if_pos zm]
theorem inc_bs {A : Int → Int} : ∀ {m : Nat}, (∀ i : Nat, i < m → A i < A ((i : Int) + 1)) → bsN A (m + 1) = m := by
  intro m
  induction m with
  | zero => intro _; rfl
  | succ m ih =>
    intro h
    have e := ih (fun i hi => h i (by omega))
    show (if m + 1 = 0 ∨ A (bsN A (m + 1)) < A ((m + 1 : Nat) : Int) then ((m + 1 : Nat) : Int) else bsN A (m + 1)) = _
    rw [e, if_pos (Or.inr (show A (m : Int) < A ((m + 1 : Nat) : Int) from h m (by omega)))]
def A1 (T : aH) (n o v w k : Int) : Prop := (T 0 0 = 1 ∧ T 0 1 = 1 ∧ T 0 2 = 1) ∧ (T 2 0 = n ∧ T 2 1 = 3 ∧ T 2 2 = o ∧ T 2 3 = v) ∧ (T 3 0 = w ∧ T 4 0 = 0) ∧ (T 5 0 = 1 ∧ T 6 0 = 0) ∧ (T 8 0 = k ∧ T 9 0 = 0 ∧ T 10 0 = 1) ∧ (0 ≤ k ∧ k ≤ 99) ∧ (0 ≤ v ∧ 1 ≤ n ∧ n ≤ 6)
def M1 (N : aH) (j r e b : Int) : Prop := N 0 0 = j ∧ N 0 1 = r ∧ N 1 0 = e ∧ N 2 0 = b ∧ N 4 0 = -1
theorem bq1 (j b G : Int) : (decide (0 < j) && decide (b = 0) && decide ((if 0 < G then (1 : Int) else 2) ≤ 1)) = decide (0 < j ∧ b = 0 ∧ 0 < G) := by
  by_cases q : 0 < G
  · simp [q, Bool.and_assoc]
  · simp [q]
theorem bq2 (r G : Int) : (decide (0 < r) && decide ((0 : Int) = 0) && decide ((if 0 < G then (0 : Int) else 2) ≤ 1)) = decide (0 < r ∧ 0 < G) := by
  by_cases q : 0 < G
  · simp [q]
  · simp [q]
section ONE
variable {T N : aH} {n o v w k j r e b : Int}
theorem A1.cn (h : A1 T n o v w k) (N : aH) (p : Int) : ctn T N p = c1 (N 0 p) := by
  funext s
  unfold ctn c1
  rw [h.1.2.1]
  by_cases c : s = 0
  · rw [c, if_pos ⟨Int.le_refl _, by omega⟩, if_pos rfl, show 5 * (0 : Int) + p = p by omega]
  · rw [if_neg (by omega), if_neg c]
theorem A1.gv (h : A1 T n o v w k) (f : Int → Int) : gvb T 0 f 0 = 1 := by
  unfold gvb
  rw [h.2.2.2.1.1, h.2.2.2.1.2, if_pos ⟨by decide +kernel, fun q => by omega⟩]
theorem A1.lk (h : A1 T n o v w k) (f : Int → Int) : lik T 0 f 0 = w := by
  unfold lik
  rw [h.1.1, h.1.2.1, sI1, sI1, h.gv, show 5 * (0 : Int) + 0 = 0 by omega, h.2.2.1.1, h.2.2.1.2]; omega
theorem A1.ru (h : A1 T n o v w k) (f : Int → Int) : rul T 0 f 0 = k * 27720 := by
  obtain ⟨-, -, -, -, ⟨h8, h9, h10⟩, hk, -⟩ := h
  have e1 : rrn T 0 f 0 (T 10 0 - T 9 0).toNat (T 9 0) [] = some [k * 27720] := by
    rw [h10, h9]
    show (match rst T 0 f 0 (T 8 0) [] with
      | some r => rrn T 0 f 0 0 (0 + 1) r
      | none => none) = _
    rw [h8]
    unfold rst
    rw [if_pos (show k < 1000 by omega)]; rfl
  unfold rul
  rw [e1]
theorem A1.sk (h : A1 T n o v w k) (hN : M1 N j r e b) (f : Int → Int) : ask T N 0 f 0 = k * 27720 + 27720 * e := by
  obtain ⟨-, -, h3, -, h5⟩ := hN
  unfold ask
  rw [if_neg (by omega), h.ru, h3]
theorem A1.w0 (h : A1 T n o v w k) (hN : M1 N j r e b) (f : Int → Int) : wrA T N 0 0 f = 27720 * (w - k - e) := by
  unfold wrA wor
  rw [if_neg (by have := h.1.2.2; omega), h.lk, h.sk hN]; omega
theorem A1.w1 (h : A1 T n o v w k) (N : aH) (f : Int → Int) : wrA T N 0 1 f = 27720 * o := by
  unfold wrA
  rw [if_pos h.1.2.2.symm, show 4 * (0 : Int) + 2 = 2 by omega, h.2.1.2.2.1]
theorem A1.g10 (h : A1 T n o v w k) (hN : M1 N j r e b) : gai T N 0 1 0 = 27720 * (w - k - e - o - v) := by
  unfold gai
  rw [h.w0 hN, h.w1, show 4 * (0 : Int) + 3 = 3 by omega, h.2.1.2.2.2]; omega
theorem A1.g01 (h : A1 T n o v w k) (hN : M1 N j r e b) : gai T N 0 0 1 = 27720 * (o - (w - k - e) - v) := by
  unfold gai
  rw [h.w0 hN, h.w1, show 4 * (0 : Int) + 3 = 3 by omega, h.2.1.2.2.2]; omega
theorem A1.fB1 (h : A1 T n o v w k) (hN : M1 N j r e b) : fiB T N 0 1 = if 0 < w - k - e - o - v then 0 else 2 := by
  unfold fiB
  rw [h.1.2.2, show (1 : Int) + 1 = 2 from rfl, ff2, h.g10 hN]
  by_cases c : 0 < w - k - e - o - v
  · rw [if_pos c, if_pos (by rw [decide_eq_false (by omega), decide_eq_true (by omega)]; rfl)]
  · rw [if_neg c, if_neg (by rw [decide_eq_false (show ¬ 0 < 27720 * (w - k - e - o - v) by omega)]; simp), if_neg (by rw [decide_eq_true (rfl : (1 : Int) = 1)]; simp)]
theorem A1.fB0 (h : A1 T n o v w k) (hN : M1 N j r e b) : fiB T N 0 0 = if 0 < o - (w - k - e) - v then 1 else 2 := by
  unfold fiB
  rw [h.1.2.2, show (1 : Int) + 1 = 2 from rfl, ff2, h.g01 hN, if_neg (by rw [decide_eq_true (rfl : (0 : Int) = 0)]; simp)]
  by_cases c : 0 < o - (w - k - e) - v
  · rw [if_pos c, if_pos (by rw [decide_eq_false (by omega), decide_eq_true (by omega)]; rfl)]
  · rw [if_neg c, if_neg (by rw [decide_eq_false (show ¬ 0 < 27720 * (o - (w - k - e) - v) by omega)]; simp)]
theorem A1.bn0 (h : A1 T n o v w k) (hN : M1 N j r e b) : bnd T N 0 = b := by
  unfold bnd
  rw [if_pos (by have := h.1.2.2; omega)]; exact hN.2.2.2.1
theorem A1.bn1 (h : A1 T n o v w k) (N : aH) : bnd T N 1 = 0 := by
  unfold bnd
  rw [if_neg (by have := h.1.2.2; omega)]
theorem A1.fA (h : A1 T n o v w k) (hN : M1 N j r e b) : fiA T N 0 = if 0 < j ∧ b = 0 ∧ 0 < o - (w - k - e) - v then 0 else if 0 < r ∧ 0 < w - k - e - o - v then 1 else 2 := by
  unfold fiA
  rw [h.1.2.2, show (1 : Int) + 1 = 2 from rfl, ff2, h.bn0 hN, h.bn1, h.fB0 hN, h.fB1 hN, show 5 * (0 : Int) + 0 = 0 by omega, show 5 * (0 : Int) + 1 = 1 by omega, hN.1, hN.2.1]
  rw [bq1, bq2]
  simp only [decide_eq_true_eq]
theorem A1.fS (h : A1 T n o v w k) (hN : M1 N j r e b) : fiS T N = if (0 < j ∧ b = 0 ∧ 0 < o - (w - k - e) - v) ∨ (0 < r ∧ 0 < w - k - e - o - v) then 0 else 1 := by
  unfold fiS
  rw [h.1.2.1, h.1.2.2, ff1, h.fA hN]
  by_cases c : 0 < j ∧ b = 0 ∧ 0 < o - (w - k - e) - v
  · rw [if_pos c, if_pos (Or.inl c), if_pos (decide_eq_true (by omega))]
  · rw [if_neg c]
    by_cases d : 0 < r ∧ 0 < w - k - e - o - v
    · rw [if_pos d, if_pos (Or.inr d), if_pos (decide_eq_true (by omega))]
    · rw [if_neg d, if_neg (show ¬ ((0 < j ∧ b = 0 ∧ 0 < o - (w - k - e) - v) ∨ (0 < r ∧ 0 < w - k - e - o - v)) from fun q => q.elim c d)]; rfl
theorem A1.up (h : A1 T n o v w k) (hN : M1 N j r e b) (hr : 0 < r) (hg : 0 < w - k - e - o - v) : (fiS T N = 0 ∧ fiA T N 0 = 1 ∧ fiB T N 0 1 = 0) ∧ M1 (nxt T N) (j + 1) (r - 1) e b := by
  have hv := h.2.2.2.2.2.2.1
  have e1 : fiS T N = 0 := by rw [h.fS hN, if_pos (Or.inr ⟨hr, hg⟩)]
  have e2 : fiA T N 0 = 1 := by rw [h.fA hN, if_neg (by omega), if_pos ⟨hr, hg⟩]
  have e3 : fiB T N 0 1 = 0 := by rw [h.fB1 hN, if_pos hg]
  refine ⟨⟨e1, e2, e3⟩, ?_⟩
  unfold nxt
  rw [e1, e2, e3]
  obtain ⟨h1, h2, h3, h4, h5⟩ := hN
  refine ⟨?_, ?_, h3, h4, h5⟩
  · show N 0 0 - 0 + on1 0 0 = _
    rw [h1, on1_eq, if_pos rfl]; omega
  · show N 0 1 - on1 0 0 + 0 = _
    rw [h2, on1_eq, if_pos rfl]; omega
theorem A1.dn (h : A1 T n o v w k) (hN : M1 N j r e b) (hj : 0 < j) (hb : b = 0) (hg : 0 < o - (w - k - e) - v) : (fiS T N = 0 ∧ fiA T N 0 = 0 ∧ fiB T N 0 0 = 1) ∧ M1 (nxt T N) (j - 1) (r + 1) e b := by
  have e1 : fiS T N = 0 := by rw [h.fS hN, if_pos (Or.inl ⟨hj, hb, hg⟩)]
  have e2 : fiA T N 0 = 0 := by rw [h.fA hN, if_pos ⟨hj, hb, hg⟩]
  have e3 : fiB T N 0 0 = 1 := by rw [h.fB0 hN, if_pos hg]
  refine ⟨⟨e1, e2, e3⟩, ?_⟩
  unfold nxt
  rw [e1, e2, e3]
  obtain ⟨h1, h2, h3, h4, h5⟩ := hN
  refine ⟨?_, ?_, h3, h4, h5⟩
  · show N 0 0 - on1 0 0 + 0 = _
    rw [h1, on1_eq, if_pos rfl]; omega
  · show N 0 1 - 0 + on1 0 0 = _
    rw [h2, on1_eq, if_pos rfl]; omega
theorem A1.no (h : A1 T n o v w k) (hN : M1 N j r e b) (h1 : ¬ (0 < j ∧ b = 0 ∧ 0 < o - (w - k - e) - v)) (h2 : ¬ (0 < r ∧ 0 < w - k - e - o - v)) : ¬ fiS T N < T 0 1 := by
  rw [h.fS hN, if_neg (fun q => q.elim h1 h2), h.1.2.1]; omega
theorem A1.pk (h : A1 T n o v w k) (N : aH) : pkP T N = N 0 0 := by
  have e : ∀ t, 1 ≤ t → pkT T N t = 0 := fun t ht => by unfold pkT; rw [if_neg (by have := h.1.2.2; omega)]
  have e0 : pkT T N 0 = N 0 0 := by
    unfold pkT
    rw [if_pos (by have := h.1.2.2; omega), h.cn, c1_pk]
  unfold pkP
  rw [e0, e 1 (by omega), e 2 (by omega), e 3 (by omega)]; omega
theorem A1.its (h : A1 T n o v w k) (hN : M1 N j r e b) (hg : 0 < w - k - e - o - v) : ∀ i : Nat, (i : Int) ≤ r → M1 (itn T i N) (j + i) (r - i) e b := by
  intro i
  induction i with
  | zero => intro _; rw [show j + ((0 : Nat) : Int) = j by omega, show r - ((0 : Nat) : Int) = r by omega]; exact hN
  | succ i ih =>
    intro hi
    have := (h.up (ih (by omega)) (by omega) hg).2
    rw [show j + ((i + 1 : Nat) : Int) = j + i + 1 by omega, show r - ((i + 1 : Nat) : Int) = r - i - 1 by omega]
    exact this
theorem A1.itd (h : A1 T n o v w k) (hN : M1 N j r e b) (hb : b = 0) (hg : 0 < o - (w - k - e) - v) : ∀ i : Nat, (i : Int) ≤ j → M1 (itn T i N) (j - i) (r + i) e b := by
  intro i
  induction i with
  | zero => intro _; rw [show j - ((0 : Nat) : Int) = j by omega, show r + ((0 : Nat) : Int) = r by omega]; exact hN
  | succ i ih =>
    intro hi
    have := (h.dn (ih (by omega)) (by omega) hb hg).2
    rw [show j - ((i + 1 : Nat) : Int) = j - i - 1 by omega, show r + ((i + 1 : Nat) : Int) = r + i + 1 by omega]
    exact this
/-- all go in -/
theorem A1.rise (h : A1 T n o v w k) (hN : M1 N j r e b) (hr : 0 ≤ r) (h6 : r ≤ 6) (hg : 0 < w - k - e - o - v) : trG T N = r ∧ trE T N = 1 ∧ trB T N = r ∧ stN T N 300 = r ∧ M1 (itN T N r) (j + r) 0 e b := by
  have hv := h.2.2.2.2.2.2.1
  have hi := h.its hN hg
  obtain ⟨m, rfl⟩ := Int.eq_ofNat_of_zero_le hr
  obtain ⟨a1, a2, a3, a4⟩ := chain (T := T) (N := N) (r := m) (by omega) (fun i hi2 => by rw [((h.up (hi i (by omega)) (by omega) hg).1).1, h.1.2.1]; omega) (h.no (hi m (Int.le_refl _)) (by omega) (by omega))
    (fun i g h1 h2 => by rw [h.pk, h.pk, (hi i (by omega)).1, (hi g (by omega)).1]; omega)
  refine ⟨a1, a2, a3, a4, ?_⟩
  have := hi m (Int.le_refl _)
  rw [show (m : Int) - m = 0 by omega] at this
  unfold itN
  rw [Int.toNat_natCast]; exact this
/-- all go out -/
theorem A1.fall (h : A1 T n o v w k) (hN : M1 N j r e b) (hj : 0 ≤ j) (h6 : j ≤ 6) (hb : b = 0) (hg : 0 < o - (w - k - e) - v) : trG T N = j ∧ trE T N = 1 ∧ trB T N = j ∧ stN T N 300 = j ∧ M1 (itN T N j) 0 (r + j) e b := by
  have hv := h.2.2.2.2.2.2.1
  have hi := h.itd hN hb hg
  obtain ⟨m, rfl⟩ := Int.eq_ofNat_of_zero_le hj
  obtain ⟨a1, a2, a3, a4⟩ := chain (T := T) (N := N) (r := m) (by omega) (fun i hi2 => by rw [((h.dn (hi i (by omega)) (by omega) hb hg).1).1, h.1.2.1]; omega) (h.no (hi m (Int.le_refl _)) (by omega) (by omega))
    (fun i g h1 h2 => by rw [h.pk, h.pk, (hi i (by omega)).1, (hi g (by omega)).1]; omega)
  refine ⟨a1, a2, a3, a4, ?_⟩
  have := hi m (Int.le_refl _)
  rw [show (m : Int) - m = 0 by omega] at this
  unfold itN
  rw [Int.toNat_natCast]; exact this
end ONE
