/-! the class's half of whole's part of this name -/
/-- the last place of a sort's (alone is the last) -/
def lsp (T N : aH) (s : Int) : Int := T 0 2 - ff (fun j => decide (0 < N 0 (5 * s + (T 0 2 - j)))) (T 0 2)
/-- the last sort that isn't all in the first place -/
def lss (T N : aH) : Int := T 0 1 - 1 - ff (fun j => decide (0 < lsp T N (T 0 1 - 1 - j))) (T 0 1)
def nwv (T N : aH) (u p : Int) : Int := if p = lsp T N u - 1 then N 0 (5 * u + p) + 1 else if p = T 0 2 then N 0 (5 * u + lsp T N u) - 1 else if p = lsp T N u then 0 else N 0 (5 * u + p)
def alv (T : aH) (u p : Int) : Int := if p = T 0 2 then T 2 (4 * u) else 0
def sqv (T N : aH) (u p : Int) : Int := if u < lss T N then N 0 (5 * u + p) else if u = lss T N then nwv T N u p else alv T u p
/-- the next parting -/
def sq (T N : aH) : aH := fun x j => if x = 0 then sqv T N (j / 5) (j % 5) else N x j
def PN0 (T N : aH) : aH := fun x j => if x = 0 then alv T (j / 5) (j % 5) else N x j
def PNn (T N : aH) : Nat → aH
  | 0 => PN0 T N
  | k + 1 => sq T (PNn T N k)
def PN (T N : aH) (k : Int) : aH := PNn T N k.toNat
theorem PN_0 (T N : aH) : PN T N 0 = PN0 T N := rfl
theorem PN_s (T N : aH) {k : Int} (k0 : 0 ≤ k) : PN T N (k + 1) = sq T (PN T N k) := by
  obtain ⟨n, rfl⟩ := Int.eq_ofNat_of_zero_le k0
  rfl
theorem sq_0 (T N : aH) {u p : Int} (p0 : 0 ≤ p) (p5 : p < 5) : sq T N 0 (5 * u + p) = sqv T N u p := by
  unfold sq
  rw [if_pos rfl, show (5 * u + p) / 5 = u by omega, show (5 * u + p) % 5 = p by omega]
theorem PN0_0 (T N : aH) {u p : Int} (p0 : 0 ≤ p) (p5 : p < 5) : PN0 T N 0 (5 * u + p) = alv T u p := by
  unfold PN0
  rw [if_pos rfl, show (5 * u + p) / 5 = u by omega, show (5 * u + p) % 5 = p by omega]
theorem sq_x (T N : aH) {x : Int} (h : x ≠ 0) (j : Int) : sq T N x j = N x j := if_neg h
theorem PN0_x (T N : aH) {x : Int} (h : x ≠ 0) (j : Int) : PN0 T N x j = N x j := if_neg h
theorem PNn_x (T N : aH) {x : Int} (h : x ≠ 0) (j : Int) : ∀ k : Nat, PNn T N k x j = N x j := by
  intro k
  induction k with
  | zero => exact PN0_x T N h j
  | succ k ih => show sq T (PNn T N k) x j = _; rw [sq_x _ _ h, ih]
theorem PN_x (T N : aH) (k : Int) {x : Int} (h : x ≠ 0) (j : Int) : PN T N k x j = N x j := PNn_x T N h j _
theorem lsp_sp {T N : aH} (hB : TB T) (s : Int) : (0 ≤ lsp T N s ∧ lsp T N s ≤ T 0 2) ∧ (∀ p, lsp T N s < p → p ≤ T 0 2 → ¬ 0 < N 0 (5 * s + p)) ∧ (0 < lsp T N s → 0 < N 0 (5 * s + lsp T N s)) := by
  have h4 := hB.2.2.1
  have a0 := ff_0 (fun j => decide (0 < N 0 (5 * s + (T 0 2 - j)))) (n := T 0 2)
  have a1 := ff_n (fun j => decide (0 < N 0 (5 * s + (T 0 2 - j)))) (n := T 0 2) h4.1
  refine ⟨by unfold lsp; omega, fun p p0 p1 => ?_, fun h => ?_⟩
  · have z := ff_no (P := fun j => decide (0 < N 0 (5 * s + (T 0 2 - j)))) (n := T 0 2) (k := T 0 2 - p) (by omega) (by unfold lsp at p0; omega)
    have z2 := of_decide_eq_false z
    rwa [show T 0 2 - (T 0 2 - p) = p by omega] at z2
  · have z := ff_at (P := fun j => decide (0 < N 0 (5 * s + (T 0 2 - j)))) (n := T 0 2) (by unfold lsp at h; omega)
    exact of_decide_eq_true z
theorem lsp_cr {T N M : aH} (s : Int) (h : ∀ p, 0 ≤ p → p ≤ T 0 2 → M 0 (5 * s + p) = N 0 (5 * s + p)) : lsp T M s = lsp T N s := by
  unfold lsp
  rw [ff_congr (fun j j0 j1 => by rw [h (T 0 2 - j) (by omega) (by omega)])]
theorem lss_sp {T N : aH} (hB : TB T) : (-1 ≤ lss T N ∧ lss T N < T 0 1 ∨ lss T N = -1) ∧ (∀ u, lss T N < u → u < T 0 1 → ¬ 0 < lsp T N u) ∧ (0 ≤ lss T N → 0 < lsp T N (lss T N)) := by
  have h5 := hB.2.1
  have a0 := ff_0 (fun j => decide (0 < lsp T N (T 0 1 - 1 - j))) (n := T 0 1)
  have a1 := ff_n (fun j => decide (0 < lsp T N (T 0 1 - 1 - j))) (n := T 0 1) h5.1
  refine ⟨by unfold lss; omega, fun p p0 p1 => ?_, fun h => ?_⟩
  · have z := ff_no (P := fun j => decide (0 < lsp T N (T 0 1 - 1 - j))) (n := T 0 1) (k := T 0 1 - 1 - p) (by omega) (by unfold lss at p0; omega)
    have z2 := of_decide_eq_false z
    rwa [show T 0 1 - 1 - (T 0 1 - 1 - p) = p by omega] at z2
  · have z := ff_at (P := fun j => decide (0 < lsp T N (T 0 1 - 1 - j))) (n := T 0 1) (by unfold lss at h; omega)
    exact of_decide_eq_true z
theorem pkP_cr {T N M : aH} (h0 : ∀ u p, 0 ≤ u → u < T 0 1 → 0 ≤ p → p < T 0 2 → M 0 (5 * u + p) = N 0 (5 * u + p)) : pkP T M = pkP T N := by
  have e : ∀ t, 0 ≤ t → pkT T M t = pkT T N t := fun t t0 => by
    unfold pkT
    by_cases c : t < T 0 2
    · rw [if_pos c, if_pos c]
      exact pk5_congr (fun s s0 s1 => by
        unfold ctn
        by_cases d : 0 ≤ s ∧ s < T 0 1
        · rw [if_pos d, if_pos d, h0 s t d.1 d.2 t0 c]
        · rw [if_neg d, if_neg d])
    · rw [if_neg c, if_neg c]
  unfold pkP
  rw [e 0 (by omega), e 1 (by omega), e 2 (by omega), e 3 (by omega)]
theorem sI_one (a c : Int) {n : Int} (a0 : 0 ≤ a) (h : a < n) : sI (fun p => if p = a then c else 0) n = c := by
  have z := sI_bd (f := fun _ => 0) (a := 0) (b := 0) (n := n) (by omega) (fun _ _ _ => ⟨Int.le_refl _, Int.le_refl _⟩)
  have e : sI (fun p => if p = a then c else 0) n = sI (fun p => (fun _ => 0) p + (if p = a then c else 0)) n := sI_congr (fun k _ _ => by simp only [Int.zero_add])
  rw [e, sI_upd (fun _ => 0) a0 h]
  omega
theorem alv_s {T : aH} (hB : TB T) (u : Int) : sI (fun p => alv T u p) (T 0 2 + 1) = T 2 (4 * u) := by
  have h4 := hB.2.2.1
  exact sI_one _ _ h4.1 (by omega)
theorem alv_nn {T : aH} (hB : TB T) {u : Int} (u0 : 0 ≤ u) (u1 : u < T 0 1) (p : Int) : 0 ≤ alv T u p := by
  have := (hB.2.2.2.2.2.1 u u0 u1).1
  unfold alv; split <;> omega
theorem PN0_NB {T N : aH} (hN : NB T N) (hB : TB T) : NB T (PN0 T N) := by
  have h4 := hB.2.2.1
  refine ⟨fun s p a b c d => by rw [PN0_0 _ _ c (by omega)]; exact alv_nn hB a b p, fun s a b => ?_, ?_⟩
  · rw [← alv_s hB s]
    exact sI_congr (fun k k0 k1 => PN0_0 _ _ k0 (by omega))
  · simp only [PN0_x T N (show (1 : Int) ≠ 0 by omega), PN0_x T N (show (2 : Int) ≠ 0 by omega), PN0_x T N (show (3 : Int) ≠ 0 by omega), PN0_x T N (show (4 : Int) ≠ 0 by omega)]
    exact hN.2.2
theorem nwv_nn {T N : aH} (hN : NB T N) (hB : TB T) {u p : Int} (u0 : 0 ≤ u) (u1 : u < T 0 1) (p0 : 0 ≤ p) (p1 : p ≤ T 0 2) (h : 0 < lsp T N u) : 0 ≤ nwv T N u p := by
  obtain ⟨a, b, c⟩ := lsp_sp (N := N) hB u
  have d := hN.1 u p u0 u1 p0 p1
  have e := c h
  unfold nwv
  repeat' split
  all_goals omega
theorem nwv_s {T N : aH} (hN : NB T N) (hB : TB T) {u : Int} (u0 : 0 ≤ u) (u1 : u < T 0 1) (h : 0 < lsp T N u) : sI (fun p => nwv T N u p) (T 0 2 + 1) = T 2 (4 * u) := by
  obtain ⟨a, b, c⟩ := lsp_sp (N := N) hB u
  have h4 := hB.2.2.1
  have hs := hN.2.1 u u0 u1
  have hT := hN.1 u (T 0 2) u0 u1 h4.1 (Int.le_refl _)
  have e : sI (fun p => nwv T N u p) (T 0 2 + 1) = sI (fun p => ((N 0 (5 * u + p) + (if p = lsp T N u - 1 then 1 else 0)) + (if p = lsp T N u then -(if lsp T N u = T 0 2 then 0 else N 0 (5 * u + lsp T N u)) else 0)) + (if p = T 0 2 then N 0 (5 * u + lsp T N u) - 1 - N 0 (5 * u + T 0 2) else 0)) (T 0 2 + 1) := sI_congr (fun p p0 p1 => by
    unfold nwv
    by_cases e1 : p = lsp T N u - 1
    · rw [if_pos e1, if_pos e1, if_neg (show ¬ p = lsp T N u by omega), if_neg (show ¬ p = T 0 2 by omega)]; omega
    · rw [if_neg e1, if_neg e1]
      by_cases e2 : p = T 0 2
      · rw [if_pos e2, if_pos e2]
        by_cases e3 : p = lsp T N u
        · rw [if_pos e3, if_pos (show lsp T N u = T 0 2 by omega), e2]; omega
        · rw [if_neg e3, e2]; omega
      · rw [if_neg e2, if_neg e2]
        by_cases e3 : p = lsp T N u
        · rw [if_pos e3, if_pos e3, if_neg (show ¬ lsp T N u = T 0 2 by omega), e3]; omega
        · rw [if_neg e3, if_neg e3]; omega)
  rw [e, sI_upd (fun p => (N 0 (5 * u + p) + (if p = lsp T N u - 1 then 1 else 0)) + (if p = lsp T N u then -(if lsp T N u = T 0 2 then 0 else N 0 (5 * u + lsp T N u)) else 0)) h4.1 (by omega), sI_upd (fun p => N 0 (5 * u + p) + (if p = lsp T N u - 1 then 1 else 0)) a.1 (by omega), sI_upd (fun p => N 0 (5 * u + p)) (show 0 ≤ lsp T N u - 1 by omega) (by omega), hs]
  by_cases d : lsp T N u = T 0 2
  · rw [if_pos d, d]; omega
  · rw [if_neg d]
    have := b (T 0 2) (by omega) (Int.le_refl _)
    omega
theorem sq_NB {T N : aH} (hN : NB T N) (hB : TB T) : NB T (sq T N) := by
  have h4 := hB.2.2.1
  obtain ⟨a, b, c⟩ := lss_sp (N := N) hB
  refine ⟨fun s p s0 s1 p0 p1 => ?_, fun s s0 s1 => ?_, ?_⟩
  · rw [sq_0 _ _ p0 (by omega)]
    unfold sqv
    by_cases c1 : s < lss T N
    · rw [if_pos c1]; exact hN.1 s p s0 s1 p0 p1
    · rw [if_neg c1]
      by_cases c2 : s = lss T N
      · rw [if_pos c2]; exact nwv_nn hN hB s0 s1 p0 p1 (by rw [c2]; exact c (by omega))
      · rw [if_neg c2]; exact alv_nn hB s0 s1 p
  · have e : sI (fun p => sq T N 0 (5 * s + p)) (T 0 2 + 1) = sI (fun p => sqv T N s p) (T 0 2 + 1) := sI_congr (fun p p0 p1 => sq_0 _ _ p0 (by omega))
    rw [e]
    unfold sqv
    by_cases c1 : s < lss T N
    · simp only [if_pos c1]; exact hN.2.1 s s0 s1
    · simp only [if_neg c1]
      by_cases c2 : s = lss T N
      · simp only [if_pos c2]; exact nwv_s hN hB s0 s1 (by rw [c2]; exact c (by omega))
      · simp only [if_neg c2]; exact alv_s hB s
  · simp only [sq_x T N (show (1 : Int) ≠ 0 by omega), sq_x T N (show (2 : Int) ≠ 0 by omega), sq_x T N (show (3 : Int) ≠ 0 by omega), sq_x T N (show (4 : Int) ≠ 0 by omega)]
    exact hN.2.2
theorem PNn_NB {T N : aH} (hN : NB T N) (hB : TB T) : ∀ k : Nat, NB T (PNn T N k) := by
  intro k
  induction k with
  | zero => exact PN0_NB hN hB
  | succ k ih => exact sq_NB ih hB
theorem PN_NB {T N : aH} (hN : NB T N) (hB : TB T) (k : Int) : NB T (PN T N k) := PNn_NB hN hB _
/-- c of one sort -/
def mon (s c : Int) : Int → Int := fun u => if u = s then c else 0
theorem pk5_mon {s : Int} (c : Int) (s0 : 0 ≤ s) (s1 : s < 5) : c * p2 (3 * s) = pk5 (mon s c) := by
  rcases cs5 s0 s1 with rfl | rfl | rfl | rfl | rfl
  · rw [p2_30]; simp [pk5, mon]
  · rw [p2_31]; simp [pk5, mon]; omega
  · rw [p2_32]; simp [pk5, mon]; omega
  · rw [p2_33]; simp [pk5, mon]; omega
  · rw [p2_34]; simp [pk5, mon]; omega
/-- towns behind t of the sort s emptied while none was alone -/
def rsv (T N : aH) (s t u p : Int) : Int := if u = s then (if p = T 0 2 then N 0 (5 * s + (t + 1)) else if t < p then 0 else N 0 (5 * s + p)) else N 0 (5 * u + p)
theorem rsv_0 (T N : aH) {s u p : Int} (p1 : p ≤ T 0 2) : N 0 (5 * u + p) = rsv T N s (T 0 2 - 1 - 0) u p := by
  unfold rsv
  by_cases c : u = s
  · rw [if_pos c, c]
    by_cases d : p = T 0 2
    · rw [if_pos d, d, show T 0 2 - 1 - 0 + 1 = T 0 2 by omega]
    · rw [if_neg d, if_neg (by omega)]
  · rw [if_neg c]
theorem rsv_s {T N M : aH} {s k : Int} (k0 : 0 ≤ k) (c : k < T 0 2) (hz : N 0 (5 * s + (T 0 2 - k)) = 0) {u p : Int} (p0 : 0 ≤ p) (p5 : p < 5)
    (hv : M 0 (5 * u + p) = rsv T N s (T 0 2 - 1 - k) u p) : mvN M (mon s (N 0 (5 * s + (T 0 2 - 1 - k)))) (T 0 2 - 1 - k) (T 0 2) 0 (5 * u + p) = rsv T N s (T 0 2 - 1 - (k + 1)) u p := by
  rw [mvN_0 _ _ _ _ p0 p5, hv]
  unfold rsv mon
  by_cases q : u = s
  · simp only [if_pos q]
    by_cases q1 : p = T 0 2
    · simp only [if_pos q1, if_neg (show ¬ p = T 0 2 - 1 - k by omega)]
      rw [show T 0 2 - 1 - (k + 1) + 1 = T 0 2 - 1 - k by omega, show T 0 2 - 1 - k + 1 = T 0 2 - k by omega, hz]; omega
    · simp only [if_neg q1]
      by_cases q2 : p = T 0 2 - 1 - k
      · rw [if_pos q2, if_neg (by omega), if_pos (by omega), q2]; omega
      · rw [if_neg q2]
        by_cases q3 : T 0 2 - 1 - k < p
        · rw [if_pos q3, if_pos (by omega)]; omega
        · rw [if_neg q3, if_neg (by omega)]; omega
  · simp only [if_neg q]
    split <;> split <;> omega
/-- a step of the inner loop that stops -/
theorem npt_a {pl : Int} {T M : aH} {τ : aS} (hC : CI pl T τ) (hM : NB T M) {s t : Int} (s0 : 0 ≤ s) (s1 : s < T 0 1) (t0 : 0 ≤ t) (t1 : t < T 0 2) (ea : 0 < M 0 (5 * s + T 0 2)) :
    aU4 c9_nextParting_b32 [pl, pkP T M, s, t] τ = some (56, [pl, pkP T M, s, t], τ) := by
  have hB := hC.2.2.2.2.2
  have h4 := hB.2.2.1
  have h5 := hB.2.1
  have hal := c4_alone_ok hC
  have hcr := c4_crewAt_ok hC hM h4.1 (Int.le_refl _)
  have b7 := (ctn_BF hM hB h4.1 (Int.le_refl _)).b7 hB
  have hpt := c11_part_ok b7 s0 (show s < 5 by omega) τ
  rw [ctn_in M _ s0 s1] at hpt
  simp (disch := omega) only [aU4, c9_nextParting_b32, ↓reduceIte, acall1_some, acall0_some, q_lt, q_nlt, q_le, q_nle, q_eq, q_ne, q_01, true_or, or_true, false_or, or_false, false_and, and_false, and_self, and_true, true_and, wq, wQ, alen_aput, ag_s, ag_x, ag_j, ag_e, hal, hcr, hpt]
theorem npt_f {T M : aH} (hM : NB T M) {s t : Int} (t0 : 0 ≤ t) (t1 : t ≤ T 0 2) {c : Int} (hc : 0 ≤ c ∧ c ≤ M 0 (5 * s + t)) : ∀ u, 0 ≤ u → u < T 0 1 → 0 ≤ mon s c u ∧ mon s c u ≤ M 0 (5 * u + t) := fun u u0 u1 => by
  unfold mon
  by_cases q : u = s
  · rw [if_pos q, q]; exact hc
  · rw [if_neg q]; exact ⟨Int.le_refl _, hM.1 u _ u0 u1 t0 t1⟩
theorem mon_z {T : aH} {s : Int} (s0 : 0 ≤ s) (s1 : s < T 0 1) (c : Int) : ∀ u, ¬ (0 ≤ u ∧ u < T 0 1) → mon s c u = 0 := fun u hu => by unfold mon; exact if_neg (fun q => hu (by omega))
/-- a step of the inner loop that goes on -/
theorem npt_b {pl : Int} {T M : aH} {τ : aS} (hC : CI pl T τ) (hM : NB T M) {s t : Int} (s0 : 0 ≤ s) (s1 : s < T 0 1) (t0 : 0 ≤ t) (t1 : t < T 0 2) (ea : ¬ 0 < M 0 (5 * s + T 0 2)) :
    aU4 c9_nextParting_b32 [pl, pkP T M, s, t] τ = some (33, [pl, pkP T (mvN M (mon s (M 0 (5 * s + t))) t (T 0 2)), s, t + (-1)], τ) := by
  have hB := hC.2.2.2.2.2
  have h4 := hB.2.2.1
  have h5 := hB.2.1
  have hal := c4_alone_ok hC
  have h1 := c11_one_ok (s := s) τ s0 (by omega)
  have hcr := c4_crewAt_ok hC hM h4.1 (Int.le_refl _)
  have b7 := (ctn_BF hM hB h4.1 (Int.le_refl _)).b7 hB
  have hpt := c11_part_ok b7 s0 (show s < 5 by omega) τ
  rw [ctn_in M _ s0 s1] at hpt
  have hcr2 := c4_crewAt_ok hC hM t0 (Int.le_of_lt t1)
  have b72 := (ctn_BF hM hB t0 (Int.le_of_lt t1)).b7 hB
  have hpt2 := c11_part_ok b72 s0 (show s < 5 by omega) τ
  rw [ctn_in M _ s0 s1] at hpt2
  have hn := hM.le hB s0 s1 t0 (Int.le_of_lt t1)
  have hf := npt_f hM (s := s) t0 (Int.le_of_lt t1) (c := M 0 (5 * s + t)) ⟨hn.1, Int.le_refl _⟩
  have hmon := pk5_mon (s := s) (M 0 (5 * s + t)) s0 (by omega)
  have hmz := mon_z (T := T) s0 s1 (M 0 (5 * s + t))
  have hk := pk5_bd (f := mon s (M 0 (5 * s + t))) (fun u u0 u1 => by
    by_cases q : u < T 0 1
    · have a := hf u u0 q
      have b := hM.le hB u0 q t0 (Int.le_of_lt t1)
      omega
    · rw [hmz u (fun e => q e.2)]; omega)
  have hsh := c4_shifted_ok hC hM (f := mon s (M 0 (5 * s + t))) (a := t) (b := T 0 2) t0 (Int.le_of_lt t1) h4.1 (Int.le_refl _) (by omega) hf hmz
  show c9_nextParting_b32 pl (pkP T M) s t τ = _
  unfold c9_nextParting_b32 c9_nextParting_p91
  refine ite_n (by omega) (acall1_h hal (acall1_h hcr (acall1_h hpt (ite_n ea (acall1_h hcr2 (acall1_h hpt2 (acall1_h h1 (acall1_h hal (acall1_h (v := pkP T (mvN M (mon s (M 0 (5 * s + t))) t (T 0 2))) (τ := τ) ?_ ?_)))))))))
  · rw [hmon, wq (by omega) (by omega)]; exact hsh
  · rw [wq (by omega) (by omega)]
theorem npt_in {pl : Int} {T N : aH} {σ : aS} (hC : CI pl T σ) (hN : NB T N) {s : Int} (s0 : 0 ≤ s) (s1 : s < T 0 1) :
    (∃ M, aloop 33 (aU4 c9_nextParting_b32) aBig [pl, pkP T N, s, T 0 2 - 1] σ = some (117, [pl, pkP T M, s], σ) ∧ lsp T N s = 0 ∧ NB T M ∧ (∀ x j : Int, x ≠ 0 → M x j = N x j) ∧ ∀ u p, 0 ≤ u → u < T 0 1 → 0 ≤ p → p ≤ T 0 2 → M 0 (5 * u + p) = rsv T N s (-1) u p) ∨
    (∃ M, aloop 33 (aU4 c9_nextParting_b32) aBig [pl, pkP T N, s, T 0 2 - 1] σ = some (56, [pl, pkP T M, s, lsp T N s - 1], σ) ∧ 0 < lsp T N s ∧ NB T M ∧ (∀ x j : Int, x ≠ 0 → M x j = N x j) ∧ ∀ u p, 0 ≤ u → u < T 0 1 → 0 ≤ p → p ≤ T 0 2 → M 0 (5 * u + p) = rsv T N s (lsp T N s - 1) u p) := by
  have hB := hC.2.2.2.2.2
  have h4 := hB.2.2.1
  have h5 := hB.2.1
  have ls := lsp_sp (N := N) hB s
  have hal1 := al_I (c := 33) (B := aU4 c9_nextParting_b32) (n := T 0 2) (i := 0) (vs := [pl, pkP T N, s, T 0 2 - 1]) (σ := σ)
    (fun k vs τ => τ = σ ∧ 0 ≤ k ∧ ∃ M, vs = [pl, pkP T M, s, T 0 2 - 1 - k] ∧ NB T M ∧ (∀ x j : Int, x ≠ 0 → M x j = N x j) ∧ (∀ u p, 0 ≤ u → u < T 0 1 → 0 ≤ p → p ≤ T 0 2 → M 0 (5 * u + p) = rsv T N s (T 0 2 - 1 - k) u p) ∧ ∀ p, T 0 2 - k < p → p ≤ T 0 2 → ¬ 0 < N 0 (5 * s + p))
    (fun r => (∃ M, r = (117, [pl, pkP T M, s], σ) ∧ lsp T N s = 0 ∧ NB T M ∧ (∀ x j : Int, x ≠ 0 → M x j = N x j) ∧ ∀ u p, 0 ≤ u → u < T 0 1 → 0 ≤ p → p ≤ T 0 2 → M 0 (5 * u + p) = rsv T N s (-1) u p) ∨
      (∃ M, r = (56, [pl, pkP T M, s, lsp T N s - 1], σ) ∧ 0 < lsp T N s ∧ NB T M ∧ (∀ x j : Int, x ≠ 0 → M x j = N x j) ∧ ∀ u p, 0 ≤ u → u < T 0 1 → 0 ≤ p → p ≤ T 0 2 → M 0 (5 * u + p) = rsv T N s (lsp T N s - 1) u p))
    (by omega) (by omega) ⟨rfl, Int.le_refl _, N, by rw [Int.sub_zero], hN, fun _ _ _ => rfl, fun u p u0 u1 p0 p1 => rsv_0 T N p1, fun p p0 p1 => by omega⟩ ?_
  · obtain ⟨r, hr, h⟩ := hal1
    rcases h with ⟨M, rfl, h⟩ | ⟨M, rfl, h⟩
    · exact Or.inl ⟨M, hr, h⟩
    · exact Or.inr ⟨M, hr, h⟩
  · rintro k vs τ k1 ⟨rfl, k0, M, rfl, hM, hx, hv, hz⟩
    by_cases c : k < T 0 2
    · have ea : M 0 (5 * s + T 0 2) = N 0 (5 * s + (T 0 2 - k)) := by
        rw [hv s _ s0 s1 h4.1 (Int.le_refl _)]; unfold rsv; rw [if_pos rfl, if_pos rfl, show T 0 2 - 1 - k + 1 = T 0 2 - k by omega]
      by_cases d : 0 < N 0 (5 * s + (T 0 2 - k))
      · have el : lsp T N s - 1 = T 0 2 - 1 - k := by
          rcases (show lsp T N s < T 0 2 - k ∨ lsp T N s = T 0 2 - k ∨ T 0 2 - k < lsp T N s by omega) with q | q | q
          · exact absurd d (ls.2.1 _ q (by omega))
          · omega
          · exact absurd (ls.2.2 (by omega)) (hz _ q ls.1.2)
        refine Or.inr ⟨(56, [pl, pkP T M, s, T 0 2 - 1 - k], τ), npt_a hC hM s0 s1 (by omega) (by omega) (by rw [ea]; exact d), Nat.ne_of_beq_eq_false rfl, Or.inr ⟨M, ?_, by omega, hM, hx, ?_⟩⟩
        · rw [el]
        · rw [el]; exact hv
      · have et : M 0 (5 * s + (T 0 2 - 1 - k)) = N 0 (5 * s + (T 0 2 - 1 - k)) := by
          rw [hv s _ s0 s1 (by omega) (by omega)]; unfold rsv; rw [if_pos rfl, if_neg (by omega), if_neg (by omega)]
        have hn := hM.1 s (T 0 2 - 1 - k) s0 s1 (by omega) (by omega)
        have hst := npt_b hC hM s0 s1 (t := T 0 2 - 1 - k) (by omega) (by omega) (by rw [ea]; exact d)
        have hf := npt_f hM (s := s) (t := T 0 2 - 1 - k) (by omega) (by omega) (c := M 0 (5 * s + (T 0 2 - 1 - k))) ⟨hn, Int.le_refl _⟩
        have hMN := mv_NB hM hB (f := mon s (M 0 (5 * s + (T 0 2 - 1 - k)))) (a := T 0 2 - 1 - k) (b := T 0 2) (by omega) (by omega) h4.1 (Int.le_refl _) (by omega) hf
        rw [et] at hst hMN
        have hz1 := hN.1 s (T 0 2 - k) s0 s1 (by omega) (by omega)
        refine Or.inl ⟨c, _, τ, hst, rfl, by omega, _, ?_, hMN, fun x j hq => by rw [mvN_x _ _ _ _ hq]; exact hx x j hq, fun u p u0 u1 p0 p1 => rsv_s k0 c (by omega) p0 (by omega) (hv u p u0 u1 p0 p1), fun p p0 p1 => ?_⟩
        · rw [show T 0 2 - 1 - k + (-1) = T 0 2 - 1 - (k + 1) by omega]
        · by_cases q : p = T 0 2 - k
          · rw [q]; exact d
          · exact hz p (by omega) p1
    · have hk : k = T 0 2 := by omega
      subst hk
      have el : lsp T N s = 0 := by
        rcases (show lsp T N s = 0 ∨ 0 < lsp T N s by omega) with q | q
        · exact q
        · exact absurd (ls.2.2 q) (hz _ (by omega) ls.1.2)
      refine Or.inr ⟨(117, [pl, pkP T M, s], τ), ?_, Nat.ne_of_beq_eq_false rfl, Or.inl ⟨M, rfl, el, hM, hx, fun u p u0 u1 p0 p1 => by rw [hv u p u0 u1 p0 p1, show T 0 2 - 1 - T 0 2 = -1 by omega]⟩⟩
      simp (disch := omega) only [aU4, c9_nextParting_b32, ↓reduceIte, acall1_some, acall0_some, q_lt, q_nlt, q_le, q_nle, q_eq, q_ne, q_01, true_or, or_true, false_or, or_false, false_and, and_false, and_self, and_true, true_and, wq, wQ, alen_aput, ag_s, ag_x, ag_j, ag_e]
