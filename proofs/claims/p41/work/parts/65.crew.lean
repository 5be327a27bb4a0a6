/-! the class's half of whole's part of this name -/
theorem smN_nn {f : Int → Int} {n : Nat} (h : ∀ k : Int, 0 ≤ k → k < n → 0 ≤ f k) : 0 ≤ smN f n := by
  have := smN_bd (f := f) (a := 0) (b := 0 + smN f n) (n := 0)
  induction n with
  | zero => exact Int.le_refl _
  | succ n ih =>
    unfold smN
    have h1 := ih (fun k h0 h1 => h k h0 (by omega)) (by intro _; simp [smN])
    have h2 := h n (by omega) (by omega)
    omega
theorem smN_mem {f : Int → Int} {n : Nat} (h : ∀ k : Int, 0 ≤ k → k < n → 0 ≤ f k) {j : Int} (h0 : 0 ≤ j) (h1 : j < n) : f j ≤ smN f n := by
  induction n with
  | zero => omega
  | succ n ih =>
    unfold smN
    have hn := smN_nn (f := f) (n := n) (fun k h0 h1 => h k h0 (by omega))
    have h2 := h n (by omega) (by omega)
    by_cases e : j = n
    · subst e; omega
    · have := ih (fun k h0 h1 => h k h0 (by omega)) (by omega)
      omega
theorem sI_nn {f : Int → Int} {n : Int} (h : ∀ k : Int, 0 ≤ k → k < n → 0 ≤ f k) : 0 ≤ sI f n := smN_nn (fun k h0 h1 => h k h0 (by omega))
theorem sI_mem {f : Int → Int} {n : Int} (h : ∀ k : Int, 0 ≤ k → k < n → 0 ≤ f k) {j : Int} (h0 : 0 ≤ j) (h1 : j < n) : f j ≤ sI f n := smN_mem (fun k h0 h1 => h k h0 (by omega)) h0 (by omega)
theorem NB.le {T N : aH} (hN : NB T N) (hB : TB T) {s p : Int} (h0 : 0 ≤ s) (h1 : s < T 0 1) (h2 : 0 ≤ p) (h3 : p ≤ T 0 2) : 0 ≤ N 0 (5 * s + p) ∧ N 0 (5 * s + p) ≤ T 2 (4 * s) ∧ T 2 (4 * s) ≤ 6 := by
  have e := hN.2.1 s h0 h1
  have m := sI_mem (f := fun p => N 0 (5 * s + p)) (n := T 0 2 + 1) (fun k k0 k1 => hN.1 s k h0 h1 k0 (by omega)) h2 (by omega)
  have b := (hB.2.2.2.2.2.1 s h0 h1).1
  have c := hN.1 s p h0 h1 h2 h3
  omega
theorem ctn_in {T : aH} (N : aH) (p : Int) {s : Int} (h0 : 0 ≤ s) (h1 : s < T 0 1) : ctn T N p s = N 0 (5 * s + p) := if_pos ⟨h0, h1⟩
theorem hsf_in {T : aH} {s : Int} (h0 : 0 ≤ s) (h1 : s < T 0 1) : hsf T s = T 2 (4 * s) := if_pos ⟨h0, h1⟩
theorem ctn_bd {T N : aH} (hN : NB T N) (hB : TB T) {p : Int} (h2 : 0 ≤ p) (h3 : p ≤ T 0 2) (s : Int) : 0 ≤ ctn T N p s ∧ ctn T N p s ≤ hsf T s ∧ hsf T s ≤ 6 := by
  by_cases h : 0 ≤ s ∧ s < T 0 1
  · rw [ctn_in N p h.1 h.2, hsf_in h.1 h.2]
    exact hN.le hB h.1 h.2 h2 h3
  · unfold ctn hsf
    rw [if_neg h, if_neg h]
    omega
theorem ctn_BF {T N : aH} (hN : NB T N) (hB : TB T) {p : Int} (h2 : 0 ≤ p) (h3 : p ≤ T 0 2) : BF T (ctn T N p) :=
  ⟨fun s _ _ => ⟨(ctn_bd hN hB h2 h3 s).1, (ctn_bd hN hB h2 h3 s).2.1⟩, fun s h => if_neg h⟩
theorem hsf_bd {T : aH} (hB : TB T) (s : Int) : 0 ≤ hsf T s ∧ hsf T s ≤ 6 := by
  unfold hsf
  by_cases h : 0 ≤ s ∧ s < T 0 1
  · rw [if_pos h]
    have := (hB.2.2.2.2.2.1 s h.1 h.2).1
    omega
  · rw [if_neg h]; omega
theorem BF.b7 {T : aH} {f : Int → Int} (h : BF T f) (hB : TB T) : ∀ s, 0 ≤ s → s < 5 → 0 ≤ f s ∧ f s ≤ 7 := fun s h0 h1 => by
  have a := h.1 s h0 h1
  have b := hsf_bd hB s
  omega
theorem BF.sz {T : aH} {f : Int → Int} (h : BF T f) (hB : TB T) : 0 ≤ szf f ∧ szf f ≤ 12 := by
  have a0 := h.1 0 (by omega) (by omega)
  have a1 := h.1 1 (by omega) (by omega)
  have a2 := h.1 2 (by omega) (by omega)
  have a3 := h.1 3 (by omega) (by omega)
  have a4 := h.1 4 (by omega) (by omega)
  have e := hB.2.2.2.2.2.2.1
  unfold szf at e ⊢
  omega
theorem pkT_bd {T N : aH} (hN : NB T N) (hB : TB T) {t : Int} (h0 : 0 ≤ t) : 0 ≤ pkT T N t ∧ pkT T N t ≤ 32767 := by
  unfold pkT
  by_cases h : t < T 0 2
  · rw [if_pos h]
    exact pk5_bd (fun s h4 h5 => by have := ctn_bd hN hB h0 (Int.le_of_lt h) s; omega)
  · rw [if_neg h]; omega
theorem p2_150 : p2 (15 * 0) = 1 := rfl
theorem p2_151 : p2 (15 * 1) = 32768 := rfl
theorem p2_152 : p2 (15 * 2) = 1073741824 := rfl
theorem p2_153 : p2 (15 * 3) = 35184372088832 := rfl
theorem cs4 {s : Int} (h0 : 0 ≤ s) (h1 : s < 4) : s = 0 ∨ s = 1 ∨ s = 2 ∨ s = 3 := by omega
theorem w32_m15 (x : Int) : w32 x % 32768 = x % 32768 := by unfold w32; omega
theorem pkP_bd {T N : aH} (hN : NB T N) (hB : TB T) : 0 ≤ pkP T N ∧ pkP T N ≤ 1152921504606846975 := by
  have a0 := pkT_bd hN hB (t := 0) (by omega)
  have a1 := pkT_bd hN hB (t := 1) (by omega)
  have a2 := pkT_bd hN hB (t := 2) (by omega)
  have a3 := pkT_bd hN hB (t := 3) (by omega)
  unfold pkP; omega
theorem c4_crewOf_ok {T N : aH} (hN : NB T N) (hB : TB T) {t : Int} (h0 : 0 ≤ t) (h1 : t < 4) (σ : aS) : c4_crewOf (pkP T N) t σ = some (0, [pkT T N t], σ) := by
  have hP := pkP_bd hN hB
  have a0 := pkT_bd hN hB (t := 0) (by omega)
  have a1 := pkT_bd hN hB (t := 1) (by omega)
  have a2 := pkT_bd hN hB (t := 2) (by omega)
  have a3 := pkT_bd hN hB (t := 3) (by omega)
  unfold c4_crewOf
  rw [wq (x := 15 * t) (by omega) (by omega), aand_32767, w32_m15, ashrl_p (by omega) (by omega) (by omega) (by omega)]
  rcases cs4 h0 h1 with rfl | rfl | rfl | rfl
  · rw [p2_150, show pkP T N / 1 % 32768 = pkT T N 0 by unfold pkP; omega]
  · rw [p2_151, show pkP T N / 32768 % 32768 = pkT T N 1 by unfold pkP; omega]
  · rw [p2_152, show pkP T N / 1073741824 % 32768 = pkT T N 2 by unfold pkP; omega]
  · rw [p2_153, show pkP T N / 35184372088832 % 32768 = pkT T N 3 by unfold pkP; omega]
theorem hsum {T N : aH} (hN : NB T N) (hB : TB T) (s : Int) : hsf T s = sI (fun p => ctn T N p s) (T 0 2 + 1) := by
  by_cases h : 0 ≤ s ∧ s < T 0 1
  · rw [hsf_in h.1 h.2, ← hN.2.1 s h.1 h.2]
    exact sI_congr (fun k _ _ => (ctn_in N k h.1 h.2).symm)
  · have e : sI (fun p => ctn T N p s) (T 0 2 + 1) = sI (fun _ => 0) (T 0 2 + 1) := sI_congr (fun k _ _ => if_neg h)
    have z := sI_bd (f := fun _ => 0) (a := 0) (b := 0) (n := T 0 2 + 1) (by have := hB.2.2.1; omega) (fun _ _ _ => ⟨Int.le_refl _, Int.le_refl _⟩)
    rw [e, show hsf T s = 0 from if_neg h]
    omega
theorem alone_pk {T N : aH} (hN : NB T N) (hB : TB T) : pk5 (hsf T) - sI (pkT T N) (T 0 2) = pk5 (ctn T N (T 0 2)) := by
  have ht := hB.2.2.1
  have e0 := hsum hN hB 0
  have e1 := hsum hN hB 1
  have e2 := hsum hN hB 2
  have e3 := hsum hN hB 3
  have e4 := hsum hN hB 4
  have k : ∀ t, t < T 0 2 → pkT T N t = pk5 (ctn T N t) := fun t h => if_pos h
  rcases (show T 0 2 = 0 ∨ T 0 2 = 1 ∨ T 0 2 = 2 ∨ T 0 2 = 3 ∨ T 0 2 = 4 by omega) with h | h | h | h | h <;> rw [h] at e0 e1 e2 e3 e4 k ⊢
  · simp only [Int.reduceAdd, sI_0, sI_1] at *; unfold pk5; omega
  · simp only [Int.reduceAdd, sI_1, sI_2] at *; rw [k 0 (by omega)]; unfold pk5; omega
  · simp only [Int.reduceAdd, sI_2, sI_3] at *; rw [k 0 (by omega), k 1 (by omega)]; unfold pk5; omega
  · simp only [Int.reduceAdd, sI_3, sI_4] at *; rw [k 0 (by omega), k 1 (by omega), k 2 (by omega)]; unfold pk5; omega
  · simp only [Int.reduceAdd, sI_4, sI_5] at *; rw [k 0 (by omega), k 1 (by omega), k 2 (by omega), k 3 (by omega)]; unfold pk5; omega
theorem pkT_sum {T N : aH} (hN : NB T N) (hB : TB T) {k : Int} (h0 : 0 ≤ k) (h1 : k ≤ T 0 2) : 0 ≤ sI (pkT T N) k ∧ sI (pkT T N) k ≤ 131068 := by
  have := sI_bd (f := pkT T N) (a := 0) (b := 32767) h0 (fun t t0 _ => pkT_bd hN hB t0)
  have := hB.2.2.1
  omega
theorem hsf_pk {T : aH} (hB : TB T) : 0 ≤ pk5 (hsf T) ∧ pk5 (hsf T) ≤ 32767 := pk5_bd (fun s _ _ => by have := hsf_bd hB s; omega)
theorem c4_crewAt_ok {pl : Int} {T N : aH} {σ : aS} (hC : CI pl T σ) (hN : NB T N) {p : Int} (h0 : 0 ≤ p) (h1 : p ≤ T 0 2) : c4_crewAt pl (pkP T N) p σ = some (0, [pk5 (ctn T N p)], σ) := by
  have hal := c4_alone_ok hC
  obtain ⟨hL, hp, hq, hT, hG, hB⟩ := hC
  have ht := hB.2.2.1
  by_cases h : p < T 0 2
  · simp (disch := omega) only [c4_crewAt, hal, acall1_some, if_pos h, c4_crewOf_ok hN hB]
    rw [show pkT T N p = pk5 (ctn T N p) from if_pos h]
  · have hpt : p = T 0 2 := by omega
    have hw := hsf_pk hB
    have hl := al_0 (c := 24) (B := aU4 c4_crewAt_b23) (fun k => [pl, pkP T N, pk5 (hsf T) - sI (pkT T N) k, k]) (fun _ => σ) (n := T 0 2) (r := (0, [pk5 (ctn T N p)], σ)) (by omega) (by omega) ?_ ?_ (Nat.ne_of_beq_eq_false rfl)
    · simp only [c4_crewAt, hal, acall1_some, if_neg h, hT.2.2.2.2.2.2.2.1, c4_crewAt_l23]
      simp only [sI_0, Int.sub_zero] at hl
      rw [hl]
      rfl
    · intro k k0 k1
      have hb := pkT_sum hN hB k0 (by omega)
      have hb2 := pkT_bd hN hB k0
      simp (disch := omega) only [aU4, c4_crewAt_b23, hal, acall1_some, if_pos k1, c4_crewOf_ok hN hB, sI_s, wq]
      rw [show pk5 (hsf T) - sI (pkT T N) k - pkT T N k = pk5 (hsf T) - (sI (pkT T N) k + pkT T N k) by omega]
    · simp only [aU4, c4_crewAt_b23, hal, acall1_some, if_neg (Int.lt_irrefl _)]
      rw [alone_pk hN hB, hpt]
/-- does a crew cover another -/
def cvf (f g : Int → Int) : Bool := decide (ff (fun s => decide (f s < g s)) 5 = 5)
theorem cvf_iff {f g : Int → Int} : cvf f g = true ↔ ∀ s, 0 ≤ s → s < 5 → g s ≤ f s := by
  unfold cvf
  rw [decide_eq_true_iff]
  constructor
  · intro h s h0 h1
    have := ff_no (P := fun s => decide (f s < g s)) (n := 5) h0 (by omega)
    simp only [decide_eq_false_iff_not] at this
    omega
  · intro h
    exact ff_uniq (by omega) (by omega) (fun j h0 h1 => by simp only [decide_eq_false_iff_not]; have := h j h0 h1; omega) (fun q => absurd q (by omega))
theorem c11_covers_ok {f g : Int → Int} (hf : ∀ s, 0 ≤ s → s < 5 → 0 ≤ f s ∧ f s ≤ 7) (hg : ∀ s, 0 ≤ s → s < 5 → 0 ≤ g s ∧ g s ≤ 7) (σ : aS) :
    c11_covers (pk5 f) (pk5 g) σ = some (0, [if cvf f g = true then 1 else 0], σ) := by
  have n0 := ff_0 (fun s => decide (f s < g s)) (n := 5)
  have n5 := ff_n (fun s => decide (f s < g s)) (n := 5) (by omega)
  have hl := al_0 (c := 3) (B := aU3 c11_covers_b2) (fun k => [pk5 f, pk5 g, k]) (fun _ => σ) (n := ff (fun s => decide (f s < g s)) 5) (r := (0, [if cvf f g = true then 1 else 0], σ)) n0 (by omega) ?_ ?_ (Nat.ne_of_beq_eq_false rfl)
  · unfold c11_covers c11_covers_l2
    rw [hl]; rfl
  · intro k k0 k1
    have q := ff_no (P := fun s => decide (f s < g s)) (n := 5) k0 k1
    simp only [decide_eq_false_iff_not] at q
    simp (disch := omega) only [aU3, c11_covers_b2, if_pos (show k < 5 by omega), c11_part_ok hg, c11_part_ok hf, acall1_some, if_neg q, wq]
  · by_cases h : ff (fun s => decide (f s < g s)) 5 = 5
    · have hc : cvf f g = true := by unfold cvf; exact decide_eq_true h
      simp only [aU3, c11_covers_b2, h, hc, if_neg (Int.lt_irrefl _), if_true]
      rfl
    · have q := ff_at (P := fun s => decide (f s < g s)) (n := 5) (by omega)
      simp only [decide_eq_true_iff] at q
      have hc : cvf f g = false := by unfold cvf; exact decide_eq_false h
      simp (disch := omega) only [aU3, c11_covers_b2, if_pos (show ff (fun s => decide (f s < g s)) 5 < 5 by omega), c11_part_ok hg, c11_part_ok hf, acall1_some, if_pos q, hc]
      rfl
