/-! the class's half of whole's part of this name -/
def crf (T : aH) (n : Int) : Int → Int := fun s =>
  if s = 0 then n / wt0 T else if s = 1 then n % wt0 T / wt1 T else if s = 2 then n % wt0 T % wt1 T / wt2 T else if s = 3 then n % wt0 T % wt1 T % wt2 T / wt3 T else if s = 4 then n % wt0 T % wt1 T % wt2 T % wt3 T else 0
theorem dvq {n w : Int} (hw : 1 ≤ w) : n = n / w * w + n % w ∧ 0 ≤ n % w ∧ n % w < w := by
  have h1 := Int.emod_add_mul_ediv n w
  have h2 := Int.emod_nonneg n (show w ≠ 0 by omega)
  have h3 := Int.emod_lt_of_pos n (show 0 < w by omega)
  rw [Int.mul_comm w] at h1
  omega
theorem div_le {n w h : Int} (n0 : 0 ≤ n) (hw : 1 ≤ w) (hn : n < (h + 1) * w) : 0 ≤ n / w ∧ n / w ≤ h := by
  have a := Int.ediv_nonneg n0 (show (0 : Int) ≤ w by omega)
  have b := Int.ediv_lt_of_lt_mul (show 0 < w by omega) hn
  omega
theorem crf_BF {T : aH} (hB : TB T) {n : Int} (n0 : 0 ≤ n) (n1 : n < crw T) : BF T (crf T n) ∧ nuf T (crf T n) = n := by
  obtain ⟨w3, w2, w1, w0, -⟩ := wt_pos hB
  have q0 := dvq (n := n) w0
  have q1 := dvq (n := n % wt0 T) w1
  have q2 := dvq (n := n % wt0 T % wt1 T) w2
  have q3 := dvq (n := n % wt0 T % wt1 T % wt2 T) w3
  have d0 := div_le (h := hsf T 0) n0 w0 (by unfold crw at n1; exact n1)
  have d1 := div_le (h := hsf T 1) q0.2.1 w1 (by have := q0.2.2; unfold wt0 at this ⊢; exact this)
  have d2 := div_le (h := hsf T 2) q1.2.1 w2 (by have := q1.2.2; unfold wt1 at this ⊢; exact this)
  have d3 := div_le (h := hsf T 3) q2.2.1 w3 (by have := q2.2.2; unfold wt2 at this ⊢; exact this)
  have d4 : n % wt0 T % wt1 T % wt2 T % wt3 T ≤ hsf T 4 := by have := q3.2.2; unfold wt3 at this ⊢; omega
  have e0 : crf T n 0 = n / wt0 T := rfl
  have e1 : crf T n 1 = n % wt0 T / wt1 T := rfl
  have e2 : crf T n 2 = n % wt0 T % wt1 T / wt2 T := rfl
  have e3 : crf T n 3 = n % wt0 T % wt1 T % wt2 T / wt3 T := rfl
  have e4 : crf T n 4 = n % wt0 T % wt1 T % wt2 T % wt3 T := rfl
  have key : ∀ s, 0 ≤ s → s < 5 → 0 ≤ crf T n s ∧ crf T n s ≤ hsf T s := by
    intro s s0 s5
    rcases cs5 s0 s5 with rfl | rfl | rfl | rfl | rfl
    · rw [e0]; exact d0
    · rw [e1]; exact d1
    · rw [e2]; exact d2
    · rw [e3]; exact d3
    · rw [e4]; exact ⟨q3.2.1, d4⟩
  refine ⟨⟨key, fun s hs => ?_⟩, ?_⟩
  · by_cases c : 0 ≤ s ∧ s < 5
    · have h1 := key s c.1 c.2
      have h2 : hsf T s = 0 := if_neg hs
      omega
    · unfold crf
      rw [if_neg (by omega), if_neg (by omega), if_neg (by omega), if_neg (by omega), if_neg (by omega)]
  · unfold nuf
    rw [e0, e1, e2, e3, e4]
    have a0 := q0.1
    have a1 := q1.1
    have a2 := q2.1
    have a3 := q3.1
    omega
theorem crf_nuf {T : aH} (hB : TB T) {f : Int → Int} (hf : BF T f) : ∀ s, crf T (nuf T f) s = f s := by
  have a0 := hf.1 0 (by omega) (by omega)
  have a1 := hf.1 1 (by omega) (by omega)
  have a2 := hf.1 2 (by omega) (by omega)
  have a3 := hf.1 3 (by omega) (by omega)
  have a4 := hf.1 4 (by omega) (by omega)
  have m3 := mixd (f := f 3) (h := hsf T 3) (w := wt3 T) (r := f 4) a4.1 (by unfold wt3; omega) a3.1 a3.2
  have m2 := mixd (f := f 2) (h := hsf T 2) (w := wt2 T) m3.1 m3.2 a2.1 a2.2
  have m1 := mixd (f := f 1) (h := hsf T 1) (w := wt1 T) m2.1 m2.2 a1.1 a1.2
  have q3 := mixq (f := f 3) (w := wt3 T) (r := f 4) a4.1 (by unfold wt3; omega)
  have q2 := mixq (f := f 2) (w := wt2 T) m3.1 m3.2
  have q1 := mixq (f := f 1) (w := wt1 T) m2.1 m2.2
  have q0 := mixq (f := f 0) (w := wt0 T) m1.1 m1.2
  have e : nuf T f = f 0 * wt0 T + (f 1 * wt1 T + (f 2 * wt2 T + (f 3 * wt3 T + f 4))) := by unfold nuf; omega
  intro s
  by_cases c : 0 ≤ s ∧ s < 5
  · rcases cs5 c.1 c.2 with rfl | rfl | rfl | rfl | rfl
    · show nuf T f / wt0 T = f 0
      rw [e]; exact q0.1
    · show nuf T f % wt0 T / wt1 T = f 1
      rw [e, q0.2]; exact q1.1
    · show nuf T f % wt0 T % wt1 T / wt2 T = f 2
      rw [e, q0.2, q1.2]; exact q2.1
    · show nuf T f % wt0 T % wt1 T % wt2 T / wt3 T = f 3
      rw [e, q0.2, q1.2, q2.2]; exact q3.1
    · show nuf T f % wt0 T % wt1 T % wt2 T % wt3 T = f 4
      rw [e, q0.2, q1.2, q2.2]; exact q3.2
  · have h5 := hB.2.1
    rw [hf.2 s (by omega)]
    unfold crf
    rw [if_neg (by omega), if_neg (by omega), if_neg (by omega), if_neg (by omega), if_neg (by omega)]
def rkf (T : aH) (n k : Int) : Int := if k = 0 then n else if k = 1 then n % wt0 T else if k = 2 then n % wt0 T % wt1 T else if k = 3 then n % wt0 T % wt1 T % wt2 T else if k = 4 then n % wt0 T % wt1 T % wt2 T % wt3 T else 0
theorem pk5_sI (f : Int → Int) : sI (fun s => f s * p2 (3 * s)) 5 = pk5 f := by
  rw [sI_5, p2_30, p2_31, p2_32, p2_33, p2_34]; unfold pk5; omega
theorem pk5_s (T : aH) (hB : TB T) {f : Int → Int} (hf : BF T f) : sI (fun s => f s * p2 (3 * s)) (T 0 1) = pk5 f := by
  have h5 := hB.2.1
  rw [← pk5_sI f]
  exact (sI_ext h5.1 h5.2 (fun k _ _ => rfl) (fun k k0 k1 => by rw [hf.2 k (by omega), Int.zero_mul])).symm
theorem rkf_s {T : aH} (hB : TB T) (n : Int) (n0 : 0 ≤ n) {k : Int} (k0 : 0 ≤ k) (k1 : k < 5) : 0 ≤ rkf T n k ∧ rkf T n k ≤ n ∧ rkf T n k / wtf T k = crf T n k ∧ (k < 4 → rkf T n k % wtf T k = rkf T n (k + 1)) := by
  obtain ⟨w3, w2, w1, w0, -⟩ := wt_pos hB
  have l : ∀ m w : Int, 0 ≤ m → 1 ≤ w → 0 ≤ m % w ∧ m % w ≤ m := fun m w m0 hw => ⟨Int.emod_nonneg _ (by omega), by
    have h1 := (dvq (n := m) hw).1
    have h2 := Int.mul_nonneg (Int.ediv_nonneg m0 (show (0 : Int) ≤ w by omega)) (show (0 : Int) ≤ w by omega)
    omega⟩
  have l0 := l n _ n0 w0
  have l1 := l _ _ l0.1 w1
  have l2 := l _ _ l1.1 w2
  have l3 := l _ _ l2.1 w3
  rcases cs5 k0 k1 with rfl | rfl | rfl | rfl | rfl
  · exact ⟨n0, Int.le_refl _, rfl, fun _ => rfl⟩
  · exact ⟨l0.1, l0.2, rfl, fun _ => rfl⟩
  · exact ⟨l1.1, by show n % wt0 T % wt1 T ≤ n; omega, rfl, fun _ => rfl⟩
  · exact ⟨l2.1, by show n % wt0 T % wt1 T % wt2 T ≤ n; omega, rfl, fun _ => rfl⟩
  · exact ⟨l3.1, by show n % wt0 T % wt1 T % wt2 T % wt3 T ≤ n; omega, Int.ediv_one _, fun h => by omega⟩
theorem c3_crewOfNumber_ok {pl : Int} {T : aH} {σ : aS} (hC : CI pl T σ) {n : Int} (n0 : 0 ≤ n) (n1 : n < crw T) : c3_crewOfNumber 9 n σ = some (0, [pk5 (crf T n)], σ) := by
  have hso := c4_sorts_ok hC
  obtain ⟨hL, hp, hq, hT, hG, hB⟩ := hC
  have h5 := hB.2.1
  have hcl := crw_le hB
  obtain ⟨hf, -⟩ := crf_BF hB n0 n1
  have hb7 := hf.b7 hB
  have hpk := pk5_bd hb7
  have hnn : ∀ k : Int, 0 ≤ k → k < 5 → 0 ≤ (fun s => crf T n s * p2 (3 * s)) k := fun k k0 k1 => Int.mul_nonneg (hb7 k k0 k1).1 (by have := p2_pos (3 * k); omega)
  have hl := al_0 (c := 8) (B := aU4 c3_crewOfNumber_b7) (fun k => [9, if k < 5 then rkf T n k else rkf T n 4 % 1, sI (fun s => crf T n s * p2 (3 * s)) k, k]) (fun _ => σ) (n := T 0 1) (r := (0, [pk5 (crf T n)], σ)) (by omega) (by omega) ?_ ?_ (Nat.ne_of_beq_eq_false rfl)
  · unfold c3_crewOfNumber c3_crewOfNumber_l7
    simp only [sI_0] at hl
    rw [show (if (0 : Int) < 5 then rkf T n 0 else rkf T n 4 % 1) = n from rfl] at hl
    rw [hl]; rfl
  · intro k k0 k1
    have hrk := rkf_s hB n n0 k0 (show k < 5 by omega)
    have hw := hG.w k0 (show k < 5 by omega)
    have hwp := wtf_pos hB k
    have h1 := c11_one_ok (s := k) σ k0 (by omega)
    have e1 := sI_le (f := fun s => crf T n s * p2 (3 * s)) (m := k + 1) (n := 5) (by omega) hnn
    rw [sI_s k0, pk5_sI] at e1
    have e2 := sI_nn (f := fun s => crf T n s * p2 (3 * s)) (n := k) (fun j j0 j1 => hnn j j0 (by omega))
    have e3 := hnn k k0 (by omega)
    try simp only at e1 e3
    have t1 : Int.tdiv (rkf T n k) (wtf T k) = crf T n k := by rw [Int.tdiv_eq_ediv_of_nonneg hrk.1, hrk.2.2.1]
    have t2 : Int.tmod (rkf T n k) (wtf T k) = (if k + 1 < 5 then rkf T n (k + 1) else rkf T n 4 % 1) := by
      rw [Int.tmod_eq_emod_of_nonneg hrk.1]
      by_cases c : k < 4
      · rw [if_pos (by omega)]; exact hrk.2.2.2 c
      · rw [if_neg (by omega), show k = 4 by omega]; rfl
    have cb := hb7 k k0 (by omega)
    rw [if_pos (show k < 5 by omega), ← t2]
    by_cases hj : (1 : Int) < wtf T k
    · simp (disch := omega) only [aU4, c3_crewOfNumber_b7, jmax, ↓reduceIte, acall1_some, acall0_some, q_lt, q_nlt, q_le, q_nle, q_eq, q_ne, q_01, true_or, or_true, false_or, or_false, false_and, and_false, and_self, and_true, true_and, wq, wQ, alen_aput, ag_s, ag_x, ag_j, ag_e, r_8_8 hL, r_9_0 hL, r_9_2 hL, r_9_3 hL, r_9_4 hL, n_10 hL, n_11 hL, n_12 hL, n_13 hL, hq.2.1, hso, hw, h1, t1, sI_s]
    · have hwe : wtf T k = 1 := by omega
      rw [hwe] at t1 t2 hw ⊢
      simp (disch := omega) only [aU4, c3_crewOfNumber_b7, jmax, ↓reduceIte, acall1_some, acall0_some, q_lt, q_nlt, q_le, q_nle, q_eq, q_ne, q_01, true_or, or_true, false_or, or_false, false_and, and_false, and_self, and_true, true_and, wq, wQ, alen_aput, ag_s, ag_x, ag_j, ag_e, r_8_8 hL, r_9_0 hL, r_9_2 hL, r_9_3 hL, r_9_4 hL, n_10 hL, n_11 hL, n_12 hL, n_13 hL, hq.2.1, hso, hw, h1, t1, sI_s]
  · simp (disch := omega) only [aU4, c3_crewOfNumber_b7, ↓reduceIte, acall1_some, acall0_some, q_lt, q_nlt, q_le, q_nle, q_eq, q_ne, q_01, true_or, or_true, false_or, or_false, false_and, and_false, and_self, and_true, true_and, wq, wQ, alen_aput, ag_s, ag_x, ag_j, ag_e, hq.2.1, hso]
    rw [pk5_s T hB hf]
theorem c11_sizeOf_ok {f : Int → Int} (hf : ∀ s, 0 ≤ s → s < 5 → 0 ≤ f s ∧ f s ≤ 7) (σ : aS) : c11_sizeOf (pk5 f) σ = some (0, [szf f], σ) := by
  have hl := al_0 (c := 5) (B := aU3 c11_sizeOf_b4) (fun k => [pk5 f, sI f k, k]) (fun _ => σ) (n := 5) (r := (0, [szf f], σ)) (by omega) (by omega) ?_ ?_ (Nat.ne_of_beq_eq_false rfl)
  · unfold c11_sizeOf c11_sizeOf_l4
    simp only [sI_0] at hl
    rw [hl]; rfl
  · intro k k0 k1
    have h1 := c11_part_ok hf k0 k1 σ
    have a := hf k k0 k1
    have b := sI_bd (f := f) (a := 0) (b := 7) k0 (fun j j0 j1 => hf j j0 (by omega))
    simp (disch := omega) only [aU3, c11_sizeOf_b4, ↓reduceIte, acall1_some, acall0_some, q_lt, q_nlt, q_le, q_nle, q_eq, q_ne, q_01, true_or, or_true, false_or, or_false, false_and, and_false, and_self, and_true, true_and, wq, wQ, alen_aput, ag_s, ag_x, ag_j, ag_e, h1, sI_s]
  · simp (disch := omega) only [aU3, c11_sizeOf_b4, ↓reduceIte, acall1_some, acall0_some, q_lt, q_nlt, q_le, q_nle, q_eq, q_ne, q_01, true_or, or_true, false_or, or_false, false_and, and_false, and_self, and_true, true_and, wq, wQ, alen_aput, ag_s, ag_x, ag_j, ag_e]
    rw [sI_5]; rfl
def mvc (T : aH) (g : Int → Int) : Int := sI (fun s => g s * T 2 (4 * s + 3)) (T 0 1)
theorem mvc_bd {T : aH} (hB : TB T) {g : Int → Int} (hg : ∀ s, 0 ≤ s → s < 5 → 0 ≤ g s ∧ g s ≤ 7) {k : Int} (k0 : 0 ≤ k) (k1 : k ≤ T 0 1) : 0 ≤ sI (fun s => g s * T 2 (4 * s + 3)) k ∧ sI (fun s => g s * T 2 (4 * s + 3)) k ≤ 3500 := by
  have h5 := hB.2.1
  have := sI_bd (f := fun s => g s * T 2 (4 * s + 3)) (a := 0) (b := 700) k0 (fun s s0 s1 => by
    have a := hg s s0 (by omega)
    have b := (hB.2.2.2.2.2.1 s s0 (by omega)).2.2.2
    have := mul_nn a.1 a.2 b.1 b.2
    try simp only
    omega)
  omega
theorem c4_sumOf_ok {pl : Int} {T : aH} {σ : aS} (hC : CI pl T σ) {g : Int → Int} (hg : ∀ s, 0 ≤ s → s < 5 → 0 ≤ g s ∧ g s ≤ 7) : c4_sumOf pl (pk5 g) 3 σ = some (0, [mvc T g], σ) := by
  have hB := hC.2.2.2.2.2
  have h5 := hB.2.1
  have hso := c4_sorts_ok hC
  have hl := al_0 (c := 6) (B := aU5 c4_sumOf_b5) (fun k => [pl, pk5 g, 3, sI (fun s => g s * T 2 (4 * s + 3)) k, k]) (fun _ => σ) (n := T 0 1) (r := (0, [mvc T g], σ)) (by omega) (by omega) ?_ ?_ (Nat.ne_of_beq_eq_false rfl)
  · unfold c4_sumOf c4_sumOf_l5
    simp only [sI_0] at hl
    rw [hl]; rfl
  · intro k k0 k1
    have h1 := c11_part_ok hg k0 (show k < 5 by omega) σ
    have hf := c4_figure_ok hC k0 k1 (show (0 : Int) ≤ 3 by omega) (by omega)
    have a := hg k k0 (by omega)
    have b := (hB.2.2.2.2.2.1 k k0 k1).2.2.2
    have c := mul_nn a.1 a.2 b.1 b.2
    have d := mvc_bd hB hg k0 (Int.le_of_lt k1)
    simp (disch := omega) only [aU5, c4_sumOf_b5, ↓reduceIte, acall1_some, acall0_some, q_lt, q_nlt, q_le, q_nle, q_eq, q_ne, q_01, true_or, or_true, false_or, or_false, false_and, and_false, and_self, and_true, true_and, wq, wQ, alen_aput, ag_s, ag_x, ag_j, ag_e, hso, h1, hf, sI_s]
  · simp (disch := omega) only [aU5, c4_sumOf_b5, ↓reduceIte, acall1_some, acall0_some, q_lt, q_nlt, q_le, q_nle, q_eq, q_ne, q_01, true_or, or_true, false_or, or_false, false_and, and_false, and_self, and_true, true_and, wq, wQ, alen_aput, ag_s, ag_x, ag_j, ag_e, hso]
    rfl
/-- a party by sevens -/
def pty (f : Int → Int) : Int := f 0 + 7 * f 1 + 49 * f 2 + 343 * f 3 + 2401 * f 4
theorem c11_partyOfCrew_ok {f : Int → Int} (hf : ∀ s, 0 ≤ s → s < 5 → 0 ≤ f s ∧ f s ≤ 7) (σ : aS) : c11_partyOfCrew (pk5 f) σ = some (0, [pty f], σ) := by
  have a0 := hf 0 (by omega) (by omega)
  have a1 := hf 1 (by omega) (by omega)
  have a2 := hf 2 (by omega) (by omega)
  have a3 := hf 3 (by omega) (by omega)
  have a4 := hf 4 (by omega) (by omega)
  have e0 := c11_part_ok hf (s := 0) (by omega) (by omega) σ
  have e1 := c11_part_ok hf (s := 1) (by omega) (by omega) σ
  have e2 := c11_part_ok hf (s := 2) (by omega) (by omega) σ
  have e3 := c11_part_ok hf (s := 3) (by omega) (by omega) σ
  have e4 := c11_part_ok hf (s := 4) (by omega) (by omega) σ
  have b4 : aU3 c11_partyOfCrew_b4 [pk5 f, 0, 4] σ = some (5, [pk5 f, f 4, 3], σ) := by simp (disch := omega) only [aU3, c11_partyOfCrew_b4, ↓reduceIte, acall1_some, acall0_some, q_lt, q_nlt, q_le, q_nle, q_eq, q_ne, q_01, true_or, or_true, false_or, or_false, false_and, and_false, and_self, and_true, true_and, wq, wQ, alen_aput, ag_s, ag_x, ag_j, ag_e, e4]; simp
  have b3 : aU3 c11_partyOfCrew_b4 [pk5 f, f 4, 3] σ = some (5, [pk5 f, f 4 * 7 + f 3, 2], σ) := by simp (disch := omega) only [aU3, c11_partyOfCrew_b4, ↓reduceIte, acall1_some, acall0_some, q_lt, q_nlt, q_le, q_nle, q_eq, q_ne, q_01, true_or, or_true, false_or, or_false, false_and, and_false, and_self, and_true, true_and, wq, wQ, alen_aput, ag_s, ag_x, ag_j, ag_e, e3]; simp
  have b2 : aU3 c11_partyOfCrew_b4 [pk5 f, f 4 * 7 + f 3, 2] σ = some (5, [pk5 f, (f 4 * 7 + f 3) * 7 + f 2, 1], σ) := by simp (disch := omega) only [aU3, c11_partyOfCrew_b4, ↓reduceIte, acall1_some, acall0_some, q_lt, q_nlt, q_le, q_nle, q_eq, q_ne, q_01, true_or, or_true, false_or, or_false, false_and, and_false, and_self, and_true, true_and, wq, wQ, alen_aput, ag_s, ag_x, ag_j, ag_e, e2]; simp
  have b1 : aU3 c11_partyOfCrew_b4 [pk5 f, (f 4 * 7 + f 3) * 7 + f 2, 1] σ = some (5, [pk5 f, ((f 4 * 7 + f 3) * 7 + f 2) * 7 + f 1, 0], σ) := by simp (disch := omega) only [aU3, c11_partyOfCrew_b4, ↓reduceIte, acall1_some, acall0_some, q_lt, q_nlt, q_le, q_nle, q_eq, q_ne, q_01, true_or, or_true, false_or, or_false, false_and, and_false, and_self, and_true, true_and, wq, wQ, alen_aput, ag_s, ag_x, ag_j, ag_e, e1]; simp
  have b0 : aU3 c11_partyOfCrew_b4 [pk5 f, ((f 4 * 7 + f 3) * 7 + f 2) * 7 + f 1, 0] σ = some (5, [pk5 f, (((f 4 * 7 + f 3) * 7 + f 2) * 7 + f 1) * 7 + f 0, -1], σ) := by simp (disch := omega) only [aU3, c11_partyOfCrew_b4, ↓reduceIte, acall1_some, acall0_some, q_lt, q_nlt, q_le, q_nle, q_eq, q_ne, q_01, true_or, or_true, false_or, or_false, false_and, and_false, and_self, and_true, true_and, wq, wQ, alen_aput, ag_s, ag_x, ag_j, ag_e, e0]; simp
  have bE : aU3 c11_partyOfCrew_b4 [pk5 f, (((f 4 * 7 + f 3) * 7 + f 2) * 7 + f 1) * 7 + f 0, -1] σ = some (0, [pty f], σ) := by
    simp (disch := omega) only [aU3, c11_partyOfCrew_b4, ↓reduceIte, acall1_some, acall0_some, q_lt, q_nlt, q_le, q_nle, q_eq, q_ne, q_01, true_or, or_true, false_or, or_false, false_and, and_false, and_self, and_true, true_and, wq, wQ, alen_aput, ag_s, ag_x, ag_j, ag_e]
    unfold pty
    rw [show (((f 4 * 7 + f 3) * 7 + f 2) * 7 + f 1) * 7 + f 0 = f 0 + 7 * f 1 + 49 * f 2 + 343 * f 3 + 2401 * f 4 by omega]
  unfold c11_partyOfCrew c11_partyOfCrew_l4
  rw [show aBig = 1999994 + 1 + 1 + 1 + 1 + 1 + 1 from rfl, al_go b4, al_go b3, al_go b2, al_go b1, al_go b0, al_out bE (Nat.ne_of_beq_eq_false rfl)]
  rfl
