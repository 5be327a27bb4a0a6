/-! the reference works a rule out -/
theorem c12_bounded_e {σ : aS} (he : aget σ 130 58 = 1) (v : Int) : c12_bounded 130 v σ = some (0, [0], aput σ 130 58 1) := by
  simp (disch := omega) only [c12_bounded, c12_bounded_p24, c12_bounded_p29, he, ↓reduceIte, acall1_some, acall0_some, q_lt, q_nlt, q_le, q_nle, q_eq, q_ne, q_01, true_or, or_true, false_or, or_false, false_and, and_false, and_self, and_true, true_and, wq, wQ, alen_aput, ag_s, ag_x, ag_j, ag_e]
theorem c12_bounded_0 {σ : aS} (he : aget σ 130 58 = 0) (v : Int) : c12_bounded 130 v σ = match vck v with
    | some r => some (0, [r], aput σ 130 58 0)
    | none => some (0, [0], aput σ 130 58 1) := by
  unfold vck
  by_cases h1 : 1000000000000 < v
  · simp (disch := omega) only [c12_bounded, c12_bounded_p24, c12_bounded_p29, he, ↓reduceIte, acall1_some, acall0_some, q_lt, q_nlt, q_le, q_nle, q_eq, q_ne, q_01, true_or, or_true, false_or, or_false, false_and, and_false, and_self, and_true, true_and, wq, wQ, alen_aput, ag_s, ag_x, ag_j, ag_e, acmp_p, h1, true_or]
  · by_cases h2 : v < -1000000000000
    · simp (disch := omega) only [c12_bounded, c12_bounded_p24, c12_bounded_p29, he, ↓reduceIte, acall1_some, acall0_some, q_lt, q_nlt, q_le, q_nle, q_eq, q_ne, q_01, true_or, or_true, false_or, or_false, false_and, and_false, and_self, and_true, true_and, wq, wQ, alen_aput, ag_s, ag_x, ag_j, ag_e, acmp_p, acmp_n, h1, h2, or_true]
    · simp (disch := omega) only [c12_bounded, c12_bounded_p24, c12_bounded_p29, he, ↓reduceIte, acall1_some, acall0_some, q_lt, q_nlt, q_le, q_nle, q_eq, q_ne, q_01, true_or, or_true, false_or, or_false, false_and, and_false, and_self, and_true, true_and, wq, wQ, alen_aput, ag_s, ag_x, ag_j, ag_e, acmp_p, acmp_n, h1, h2, or_self]
theorem c12_sizeOf_ok {a : Int} (h0 : -1000000000000 ≤ a) (h1 : a ≤ 1000000000000) (σ : aS) : c12_sizeOf a σ = some (0, [(a.natAbs : Int)], σ) := by
  by_cases h : a < 0
  · simp (disch := omega) only [c12_sizeOf, ↓reduceIte, acall1_some, acall0_some, q_lt, q_nlt, q_le, q_nle, q_eq, q_ne, q_01, true_or, or_true, false_or, or_false, false_and, and_false, and_self, and_true, true_and, wq, wQ, alen_aput, ag_s, ag_x, ag_j, ag_e, acmp_n, h]
    rw [show (a.natAbs : Int) = -a by omega]
  · simp (disch := omega) only [c12_sizeOf, ↓reduceIte, acall1_some, acall0_some, q_lt, q_nlt, q_le, q_nle, q_eq, q_ne, q_01, true_or, or_true, false_or, or_false, false_and, and_false, and_self, and_true, true_and, wq, wQ, alen_aput, ag_s, ag_x, ag_j, ag_e, acmp_n, h]
    rw [show (a.natAbs : Int) = a by omega]
theorem prod_gt {a b : Int} (ha : a ≠ 0) : (Int.tdiv 27720000000027719 (a.natAbs : Int) < (b.natAbs : Int)) = (27720000000027719 < (a * b).natAbs) := by
  have e : Int.tdiv 27720000000027719 (a.natAbs : Int) = ((27720000000027719 / a.natAbs : Nat) : Int) := rfl
  have h0 : 0 < a.natAbs := by omega
  rw [e, Int.natAbs_mul]
  refine propext ⟨fun h => ?_, fun h => ?_⟩
  · have h' : 27720000000027719 / a.natAbs < b.natAbs := by exact_mod_cast h
    have := (Nat.div_lt_iff_lt_mul h0).mp h'
    rw [Nat.mul_comm] at this
    exact this
  · have h' : 27720000000027719 / a.natAbs < b.natAbs := (Nat.div_lt_iff_lt_mul h0).mpr (by rw [Nat.mul_comm]; exact h)
    exact_mod_cast h'
theorem divP {a : Int} (ha : a ≠ 0) : 0 ≤ Int.tdiv 27720000000027719 (a.natAbs : Int) ∧ Int.tdiv 27720000000027719 (a.natAbs : Int) ≤ 27720000000027719 := by
  have e : Int.tdiv 27720000000027719 (a.natAbs : Int) = ((27720000000027719 / a.natAbs : Nat) : Int) := rfl
  rw [e]
  exact ⟨Int.natCast_nonneg _, Int.ofNat_le.mpr (Nat.div_le_self 27720000000027719 a.natAbs)⟩
theorem vop_42 (a b : Int) : vop 42 a b = if 27720000000027719 < (a * b).natAbs then none else some (Int.tdiv (a * b) 27720) := rfl
theorem c12_times_e {σ : aS} (he : aget σ 130 58 = 1) {a b : Int} (ha : -1000000000000 ≤ a ∧ a ≤ 1000000000000) (hb : -1000000000000 ≤ b ∧ b ≤ 1000000000000) : c12_times 130 a b σ = some (0, [0], aput σ 130 58 1) := by
  have sa := c12_sizeOf_ok ha.1 ha.2 σ
  have sb := c12_sizeOf_ok hb.1 hb.2 σ
  by_cases h : a = 0
  · simp (disch := omega) only [c12_times, c12_times_p26, c12_times_p27, c12_times_p42, c12_times_p47, he, ↓reduceIte, acall1_some, acall0_some, q_lt, q_nlt, q_le, q_nle, q_eq, q_ne, q_01, true_or, or_true, false_or, or_false, false_and, and_false, and_self, and_true, true_and, wq, wQ, alen_aput, ag_s, ag_x, ag_j, ag_e, acmp_z, h]
  · by_cases h2 : w64 (Int.tdiv 27720000000027719 (a.natAbs : Int)) < (b.natAbs : Int)
    · simp (disch := omega) only [c12_times, c12_times_p26, c12_times_p27, c12_times_p42, c12_times_p47, he, ↓reduceIte, acall1_some, acall0_some, q_lt, q_nlt, q_le, q_nle, q_eq, q_ne, q_01, true_or, or_true, false_or, or_false, false_and, and_false, and_self, and_true, true_and, wq, wQ, alen_aput, ag_s, ag_x, ag_j, ag_e, acmp_z, acmp_p, h, sa, sb, h2]
    · simp (disch := omega) only [c12_times, c12_times_p26, c12_times_p27, c12_times_p42, c12_times_p47, he, ↓reduceIte, acall1_some, acall0_some, q_lt, q_nlt, q_le, q_nle, q_eq, q_ne, q_01, true_or, or_true, false_or, or_false, false_and, and_false, and_self, and_true, true_and, wq, wQ, alen_aput, ag_s, ag_x, ag_j, ag_e, acmp_z, acmp_p, h, sa, sb, h2]
theorem c12_times_0 {σ : aS} (he : aget σ 130 58 = 0) {a b : Int} (ha : -1000000000000 ≤ a ∧ a ≤ 1000000000000) (hb : -1000000000000 ≤ b ∧ b ≤ 1000000000000) : c12_times 130 a b σ = match vop 42 a b with
    | some r => some (0, [r], aput σ 130 58 0)
    | none => some (0, [0], aput σ 130 58 1) := by
  have sa := c12_sizeOf_ok ha.1 ha.2 σ
  have sb := c12_sizeOf_ok hb.1 hb.2 σ
  rw [vop_42]
  by_cases h : a = 0
  · subst h
    simp (disch := omega) only [c12_times, c12_times_p26, c12_times_p27, c12_times_p42, c12_times_p47, he, ↓reduceIte, acall1_some, acall0_some, q_lt, q_nlt, q_le, q_nle, q_eq, q_ne, q_01, true_or, or_true, false_or, or_false, false_and, and_false, and_self, and_true, true_and, wq, wQ, alen_aput, ag_s, ag_x, ag_j, ag_e, acmp_z, Int.zero_mul]
    rfl
  · have hd := divP h
    have hg := prod_gt (b := b) h
    by_cases h2 : 27720000000027719 < (a * b).natAbs
    · have h3 : Int.tdiv 27720000000027719 (a.natAbs : Int) < (b.natAbs : Int) := by rw [hg]; exact h2
      rw [if_pos h2]
      simp (disch := omega) only [c12_times, c12_times_p26, c12_times_p27, c12_times_p42, c12_times_p47, he, ↓reduceIte, acall1_some, acall0_some, q_lt, q_nlt, q_le, q_nle, q_eq, q_ne, q_01, true_or, or_true, false_or, or_false, false_and, and_false, and_self, and_true, true_and, wq, wQ, alen_aput, ag_s, ag_x, ag_j, ag_e, acmp_z, acmp_p, h, sa, sb, h3]
    · have h3 : ¬ (Int.tdiv 27720000000027719 (a.natAbs : Int) < (b.natAbs : Int)) := by rw [hg]; exact h2
      have ht := tdiv_bd (x := a * b) (by omega)
      rw [if_neg h2]
      simp (disch := omega) only [c12_times, c12_times_p26, c12_times_p27, c12_times_p42, c12_times_p47, he, ↓reduceIte, acall1_some, acall0_some, q_lt, q_nlt, q_le, q_nle, q_eq, q_ne, q_01, true_or, or_true, false_or, or_false, false_and, and_false, and_self, and_true, true_and, wq, wQ, alen_aput, ag_s, ag_x, ag_j, ag_e, acmp_z, acmp_p, h, sa, sb, h3]
theorem vop_47 (a b : Int) : vop 47 a b = if b = 0 then none else vck (Int.tdiv (a * 27720) b) := rfl
theorem tdiv_le (a b : Int) : (Int.tdiv a b).natAbs ≤ a.natAbs := by rw [Int.natAbs_tdiv]; exact Nat.div_le_self _ _
theorem c12_divided_e {σ : aS} (he : aget σ 130 58 = 1) (a b : Int) : c12_divided 130 a b σ = some (0, [0], aput σ 130 58 1) := by
  simp (disch := omega) only [c12_divided, c12_divided_p14, c12_divided_p19, he, ↓reduceIte, acall1_some, acall0_some, q_lt, q_nlt, q_le, q_nle, q_eq, q_ne, q_01, true_or, or_true, false_or, or_false, false_and, and_false, and_self, and_true, true_and, wq, wQ, alen_aput, ag_s, ag_x, ag_j, ag_e]
theorem c12_divided_0 {σ : aS} (he : aget σ 130 58 = 0) {a b : Int} (ha : -1000000000000 ≤ a ∧ a ≤ 1000000000000) : c12_divided 130 a b σ = match vop 47 a b with
    | some r => some (0, [r], aput σ 130 58 0)
    | none => some (0, [0], aput σ 130 58 1) := by
  rw [vop_47]
  by_cases h : b = 0
  · simp (disch := omega) only [c12_divided, c12_divided_p14, c12_divided_p19, he, ↓reduceIte, acall1_some, acall0_some, q_lt, q_nlt, q_le, q_nle, q_eq, q_ne, q_01, true_or, or_true, false_or, or_false, false_and, and_false, and_self, and_true, true_and, wq, wQ, alen_aput, ag_s, ag_x, ag_j, ag_e, acmp_z, h]
  · have ht := tdiv_le (a * 27720) b
    have hb := c12_bounded_0 (σ := aput σ 130 58 0) (ag_s _ _ _ _) (Int.tdiv (a * 27720) b)
    rw [if_neg h]
    simp (disch := omega) only [c12_divided, c12_divided_p14, c12_divided_p19, he, ↓reduceIte, acall1_some, acall0_some, q_lt, q_nlt, q_le, q_nle, q_eq, q_ne, q_01, true_or, or_true, false_or, or_false, false_and, and_false, and_self, and_true, true_and, wq, wQ, alen_aput, ag_s, ag_x, ag_j, ag_e, acmp_z, h, hb]
    cases vck (Int.tdiv (a * 27720) b) with
    | none => simp only [acall1_some, ap_ap]
    | some r => simp only [acall1_some, ap_ap]
theorem c12_nameOf_ok {T : aH} {σ : aS} (hM : MI T σ) {f : Int → Int} (hc : CR f σ) {t : Int} (h54 : aget σ 130 54 = szf f) (h56 : aget σ 130 56 = gco T t f) {s : Int} (s0 : 0 ≤ s) (s1 : s < T 0 1) (k : Int) :
    c12_nameOf 130 k s σ = some (0, [nmv T t f s k], σ) := by
  obtain ⟨hL, hT, hB⟩ := hM
  have h5 := hB.2.1
  have hcs := hc s s0 (by omega)
  have e1 := hT.2.2.1 (4 * s + 1) (by omega) (by omega)
  have e2 := hT.2.2.1 (4 * s + 2) (by omega) (by omega)
  unfold nmv
  by_cases k0 : k = 0
  · simp (disch := omega) only [c12_nameOf, ↓reduceIte, acall1_some, acall0_some, q_lt, q_nlt, q_le, q_nle, q_eq, q_ne, q_01, true_or, or_true, false_or, or_false, false_and, and_false, and_self, and_true, true_and, wq, wQ, alen_aput, ag_s, ag_x, ag_j, ag_e, k0, h54]
  · by_cases k1 : k = 1
    · simp (disch := omega) only [c12_nameOf, ↓reduceIte, acall1_some, acall0_some, q_lt, q_nlt, q_le, q_nle, q_eq, q_ne, q_01, true_or, or_true, false_or, or_false, false_and, and_false, and_self, and_true, true_and, wq, wQ, alen_aput, ag_s, ag_x, ag_j, ag_e, k1, r_130_53 hL, n_157 hL, hcs]
    · by_cases k2 : k = 2
      · simp (disch := omega) only [c12_nameOf, ↓reduceIte, acall1_some, acall0_some, q_lt, q_nlt, q_le, q_nle, q_eq, q_ne, q_01, true_or, or_true, false_or, or_false, false_and, and_false, and_self, and_true, true_and, wq, wQ, alen_aput, ag_s, ag_x, ag_j, ag_e, k2, h56]
      · by_cases k3 : k = 3
        · simp (disch := omega) only [c12_nameOf, ↓reduceIte, acall1_some, acall0_some, q_lt, q_nlt, q_le, q_nle, q_eq, q_ne, q_01, true_or, or_true, false_or, or_false, false_and, and_false, and_self, and_true, true_and, wq, wQ, alen_aput, ag_s, ag_x, ag_j, ag_e, k3, r_130_27 hL, n_136 hL, e1]
        · simp (disch := omega) only [c12_nameOf, ↓reduceIte, acall1_some, acall0_some, q_lt, q_nlt, q_le, q_nle, q_eq, q_ne, q_01, true_or, or_true, false_or, or_false, false_and, and_false, and_self, and_true, true_and, wq, wQ, alen_aput, ag_s, ag_x, ag_j, ag_e, k0, k1, k2, k3, r_130_27 hL, n_136 hL, e2]
theorem map_l {g : Int → Int} {v : Int} {k : Int} {r : List Int} (hr : ∀ j ∈ r, j ≠ k) : r.map (fun j => if j = k then v else g j) = r.map g := List.map_congr_left (fun j hj => if_neg (hr j hj))
set_option maxHeartbeats 4000000 in
theorem c12_valueOf_ok {T : aH} {σ : aS} (hM : MI T σ) {f : Int → Int} (hf : B7 T f) (hc : CR f σ) {t : Int} (h54 : aget σ 130 54 = szf f) (h56 : aget σ 130 56 = gco T t f) {s : Int} (s0 : 0 ≤ s) (s1 : s < T 0 1) (t0 : 0 ≤ t) (t1 : t < T 0 2)
    {k : Int} (k0 : T 9 t ≤ k) (k1 : k < T 10 t) {stk : Int → List Int} (hn : nod T (aget σ 150) (aget σ 151) (aget σ 152) stk k) (hin : ∀ j ∈ stk k, T 9 t ≤ j ∧ j < k)
    (hv : ∀ j, T 9 t ≤ j → j < k → -1000000000000 ≤ aget σ 158 j ∧ aget σ 158 j ≤ 1000000000000) {e : Int} (he : aget σ 130 58 = e) (h01 : e = 0 ∨ e = 1) :
    ∃ v e' r, c12_valueOf 130 k s σ = some (0, [v], aput σ 130 58 e') ∧ (-1000000000000 ≤ v ∧ v ≤ 1000000000000) ∧ (e' = 0 ∨ e' = 1) ∧ (e = 1 → e' = 1) ∧ stk (k + 1) = k :: r ∧ (∀ j ∈ r, j ∈ stk k) ∧
      (e = 0 → e' = 0 → rst T t f s (T 8 k) ((stk k).map (aget σ 158)) = some (v :: r.map (aget σ 158))) ∧ (e = 0 → e' = 1 → rst T t f s (T 8 k) ((stk k).map (aget σ 158)) = none) := by
  have hM0 := hM
  obtain ⟨hL, hT, hB⟩ := hM
  have hkk := (hB.2.2.2.2.2.2.2.2.2 t t0 t1).2.2.1
  rcases hn with ⟨a1, a2, a3, a4, a5⟩ | ⟨a1, a2, a3, a4, a5⟩ | ⟨a1, a2, a, r, a3, a4, a5⟩ | ⟨b, a, r, a1, a2, a3, a4, a5⟩
  · refine ⟨T 8 k * 27720, e, stk k, ?_, by omega, h01, id, a5, fun j h => h, fun _ _ => ?_, fun h0 h1 => by omega⟩
    · simp (disch := omega) only [c12_valueOf, ↓reduceIte, acall1_some, acall0_some, q_lt, q_nlt, q_le, q_nle, q_eq, q_ne, q_01, true_or, or_true, false_or, or_false, false_and, and_false, and_self, and_true, true_and, wq, wQ, alen_aput, ag_s, ag_x, ag_j, ag_e, r_130_41 hL, n_150 hL, r_130_42 hL, n_151 hL, a3, a4]
      rw [ap_self he, show 27720 * T 8 k = T 8 k * 27720 by omega]
    · unfold rst; rw [if_pos (by omega)]
  · have hnm := c12_nameOf_ok hM0 hc h54 h56 s0 s1 (T 8 k - 1000)
    have hnb := nmv_bd hB t hf.1 s0 s1 (T 8 k - 1000)
    refine ⟨nmv T t f s (T 8 k - 1000) * 27720, e, stk k, ?_, by omega, h01, id, a5, fun j h => h, fun _ _ => ?_, fun h0 h1 => by omega⟩
    · simp (disch := omega) only [c12_valueOf, ↓reduceIte, acall1_some, acall0_some, q_lt, q_nlt, q_le, q_nle, q_eq, q_ne, q_01, true_or, or_true, false_or, or_false, false_and, and_false, and_self, and_true, true_and, wq, wQ, alen_aput, ag_s, ag_x, ag_j, ag_e, r_130_41 hL, n_150 hL, r_130_42 hL, n_151 hL, a3, a4, hnm]
      rw [ap_self he, show 27720 * nmv T t f s (T 8 k - 1000) = nmv T t f s (T 8 k - 1000) * 27720 by omega]
    · unfold rst; rw [if_neg (by omega), if_pos (by omega)]
  · have ha := hin a (by rw [a3]; exact List.mem_cons_self)
    have hva := hv a ha.1 ha.2
    refine ⟨-(aget σ 158 a), e, r, ?_, by omega, h01, id, a5, fun j h => by rw [a3]; exact List.mem_cons_of_mem _ h, fun _ _ => ?_, fun h0 h1 => by omega⟩
    · simp (disch := omega) only [c12_valueOf, ↓reduceIte, acall1_some, acall0_some, q_lt, q_nlt, q_le, q_nle, q_eq, q_ne, q_01, true_or, or_true, false_or, or_false, false_and, and_false, and_self, and_true, true_and, wq, wQ, alen_aput, ag_s, ag_x, ag_j, ag_e, r_130_41 hL, n_150 hL, r_130_42 hL, n_151 hL, r_130_57 hL, n_158 hL, a2, a4]
      rw [ap_self he]
    · unfold rst; rw [if_neg (by omega), if_neg (by omega), if_pos a1, a3]; rfl
  · have hb := hin b (by rw [a1]; exact List.mem_cons_self)
    have ha := hin a (by rw [a1]; exact List.mem_cons_of_mem _ List.mem_cons_self)
    have hva := hv a ha.1 ha.2
    have hvb := hv b hb.1 hb.2
    have hmem : ∀ j ∈ r, j ∈ stk k := fun j h => by rw [a1]; exact List.mem_cons_of_mem _ (List.mem_cons_of_mem _ h)
    have hrs : 3000 ≤ T 8 k → rst T t f s (T 8 k) ((stk k).map (aget σ 158)) = match vop (T 8 k - 3000) (aget σ 158 a) (aget σ 158 b) with
        | some v => some (v :: r.map (aget σ 158))
        | none => none := by
      intro hc
      unfold rst; rw [if_neg (by omega), if_neg (by omega), if_neg (by omega), a1]; rfl
    have fin : ∀ (w : Option Int), vop (T 8 k - 3000) (aget σ 158 a) (aget σ 158 b) = w → 3000 ≤ T 8 k → (e = 0 → c12_valueOf 130 k s σ = (match w with
        | some r => some (0, [r], aput σ 130 58 0)
        | none => some (0, [0], aput σ 130 58 1))) → (e = 1 → c12_valueOf 130 k s σ = some (0, [0], aput σ 130 58 1)) →
        ∃ v e' r, c12_valueOf 130 k s σ = some (0, [v], aput σ 130 58 e') ∧ (-1000000000000 ≤ v ∧ v ≤ 1000000000000) ∧ (e' = 0 ∨ e' = 1) ∧ (e = 1 → e' = 1) ∧ stk (k + 1) = k :: r ∧ (∀ j ∈ r, j ∈ stk k) ∧
          (e = 0 → e' = 0 → rst T t f s (T 8 k) ((stk k).map (aget σ 158)) = some (v :: r.map (aget σ 158))) ∧ (e = 0 → e' = 1 → rst T t f s (T 8 k) ((stk k).map (aget σ 158)) = none) := by
      intro w hw h3 h0 h1
      rcases h01 with z | z
      · have h0' := h0 z
        cases w with
        | none => exact ⟨0, 1, r, h0', by omega, Or.inr rfl, fun _ => rfl, a4, hmem, fun _ h => by omega, fun _ _ => by rw [hrs h3, hw]⟩
        | some v => exact ⟨v, 0, r, h0', vop_bd hw, Or.inl rfl, fun q => by omega, a4, hmem, fun _ _ => by rw [hrs h3, hw], fun _ h => by omega⟩
      · exact ⟨0, 1, r, h1 z, by omega, Or.inr rfl, fun _ => rfl, a4, hmem, fun h => by omega, fun h => by omega⟩
    rcases a5 with ⟨q1, q2⟩ | ⟨q1, q2⟩ | ⟨q1, q2⟩ | ⟨q1, q2⟩
    · refine fin _ rfl (by omega) (fun z => ?_) (fun z => ?_)
      · subst z
        have h := c12_bounded_0 he (aget σ 158 a + aget σ 158 b)
        rw [q1]
        show _ = (match vck (aget σ 158 a + aget σ 158 b) with
          | some r => some (0, [r], aput σ 130 58 0)
          | none => some (0, [0], aput σ 130 58 1))
        rw [← h]
        simp (disch := omega) only [c12_valueOf, ↓reduceIte, acall1_some, acall0_some, q_lt, q_nlt, q_le, q_nle, q_eq, q_ne, q_01, true_or, or_true, false_or, or_false, false_and, and_false, and_self, and_true, true_and, wq, wQ, alen_aput, ag_s, ag_x, ag_j, ag_e, r_130_41 hL, n_150 hL, r_130_42 hL, n_151 hL, r_130_43 hL, n_152 hL, r_130_57 hL, n_158 hL, q2, a2, a3]
        rw [h]
        cases vck (aget σ 158 a + aget σ 158 b) <;> rfl
      · subst z
        have h := c12_bounded_e he (aget σ 158 a + aget σ 158 b)
        simp (disch := omega) only [c12_valueOf, ↓reduceIte, acall1_some, acall0_some, q_lt, q_nlt, q_le, q_nle, q_eq, q_ne, q_01, true_or, or_true, false_or, or_false, false_and, and_false, and_self, and_true, true_and, wq, wQ, alen_aput, ag_s, ag_x, ag_j, ag_e, r_130_41 hL, n_150 hL, r_130_42 hL, n_151 hL, r_130_43 hL, n_152 hL, r_130_57 hL, n_158 hL, q2, a2, a3, h]
    · refine fin _ rfl (by omega) (fun z => ?_) (fun z => ?_)
      · subst z
        have h := c12_bounded_0 he (aget σ 158 a - aget σ 158 b)
        rw [q1]
        show _ = (match vck (aget σ 158 a - aget σ 158 b) with
          | some r => some (0, [r], aput σ 130 58 0)
          | none => some (0, [0], aput σ 130 58 1))
        rw [← h]
        simp (disch := omega) only [c12_valueOf, ↓reduceIte, acall1_some, acall0_some, q_lt, q_nlt, q_le, q_nle, q_eq, q_ne, q_01, true_or, or_true, false_or, or_false, false_and, and_false, and_self, and_true, true_and, wq, wQ, alen_aput, ag_s, ag_x, ag_j, ag_e, r_130_41 hL, n_150 hL, r_130_42 hL, n_151 hL, r_130_43 hL, n_152 hL, r_130_57 hL, n_158 hL, q2, a2, a3]
        rw [h]
        cases vck (aget σ 158 a - aget σ 158 b) <;> rfl
      · subst z
        have h := c12_bounded_e he (aget σ 158 a - aget σ 158 b)
        simp (disch := omega) only [c12_valueOf, ↓reduceIte, acall1_some, acall0_some, q_lt, q_nlt, q_le, q_nle, q_eq, q_ne, q_01, true_or, or_true, false_or, or_false, false_and, and_false, and_self, and_true, true_and, wq, wQ, alen_aput, ag_s, ag_x, ag_j, ag_e, r_130_41 hL, n_150 hL, r_130_42 hL, n_151 hL, r_130_43 hL, n_152 hL, r_130_57 hL, n_158 hL, q2, a2, a3, h]
    · refine fin _ rfl (by omega) (fun z => ?_) (fun z => ?_)
      · subst z
        have h := c12_times_0 he hva hvb
        rw [q1, show (3042 : Int) - 3000 = 42 from rfl, ← h]
        simp (disch := omega) only [c12_valueOf, ↓reduceIte, acall1_some, acall0_some, q_lt, q_nlt, q_le, q_nle, q_eq, q_ne, q_01, true_or, or_true, false_or, or_false, false_and, and_false, and_self, and_true, true_and, wq, wQ, alen_aput, ag_s, ag_x, ag_j, ag_e, r_130_41 hL, n_150 hL, r_130_42 hL, n_151 hL, r_130_43 hL, n_152 hL, r_130_57 hL, n_158 hL, q2, a2, a3]
        rw [h]
        cases vop 42 (aget σ 158 a) (aget σ 158 b) <;> rfl
      · subst z
        have h := c12_times_e he hva hvb
        simp (disch := omega) only [c12_valueOf, ↓reduceIte, acall1_some, acall0_some, q_lt, q_nlt, q_le, q_nle, q_eq, q_ne, q_01, true_or, or_true, false_or, or_false, false_and, and_false, and_self, and_true, true_and, wq, wQ, alen_aput, ag_s, ag_x, ag_j, ag_e, r_130_41 hL, n_150 hL, r_130_42 hL, n_151 hL, r_130_43 hL, n_152 hL, r_130_57 hL, n_158 hL, q2, a2, a3, h]
    · refine fin _ rfl (by omega) (fun z => ?_) (fun z => ?_)
      · subst z
        have h := c12_divided_0 he (b := aget σ 158 b) hva
        rw [q1, show (3047 : Int) - 3000 = 47 from rfl, ← h]
        simp (disch := omega) only [c12_valueOf, ↓reduceIte, acall1_some, acall0_some, q_lt, q_nlt, q_le, q_nle, q_eq, q_ne, q_01, true_or, or_true, false_or, or_false, false_and, and_false, and_self, and_true, true_and, wq, wQ, alen_aput, ag_s, ag_x, ag_j, ag_e, r_130_41 hL, n_150 hL, r_130_42 hL, n_151 hL, r_130_43 hL, n_152 hL, r_130_57 hL, n_158 hL, q2, a2, a3]
        rw [h]
        cases vop 47 (aget σ 158 a) (aget σ 158 b) <;> rfl
      · subst z
        have h := c12_divided_e he (aget σ 158 a) (aget σ 158 b)
        simp (disch := omega) only [c12_valueOf, ↓reduceIte, acall1_some, acall0_some, q_lt, q_nlt, q_le, q_nle, q_eq, q_ne, q_01, true_or, or_true, false_or, or_false, false_and, and_false, and_self, and_true, true_and, wq, wQ, alen_aput, ag_s, ag_x, ag_j, ag_e, r_130_41 hL, n_150 hL, r_130_42 hL, n_151 hL, r_130_43 hL, n_152 hL, r_130_57 hL, n_158 hL, q2, a2, a3, h]
