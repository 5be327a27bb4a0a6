/-! the next parting: the reference -/
/-- the parting that stands in the cells -/
def ofN (τ : aS) (N : aH) : aH := fun x j => if x = 0 then aget τ 155 j else N x j
theorem ofN_0 (τ : aS) (N : aH) (j : Int) : ofN τ N 0 j = aget τ 155 j := if_pos rfl
theorem nw_find {T N : aH} {σ : aS} (hM : MI T σ) (hS : MN T N σ) (hN : NB T N) {s : Int} (s0 : 0 ≤ s) (s1 : s < T 0 1) :
    aloop 22 (aU4 c12_nextWay_b21) aBig [130, s, N 0 (5 * s + T 0 2), T 0 2 - 1] σ = some (49, [130, s, N 0 (5 * s + lsp T N s), lsp T N s - 1], σ) := by
  have hL := hM.1
  have hB := hM.2.2
  have h4 := hB.2.2.1
  have h5 := hB.2.1
  have ls := lsp_sp (N := N) hB s
  have hal := al_I (c := 22) (B := aU4 c12_nextWay_b21) (n := T 0 2) (i := 0) (vs := [130, s, N 0 (5 * s + T 0 2), T 0 2 - 1]) (σ := σ)
    (fun k vs τ => 0 ≤ k ∧ τ = σ ∧ vs = [130, s, N 0 (5 * s + (T 0 2 - k)), T 0 2 - 1 - k] ∧ ∀ p, T 0 2 - k < p → p ≤ T 0 2 → ¬ 0 < N 0 (5 * s + p))
    (fun r => r = (49, [130, s, N 0 (5 * s + lsp T N s), lsp T N s - 1], σ))
    (by omega) (by omega) ⟨Int.le_refl _, rfl, by rw [Int.sub_zero, Int.sub_zero], fun p p0 p1 => by omega⟩ ?_
  · obtain ⟨r, hr, rfl⟩ := hal
    exact hr
  · rintro k vs τ k1 ⟨k0, rfl, rfl, hz⟩
    have bk := hN.le hB s0 s1 (show 0 ≤ T 0 2 - k by omega) (by omega)
    by_cases c : k < T 0 2
    · by_cases d : N 0 (5 * s + (T 0 2 - k)) = 0
      · have bn := hN.le hB s0 s1 (show 0 ≤ T 0 2 - 1 - k by omega) (by omega)
        have e := hS.1 s (T 0 2 - 1 - k) s0 s1 (by omega) (by omega)
        refine Or.inl ⟨c, [130, s, N 0 (5 * s + (T 0 2 - (k + 1))), T 0 2 - 1 - (k + 1)], τ, ?_, by omega, rfl, rfl, fun p p0 p1 => ?_⟩
        · show c12_nextWay_b21 130 s (N 0 (5 * s + (T 0 2 - k))) (T 0 2 - 1 - k) τ = _
          unfold c12_nextWay_b21
          rw [r_130_51 hL, n_155 hL, wq (x := 5 * s) (by omega) (by omega), wq (x := 5 * s + (T 0 2 - 1 - k)) (by omega) (by omega), e, d, Int.zero_add, wq (x := N 0 (5 * s + (T 0 2 - 1 - k))) (by omega) (by omega), wq (x := T 0 2 - 1 - k + (-1)) (by omega) (by omega)]
          refine ite_n (by omega) (ite_p rfl (ite_n (by omega) (ite_p (by omega) ?_)))
          rw [show T 0 2 - 1 - k + (-1) = T 0 2 - 1 - (k + 1) by omega, show T 0 2 - 1 - k = T 0 2 - (k + 1) by omega]
        · by_cases q : p = T 0 2 - k
          · rw [q]; omega
          · exact hz p (by omega) p1
      · have el : lsp T N s = T 0 2 - k := by
          rcases (show lsp T N s < T 0 2 - k ∨ lsp T N s = T 0 2 - k ∨ T 0 2 - k < lsp T N s by omega) with q | q | q
          · exact absurd (show 0 < N 0 (5 * s + (T 0 2 - k)) by omega) (ls.2.1 _ q (by omega))
          · exact q
          · exact absurd (ls.2.2 (by omega)) (hz _ q ls.1.2)
        refine Or.inr ⟨(49, [130, s, N 0 (5 * s + (T 0 2 - k)), T 0 2 - 1 - k], τ), ?_, Nat.ne_of_beq_eq_false rfl, by rw [el, show T 0 2 - k - 1 = T 0 2 - 1 - k by omega]⟩
        show c12_nextWay_b21 130 s (N 0 (5 * s + (T 0 2 - k))) (T 0 2 - 1 - k) τ = _
        unfold c12_nextWay_b21
        exact ite_n (by omega) (ite_n d rfl)
    · have hk : k = T 0 2 := by omega
      subst hk
      have el : lsp T N s = 0 := by
        rcases (show lsp T N s = 0 ∨ 0 < lsp T N s by omega) with q | q
        · exact q
        · exact absurd (ls.2.2 q) (hz _ (by omega) ls.1.2)
      refine Or.inr ⟨(49, [130, s, N 0 (5 * s + (T 0 2 - T 0 2)), T 0 2 - 1 - T 0 2], τ), ?_, Nat.ne_of_beq_eq_false rfl, by rw [el, show T 0 2 - T 0 2 = 0 by omega, show T 0 2 - 1 - T 0 2 = 0 - 1 by omega]⟩
      show c12_nextWay_b21 130 s _ (T 0 2 - 1 - T 0 2) τ = _
      unfold c12_nextWay_b21
      exact ite_p (by omega) rfl
theorem nw_zero {T : aH} {σ : aS} (hM : MI T σ) {s : Int} (s0 : 0 ≤ s) (s1 : s < T 0 1) {a c : Int} (a0 : 0 ≤ a) (a1 : a ≤ T 0 2) (c0 : 1 ≤ c) (c1 : c ≤ 100) :
    ∃ τ, c12_nextWay_l73 130 s c a σ = some (0, [1], τ) ∧ Fr wnow σ τ ∧ aget τ 155 (5 * s + T 0 2) = c - 1 ∧ (∀ p, a ≤ p → p < T 0 2 → aget τ 155 (5 * s + p) = 0) ∧ ∀ j, (j < 5 * s + a ∨ 5 * s + T 0 2 < j) → aget τ 155 j = aget σ 155 j := by
  have hB := hM.2.2
  have h4 := hB.2.2.1
  have h5 := hB.2.1
  have hal := al_I (c := 74) (B := aU4 c12_nextWay_b73) (n := T 0 2) (i := a) (vs := [130, s, c, a]) (σ := σ)
    (fun k vs τ => a ≤ k ∧ vs = [130, s, c, k] ∧ Fr wnow σ τ ∧ (∀ p, a ≤ p → p < k → aget τ 155 (5 * s + p) = 0) ∧ ∀ j, (j < 5 * s + a ∨ 5 * s + T 0 2 ≤ j) → aget τ 155 j = aget σ 155 j)
    (fun r => ∃ τ, r = (101, [130, s, c], τ) ∧ Fr wnow σ τ ∧ (∀ p, a ≤ p → p < T 0 2 → aget τ 155 (5 * s + p) = 0) ∧ ∀ j, (j < 5 * s + a ∨ 5 * s + T 0 2 ≤ j) → aget τ 155 j = aget σ 155 j)
    (by omega) (by omega) ⟨Int.le_refl _, rfl, Fr.rf _ _, fun p p0 p1 => by omega, fun _ _ => rfl⟩ ?_
  · obtain ⟨r, hr, τ, rfl, hF, hz, ho⟩ := hal
    have hMt := hM.now hF
    have hLt := hMt.1
    refine ⟨aput τ 155 (5 * s + T 0 2) (c - 1), ?_, hF.put _ rfl, ag_s _ _ _ _, fun p p0 p1 => ?_, fun j hj => ?_⟩
    · unfold c12_nextWay_l73
      rw [hr]
      show c12_nextWay_p100 130 s c τ = _
      unfold c12_nextWay_p100
      rw [r_130_51 hLt, n_155 hLt, hMt.2.1.1.2.2.1, wq (x := 5 * s) (by omega) (by omega), wq (x := 5 * s + T 0 2) (by omega) (by omega), wq (x := c - 1) (by omega) (by omega)]
      exact ite_n (by omega) (ite_p (by omega) (ite_p (by omega) rfl))
    · rw [ag_j (by omega)]; exact hz p p0 p1
    · rw [ag_j (by omega)]; exact ho j (by omega)
  · rintro k vs τ k1 ⟨k0, rfl, hF, hz, ho⟩
    have hMt := hM.now hF
    have hLt := hMt.1
    by_cases d : k < T 0 2
    · refine Or.inl ⟨d, [130, s, c, k + 1], aput τ 155 (5 * s + k) 0, ?_, by omega, rfl, hF.put _ rfl, fun p p0 p1 => ?_, fun j hj => ?_⟩
      · show c12_nextWay_b73 130 s c k τ = _
        unfold c12_nextWay_b73
        rw [hMt.2.1.1.2.2.1, r_130_51 hLt, n_155 hLt, wq (x := 5 * s) (by omega) (by omega), wq (x := 5 * s + k) (by omega) (by omega), wq (x := k + 1) (by omega) (by omega)]
        exact ite_p d (ite_n (by omega) (ite_p (by omega) rfl))
      · by_cases q : p = k
        · rw [q, ag_s]
        · rw [ag_j (by omega)]; exact hz p p0 (by omega)
      · rw [ag_j (by omega)]; exact ho j hj
    · have hk : k = T 0 2 := by omega
      subst hk
      refine Or.inr ⟨(101, [130, s, c], τ), ?_, Nat.ne_of_beq_eq_false rfl, τ, rfl, hF, hz, ho⟩
      show c12_nextWay_b73 130 s c (T 0 2) τ = _
      unfold c12_nextWay_b73
      rw [hMt.2.1.1.2.2.1]
      exact ite_n (by omega) rfl
theorem c12_nextWay_ok {T N : aH} {σ : aS} (hM : MI T σ) (hS : MN T N σ) (hN : NB T N) {s : Int} (s0 : 0 ≤ s) (s1 : s < T 0 1) :
    (lsp T N s = 0 ∧ c12_nextWay 130 s σ = some (0, [0], σ)) ∨ (0 < lsp T N s ∧ ∃ τ, c12_nextWay 130 s σ = some (0, [1], τ) ∧ Fr wnow σ τ ∧ (∀ p, 0 ≤ p → p ≤ T 0 2 → aget τ 155 (5 * s + p) = nwv T N s p) ∧ ∀ j, (j < 5 * s ∨ 5 * s + T 0 2 < j) → aget τ 155 j = aget σ 155 j) := by
  have hL := hM.1
  have hB := hM.2.2
  have h4 := hB.2.2.1
  have h5 := hB.2.1
  have ls := lsp_sp (N := N) hB s
  have eT := hS.1 s (T 0 2) s0 s1 h4.1 (Int.le_refl _)
  have e0 : c12_nextWay 130 s σ = c12_nextWay_p48 130 s (N 0 (5 * s + lsp T N s)) (lsp T N s - 1) σ := by
    unfold c12_nextWay
    rw [r_130_51 hL, n_155 hL, hM.2.1.1.2.2.1, wq (x := 5 * s) (by omega) (by omega), wq (x := 5 * s + T 0 2) (by omega) (by omega), wq (x := T 0 2 - 1) (by omega) (by omega), eT]
    refine ite_n (by omega) (ite_p (by omega) ?_)
    unfold c12_nextWay_l21
    rw [nw_find hM hS hN s0 s1]
    rfl
  rw [e0]
  rcases (show lsp T N s = 0 ∨ 0 < lsp T N s by omega) with z | z
  · refine Or.inl ⟨z, ?_⟩
    unfold c12_nextWay_p48
    exact ite_p (by omega) (ite_p (by omega) rfl)
  · refine Or.inr ⟨z, ?_⟩
    have el := hS.1 s (lsp T N s - 1) s0 s1 (by omega) (by omega)
    have bl := hN.le hB s0 s1 (show 0 ≤ lsp T N s - 1 by omega) (by omega)
    have bp := hN.le hB s0 s1 ls.1.1 ls.1.2
    have pp := ls.2.2 z
    have fr1 := (Fr.rf wnow σ).put (x := 155) (j := 5 * s + (lsp T N s - 1)) (N 0 (5 * s + (lsp T N s - 1)) + 1) rfl
    obtain ⟨τ, h1, h2, h3, h6, h7⟩ := nw_zero (hM.now fr1) s0 s1 (a := lsp T N s - 1 + 1) (c := N 0 (5 * s + lsp T N s)) (by omega) (by omega) (by omega) (by omega)
    refine ⟨τ, ?_, fr1.tr h2, fun p p0 p1 => ?_, fun j hj => ?_⟩
    · unfold c12_nextWay_p48
      rw [r_130_51 hL, n_155 hL, wq (x := 5 * s) (by omega) (by omega), wq (x := 5 * s + (lsp T N s - 1)) (by omega) (by omega), wq (x := lsp T N s - 1 + 1) (by omega) (by omega), el, wq (x := N 0 (5 * s + (lsp T N s - 1)) + 1) (by omega) (by omega)]
      exact ite_n (by omega) (ite_n (by omega) (ite_p (by omega) (ite_p (by omega) h1)))
    · unfold nwv
      by_cases q1 : p = lsp T N s - 1
      · rw [if_pos q1, q1, h7 _ (by omega), ag_s]
      · rw [if_neg q1]
        by_cases q2 : p = T 0 2
        · rw [if_pos q2, q2]; exact h3
        · rw [if_neg q2]
          by_cases q3 : p = lsp T N s
          · rw [if_pos q3]; exact h6 p (by omega) (by omega)
          · rw [if_neg q3]
            by_cases q4 : lsp T N s < p
            · rw [h6 p (by omega) (by omega)]
              have a := ls.2.1 p q4 p1
              have b := hN.1 s p s0 s1 p0 p1
              omega
            · rw [h7 _ (by omega), ag_j (by omega)]
              exact hS.1 s p s0 s1 p0 p1
    · rw [h7 _ (by omega), ag_j (by omega)]
/-- a cell of no sort or place -/
def rst155 (T : aH) (j : Int) : Prop := ∀ u p, 0 ≤ u → u < T 0 1 → 0 ≤ p → p ≤ T 0 2 → j ≠ 5 * u + p
theorem rst_o {T : aH} {j : Int} (h : rst155 T j) {s : Int} (s0 : 0 ≤ s) (s1 : s < T 0 1) : j < 5 * s ∨ 5 * s + T 0 2 < j := by
  by_cases c : 5 * s ≤ j ∧ j ≤ 5 * s + T 0 2
  · exact absurd (show j = 5 * s + (j - 5 * s) by omega) (h s (j - 5 * s) s0 s1 (by omega) (by omega))
  · omega
theorem c12_nextParting_r {T N : aH} {σ : aS} (hM : MI T σ) (hS : MN T N σ) (hN : NB T N) :
    ∃ τ, c12_nextParting 130 σ = some (0, [if 0 ≤ lss T N then 1 else 0], τ) ∧ Fr wnow σ τ ∧ MN T (sq T N) τ ∧ ∀ j, rst155 T j → aget τ 155 j = aget σ 155 j := by
  have hL := hM.1
  have hB := hM.2.2
  have h4 := hB.2.2.1
  have h5 := hB.2.1
  have lss1 := lss_sp (N := N) hB
  have hal := al_I (c := 8) (B := aU2 c12_nextParting_b7) (n := T 0 1) (i := 0) (vs := [130, T 0 1 - 1]) (σ := σ)
    (fun k vs τ => 0 ≤ k ∧ vs = [130, T 0 1 - 1 - k] ∧ (Fr wnow σ τ ∧ ∀ j, rst155 T j → aget τ 155 j = aget σ 155 j) ∧ (∀ u p, 0 ≤ u → u < T 0 1 → 0 ≤ p → p ≤ T 0 2 → aget τ 155 (5 * u + p) = if T 0 1 - 1 - k < u then alv T u p else N 0 (5 * u + p)) ∧ ∀ u, T 0 1 - 1 - k < u → u < T 0 1 → lsp T N u = 0)
    (fun r => ∃ τ, r = (31, [lss T N], τ) ∧ (Fr wnow σ τ ∧ ∀ j, rst155 T j → aget τ 155 j = aget σ 155 j) ∧ ∀ u p, 0 ≤ u → u < T 0 1 → 0 ≤ p → p ≤ T 0 2 → aget τ 155 (5 * u + p) = sq T N 0 (5 * u + p))
    (by omega) (by omega) ⟨Int.le_refl _, by rw [Int.sub_zero], ⟨Fr.rf _ _, fun _ _ => rfl⟩, fun u p u0 u1 p0 p1 => by rw [if_neg (by omega)]; exact hS.1 u p u0 u1 p0 p1, fun u a b => by omega⟩ ?_
  · obtain ⟨r, hr, τ, rfl, ⟨hF, hR⟩, hv⟩ := hal
    refine ⟨τ, ?_, hF, hS.now hF hv (fun x j hx => sq_x T N hx j), hR⟩
    unfold c12_nextParting c12_nextParting_l7
    rw [hM.2.1.1.2.1, wq (x := T 0 1 - 1) (by omega) (by omega), hr]
    show c12_nextParting_p30 (lss T N) τ = _
    unfold c12_nextParting_p30
    by_cases c : 0 ≤ lss T N
    · rw [if_pos c]; exact ite_n (by omega) (ite_p (by omega) rfl)
    · rw [if_neg c]; exact ite_p (by omega) (ite_p (by omega) rfl)
  · rintro k vs τ k1 ⟨k0, rfl, ⟨hF, hR⟩, hv, hz⟩
    by_cases c : k < T 0 1
    · have s0 : 0 ≤ T 0 1 - 1 - k := by omega
      have s1 : T 0 1 - 1 - k < T 0 1 := by omega
      -- the state on the way, as a parting of its own
      have hMt := hM.now hF
      have hMx : ∀ x j : Int, x ≠ 0 → ofN τ N x j = N x j := fun x j hx => if_neg hx
      have hSt : MN T (ofN τ N) τ := hS.now hF (fun s p a b c d => by rw [ofN_0]) hMx
      have hNt : NB T (ofN τ N) := by
        refine ⟨fun u p u0 u1 p0 p1 => ?_, fun u u0 u1 => ?_, ?_⟩
        · rw [ofN_0, hv u p u0 u1 p0 p1]; split
          · exact alv_nn hB u0 u1 p
          · exact hN.1 u p u0 u1 p0 p1
        · by_cases d : T 0 1 - 1 - k < u
          · rw [← alv_s hB u]
            exact sI_congr (fun p p0 p1 => by rw [ofN_0, hv u p u0 u1 p0 (by omega), if_pos d])
          · rw [← hN.2.1 u u0 u1]
            exact sI_congr (fun p p0 p1 => by rw [ofN_0, hv u p u0 u1 p0 (by omega), if_neg d])
        · exact hN.2.2
      have he : lsp T (ofN τ N) (T 0 1 - 1 - k) = lsp T N (T 0 1 - 1 - k) := lsp_cr _ (fun p p0 p1 => by rw [ofN_0, hv _ p s0 s1 p0 p1, if_neg (by omega)])
      rcases c12_nextWay_ok hMt hSt hNt s0 s1 with ⟨hl, hw⟩ | ⟨hl, υ, hw, hF2, h3, h6⟩
      · rw [he] at hl
        obtain ⟨υ, g1, g2, g3, g6⟩ := c12_aloneAll_ok hMt s0 s1
        refine Or.inl ⟨c, [130, T 0 1 - 1 - (k + 1)], υ, ?_, by omega, rfl, ⟨hF.tr g2, fun j hj => by rw [g6 j (rst_o hj s0 s1)]; exact hR j hj⟩, fun u p u0 u1 p0 p1 => ?_, fun u a b => ?_⟩
        · show c12_nextParting_b7 130 (T 0 1 - 1 - k) τ = _
          unfold c12_nextParting_b7
          refine ite_n (by omega) (acall1_h hw (ite_p rfl ?_))
          rw [g1, acall0_some, wq (by omega) (by omega), show T 0 1 - 1 - k + (-1) = T 0 1 - 1 - (k + 1) by omega]
        · by_cases q : u = T 0 1 - 1 - k
          · rw [if_pos (by omega), q]; exact g3 p p0 p1
          · rw [g6 _ (by omega), hv u p u0 u1 p0 p1]
            by_cases d : T 0 1 - 1 - k < u
            · rw [if_pos d, if_pos (by omega)]
            · rw [if_neg d, if_neg (by omega)]
        · by_cases q : u = T 0 1 - 1 - k
          · rw [q]; exact hl
          · exact hz u (by omega) b
      · have hl2 := hl
        rw [he] at hl2
        have hls : lss T N = T 0 1 - 1 - k := by
          rcases (show lss T N < T 0 1 - 1 - k ∨ lss T N = T 0 1 - 1 - k ∨ T 0 1 - 1 - k < lss T N by omega) with q | q | q
          · exact absurd hl2 (lss1.2.1 _ q s1)
          · exact q
          · have a := lss1.2.2 (by omega)
            rw [hz _ q (by omega)] at a
            omega
        refine Or.inr ⟨(31, [T 0 1 - 1 - k], υ), ?_, Nat.ne_of_beq_eq_false rfl, υ, by rw [hls], ⟨hF.tr hF2, fun j hj => by rw [h6 j (rst_o hj s0 s1)]; exact hR j hj⟩, fun u p u0 u1 p0 p1 => ?_⟩
        · show c12_nextParting_b7 130 (T 0 1 - 1 - k) τ = _
          unfold c12_nextParting_b7
          exact ite_n (by omega) (acall1_h hw (ite_n (by omega) rfl))
        · rw [sq_0 _ _ p0 (by omega)]
          unfold sqv
          rw [hls]
          by_cases q : u = T 0 1 - 1 - k
          · rw [if_neg (by omega), if_pos q, q, h3 p p0 p1]
            unfold nwv
            rw [he]
            have hc : ∀ p, 0 ≤ p → p ≤ T 0 2 → ofN τ N 0 (5 * (T 0 1 - 1 - k) + p) = N 0 (5 * (T 0 1 - 1 - k) + p) := fun p p0 p1 => by rw [ofN_0, hv _ p s0 s1 p0 p1, if_neg (by omega)]
            have ls := lsp_sp (N := N) hB (T 0 1 - 1 - k)
            rw [hc p p0 p1, hc _ ls.1.1 ls.1.2]
          · rw [h6 _ (by omega), hv u p u0 u1 p0 p1]
            by_cases d : u < T 0 1 - 1 - k
            · rw [if_pos d, if_neg (by omega)]
            · rw [if_neg d, if_neg q, if_pos (by omega)]
    · have hk : k = T 0 1 := by omega
      have hls : lss T N = -1 := by
        rcases (show lss T N = -1 ∨ 0 ≤ lss T N by omega) with q | q
        · exact q
        · have a := lss1.2.2 q
          rw [hz _ (by omega) (by omega)] at a
          omega
      refine Or.inr ⟨(31, [T 0 1 - 1 - k], τ), ?_, Nat.ne_of_beq_eq_false rfl, τ, by rw [hls, show T 0 1 - 1 - k = -1 by omega], ⟨hF, hR⟩, fun u p u0 u1 p0 p1 => ?_⟩
      · show c12_nextParting_b7 130 (T 0 1 - 1 - k) τ = _
        unfold c12_nextParting_b7
        exact ite_p (by omega) rfl
      · rw [hv u p u0 u1 p0 p1, if_pos (by omega), sq_0 _ _ p0 (by omega)]
        unfold sqv
        rw [if_neg (by omega), if_neg (by omega)]
theorem c12_nextParting_ok {T N : aH} {σ : aS} (hM : MI T σ) (hS : MN T N σ) (hN : NB T N) :
    ∃ τ, c12_nextParting 130 σ = some (0, [if 0 ≤ lss T N then 1 else 0], τ) ∧ Fr wnow σ τ ∧ MN T (sq T N) τ := by
  obtain ⟨τ, h1, h2, h3, -⟩ := c12_nextParting_r hM hS hN
  exact ⟨τ, h1, h2, h3⟩
