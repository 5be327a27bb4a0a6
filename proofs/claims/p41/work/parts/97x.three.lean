/-! a cost shared; a vote on one's joining -/
def A3 (T : aH) (n c : Int) : Prop := (T 0 0 = 1 ∧ T 0 1 = 1 ∧ T 0 2 = 2 ∧ T 1 0 = c) ∧ (T 2 0 = n ∧ T 2 2 = 0 ∧ T 2 3 = 0) ∧ (T 3 0 = 99 ∧ T 4 0 = 0) ∧ (T 5 0 = 1 ∧ T 5 1 = 0 ∧ T 6 0 = 0) ∧ (T 8 0 = 1002 ∧ T 8 1 = 1000 ∧ T 8 2 = 3047 ∧ T 9 0 = 0 ∧ T 10 0 = 3) ∧ (1 ≤ n ∧ n ≤ 6 ∧ 0 ≤ c ∧ c ≤ 999)
def M3 (N : aH) (n k : Int) : Prop := (N 0 0 = k ∧ N 0 1 = 0 ∧ N 0 2 = n - k) ∧ (N 1 0 = 0 ∧ N 1 1 = 0 ∧ N 4 0 = -1)
theorem bI_10 : bI 1 0 = 1 := by decide +kernel
theorem bI_00 : bI 0 0 = 0 := by decide +kernel
theorem vck_s {v : Int} (h0 : -1000000000000 ≤ v) (h1 : v ≤ 1000000000000) : vck v = some v := by unfold vck; rw [if_neg (by omega)]
section THREE
variable {T N : aH} {n c k : Int}
theorem A3.cn (h : A3 T n c) (N : aH) (p : Int) : ctn T N p = c1 (N 0 p) := by
  funext s
  unfold ctn c1
  rw [h.1.2.1]
  by_cases q : s = 0
  · rw [q, if_pos ⟨Int.le_refl _, by omega⟩, if_pos rfl, show 5 * (0 : Int) + p = p by omega]
  · rw [if_neg (by omega), if_neg q]
theorem A3.gv (h : A3 T n c) (f : Int → Int) : gvb T 0 f 0 = 1 ∧ gvb T 1 f 0 = 0 := by
  obtain ⟨-, -, -, ⟨h50, h51, h60⟩, -⟩ := h
  unfold gvb
  rw [h50, h51, h60, if_pos ⟨bI_10, fun q => by omega⟩, if_neg (fun q => by have := q.1; rw [bI_00] at this; omega)]
  exact ⟨rfl, rfl⟩
theorem A3.gc (h : A3 T n c) (f : Int → Int) : gco T 0 f = c ∧ gco T 1 f = 0 := by
  unfold gco
  rw [h.1.1, sI1, sI1, (h.gv f).1, (h.gv f).2, h.1.2.2.2]; omega
theorem A3.ru (h : A3 T n c) (f : Int → Int) (f1 : 1 ≤ szf f) (f7 : szf f ≤ 7) : rul T 0 f 0 = Int.tdiv (27720 * c) (szf f) := by
  have hgc := (h.gc f).1
  obtain ⟨-, -, -, -, ⟨h80, h81, h82, h9, h10⟩, hn1, hn6, hc0, hc9⟩ := h
  have ev : vop 47 (c * 27720) (szf f * 27720) = some (Int.tdiv (27720 * c) (szf f)) := by
    unfold vop
    rw [if_neg (by omega), if_neg (by omega), if_neg (by omega), if_neg (by omega), show c * 27720 * 27720 = 27720 * (27720 * c) by omega, show szf f * 27720 = 27720 * szf f by omega, Int.mul_tdiv_mul_of_pos _ _ (by omega)]
    have b0 : 0 ≤ Int.tdiv (27720 * c) (szf f) := Int.tdiv_nonneg (by omega) (by omega)
    have b1 : Int.tdiv (27720 * c) (szf f) ≤ 27720 * c := Int.tdiv_le_self _ (by omega)
    exact vck_s (by omega) (by omega)
  unfold rul
  rw [h10, h9]
  show (match (match rst T 0 f 0 (T 8 0) [] with
      | some r => (match rst T 0 f 0 (T 8 1) r with
        | some r => (match rst T 0 f 0 (T 8 2) r with
          | some r => some r
          | none => none)
        | none => none)
      | none => none) with
    | some [v] => v
    | _ => 0) = _
  rw [h80, h81, h82]
  have e1 : rst T 0 f 0 1002 [] = some [c * 27720] := by
    unfold rst nmv
    rw [if_neg (by omega), if_pos (by omega), if_neg (by omega), if_neg (by omega), if_pos (by omega), hgc]
  have e2 : rst T 0 f 0 1000 [c * 27720] = some [szf f * 27720, c * 27720] := by
    unfold rst nmv
    rw [if_neg (by omega), if_pos (by omega), if_pos (by omega)]
  have e3 : rst T 0 f 0 3047 [szf f * 27720, c * 27720] = some [Int.tdiv (27720 * c) (szf f)] := by
    show (match vop 47 (c * 27720) (szf f * 27720) with
      | some v => some (v :: [])
      | none => none) = _
    rw [ev]
  rw [e1]
  show (match (match rst T 0 f 0 1000 [c * 27720] with
        | some r => (match rst T 0 f 0 3047 r with
          | some r => some r
          | none => none)
        | none => none) with
    | some [v] => v
    | _ => 0) = _
  rw [e2]
  show (match (match rst T 0 f 0 3047 [szf f * 27720, c * 27720] with
          | some r => some r
          | none => none) with
    | some [v] => v
    | _ => 0) = _
  rw [e3]
theorem A3.sk (h : A3 T n c) (hN : M3 N n k) (k1 : 1 ≤ k) (k6 : k ≤ 6) : ask T N 0 (ctn T N 0) 0 = Int.tdiv (27720 * c) k := by
  obtain ⟨⟨h0, -, -⟩, h1, -, h4⟩ := hN
  unfold ask
  rw [if_neg (by omega), h.cn, h0, h.ru (c1 k) (by rw [c1_sz]; omega) (by rw [c1_sz]; omega), c1_sz, h1]; omega
theorem A3.asked (h : A3 T n c) (hN : M3 N n k) (k1 : 1 ≤ k) (k6 : k ≤ 6) : aAsked T N 0 0 = Int.tdiv (27720 * c) k := by
  unfold aAsked
  rw [if_pos (by rw [h.1.2.1]; omega), if_pos (by rw [h.1.2.2.1]; omega), if_neg (by rw [show 5 * (0 : Int) + 0 = 0 by omega, hN.1.1]; omega), h.sk hN k1 k6]
theorem A3.met (h : A3 T n c) (hN : M3 N n k) (k1 : 1 ≤ k) (k6 : k ≤ 6) : aMet T N 0 = (if 27720 * c ≤ Int.tdiv (27720 * c) k * k then 1 else 0) ∧ aMet T N 1 = 1 := by
  have e0 : metB T N 0 = decide (27720 * c ≤ Int.tdiv (27720 * c) k * k) := by
    unfold metB suA
    rw [h.1.2.1, sI1, (h.gc _).1, h.sk hN k1 k6, h.cn, hN.1.1, c1_0, Int.mul_comm k]
  have e1 : metB T N 1 = true := by
    unfold metB suA
    rw [h.1.2.1, sI1, (h.gc _).2, h.cn, hN.1.2.1, c1_0, Int.zero_mul]
    exact decide_eq_true (by omega)
  unfold aMet
  rw [h.1.2.2.1, e0, e1]
  refine ⟨?_, rfl⟩
  rw [if_pos (by omega)]
  by_cases q : 27720 * c ≤ Int.tdiv (27720 * c) k * k
  · rw [if_pos q, decide_eq_true q, if_pos rfl]
  · rw [if_neg q, decide_eq_false q, if_neg (by simp)]
theorem A3.go (h : A3 T n c) (hN : M3 N n k) (kn : k < n) : mgoB T N 0 2 0 = true ∧ M3 (mvN N (on1 0) 2 0) n (k + 1) := by
  obtain ⟨⟨x0, x1, x2⟩, z⟩ := hN
  refine ⟨decide_eq_true ⟨⟨by rw [h.1.2.1]; omega, by rw [h.1.2.2.1]; omega, by rw [h.1.2.2.1]; omega⟩, by omega, by rw [show 5 * (0 : Int) + 2 = 2 by omega, x2]; omega⟩, ⟨?_, ?_, ?_⟩, z⟩
  · show N 0 0 - 0 + on1 0 0 = _
    rw [x0, on1_eq, if_pos rfl]; omega
  · show N 0 1 - 0 + 0 = _
    rw [x1]; omega
  · show N 0 2 - on1 0 0 + 0 = _
    rw [x2, on1_eq, if_pos rfl]; omega
theorem sGo_t {T : aH} {S : aSS} {s a b : Int} (h : mgoB T S.1 s a b = true) : (sGo T S s a b).1 = mvN S.1 (on1 s) a b := by unfold sGo; rw [if_pos h]; rfl
end THREE
section L3
variable {T : aH} {S : aSS} {σ : aS} {n c l K : Int}
theorem seg843 (hA : A3 T n c) (h0 : M3 S.1 n 0) (hS : CSt T S σ) (hG : SG T K S) : Gd 947 [0, 1, n, l, c] σ (law_p843 4 0 1 n l c σ) := by
  obtain ⟨n1, n6, c0, c9⟩ := hA.2.2.2.2.2
  have hB : TB T := by obtain ⟨pl, q, -⟩ := hS; exact q.2.2.2.2.2
  have hal := al_I (c := 853) (B := aU6 law_b852) (n := n) (i := 0) (vs := [0, 1, n, l, c, 0]) (σ := σ)
    (fun k vs τ => (0 ≤ k ∧ k ≤ n) ∧ vs = [0, 1, n, l, c, k] ∧ Fp wca σ τ ∧ ∃ S', CSt T S' τ ∧ SG T K S' ∧ M3 S'.1 n k)
    (fun r => ∃ τ, r = (947, [0, 1, n, l, c], τ) ∧ Fp wca σ τ ∧ ∃ S', CSt T S' τ) (by omega) (by omega) ⟨⟨by omega, by omega⟩, rfl, Fp.rf _ _, S, hS, hG, h0⟩ ?_
  · obtain ⟨r, hr, τ, rfl, hF, S', hC⟩ := hal
    unfold law_p843
    rw [if_pos rfl]
    unfold law_l852
    rw [hr]
    refine Gd.tr hF ?_
    show Gd 947 [0, 1, n, l, c] τ (some (947, [0, 1, n, l, c], τ))
    exact Gd.e hC
  · rintro k vs τ hk ⟨⟨k0, kn⟩, rfl, hF, S', hC, hG', hM⟩
    by_cases q : k < n
    · obtain ⟨m1, m2⟩ := hA.go hM q
      have e1 := sGo_t m1
      have G2 := hG'.go hB 0 2 0
      obtain ⟨τ1, r1, F1, C1⟩ := c11_go_q hC hG'.1.1 0 2 0
      rw [if_pos m1] at r1
      have hM2 : M3 (sGo T S' 0 2 0).1 n (k + 1) := by rw [e1]; exact m2
      generalize sGo T S' 0 2 0 = S2 at G2 C1 hM2
      obtain ⟨τ2, r2, F2, C2⟩ := c11_asked_q C1 G2.1.1 G2.1.2.1 0 0
      rw [hA.asked hM2 (by omega) (by omega)] at r2
      obtain ⟨τ3, r3, F3, C3⟩ := c11_met_q C2 G2.1.1 G2.1.2.1 0
      obtain ⟨τ4, r4, F4, C4⟩ := c11_met_q C3 G2.1.1 G2.1.2.1 1
      rw [(hA.met hM2 (by omega) (by omega)).1] at r3
      rw [(hA.met hM2 (by omega) (by omega)).2] at r4
      have d0 : 0 ≤ Int.tdiv (27720 * c) (k + 1) := Int.tdiv_nonneg (by omega) (by omega)
      have d1 : Int.tdiv (27720 * c) (k + 1) * (k + 1) ≤ 27720 * c := by
        rw [Int.tdiv_eq_ediv_of_nonneg (by omega)]
        exact Int.ediv_mul_le _ (by omega)
      have d2 : Int.tdiv (27720 * c) (k + 1) ≤ 27720 * c := Int.tdiv_le_self _ (by omega)
      have d3 : 0 ≤ Int.tdiv (27720 * c) (k + 1) * (k + 1) := Int.mul_nonneg d0 (by omega)
      refine Or.inl ⟨by omega, [0, 1, n, l, c, k + 1], τ4, ?_, ⟨by omega, by omega⟩, rfl, ((hF.tr F1).tr F2).tr (F3.tr F4), S2, C4, G2, hM2⟩
      show law_b852 0 1 n l c k τ = _
      unfold law_b852
      rw [if_pos q, r1, acall1_some, if_neg (by omega), wq (x := k + 1) (by omega) (by omega), if_neg (by omega), r2, acall1_some, wQ (x := 27720 * c) (by omega) (by omega), wQ (x := Int.tdiv (27720 * c) (k + 1)) (by omega) (by omega), if_pos (acmp_0 rfl), r3, acall1_some, wQ (x := Int.tdiv (27720 * c) (k + 1) * (k + 1)) (by omega) (by omega)]
      by_cases u : 27720 * c ≤ Int.tdiv (27720 * c) (k + 1) * (k + 1)
      · rw [if_neg (by rw [acmp_n]; omega), if_pos u]
        unfold law_p926
        rw [if_pos rfl, r4, acall1_some, if_pos rfl, wq (x := k + 1) (by omega) (by omega)]
      · rw [if_pos (by rw [acmp_n]; omega), if_neg u]
        unfold law_p926
        rw [if_pos rfl, r4, acall1_some, if_pos rfl, wq (x := k + 1) (by omega) (by omega)]
    · refine Or.inr ⟨(947, [0, 1, n, l, c], τ), ?_, Nat.ne_of_beq_eq_false rfl, τ, rfl, hF, S', hC⟩
      show law_b852 0 1 n l c k τ = _
      unfold law_b852
      exact if_neg q
end L3
def A4 (T : aH) (n c w : Int) : Prop := (T 0 0 = 1 ∧ T 0 1 = 1 ∧ T 0 2 = 1 ∧ T 1 0 = c) ∧ (T 2 0 = n ∧ T 2 2 = 0 ∧ T 2 3 = 0) ∧ (T 3 0 = w ∧ T 4 0 = 0) ∧ (T 5 0 = 1 ∧ T 6 0 = 1) ∧ (T 8 0 = 0 ∧ T 9 0 = 0 ∧ T 10 0 = 1) ∧ (1 ≤ n ∧ n ≤ 6 ∧ 0 ≤ c ∧ c ≤ 999 ∧ 0 ≤ w ∧ w ≤ 99)
def M4 (N : aH) (n k : Int) : Prop := (N 0 0 = k ∧ N 0 1 = n - k) ∧ (N 1 0 = 0 ∧ N 4 0 = -1)
section FOUR
variable {T N : aH} {n c w k : Int}
theorem A4.cn (h : A4 T n c w) (N : aH) (p : Int) : ctn T N p = c1 (N 0 p) := by
  funext s
  unfold ctn c1
  rw [h.1.2.1]
  by_cases q : s = 0
  · rw [q, if_pos ⟨Int.le_refl _, by omega⟩, if_pos rfl, show 5 * (0 : Int) + p = p by omega]
  · rw [if_neg (by omega), if_neg q]
theorem A4.gv (h : A4 T n c w) (k0 : 0 ≤ k) : gvb T 0 (c1 k) 0 = if c < w * k then 1 else 0 := by
  obtain ⟨⟨h00, h01, h02, h10⟩, -, ⟨h3, -⟩, ⟨h5, h6⟩, -, hn1, hn6, hc0, -, hw0, -⟩ := h
  have ev : vot T (c1 k) 0 = if c < w * k then k else 0 := by
    unfold vot
    rw [h01, sI1, h10, show 5 * (0 : Int) + 0 = 0 by omega, h3, c1_sz, c1_0]
  unfold gvb
  rw [h5, h6, bI_10, ev, c1_sz]
  by_cases q : c < w * k
  · have hk : k ≠ 0 := by
      rintro rfl
      rw [Int.mul_zero] at q; omega
    have hk2 : k < 2 * k := by omega
    rw [if_pos q, if_pos q, if_pos ⟨rfl, fun _ => hk2⟩]
  · rw [if_neg q, if_neg q, if_neg (fun z => by have := z.2 rfl; omega)]
theorem A4.tn (h : A4 T n c w) (hN : M4 N n k) (k0 : 0 ≤ k) : aTown T N 0 1 = if c < w * k then 1 else 0 := by
  unfold aTown
  rw [h.1.2.2.1, if_pos (by omega), if_neg (by omega), if_pos rfl, h.cn, hN.1.1]
  unfold gvn
  rw [h.1.1, sI1, h.gv k0, p2_0]; omega
theorem A4.wo (h : A4 T n c w) (hN : M4 N n k) (k1 : 1 ≤ k) : aWorth T N 0 0 0 = if c < w * k then 27720 * w else 0 := by
  have hgv := h.gv (k := k) (by omega)
  have hcn := h.cn N 0
  obtain ⟨⟨h00, h01, h02, h10⟩, -, ⟨h3, h4⟩, ⟨h5, h6⟩, ⟨h8, h9, ha⟩, -⟩ := h
  obtain ⟨⟨x0, x1⟩, y0, y4⟩ := hN
  have er : ∀ f : Int → Int, rul T 0 f 0 = 0 := fun f => by
    unfold rul
    rw [ha, h9]
    show (match (match rst T 0 f 0 (T 8 0) [] with
      | some r => some r
      | none => none) with
      | some [v] => v
      | _ => 0) = _
    rw [h8]
    rfl
  unfold aWorth
  rw [h01, if_pos (by omega), h02, if_pos (by omega), if_pos rfl, show 5 * (0 : Int) + 0 = 0 by omega, x0, if_neg (by omega), hcn, x0]
  unfold wrA wor ask lik
  rw [h02, if_neg (by omega), if_neg (by omega), er, h00, h01, sI1, sI1, hgv, show 5 * (0 : Int) + 0 = 0 by omega, h3, h4, y0]
  by_cases q : c < w * k
  · rw [if_pos q, if_pos q]; omega
  · rw [if_neg q, if_neg q]; omega
theorem A4.go (h : A4 T n c w) (hN : M4 N n k) (kn : k < n) : mgoB T N 0 1 0 = true ∧ M4 (mvN N (on1 0) 1 0) n (k + 1) := by
  obtain ⟨⟨x0, x1⟩, z⟩ := hN
  refine ⟨decide_eq_true ⟨⟨by rw [h.1.2.1]; omega, by rw [h.1.2.2.1]; omega, by rw [h.1.2.2.1]; omega⟩, by omega, by rw [show 5 * (0 : Int) + 1 = 1 by omega, x1]; omega⟩, ⟨?_, ?_⟩, z⟩
  · show N 0 0 - 0 + on1 0 0 = _
    rw [x0, on1_eq, if_pos rfl]; omega
  · show N 0 1 - on1 0 0 + 0 = _
    rw [x1, on1_eq, if_pos rfl]; omega
end FOUR
section L4
variable {T : aH} {S : aSS} {σ : aS} {n c w l K : Int}
theorem seg1007 (hA : A4 T n c w) (h0 : M4 S.1 n 0) (hS : CSt T S σ) (hG : SG T K S) : Gd 1107 [1, 0, 1, n, l] σ (law_p1007 3 0 1 n l c w σ) := by
  obtain ⟨n1, n6, c0, c9, w0, w9⟩ := hA.2.2.2.2.2
  have hB : TB T := by obtain ⟨pl, q, -⟩ := hS; exact q.2.2.2.2.2
  have hal : ∀ σ, CSt T S σ → ∃ r, aloop 1026 (aU7 law_b1025) aBig [0, 1, n, l, c, w, 1] σ = some r ∧ ∃ τ, r = (1106, [0, 1, n, l], τ) ∧ Fp wca σ τ ∧ ∃ S', CSt T S' τ := by
    intro σ hS
    refine al_I (c := 1026) (B := aU7 law_b1025) (n := n + 1) (i := 1) (vs := [0, 1, n, l, c, w, 1]) (σ := σ)
      (fun k vs τ => (1 ≤ k ∧ k ≤ n + 1) ∧ vs = [0, 1, n, l, c, w, k] ∧ Fp wca σ τ ∧ ∃ S', CSt T S' τ ∧ SG T K S' ∧ M4 S'.1 n (k - 1))
      (fun r => ∃ τ, r = (1106, [0, 1, n, l], τ) ∧ Fp wca σ τ ∧ ∃ S', CSt T S' τ) (by omega) (by omega) ⟨⟨by omega, by omega⟩, rfl, Fp.rf _ _, S, hS, hG, h0⟩ ?_
    rintro k vs τ hk ⟨⟨k0, kn⟩, rfl, hF, S', hC, hG', hM⟩
    by_cases q : n < k
    · refine Or.inr ⟨(1106, [0, 1, n, l], τ), ?_, Nat.ne_of_beq_eq_false rfl, τ, rfl, hF, S', hC⟩
      show law_b1025 0 1 n l c w k τ = _
      unfold law_b1025
      exact if_pos q
    · obtain ⟨m1, m2⟩ := hA.go hM (by omega)
      rw [show k - 1 + 1 = k by omega] at m2
      have e1 := sGo_t m1
      have G2 := hG'.go hB 0 1 0
      obtain ⟨τ1, r1, F1, C1⟩ := c11_go_q hC hG'.1.1 0 1 0
      rw [if_pos m1] at r1
      have hM2 : M4 (sGo T S' 0 1 0).1 n k := by rw [e1]; exact m2
      generalize sGo T S' 0 1 0 = S2 at G2 C1 hM2
      obtain ⟨τ2, r2, F2, C2⟩ := c11_town_q C1 G2.1.1 0 1
      rw [hA.tn hM2 (by omega)] at r2
      obtain ⟨τ3, r3, F3, C3⟩ := c11_worth_q C2 G2.1.1 G2.1.2.1 0 0 0
      rw [hA.wo hM2 (by omega)] at r3
      have b1 : 0 ≤ w * k := Int.mul_nonneg w0 (by omega)
      have b2 : w * k ≤ 99 * 6 := Int.mul_le_mul w9 (by omega) (by omega) (by omega)
      refine Or.inl ⟨by omega, [0, 1, n, l, c, w, k + 1], τ3, ?_, ⟨by omega, by omega⟩, rfl, (hF.tr F1).tr (F2.tr F3), S2, C3, G2, by rw [show k + 1 - 1 = k by omega]; exact hM2⟩
      show law_b1025 0 1 n l c w k τ = _
      unfold law_b1025
      rw [if_neg q, r1, acall1_some, if_neg (by omega), r2, acall1_some, wq (x := w * k) (by omega) (by omega)]
      by_cases u : c < w * k
      · rw [if_pos u, if_pos u]
        rw [if_pos u] at r3
        unfold law_p1062 law_p1093
        rw [if_pos rfl, r3, acall1_some, wq (x := w * k) (by omega) (by omega), if_pos u, wQ (x := 27720 * w) (by omega) (by omega), if_pos (acmp_0 rfl), wq (x := k + 1) (by omega) (by omega)]
      · rw [if_neg u, if_neg u]
        rw [if_neg u] at r3
        unfold law_p1062 law_p1093
        rw [if_pos rfl, r3, acall1_some, wq (x := w * k) (by omega) (by omega), if_neg u, if_pos (acmp_0 rfl), wq (x := k + 1) (by omega) (by omega)]
  unfold law_p1007
  refine Gd.p rfl ((c11_town_q hS hG.1.1 0 1).g (x := 0) ?_ (fun τ1 c1 => ?_))
  · rw [hA.tn h0 (by omega), if_neg (by rw [Int.mul_zero]; omega)]
  · refine Gd.p rfl ?_
    obtain ⟨r, hr, τ, rfl, hF, S', hC⟩ := hal τ1 c1
    unfold law_l1025
    rw [hr]
    refine Gd.tr hF ?_
    show Gd 1107 [1, 0, 1, n, l] τ (some (1107, [1, 0, 1, n, l], τ))
    exact Gd.e hC
end L4
