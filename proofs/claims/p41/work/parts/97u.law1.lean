/-! the law's pieces: what they come to -/
def Gd (t : Nat) (vs : List Int) (σ : aS) (r : aR) : Prop := ∃ τ, r = some (t, vs, τ) ∧ Fp wca σ τ ∧ ∃ T S, CSt T S τ
section GD
variable {T : aH} {S : aSS} {t : Nat} {vs : List Int} {σ : aS} {r : aR} {v x : Int} {f : Int → aS → aR}
theorem AnsC.g (h : AnsC T S σ r v) (e : v = x) (k : ∀ τ, CSt T S τ → Gd t vs τ (f x τ)) : Gd t vs σ (acall1 r f) := by
  obtain ⟨τ, rfl, hF, hC⟩ := h
  subst e
  obtain ⟨υ, e, hF2, hq⟩ := k τ hC
  exact ⟨υ, e, hF.tr hF2, hq⟩
theorem Gd.p {c : Prop} [Decidable c] {A B : aR} (h : c) (k : Gd t vs σ A) : Gd t vs σ (if c then A else B) := by rw [if_pos h]; exact k
theorem Gd.n {c : Prop} [Decidable c] {A B : aR} (h : ¬ c) (k : Gd t vs σ B) : Gd t vs σ (if c then A else B) := by rw [if_neg h]; exact k
theorem Gd.e (h : CSt T S σ) : Gd t vs σ (some (t, vs, σ)) := ⟨σ, rfl, Fp.rf _ _, T, S, h⟩
theorem Gd.tr {τ : aS} (hF : Fp wca σ τ) (h : Gd t vs τ r) : Gd t vs σ r := by
  obtain ⟨υ, e, hF2, hq⟩ := h
  exact ⟨υ, e, hF.tr hF2, hq⟩
end GD
theorem acmp_0 {a b : Int} (h : a = b) : acmp a b = 0 := by rw [acmp_z]; exact h
section L1
variable {T : aH} {N0 : aH} {H0 : Int → aH} {IM : aH} {σ : aS} {n o v w k K : Int}
theorem sGoings_t {T : aH} {S : aSS} {m : Int} (h : goB T S.1 m = true) : sGoings T S m = psS S (itN T S.1 (stN T S.1 m)) := by unfold sGoings; rw [if_pos h]
theorem aFirst_v {T N : aH} {x : Int} (h : fiS T N < T 0 1) : aFirst T N 0 = fiS T N ∧ aFirst T N 1 = fiA T N (fiS T N) ∧ aFirst T N 2 = fiB T N (fiS T N) (fiA T N (fiS T N)) := by
  unfold aFirst
  refine ⟨?_, ?_, ?_⟩
  · rw [if_pos (by omega), if_pos h, if_pos rfl]
  · rw [if_pos (by omega), if_pos h, if_neg (by omega), if_pos rfl]
  · rw [if_pos (by omega), if_pos h, if_neg (by omega), if_neg (by omega)]
theorem aFirst_no {T N : aH} (h : ¬ fiS T N < T 0 1) (x : Int) : aFirst T N x = -1 := by
  unfold aFirst
  rw [if_neg h, ite_self]
theorem A1.fst (h : A1 T n o v w k) {N : aH} {j r e b : Int} (hN : M1 N j r e b) (hr : 0 < r) (hg : 0 < w - k - e - o - v) : aFirst T N 0 = 0 ∧ aFirst T N 1 = 1 ∧ aFirst T N 2 = 0 := by
  obtain ⟨⟨e1, e2, e3⟩, -⟩ := h.up hN hr hg
  obtain ⟨a1, a2, a3⟩ := aFirst_v (x := 0) (T := T) (N := N) (by rw [e1, h.1.2.1]; omega)
  rw [a1, a2, a3, e1, e2, e3]
  exact ⟨rfl, rfl, rfl⟩
theorem A1.fsd (h : A1 T n o v w k) {N : aH} {j r e b : Int} (hN : M1 N j r e b) (hj : 0 < j) (hb : b = 0) (hg : 0 < o - (w - k - e) - v) : aFirst T N 0 = 0 ∧ aFirst T N 1 = 0 ∧ aFirst T N 2 = 1 := by
  obtain ⟨⟨e1, e2, e3⟩, -⟩ := h.dn hN hj hb hg
  obtain ⟨a1, a2, a3⟩ := aFirst_v (x := 0) (T := T) (N := N) (by rw [e1, h.1.2.1]; omega)
  rw [a1, a2, a3, e1, e2, e3]
  exact ⟨rfl, rfl, rfl⟩
theorem A1.at' (h : A1 T n o v w k) {N : aH} {j r e b : Int} (hN : M1 N j r e b) : aAt T N 0 0 = j ∧ aAt T N 0 1 = r := by
  unfold aAt
  rw [h.1.2.1, h.1.2.2, if_pos (by omega), if_pos (by omega), if_pos (by omega), if_pos (by omega), show 5 * (0 : Int) + 0 = 0 by omega, show 5 * (0 : Int) + 1 = 1 by omega]
  exact ⟨hN.1, hN.2.1⟩
theorem A1.tw (h : A1 T n o v w k) {N : aH} {j r e b : Int} (hN : M1 N j r e b) : aTown T N 0 4 = e ∧ aTown T N 0 5 = j := by
  unfold aTown
  rw [h.1.2.2, if_pos (by omega), if_neg (by omega), if_neg (by omega), if_neg (by omega), if_neg (by omega), if_pos rfl, if_pos (by omega), if_neg (by omega), if_neg (by omega), if_neg (by omega), if_neg (by omega), if_neg (by omega), if_pos rfl, h.cn, c1_sz]
  exact ⟨hN.2.2.1, hN.1⟩
theorem A1.gng (h : A1 T n o v w k) {N : aH} {j r e b : Int} (hN : M1 N j r e b) (hr : 0 < r) (h6 : r ≤ 6) (hg : 0 < w - k - e - o - v) : goB T N 300 = true ∧ aGoings T N 300 = r ∧ stN T N 300 = r ∧ M1 (itN T N r) (j + r) 0 e b := by
  obtain ⟨⟨e1, -, -⟩, -⟩ := h.up hN hr hg
  obtain ⟨-, -, -, a4, a5⟩ := h.rise hN (by omega) h6 hg
  have hf : fiS T N < T 0 1 := by rw [e1, h.1.2.1]; omega
  refine ⟨decide_eq_true ⟨by omega, by omega, hf⟩, ?_, a4, a5⟩
  unfold aGoings
  rw [if_pos (by omega), if_neg (by omega), if_pos hf, a4]
theorem A1.gnd (h : A1 T n o v w k) {N : aH} {j r e b : Int} (hN : M1 N j r e b) (hj : 0 < j) (h6 : j ≤ 6) (hb : b = 0) (hg : 0 < o - (w - k - e) - v) : goB T N 300 = true ∧ aGoings T N 300 = j ∧ stN T N 300 = j ∧ M1 (itN T N j) 0 (r + j) e b := by
  obtain ⟨⟨e1, -, -⟩, -⟩ := h.dn hN hj hb hg
  obtain ⟨-, -, -, a4, a5⟩ := h.fall hN (by omega) h6 hb hg
  have hf : fiS T N < T 0 1 := by rw [e1, h.1.2.1]; omega
  refine ⟨decide_eq_true ⟨by omega, by omega, hf⟩, ?_, a4, a5⟩
  unfold aGoings
  rw [if_pos (by omega), if_neg (by omega), if_pos hf, a4]
/-- the last of it: back to the beginning -/
theorem seg587 {N1 : aH} {E : Int} {H : Int → aH} {im : Int} (hA : A1 T n o v w k) {N2 : aH} (h0 : M1 (H 0) 0 n 0 0) (h1 : M1 (H 1) n 0 0 0) (hS : CSt T (N2, H, 2, im, IM) σ) (hG : SG T K (N2, H, 2, im, IM)) (hg : 0 < w - k - o - v) : Gd 637 [1, 0, 1, n] σ (law_p587 0 0 1 n σ) := by
  obtain ⟨hv, n1, n6⟩ := hA.2.2.2.2.2.2
  unfold law_p587
  refine Gd.p rfl ?_
  have S1 : sUndo ((N2, H, 2, im, IM) : aSS) = (H 1, H, 1, im, IM) := rfl
  have G1 : SG T K (H 1, H, 1, im, IM) := hG.undo
  refine (c11_undo_q hS).g (x := 1) rfl (fun τ1 c1 => ?_)
  rw [S1] at c1
  refine Gd.p rfl ((c11_first_q c1 G1.1.1 G1.1.2.1 0).g (x := -1) (aFirst_no (hA.no h1 (by omega) (by omega)) 0) (fun τ2 c2 => ?_))
  refine Gd.p rfl ((c11_town_q c2 G1.1.1 0 4).g (x := 0) (hA.tw h1).1 (fun τ3 c3 => ?_))
  have S2 : sUndo ((H 1, H, 1, im, IM) : aSS) = (H 0, H, 0, im, IM) := rfl
  have G2 : SG T K (H 0, H, 0, im, IM) := G1.undo
  refine Gd.p rfl ((c11_undo_q c3).g (x := 0) rfl (fun τ4 c4 => ?_))
  rw [S2] at c4
  refine Gd.p rfl ((c11_at_q c4 G2.1.1 0 1).g (x := n) (hA.at' h0).2 (fun τ5 c5 => ?_))
  exact Gd.p rfl (Gd.e c5)
theorem seg531 {E : Int} {H : Int → aH} {im : Int} (hA : A1 T n o v w k) {N3 : aH} (h0 : M1 (H 0) 0 n 0 0) (h1 : M1 (H 1) n 0 0 0) (h2 : M1 (H 2) n 0 (w - k - o + v + 1) 0) (hS : CSt T (N3, H, 3, im, IM) σ) (hG : SG T K (N3, H, 3, im, IM)) (hg : 0 < w - k - o - v) : Gd 637 [1, 0, 1, n] σ (law_p531 0 0 1 n σ) := by
  obtain ⟨hv, n1, n6⟩ := hA.2.2.2.2.2.2
  unfold law_p531
  refine Gd.p rfl ?_
  have S1 : sUndo ((N3, H, 3, im, IM) : aSS) = (H 2, H, 2, im, IM) := rfl
  have G1 : SG T K (H 2, H, 2, im, IM) := hG.undo
  refine (c11_undo_q hS).g (x := 2) rfl (fun τ1 c1 => ?_)
  rw [S1] at c1
  have hb : bdB T (H 2) 0 1 = true := decide_eq_true ⟨by rw [hA.1.2.2]; omega, by rw [h2.2.2.2.1]; omega⟩
  have S2 : sBind T ((H 2, H, 2, im, IM) : aSS) 0 1 = (stv (H 2) 2 0 1, pshH H 2 (H 2), 3, im, IM) := by
    unfold sBind
    rw [show bdB T ((H 2, H, 2, im, IM) : aSS).1 0 1 = true from hb, if_pos rfl]
    rfl
  have G2 : SG T K (stv (H 2) 2 0 1, pshH H 2 (H 2), 3, im, IM) := by rw [← S2]; exact G1.bind 0 (Or.inr rfl)
  have hM2 := h2.bd 1
  refine Gd.p rfl ((c11_bind_q c1 G1.1.1 0 (Or.inr rfl)).g (x := 1) (if_pos hb) (fun τ2 c2 => ?_))
  rw [S2] at c2
  refine Gd.n (by omega) ((c11_first_q c2 G2.1.1 G2.1.2.1 0).g (x := -1) (aFirst_no (hA.no hM2 (by omega) (by omega)) 0) (fun τ3 c3 => ?_))
  refine Gd.p rfl ((c11_edge_q c3 G2.1.1 G2.1.2.1 0 0).g (x := 1000) (hA.edb hM2 (by omega) (by omega)) (fun τ4 c4 => ?_))
  have e0 : pshH H 2 (H 2) 0 = H 0 := rfl
  have e1 : pshH H 2 (H 2) 1 = H 1 := rfl
  have e2 : pshH H 2 (H 2) 2 = H 2 := rfl
  have S3 : sUndo ((stv (H 2) 2 0 1, pshH H 2 (H 2), 3, im, IM) : aSS) = (H 2, pshH H 2 (H 2), 2, im, IM) := rfl
  have G3 : SG T K (H 2, pshH H 2 (H 2), 2, im, IM) := by rw [← S3]; exact G2.undo
  refine Gd.p rfl ((c11_undo_q c4).g (x := 2) rfl (fun τ5 c5 => ?_))
  rw [S3] at c5
  refine Gd.p rfl ((c11_first_q c5 G3.1.1 G3.1.2.1 0).g (x := 0) (hA.fsd h2 (by omega) rfl (by omega)).1 (fun τ6 c6 => ?_))
  exact seg587 (N1 := H 2) (E := 0) hA (by rw [e0]; exact h0) (by rw [e1]; exact h1) c6 G3 hg
theorem seg473 {H : Int → aH} {im : Int} {N1 : aH} {x : Int} (hA : A1 T n o v w k) (h0 : M1 (H 0) 0 n 0 0) (h1 : M1 N1 n 0 0 0) (hS : CSt T (N1, H, 1, im, IM) σ) (hG : SG T K (N1, H, 1, im, IM)) (hg : 0 < w - k - o - v) (hw : w - k - o + v + 1 ≤ 999) : Gd 637 [1, 0, 1, n] σ (law_p473 x x 0 1 n (w - k - o + v + 1) σ) := by
  obtain ⟨hv, n1, n6⟩ := hA.2.2.2.2.2.2
  unfold law_p473
  refine Gd.p rfl ?_
  have hx : exB T N1 0 (w - k - o + v + 1) = true := decide_eq_true ⟨by rw [hA.1.2.2]; omega, by omega, by rw [h1.2.2.1]; omega⟩
  have S2 : sExtra T ((N1, H, 1, im, IM) : aSS) 0 (w - k - o + v + 1) = (stv N1 1 0 (w - k - o + v + 1), pshH H 1 N1, 2, im, IM) := by
    unfold sExtra
    rw [show exB T ((N1, H, 1, im, IM) : aSS).1 0 (w - k - o + v + 1) = true from hx, if_pos rfl]
    rfl
  have G2 : SG T K (stv N1 1 0 (w - k - o + v + 1), pshH H 1 N1, 2, im, IM) := by rw [← S2]; exact hG.extra 0 _
  have h2 := h1.st (w - k - o + v + 1)
  generalize hE : w - k - o + v + 1 = E at hx S2 G2 h2 hw ⊢
  have hB : TB T := by obtain ⟨pl, c, -⟩ := hS; exact c.2.2.2.2.2
  refine (c11_extra_q hS 0 E).g (x := 1) (if_pos hx) (fun τ1 c1 => ?_)
  rw [S2] at c1
  obtain ⟨f1, f2, f3⟩ := hA.fsd h2 (by omega) rfl (by omega)
  refine Gd.n (by omega) ((c11_first_q c1 G2.1.1 G2.1.2.1 0).g (x := 0) f1 (fun τ2 c2 => ?_))
  refine Gd.p rfl ((c11_first_q c2 G2.1.1 G2.1.2.1 1).g (x := 0) f2 (fun τ3 c3 => ?_))
  obtain ⟨g1, g2, g3, g4⟩ := hA.gnd h2 (by omega) n6 rfl (by omega)
  have S3 : sGoings T ((stv N1 1 0 E, pshH H 1 N1, 2, im, IM) : aSS) 300 = (itN T (stv N1 1 0 E) n, pshH (pshH H 1 N1) 2 (stv N1 1 0 E), 3, im, IM) := by
    rw [sGoings_t (S := (stv N1 1 0 E, pshH H 1 N1, 2, im, IM)) g1]
    show psS ((stv N1 1 0 E, pshH H 1 N1, 2, im, IM) : aSS) (itN T (stv N1 1 0 E) (stN T (stv N1 1 0 E) 300)) = _
    rw [g3]; rfl
  have G3 : SG T K (itN T (stv N1 1 0 E) n, pshH (pshH H 1 N1) 2 (stv N1 1 0 E), 3, im, IM) := by rw [← S3]; exact G2.goings hB 300
  refine Gd.p rfl ((c11_goings_q c3 G2.1.1 G2.1.2.1 300).g (x := n) g2 (fun τ4 c4 => ?_))
  rw [S3] at c4
  refine Gd.p rfl ((c11_at_q c4 G3.1.1 0 1).g (x := n) ((hA.at' g4).2.trans (by omega)) (fun τ5 c5 => ?_))
  refine Gd.p rfl ((c11_town_q c5 G3.1.1 0 5).g (x := 0) (hA.tw g4).2 (fun τ6 c6 => ?_))
  exact seg531 (E := E) (H := pshH (pshH H 1 N1) 2 (stv N1 1 0 E)) hA h0 (show M1 N1 n 0 0 0 from h1) (by rw [hE]; exact h2) c6 G3 hg
theorem seg415 {H : Int → aH} {im : Int} {N1 : aH} (hA : A1 T n o v w k) (h0 : M1 (H 0) 0 n 0 0) (h1 : M1 N1 n 0 0 0) (hS : CSt T (N1, H, 1, im, IM) σ) (hG : SG T K (N1, H, 1, im, IM)) (hg : 0 < w - k - o - v) (o0 : 0 ≤ o) (w1 : w ≤ 99) : Gd 637 [1, 0, 1, n] σ (law_p415 0 0 1 n o v k w σ) := by
  obtain ⟨hv, n1, n6⟩ := hA.2.2.2.2.2.2
  have hk := hA.2.2.2.2.2.1
  unfold law_p415
  rw [wq (x := w - k) (by omega) (by omega), wq (x := w - k - o) (by omega) (by omega), wq (x := w - k - o + v) (by omega) (by omega), wq (x := w - k - o + v + 1) (by omega) (by omega)]
  refine Gd.p (acmp_0 rfl) ((c11_best_q hS hG.1.1 hG.1.2.1).g (x := 0) ?_ (fun τ1 c1 => ?_))
  · have := (hA.aAl h1 (by omega)).2.2.2.2.2 rfl
    rw [show bsB T ((N1, H, 1, im, IM) : aSS).1 = false from this]; rfl
  · have S1 : sBest T ((N1, H, 1, im, IM) : aSS) = (N1, H, 1, im, IM) := by
      unfold sBest
      rw [show bsB T ((N1, H, 1, im, IM) : aSS).1 = false from (hA.aAl h1 (by omega)).2.2.2.2.2 rfl]; rfl
    rw [S1] at c1
    have e0 := hA.edg h1 (by omega) rfl (by omega) (by omega)
    rw [show w - k - 0 - o + v + 1 = w - k - o + v + 1 by omega] at e0
    refine Gd.p rfl ((c11_edge_q c1 hG.1.1 hG.1.2.1 0 0).g (x := w - k - o + v + 1) e0 (fun τ2 c2 => ?_))
    refine Gd.p rfl ((c11_empties_q c2 hG.1.1 hG.1.2.2.1 hG.1.2.1 0).g (x := if 40 < w - k - o + v + 1 then 41 else w - k - o + v + 1) (hA.emp h1 (by omega)) (fun τ3 c3 => ?_))
    by_cases c : 40 < w - k - o + v + 1
    · refine Gd.p c ?_
      rw [if_pos c]
      exact seg473 hA h0 h1 c3 hG hg (by omega)
    · refine Gd.n c ?_
      rw [if_neg c]
      exact seg473 hA h0 h1 c3 hG hg (by omega)
theorem seg349 {H : Int → aH} {im : Int} {N0 : aH} (hA : A1 T n o v w k) (h0 : M1 N0 0 n 0 0) (hS : CSt T (N0, H, 0, im, IM) σ) (hG : SG T K (N0, H, 0, im, IM)) (hg : 0 < w - k - o - v) (o0 : 0 ≤ o) (w1 : w ≤ 99) : Gd 637 [1, 0, 1, n] σ (law_p349 0 1 n o v k w σ) := by
  obtain ⟨hv, n1, n6⟩ := hA.2.2.2.2.2.2
  have hk := hA.2.2.2.2.2.1
  have hB : TB T := by obtain ⟨pl, c, -⟩ := hS; exact c.2.2.2.2.2
  obtain ⟨g1, g2, g3, g4⟩ := hA.gng h0 (by omega) n6 (by omega)
  rw [show (0 : Int) + n = n by omega] at g4
  have S1 : sGoings T ((N0, H, 0, im, IM) : aSS) 300 = (itN T N0 n, pshH H 0 N0, 1, im, IM) := by
    rw [sGoings_t (S := (N0, H, 0, im, IM)) g1]
    show psS ((N0, H, 0, im, IM) : aSS) (itN T N0 (stN T N0 300)) = _
    rw [g3]; rfl
  have G1 : SG T K (itN T N0 n, pshH H 0 N0, 1, im, IM) := by rw [← S1]; exact hG.goings hB 300
  have hal := hA.aAl g4 (by omega)
  unfold law_p349
  rw [wq (x := w - k) (by omega) (by omega), wQ (x := 27720 * n) (by omega) (by omega)]
  have et : 27720 * n * (w - k) = n * (27720 * (w - k - 0)) + 0 * (27720 * o) := by
    rw [Int.zero_mul, Int.add_zero, show w - k - 0 = w - k by omega, ← Int.mul_assoc, Int.mul_comm n 27720]
  have hbig : 27720 * n * (w - k) ≤ 27720 * 6 * 99 ∧ 0 ≤ 27720 * n * (w - k) := by
    have a := Int.mul_le_mul (show 27720 * n ≤ 27720 * 6 by omega) (show w - k ≤ 99 by omega) (by omega) (by omega)
    have b := Int.mul_nonneg (show 0 ≤ 27720 * n by omega) (show 0 ≤ w - k by omega)
    exact ⟨a, b⟩
  rw [wQ (x := 27720 * n * (w - k)) (by omega) (by omega)]
  refine (c11_goings_q hS hG.1.1 hG.1.2.1 300).g (x := n) g2 (fun τ1 c1 => ?_)
  rw [S1] at c1
  refine Gd.p rfl ((c11_at_q c1 G1.1.1 0 0).g (x := n) (hA.at' g4).1 (fun τ2 c2 => ?_))
  refine Gd.p rfl ((c11_first_q c2 G1.1.1 G1.1.2.1 0).g (x := -1) (aFirst_no (hA.no g4 (by omega) (by omega)) 0) (fun τ3 c3 => ?_))
  refine Gd.p rfl ((c11_total_q c3 G1.1.1 G1.1.2.1).g (x := 27720 * n * (w - k)) ((hA.tt g4).trans et.symm) (fun τ4 c4 => ?_))
  refine Gd.p (acmp_0 rfl) ((c11_lost_q c4 G1.1.1 G1.1.2.1 1).g (x := 0) hal.2.2.2.1 (fun τ5 c5 => ?_))
  refine Gd.p (acmp_0 rfl) ((c11_lost_q c5 G1.1.1 G1.1.2.1 2).g (x := 0) hal.2.2.2.2.1 (fun τ6 c6 => ?_))
  exact seg415 (H := pshH H 0 N0) hA (show M1 N0 0 n 0 0 from h0) g4 c6 G1 hg o0 w1
theorem seg323 {H : Int → aH} {im : Int} {N0 : aH} (hA : A1 T n o v w k) (h0 : M1 N0 0 n 0 0) (hS : CSt T (N0, H, 0, im, IM) σ) (hG : SG T K (N0, H, 0, im, IM)) (hg : 0 < w - k - o - v) (o0 : 0 ≤ o) (w1 : w ≤ 99) : Gd 637 [1, 0, 1, n] σ (law_l323 0 1 n o v k w 1 σ) := by
  obtain ⟨hv, n1, n6⟩ := hA.2.2.2.2.2.2
  have hal := al_I (c := 324) (B := aU8 law_b323) (n := n + 1) (i := 1) (vs := [0, 1, n, o, v, k, w, 1]) (σ := σ)
    (fun i vs τ => 1 ≤ i ∧ vs = [0, 1, n, o, v, k, w, i] ∧ Fp wca σ τ ∧ CSt T (N0, H, 0, im, IM) τ)
    (fun r => ∃ τ, r = (350, [0, 1, n, o, v, k, w], τ) ∧ Fp wca σ τ ∧ CSt T (N0, H, 0, im, IM) τ) (by omega) (by omega) ⟨Int.le_refl _, rfl, Fp.rf _ _, hS⟩ ?_
  · obtain ⟨r, hr, τ, rfl, hF, hC⟩ := hal
    unfold law_l323
    rw [hr]
    refine Gd.tr hF ?_
    show Gd 637 [1, 0, 1, n] τ (law_p349 0 1 n o v k w τ)
    exact seg349 hA h0 hC hG hg o0 w1
  · rintro i vs τ hi ⟨i1, rfl, hF, hC⟩
    by_cases c : n < i
    · refine Or.inr ⟨(350, [0, 1, n, o, v, k, w], τ), ?_, Nat.ne_of_beq_eq_false rfl, τ, rfl, hF, hC⟩
      show law_b323 0 1 n o v k w i τ = _
      unfold law_b323
      exact if_pos c
    · obtain ⟨υ, e, hF2, hC2⟩ := c11_would_q hC hG.1.1 hG.1.2.1 (p := i) (by omega) 1 0
      refine Or.inl ⟨by omega, [0, 1, n, o, v, k, w, i + 1], υ, ?_, by omega, rfl, hF.tr hF2, hC2⟩
      show law_b323 0 1 n o v k w i τ = _
      unfold law_b323
      rw [if_neg c, e, acall1_some, if_pos (hA.wd h0 rfl (by omega) i1 (by omega)), wq (x := i + 1) (by omega) (by omega)]
theorem seg188 {H : Int → aH} {im : Int} {N0 : aH} (hA : A1 T n o v w k) (h0 : M1 N0 0 n 0 0) (hS : CSt T (N0, H, 0, im, IM) σ) (hG : SG T K (N0, H, 0, im, IM)) (hg : 0 < w - k - o - v) (o0 : 0 ≤ o) (w1 : w ≤ 99) : Gd 637 [1, 0, 1, n] σ (law_p188 3 0 1 n o v (w - o - v - k) k w σ) := by
  obtain ⟨hv, n1, n6⟩ := hA.2.2.2.2.2.2
  have hk := hA.2.2.2.2.2.1
  obtain ⟨r1, r2, r3, -, -⟩ := hA.rise h0 (by omega) n6 (by omega)
  obtain ⟨f1, f2, f3⟩ := hA.fst h0 (by omega) (by omega)
  obtain ⟨a1, a2, a3, -⟩ := hA.aAl h0 (by omega)
  unfold law_p188
  rw [wq (x := w - k) (by omega) (by omega), wQ (x := 27720 * (w - k)) (by omega) (by omega), wQ (x := 27720 * (w - o - v - k)) (by omega) (by omega)]
  refine Gd.p rfl ((c11_worth_q hS hG.1.1 hG.1.2.1 0 0 1).g (x := 27720 * (w - k)) ?_ (fun τ1 c1 => ?_))
  · unfold aWorth
    rw [hA.1.2.1, if_pos (by omega), hA.1.2.2, if_pos (by omega), if_neg (by omega), hA.w0 h0]; omega
  refine Gd.p (acmp_0 rfl) ((c11_gain_q c1 hG.1.1 hG.1.2.1 0 1 0).g (x := 27720 * (w - o - v - k)) ?_ (fun τ2 c2 => ?_))
  · unfold aGain
    rw [if_pos (show mgoB T N0 0 1 0 = true from decide_eq_true ⟨⟨by rw [hA.1.2.1]; omega, by rw [hA.1.2.2]; omega, by rw [hA.1.2.2]; omega⟩, by omega, by rw [show 5 * (0 : Int) + 1 = 1 by omega, h0.2.1]; omega⟩), hA.g10 h0]; omega
  refine Gd.p (acmp_0 rfl) ((c11_first_q c2 hG.1.1 hG.1.2.1 0).g (x := 0) f1 (fun τ3 c3 => ?_))
  refine Gd.p rfl ((c11_first_q c3 hG.1.1 hG.1.2.1 1).g (x := 1) f2 (fun τ4 c4 => ?_))
  refine Gd.p rfl ((c11_first_q c4 hG.1.1 hG.1.2.1 2).g (x := 0) f3 (fun τ5 c5 => ?_))
  refine Gd.p rfl ((c11_ring_q c5 hG.1.1 hG.1.2.1 0).g (x := 1) ?_ (fun τ6 c6 => ?_))
  · unfold aRing
    rw [if_pos (by omega), if_pos rfl, r2]
  unfold law_p263
  refine Gd.p rfl ((c11_ring_q c6 hG.1.1 hG.1.2.1 1).g (x := n) ?_ (fun τ7 c7 => ?_))
  · unfold aRing
    rw [if_pos (by omega), if_neg (by omega), if_pos rfl, r3]
  refine Gd.p rfl ((c11_all_q c7 hG.1.1 hG.1.2.1 0).g (x := n + 1) a1 (fun τ8 c8 => ?_))
  refine Gd.p (by rw [wq (by omega) (by omega)]) ((c11_all_q c8 hG.1.1 hG.1.2.1 1).g (x := 1) a2 (fun τ9 c9 => ?_))
  refine Gd.p rfl ((c11_held_q c9 hG.1.1 hG.1.2.1 0 0 0).g (x := n) a3 (fun τa ca => ?_))
  refine Gd.p rfl ((c11_party_q ca hG.1.1 hG.1.2.1 12 0).g (x := 1) (hA.ptx h0 rfl (by omega)) (fun τb cb => ?_))
  exact Gd.p rfl (seg323 hA h0 cb hG hg o0 w1)
end L1
