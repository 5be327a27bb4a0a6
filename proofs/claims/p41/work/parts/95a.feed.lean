/-! the class's half of whole's part of this name -/
def byt (w sh : Int) : Int := aand (ashr w sh) 255
/-- byte k of the five numbers -/
def fdb (a b c d e k : Int) : Int := byt (if k < 4 then a else if k < 8 then b else if k < 12 then c else if k < 16 then d else e) (24 - 8 * (k % 4))
/-- the tapes -/
def TPc (bt : Int → Int) (m : Int) (σ : aS) : Prop := aget σ 2 4 = m ∧ (0 ≤ m ∧ m ≤ 800) ∧ ∀ j, 0 ≤ j → j < m → aget σ 3 j = bt j
def TPr (bt : Int → Int) (m : Int) (σ : aS) : Prop := aget σ 130 1 = m ∧ (0 ≤ m ∧ m ≤ 800) ∧ ∀ j, 0 ≤ j → j < m → aget σ 131 j = bt j
def fdN (bt : Int → Int) (m a b c d e : Int) : Int → Int := fun j => if j < m then bt j else fdb a b c d e (j - m)
def wtp (x j : Int) : Prop := x = 3 ∨ (x = 2 ∧ j = 4)
def wtB (x j : Int) : Bool := decide (x = 3 ∨ (x = 2 ∧ 4 ≤ j) ∨ x = 4 ∨ x = 5 ∨ x = 6 ∨ (x = 7 ∧ 1 ≤ j))
/-- the cells of the tokens -/
def wtt (x j : Int) : Prop := x = 3 ∨ (x = 2 ∧ 4 ≤ j) ∨ x = 4 ∨ x = 5 ∨ x = 6 ∨ (x = 7 ∧ 1 ≤ j)
theorem wtt_kR : ∀ q ∈ kR, ¬ wtt q.1 q.2.1 := by
  have h : (kR.all fun q => !(wtB q.1 q.2.1)) = true := by decide +kernel
  intro q hq hw
  have h1 := List.all_eq_true.mp h q hq
  have h2 : wtB q.1 q.2.1 = true := by unfold wtB; unfold wtt at hw; exact decide_eq_true hw
  rw [h2] at h1; cases h1
theorem LR.tt {σ τ : aS} {P : Int → Int → Prop} (h : LR σ) (hF : Fp P σ τ) (hP : ∀ x j, P x j → wtt x j) : LR τ := (hF.mono hP).LR wtt_kR h
theorem CSt.tt {T : aH} {S : aH × (Int → aH) × Int × Int × aH} {σ τ : aS} {P : Int → Int → Prop} (h : CSt T S σ) (hF : Fp P σ τ) (hP : ∀ x j, P x j → wtt x j) : CSt T S τ := by
  obtain ⟨pl, a, b, c, d, e, f, g⟩ := h
  have n : ∀ x j, P x j → 2 ≤ x ∧ x ≤ 7 := fun x j q => by have := hP x j q; unfold wtt at this; omega
  refine ⟨pl, a.co (a.1.tt hF hP) (fun x j hx => hF.g (fun q => ?_)), ?_, c.fp hF (fun j q => ?_) (fun j _ q => ?_), ?_, e.fp hF (fun x j q w => ?_), f.fp hF (fun x j q w => ?_), g.fp hF (fun x j q w => ?_)⟩
  · have := n x j q; unfold cor at hx; omega
  · rw [hF.g (fun q => by have := n _ _ q; omega)]; exact b
  · have := n _ _ q; omega
  · have := n _ _ q; omega
  · rw [hF.g (fun q => by have := n _ _ q; omega)]; exact d
  · have := n _ _ q; omega
  · have := n _ _ q; omega
  · have := n _ _ q; omega
theorem c10_putFour_ok {σ : aS} (hL : LR σ) {m w : Int} (h4 : aget σ 2 4 = m) (m0 : 0 ≤ m) (m1 : m ≤ 796) :
    ∃ τ, c10_putFour 2 w σ = some (0, [], τ) ∧ Fp wtp σ τ ∧ aget τ 2 4 = m + 4 ∧ (∀ j, j < m → aget τ 3 j = aget σ 3 j) ∧ ∀ k, 0 ≤ k → k < 4 → aget τ 3 (m + k) = byt w (24 - 8 * k) := by
  have hal := al_I (c := 4) (B := aU3 c10_putFour_b3) (n := 4) (i := 0) (vs := [2, w, 24]) (σ := σ)
    (fun k vs τ => 0 ≤ k ∧ vs = [2, w, 24 - 8 * k] ∧ Fp wtp σ τ ∧ aget τ 2 4 = m + k ∧ (∀ j, j < m → aget τ 3 j = aget σ 3 j) ∧ ∀ i, 0 ≤ i → i < k → aget τ 3 (m + i) = byt w (24 - 8 * i))
    (fun r => ∃ τ, r = (0, [], τ) ∧ Fp wtp σ τ ∧ aget τ 2 4 = m + 4 ∧ (∀ j, j < m → aget τ 3 j = aget σ 3 j) ∧ ∀ k, 0 ≤ k → k < 4 → aget τ 3 (m + k) = byt w (24 - 8 * k)) (by omega) (by omega)
    ⟨Int.le_refl _, rfl, Fp.rf _ _, by omega, fun j _ => rfl, fun i i0 i1 => by omega⟩ ?_
  · obtain ⟨r, hr, τ, rfl, h1, h2, h3, h5⟩ := hal
    refine ⟨τ, ?_, h1, h2, h3, h5⟩
    unfold c10_putFour c10_putFour_l3
    rw [hr]; rfl
  · rintro k vs τ hk ⟨k0, rfl, hF, e4, hv, hw⟩
    have hLt := hL.tt hF (fun x j q => by unfold wtp at q; unfold wtt; omega)
    by_cases c : k < 4
    · have f2 : Fp wtp σ (aput (aput τ 3 (m + k) (byt w (24 - 8 * k))) 2 4 (m + (k + 1))) := (hF.put (x := 3) (j := m + k) _ (Or.inl rfl)).put (x := 2) (j := 4) _ (Or.inr ⟨rfl, rfl⟩)
      refine Or.inl ⟨c, [2, w, 24 - 8 * (k + 1)], _, ?_, by omega, rfl, f2, ag_s _ _ _ _, fun j hj => ?_, fun i i0 i1 => ?_⟩
      · show c10_putFour_b3 2 w (24 - 8 * k) τ = _
        unfold c10_putFour_b3
        rw [r_2_0 hLt, n_3 hLt, e4, show aand (ashr w (24 - 8 * k)) 255 = byt w (24 - 8 * k) from rfl, ag_x (x := 3) (y := 2) (by omega), e4, wq (x := m + k + 1) (by omega) (by omega)]
        refine ite_n (by omega) (ite_p (by omega) (ite_n (by omega) (ite_p (by omega) ?_)))
        unfold c10_putFour_p43
        rw [wq (by omega) (by omega), show 24 - 8 * k + -8 = 24 - 8 * (k + 1) by omega, show m + k + 1 = m + (k + 1) by omega]
      · rw [ag_x (by omega), ag_j (by omega)]; exact hv j hj
      · rw [ag_x (by omega)]
        by_cases e : i = k
        · rw [e, ag_s]
        · rw [ag_j (by omega)]; exact hw i i0 (by omega)
    · have hk4 : k = 4 := by omega
      subst hk4
      refine Or.inr ⟨(0, [], τ), ?_, Nat.ne_of_beq_eq_false rfl, τ, rfl, hF, e4, hv, hw⟩
      show c10_putFour_b3 2 w (24 - 8 * 4) τ = _
      unfold c10_putFour_b3
      exact ite_p (by omega) rfl
theorem c11_feed_ok {σ : aS} (hL : LR σ) {bt : Int → Int} {m : Int} (hT : TPc bt m σ) (a b c d e : Int) :
    ∃ τ, c11_feed 1 a b c d e σ = some (0, [if 780 < m then -1 else m + 20], τ) ∧ Fp wtp σ τ ∧ TPc (if 780 < m then bt else fdN bt m a b c d e) (if 780 < m then m else m + 20) τ := by
  obtain ⟨h4, ⟨m0, m1⟩, hb⟩ := hT
  have w1 : ∀ x j, wtp x j → wtt x j := fun x j q => by unfold wtp at q; unfold wtt; omega
  unfold c11_feed
  rw [r_1_0 hL, if_neg (show ¬ (2 : Int) = 0 by omega)]
  by_cases c' : 780 < m
  · rw [if_pos c', if_pos c', if_pos c']
    refine ⟨σ, ?_, Fp.rf _ _, h4, ⟨m0, m1⟩, hb⟩
    refine acall1_h (v := 0) (τ := σ) ?_ (ite_p rfl rfl)
    unfold c10_hasRoom
    rw [h4, wq (by omega) (by omega)]
    exact ite_p (by omega) (ite_p (by omega) rfl)
  · rw [if_neg c', if_neg c', if_neg c']
    have hr : c10_hasRoom 2 20 σ = some (0, [1], σ) := by
      unfold c10_hasRoom
      rw [h4, wq (by omega) (by omega)]
      exact ite_n (by omega) (ite_p (by omega) rfl)
    obtain ⟨σ1, e1, f1, g1, p1, q1⟩ := c10_putFour_ok (w := a) hL h4 m0 (by omega)
    have l1 := hL.tt f1 w1
    obtain ⟨σ2, e2, f2, g2, p2, q2⟩ := c10_putFour_ok (w := b) l1 g1 (by omega) (by omega)
    have l2 := l1.tt f2 w1
    obtain ⟨σ3, e3, f3, g3, p3, q3⟩ := c10_putFour_ok (w := c) l2 g2 (by omega) (by omega)
    have l3 := l2.tt f3 w1
    obtain ⟨σ4, e4, f4, g4, p4, q4⟩ := c10_putFour_ok (w := d) l3 g3 (by omega) (by omega)
    have l4 := l3.tt f4 w1
    obtain ⟨σ5, e5, f5, g5, p5, q5⟩ := c10_putFour_ok (w := e) l4 g4 (by omega) (by omega)
    have l5 := l4.tt f5 w1
    refine ⟨σ5, ?_, f1.tr (f2.tr (f3.tr (f4.tr f5))), by rw [g5]; omega, ⟨by omega, by omega⟩, fun j j0 j1 => ?_⟩
    · rw [hr, acall1_some, if_neg (show ¬ (1 : Int) = 0 by omega), r_1_0 hL, if_neg (show ¬ (2 : Int) = 0 by omega), e1, acall0_some, r_1_0 l1, if_neg (show ¬ (2 : Int) = 0 by omega), e2, acall0_some, r_1_0 l2, if_neg (show ¬ (2 : Int) = 0 by omega), e3, acall0_some, r_1_0 l3, if_neg (show ¬ (2 : Int) = 0 by omega), e4, acall0_some, r_1_0 l4, if_neg (show ¬ (2 : Int) = 0 by omega), e5, acall0_some]
      unfold c11_feed_p56 c10_tapeLength
      rw [r_1_0 l5, if_neg (show ¬ (2 : Int) = 0 by omega), acall1_some, g5, show m + 4 + 4 + 4 + 4 + 4 = m + 20 by omega]
    · unfold fdN
      by_cases jm : j < m
      · rw [if_pos jm, p5 j (by omega), p4 j (by omega), p3 j (by omega), p2 j (by omega), p1 j (by omega)]; exact hb j j0 jm
      · rw [if_neg jm]
        unfold fdb
        rcases (show (m ≤ j ∧ j < m + 4) ∨ (m + 4 ≤ j ∧ j < m + 8) ∨ (m + 8 ≤ j ∧ j < m + 12) ∨ (m + 12 ≤ j ∧ j < m + 16) ∨ (m + 16 ≤ j ∧ j < m + 20) by omega) with k | k | k | k | k
        · have h := q1 (j - m) (by omega) (by omega)
          rw [show m + (j - m) = j by omega] at h
          rw [p5 j (by omega), p4 j (by omega), p3 j (by omega), p2 j (by omega), h, if_pos (by omega), show (j - m) % 4 = j - m by omega]
        · have h := q2 (j - m - 4) (by omega) (by omega)
          rw [show m + 4 + (j - m - 4) = j by omega] at h
          rw [p5 j (by omega), p4 j (by omega), p3 j (by omega), h, if_neg (by omega), if_pos (by omega), show (j - m) % 4 = j - m - 4 by omega]
        · have h := q3 (j - m - 8) (by omega) (by omega)
          rw [show m + 4 + 4 + (j - m - 8) = j by omega] at h
          rw [p5 j (by omega), p4 j (by omega), h, if_neg (by omega), if_neg (by omega), if_pos (by omega), show (j - m) % 4 = j - m - 8 by omega]
        · have h := q4 (j - m - 12) (by omega) (by omega)
          rw [show m + 4 + 4 + 4 + (j - m - 12) = j by omega] at h
          rw [p5 j (by omega), h, if_neg (by omega), if_neg (by omega), if_neg (by omega), if_pos (by omega), show (j - m) % 4 = j - m - 12 by omega]
        · have h := q5 (j - m - 16) (by omega) (by omega)
          rw [show m + 4 + 4 + 4 + 4 + (j - m - 16) = j by omega] at h
          rw [h, if_neg (by omega), if_neg (by omega), if_neg (by omega), if_neg (by omega), show (j - m) % 4 = j - m - 16 by omega]
