/-! the law's loop -/
def LSt (X : aX) (l0 i k : Int) (σ : aS) (m : aR) : Prop := ∃ υ, m = some (24, [l0, 1, 130, 167, i + 6], υ) ∧ GI (k + 1) υ ∧ υ.2.2.1 ≤ σ.2.2.1 + 1 ∧ υ.2.2.2 ≤ σ.2.2.2 + 6
theorem LSt.ifp {X : aX} {l0 i k : Int} {σ : aS} {c : Prop} [Decidable c] {a b : aR} (h : c) (ha : LSt X l0 i k σ a) : LSt X l0 i k σ (if c then a else b) := by rw [if_pos h]; exact ha
theorem LSt.ifn {X : aX} {l0 i k : Int} {σ : aS} {c : Prop} [Decidable c] {a b : aR} (h : ¬ c) (hb : LSt X l0 i k σ b) : LSt X l0 i k σ (if c then a else b) := by rw [if_neg h]; exact hb
theorem LSt.end1 {X : aX} {l0 i k : Int} {σ υ : aS} (w : w32 (i + 6) = i + 6) (hG : GI (k + 1) υ) (e : υ.2.2 = σ.2.2) : LSt X l0 i k σ (law_p1587 X l0 1 130 167 i υ) := by
  refine ⟨υ, ?_, hG, by rw [e]; exact Nat.le_succ _, by rw [e]; exact Nat.le_add_right _ _⟩
  unfold law_p1587
  rw [w]
theorem law_step {X : aX} {l0 i k : Int} {σ : aS} (hL : X.1 ≤ 3072) (hX : ∀ j, -2147483648 ≤ X.2 j ∧ X.2 j ≤ 2147483647) (i0 : 0 ≤ i) (i6 : i + 6 ≤ X.1) (k0 : 0 ≤ k) (k5 : k < 512) (hG : GI k σ) : LSt X l0 i k σ (law_b23 X l0 1 130 167 i σ) := by
  have w6 : w32 (i + 6) = i + 6 := wq (by omega) (by omega)
  have b1 : 0 ≤ w32 (i + 1) ∧ w32 (i + 1) < X.1 := by rw [wq (x := i + 1) (by omega) (by omega)]; omega
  have b2 : 0 ≤ w32 (i + 2) ∧ w32 (i + 2) < X.1 := by rw [wq (x := i + 2) (by omega) (by omega)]; omega
  have b3 : 0 ≤ w32 (i + 3) ∧ w32 (i + 3) < X.1 := by rw [wq (x := i + 3) (by omega) (by omega)]; omega
  have b4 : 0 ≤ w32 (i + 4) ∧ w32 (i + 4) < X.1 := by rw [wq (x := i + 4) (by omega) (by omega)]; omega
  have b5 : 0 ≤ w32 (i + 5) ∧ w32 (i + 5) < X.1 := by rw [wq (x := i + 5) (by omega) (by omega)]; omega
  have hx : ∀ j, X.2 (w32 (i + j)) ≤ 2147483647 := fun j => (hX _).2
  unfold law_b23
  refine LSt.ifn (by rw [wq (by omega) (by omega)]; omega) (LSt.ifp ⟨i0, by omega⟩ ?_)
  by_cases c0 : aand (X.2 i) 63 = 0
  · refine LSt.ifp c0 ?_
    obtain ⟨τ, υ, v, e1, e2, e3, e4⟩ := feed_bo hG (X.2 (w32 (i + 1))) (X.2 (w32 (i + 2))) (X.2 (w32 (i + 3))) (X.2 (w32 (i + 4))) (X.2 (w32 (i + 5)))
    dsimp only at e2
    refine LSt.ifp b1 (LSt.ifp b2 (LSt.ifp b3 (LSt.ifp b4 (LSt.ifp b5 (?_)))))
    rw [e1, acall1_some]
    refine LSt.ifp b1 (LSt.ifp b2 (LSt.ifp b3 (LSt.ifp b4 (LSt.ifp b5 (?_)))))
    rw [e2, acall1_some]
    exact LSt.ifp rfl (LSt.end1 w6 e3 e4)
  refine LSt.ifn c0 ?_
  by_cases c1 : aand (X.2 i) 63 = 1
  · refine LSt.ifp c1 ?_
    obtain ⟨τ, υ, v, e1, e2, e3, e4⟩ := text_bo k0 hG (X.2 (w32 (i + 1)))
    dsimp only at e2
    refine LSt.ifp b1 (?_)
    rw [e1, acall1_some]
    refine LSt.ifp b1 (?_)
    rw [e2, acall1_some]
    exact LSt.ifp rfl (LSt.end1 w6 e3 e4)
  refine LSt.ifn c1 ?_
  by_cases c2 : aand (X.2 i) 63 = 2
  · refine LSt.ifp c2 ?_
    obtain ⟨τ, υ, v, e1, e2, e3, e4⟩ := fault_bo hG (X.2 (w32 (i + 1)))
    dsimp only at e2
    refine LSt.ifp b1 (?_)
    rw [e1, acall1_some]
    refine LSt.ifp b1 (?_)
    rw [e2, acall1_some]
    exact LSt.ifp rfl (LSt.end1 w6 e3 e4)
  refine LSt.ifn c2 ?_
  by_cases c3 : aand (X.2 i) 63 = 3
  · refine LSt.ifp c3 ?_
    obtain ⟨τ, υ, v, e1, e2, e3, e4⟩ := bo_named hx k5 hG
    dsimp only at e2
    refine LSt.ifp b1 (LSt.ifp b2 (?_))
    rw [e1, acall1_some]
    refine LSt.ifp b1 (LSt.ifp b2 (?_))
    rw [e2, acall1_some]
    exact LSt.ifp rfl (LSt.end1 w6 e3 e4)
  refine LSt.ifn c3 ?_
  by_cases c4 : aand (X.2 i) 63 = 4
  · refine LSt.ifp c4 ?_
    obtain ⟨τ, υ, v, x, e1, e2, e3, e4, e5, e6, e7, e8⟩ := look_bo hG (X.2 (w32 (i + 1))) (X.2 (w32 (i + 2))) (hx 1) (hx 2)
    refine LSt.ifp b1 (LSt.ifp b2 ?_)
    rw [e1, acall1_some]
    refine LSt.ifp b1 (LSt.ifp b2 ?_)
    rw [e2, acall1_some]
    unfold c12_thrown
    rw [acall1_some, e3]
    have fin : LSt X l0 i k σ (law_p433 X l0 1 130 167 i υ) := by
      refine ⟨υ, ?_, e6, e7, e8⟩
      unfold law_p433 law_p1587
      rw [w6]
    refine LSt.ifp rfl ?_
    by_cases q : v = 0
    · refine LSt.ifp q (LSt.ifp (by rw [n_167 e5]; omega) (LSt.ifp ?_ fin))
      rw [e4 q]; exact acmp_r _
    · exact LSt.ifn q fin
  refine LSt.ifn c4 ?_
  by_cases c5 : aand (X.2 i) 63 = 5
  · refine LSt.ifp c5 ?_
    obtain ⟨τ, υ, v, e1, e2, e3, e4⟩ := bo_wants hx k5 hG
    dsimp only at e2
    refine LSt.ifp b1 (LSt.ifp b2 (?_))
    rw [e1, acall1_some]
    refine LSt.ifp b1 (LSt.ifp b2 (?_))
    rw [e2, acall1_some]
    exact LSt.ifp rfl (LSt.end1 w6 e3 e4)
  refine LSt.ifn c5 ?_
  by_cases c6 : aand (X.2 i) 63 = 6
  · refine LSt.ifp c6 ?_
    obtain ⟨τ, υ, v, e1, e2, e3, e4⟩ := bo_likes hx k5 hG
    dsimp only at e2
    refine LSt.ifp b1 (LSt.ifp b2 (?_))
    rw [e1, acall1_some]
    refine LSt.ifp b1 (LSt.ifp b2 (?_))
    rw [e2, acall1_some]
    exact LSt.ifp rfl (LSt.end1 w6 e3 e4)
  refine LSt.ifn c6 ?_
  by_cases c7 : aand (X.2 i) 63 = 7
  · refine LSt.ifp c7 ?_
    obtain ⟨τ, υ, v, e1, e2, e3, e4⟩ := bo_town hx k5 hG
    dsimp only at e2
    refine LSt.ifp b1 (LSt.ifp b2 (?_))
    rw [e1, acall1_some]
    refine LSt.ifp b1 (LSt.ifp b2 (?_))
    rw [e2, acall1_some]
    exact LSt.ifp rfl (LSt.end1 w6 e3 e4)
  refine LSt.ifn c7 ?_
  by_cases c8 : aand (X.2 i) 63 = 8
  · refine LSt.ifp c8 ?_
    obtain ⟨τ, υ, v, e1, e2, e3, e4⟩ := bo_at hx k5 hG
    dsimp only at e2
    refine LSt.ifp b1 (LSt.ifp b2 (?_))
    rw [e1, acall1_some]
    refine LSt.ifp b1 (LSt.ifp b2 (?_))
    rw [e2, acall1_some]
    exact LSt.ifp rfl (LSt.end1 w6 e3 e4)
  refine LSt.ifn c8 ?_
  by_cases c9 : aand (X.2 i) 63 = 9
  · refine LSt.ifp c9 ?_
    have go : ∀ c : Int, (c = 0 ∨ c = 1) → (∀ m : aS → aR, (∀ υ, GI (k + 1) υ → True) → True) → (if X.2 (w32 (i + 3)) = 0 then (0 : Int) else 1) = c → LSt X l0 i k σ (law_p611 X c (X.2 (w32 (i + 2))) (X.2 (w32 (i + 1))) 1 l0 1 130 167 i σ) := by
      intro c hc _ hq
      obtain ⟨τ, υ, v, e1, e2, e3, e4⟩ := bo_worth k5 hG (X.2 (w32 (i + 1))) (X.2 (w32 (i + 2))) hc
      unfold law_p611
      rw [e1, acall1_some]
      refine LSt.ifp b1 (LSt.ifp b2 (LSt.ifp b3 ?_))
      have fin : LSt X l0 i k σ (law_p641 X c (X.2 (w32 (i + 2))) (X.2 (w32 (i + 1))) 130 v l0 1 130 167 i τ) := by
        unfold law_p641
        rw [show c12_worth 130 (X.2 (w32 (i + 1))) (X.2 (w32 (i + 2))) c τ = some (0, [v], υ) from e2, acall1_some]
        exact LSt.ifp (acmp_r _) (LSt.end1 w6 e3 e4)
      by_cases q : X.2 (w32 (i + 3)) = 0
      · rw [if_pos q] at hq; subst hq; exact LSt.ifp q fin
      · rw [if_neg q] at hq; subst hq; exact LSt.ifn q fin
    refine LSt.ifp b1 (LSt.ifp b2 (LSt.ifp b3 ?_))
    by_cases q : X.2 (w32 (i + 3)) = 0
    · exact LSt.ifp q (go 0 (Or.inl rfl) (fun _ _ => trivial) (if_pos q))
    · exact LSt.ifn q (go 1 (Or.inr rfl) (fun _ _ => trivial) (if_neg q))
  refine LSt.ifn c9 ?_
  by_cases c10 : aand (X.2 i) 63 = 10
  · refine LSt.ifp c10 ?_
    obtain ⟨τ, υ, v, e1, e2, e3, e4⟩ := bo_asked hx k5 hG
    dsimp only at e2
    refine LSt.ifp b1 (LSt.ifp b2 (?_))
    rw [e1, acall1_some]
    refine LSt.ifp b1 (LSt.ifp b2 (?_))
    rw [e2, acall1_some]
    exact LSt.ifp (acmp_r _) (LSt.end1 w6 e3 e4)
  refine LSt.ifn c10 ?_
  by_cases c11 : aand (X.2 i) 63 = 11
  · refine LSt.ifp c11 ?_
    obtain ⟨τ, υ, v, e1, e2, e3, e4⟩ := bo_gain hx k5 hG
    dsimp only at e2
    refine LSt.ifp b1 (LSt.ifp b2 (LSt.ifp b3 (?_)))
    rw [e1, acall1_some]
    refine LSt.ifp b1 (LSt.ifp b2 (LSt.ifp b3 (?_)))
    rw [e2, acall1_some]
    exact LSt.ifp (acmp_r _) (LSt.end1 w6 e3 e4)
  refine LSt.ifn c11 ?_
  by_cases c12 : aand (X.2 i) 63 = 12
  · refine LSt.ifp c12 ?_
    obtain ⟨τ, υ, v, e1, e2, e3, e4⟩ := bo_go hx k5 hG
    dsimp only at e2
    refine LSt.ifp b1 (LSt.ifp b2 (LSt.ifp b3 (?_)))
    rw [e1, acall1_some]
    refine LSt.ifp b1 (LSt.ifp b2 (LSt.ifp b3 (?_)))
    rw [e2, acall1_some]
    exact LSt.ifp rfl (LSt.end1 w6 e3 e4)
  refine LSt.ifn c12 ?_
  by_cases c13 : aand (X.2 i) 63 = 13
  · refine LSt.ifp c13 ?_
    obtain ⟨τ, υ, v, e1, e2, e3, e4⟩ := bo_first hx k5 hG
    dsimp only at e2
    refine LSt.ifp b1 (?_)
    rw [e1, acall1_some]
    refine LSt.ifp b1 (?_)
    rw [e2, acall1_some]
    exact LSt.ifp rfl (LSt.end1 w6 e3 e4)
  refine LSt.ifn c13 ?_
  by_cases c14 : aand (X.2 i) 63 = 14
  · refine LSt.ifp c14 ?_
    obtain ⟨τ, υ, v, e1, e2, e3, e4⟩ := bo_would hx k5 hG
    dsimp only at e2
    refine LSt.ifp b1 (LSt.ifp b2 (LSt.ifp b3 (?_)))
    rw [e1, acall1_some]
    refine LSt.ifp b1 (LSt.ifp b2 (LSt.ifp b3 (?_)))
    rw [e2, acall1_some]
    exact LSt.ifp rfl (LSt.end1 w6 e3 e4)
  refine LSt.ifn c14 ?_
  by_cases c15 : aand (X.2 i) 63 = 15
  · refine LSt.ifp c15 ?_
    obtain ⟨τ, υ, v, e1, e2, e3, e4⟩ := bo_party hx k5 hG
    dsimp only at e2
    refine LSt.ifp b1 (LSt.ifp b2 (?_))
    rw [e1, acall1_some]
    refine LSt.ifp b1 (LSt.ifp b2 (?_))
    rw [e2, acall1_some]
    exact LSt.ifp rfl (LSt.end1 w6 e3 e4)
  refine LSt.ifn c15 ?_
  by_cases c16 : aand (X.2 i) 63 = 16
  · refine LSt.ifp c16 ?_
    obtain ⟨τ, υ, v, e1, e2, e3, e4⟩ := bo_goings hx k5 hG
    dsimp only at e2
    refine LSt.ifp b1 (?_)
    rw [e1, acall1_some]
    refine LSt.ifp b1 (?_)
    rw [e2, acall1_some]
    exact LSt.ifp rfl (LSt.end1 w6 e3 e4)
  refine LSt.ifn c16 ?_
  by_cases c17 : aand (X.2 i) 63 = 17
  · refine LSt.ifp c17 ?_
    obtain ⟨τ, υ, v, e1, e2, e3, e4⟩ := bo_ring hx k5 hG
    dsimp only at e2
    refine LSt.ifp b1 (?_)
    rw [e1, acall1_some]
    refine LSt.ifp b1 (?_)
    rw [e2, acall1_some]
    exact LSt.ifp rfl (LSt.end1 w6 e3 e4)
  refine LSt.ifn c17 ?_
  by_cases c18 : aand (X.2 i) 63 = 18
  · refine LSt.ifp c18 ?_
    obtain ⟨τ, υ, v, e1, e2, e3, e4⟩ := bo_all hx k5 hG
    dsimp only at e2
    refine LSt.ifp b1 (?_)
    rw [e1, acall1_some]
    refine LSt.ifp b1 (?_)
    rw [e2, acall1_some]
    exact LSt.ifp rfl (LSt.end1 w6 e3 e4)
  refine LSt.ifn c18 ?_
  by_cases c19 : aand (X.2 i) 63 = 19
  · refine LSt.ifp c19 ?_
    obtain ⟨τ, υ, v, e1, e2, e3, e4⟩ := bo_held hx k5 hG
    dsimp only at e2
    refine LSt.ifp b1 (LSt.ifp b2 (LSt.ifp b3 (?_)))
    rw [e1, acall1_some]
    refine LSt.ifp b1 (LSt.ifp b2 (LSt.ifp b3 (?_)))
    rw [e2, acall1_some]
    exact LSt.ifp rfl (LSt.end1 w6 e3 e4)
  refine LSt.ifn c19 ?_
  by_cases c20 : aand (X.2 i) 63 = 20
  · refine LSt.ifp c20 ?_
    obtain ⟨τ, υ, v, e1, e2, e3, e4⟩ := bo_total hx k5 hG
    dsimp only at e2
    rw [e1, acall1_some]
    rw [e2, acall1_some]
    exact LSt.ifp (acmp_r _) (LSt.end1 w6 e3 e4)
  refine LSt.ifn c20 ?_
  by_cases c21 : aand (X.2 i) 63 = 21
  · refine LSt.ifp c21 ?_
    obtain ⟨τ, υ, v, e1, e2, e3, e4⟩ := bo_lost hx k5 hG
    dsimp only at e2
    refine LSt.ifp b1 (?_)
    rw [e1, acall1_some]
    refine LSt.ifp b1 (?_)
    rw [e2, acall1_some]
    exact LSt.ifp (acmp_r _) (LSt.end1 w6 e3 e4)
  refine LSt.ifn c21 ?_
  by_cases c22 : aand (X.2 i) 63 = 22
  · refine LSt.ifp c22 ?_
    obtain ⟨τ, υ, v, e1, e2, e3, e4⟩ := bo_best hx k5 hG
    dsimp only at e2
    rw [e1, acall1_some]
    rw [e2, acall1_some]
    exact LSt.ifp rfl (LSt.end1 w6 e3 e4)
  refine LSt.ifn c22 ?_
  by_cases c23 : aand (X.2 i) 63 = 23
  · refine LSt.ifp c23 ?_
    obtain ⟨τ, υ, v, e1, e2, e3, e4⟩ := bo_extra hx k5 hG
    dsimp only at e2
    refine LSt.ifp b1 (LSt.ifp b2 (?_))
    rw [e1, acall1_some]
    refine LSt.ifp b1 (LSt.ifp b2 (?_))
    rw [e2, acall1_some]
    exact LSt.ifp rfl (LSt.end1 w6 e3 e4)
  refine LSt.ifn c23 ?_
  by_cases c24 : aand (X.2 i) 63 = 24
  · refine LSt.ifp c24 ?_
    have go : ∀ c : Int, (c = 0 ∨ c = 1) → (if X.2 (w32 (i + 2)) = 0 then (0 : Int) else 1) = c → LSt X l0 i k σ (law_p1133 X c (X.2 (w32 (i + 1))) 1 l0 1 130 167 i σ) := by
      intro c hc hq
      obtain ⟨τ, υ, v, e1, e2, e3, e4⟩ := bo_bind k5 hG (X.2 (w32 (i + 1))) hc
      unfold law_p1133
      rw [e1, acall1_some]
      refine LSt.ifp b1 (LSt.ifp b2 ?_)
      have fin : LSt X l0 i k σ (law_p1157 X c (X.2 (w32 (i + 1))) 130 v l0 1 130 167 i τ) := by
        unfold law_p1157
        rw [show c12_bind 130 (X.2 (w32 (i + 1))) c τ = some (0, [v], υ) from e2, acall1_some]
        exact LSt.ifp rfl (LSt.end1 w6 e3 e4)
      by_cases q : X.2 (w32 (i + 2)) = 0
      · rw [if_pos q] at hq; subst hq; exact LSt.ifp q fin
      · rw [if_neg q] at hq; subst hq; exact LSt.ifn q fin
    refine LSt.ifp b1 (LSt.ifp b2 ?_)
    by_cases q : X.2 (w32 (i + 2)) = 0
    · exact LSt.ifp q (go 0 (Or.inl rfl) (if_pos q))
    · exact LSt.ifn q (go 1 (Or.inr rfl) (if_neg q))
  refine LSt.ifn c24 ?_
  by_cases c25 : aand (X.2 i) 63 = 25
  · refine LSt.ifp c25 ?_
    obtain ⟨τ, υ, v, e1, e2, e3, e4⟩ := bo_edge hx k5 hG
    dsimp only at e2
    refine LSt.ifp b1 (LSt.ifp b2 (?_))
    rw [e1, acall1_some]
    refine LSt.ifp b1 (LSt.ifp b2 (?_))
    rw [e2, acall1_some]
    exact LSt.ifp rfl (LSt.end1 w6 e3 e4)
  refine LSt.ifn c25 ?_
  by_cases c26 : aand (X.2 i) 63 = 26
  · refine LSt.ifp c26 ?_
    obtain ⟨τ, υ, v, e1, e2, e3, e4⟩ := bo_empties hx k5 hG
    dsimp only at e2
    refine LSt.ifp b1 (?_)
    rw [e1, acall1_some]
    refine LSt.ifp b1 (?_)
    rw [e2, acall1_some]
    exact LSt.ifp rfl (LSt.end1 w6 e3 e4)
  refine LSt.ifn c26 ?_
  by_cases c27 : aand (X.2 i) 63 = 27
  · refine LSt.ifp c27 ?_
    obtain ⟨τ, υ, v, e1, e2, e3, e4⟩ := bo_met hx k5 hG
    dsimp only at e2
    refine LSt.ifp b1 (?_)
    rw [e1, acall1_some]
    refine LSt.ifp b1 (?_)
    rw [e2, acall1_some]
    exact LSt.ifp rfl (LSt.end1 w6 e3 e4)
  refine LSt.ifn c27 ?_
  by_cases c28 : aand (X.2 i) 63 = 28
  · refine LSt.ifp c28 ?_
    obtain ⟨τ, υ, v, e1, e2, e3, e4⟩ := bo_reform hx k5 hG
    dsimp only at e2
    refine LSt.ifp b1 (LSt.ifp b2 (LSt.ifp b3 (LSt.ifp b4 (?_))))
    rw [e1, acall1_some]
    refine LSt.ifp b1 (LSt.ifp b2 (LSt.ifp b3 (LSt.ifp b4 (?_))))
    rw [e2, acall1_some]
    exact LSt.ifp rfl (LSt.end1 w6 e3 e4)
  refine LSt.ifn c28 ?_
  by_cases c29 : aand (X.2 i) 63 = 29
  · refine LSt.ifp c29 ?_
    obtain ⟨τ, υ, v, e1, e2, e3, e4⟩ := bo_split hx k5 hG
    dsimp only at e2
    refine LSt.ifp b1 (LSt.ifp b2 (LSt.ifp b3 (?_)))
    rw [e1, acall1_some]
    refine LSt.ifp b1 (LSt.ifp b2 (LSt.ifp b3 (?_)))
    rw [e2, acall1_some]
    exact LSt.ifp (acmp_r _) (LSt.end1 w6 e3 e4)
  refine LSt.ifn c29 ?_
  by_cases c30 : aand (X.2 i) 63 = 30
  · refine LSt.ifp c30 ?_
    obtain ⟨τ, υ, v, e1, e2, e3, e4⟩ := bo_out hx k5 hG
    dsimp only at e2
    refine LSt.ifp b1 (LSt.ifp b2 (LSt.ifp b3 (?_)))
    rw [e1, acall1_some]
    refine LSt.ifp b1 (LSt.ifp b2 (LSt.ifp b3 (?_)))
    rw [e2, acall1_some]
    exact LSt.ifp rfl (LSt.end1 w6 e3 e4)
  refine LSt.ifn c30 ?_
  by_cases c31 : aand (X.2 i) 63 = 31
  · refine LSt.ifp c31 ?_
    obtain ⟨τ, υ, v, e1, e2, e3, e4⟩ := bo_months hx k5 hG
    dsimp only at e2
    refine LSt.ifp b1 (LSt.ifp b2 (?_))
    rw [e1, acall1_some]
    refine LSt.ifp b1 (LSt.ifp b2 (?_))
    rw [e2, acall1_some]
    exact LSt.ifp rfl (LSt.end1 w6 e3 e4)
  refine LSt.ifn c31 ?_
  by_cases c32 : aand (X.2 i) 63 = 32
  · refine LSt.ifp c32 ?_
    obtain ⟨τ, υ, v, e1, e2, e3, e4⟩ := bo_tied hx k5 hG
    dsimp only at e2
    rw [e1, acall1_some]
    rw [e2, acall1_some]
    exact LSt.ifp rfl (LSt.end1 w6 e3 e4)
  refine LSt.ifn c32 ?_
  by_cases c33 : aand (X.2 i) 63 = 33
  · refine LSt.ifp c33 ?_
    obtain ⟨τ, υ, v, e1, e2, e3, e4⟩ := bo_odds hx k5 hG
    dsimp only at e2
    refine LSt.ifp b1 (LSt.ifp b2 (LSt.ifp b3 (LSt.ifp b4 (?_))))
    rw [e1, acall1_some]
    refine LSt.ifp b1 (LSt.ifp b2 (LSt.ifp b3 (LSt.ifp b4 (?_))))
    rw [e2, acall1_some]
    exact LSt.ifp rfl (LSt.end1 w6 e3 e4)
  refine LSt.ifn c33 ?_
  by_cases c34 : aand (X.2 i) 63 = 34
  · refine LSt.ifp c34 ?_
    obtain ⟨τ, υ, v, e1, e2, e3, e4⟩ := bo_undo hx k5 hG
    dsimp only at e2
    rw [e1, acall1_some]
    rw [e2, acall1_some]
    exact LSt.ifp rfl (LSt.end1 w6 e3 e4)
  refine LSt.ifn c34 ?_
  by_cases c35 : aand (X.2 i) 63 = 35
  · refine LSt.ifp c35 ?_
    obtain ⟨τ, υ, v, e1, e2, e3, e4⟩ := bo_keep hx k5 hG
    dsimp only at e2
    rw [e1, acall1_some]
    rw [e2, acall1_some]
    exact LSt.ifp rfl (LSt.end1 w6 e3 e4)
  refine LSt.ifn c35 ?_
  by_cases c36 : aand (X.2 i) 63 = 36
  · refine LSt.ifp c36 ?_
    obtain ⟨τ, υ, v, e1, e2, e3, e4⟩ := bo_back hx k5 hG
    dsimp only at e2
    rw [e1, acall1_some]
    rw [e2, acall1_some]
    exact LSt.ifp rfl (LSt.end1 w6 e3 e4)
  refine LSt.ifn c36 ?_
  by_cases c37 : aand (X.2 i) 63 = 37
  · refine LSt.ifp c37 ?_
    obtain ⟨τ, υ, v, e1, e2, e3, e4⟩ := bo_count hx k5 hG
    dsimp only at e2
    refine LSt.ifp b1 (?_)
    rw [e1, acall1_some]
    refine LSt.ifp b1 (?_)
    rw [e2, acall1_some]
    exact LSt.ifp rfl (LSt.end1 w6 e3 e4)
  refine LSt.ifn c37 ?_
  exact LSt.end1 w6 (hG.up (by omega)) rfl
