/-! the law's step: call by call -/
theorem acmp_r (a : Int) : acmp a a = 0 := by unfold acmp; rw [if_neg (by omega), if_pos rfl]
theorem q_mono {v : Int} {a c : aR} : (if v = v then a else c) = a := if_pos rfl
theorem bo_named {X : aX} {i : Int} (hx : ∀ j, X.2 (w32 (i + j)) ≤ 2147483647) {k : Int} {σ : aS} (k5 : k < 512) (hG : GI k σ) : BO (k + 1) σ (c11_named 1 (X.2 (w32 (i + 1))) (X.2 (w32 (i + 2))) σ) (fun τ => c12_named 130 (X.2 (w32 (i + 1))) (X.2 (w32 (i + 2))) τ) := by
  obtain ⟨T, S, hC, hM, hS, hP⟩ := hG
  obtain ⟨hN, h40, hX, h31⟩ := id hS.1
  have hB := hM.1.2.2
  have hm : S.1 3 1 + 240 ≤ 130000 := by omega
  exact bo hM hP (c11_named_q hC (X.2 (w32 (i + 1))) (X.2 (w32 (i + 2)))) (fun τ hτ => (c12_named_q hτ.1 hτ.2.1 (X.2 (w32 (i + 1))) (X.2 (w32 (i + 2)))).r hτ) (hS.up (by omega))
theorem bo_wants {X : aX} {i : Int} (hx : ∀ j, X.2 (w32 (i + j)) ≤ 2147483647) {k : Int} {σ : aS} (k5 : k < 512) (hG : GI k σ) : BO (k + 1) σ (c11_wants 1 (X.2 (w32 (i + 1))) (X.2 (w32 (i + 2))) σ) (fun τ => c12_wants 130 (X.2 (w32 (i + 1))) (X.2 (w32 (i + 2))) τ) := by
  obtain ⟨T, S, hC, hM, hS, hP⟩ := hG
  obtain ⟨hN, h40, hX, h31⟩ := id hS.1
  have hB := hM.1.2.2
  have hm : S.1 3 1 + 240 ≤ 130000 := by omega
  exact bo hM hP (c11_wants_q hC (X.2 (w32 (i + 1))) (X.2 (w32 (i + 2)))) (fun τ hτ => (c12_wants_q hτ.1 hτ.2.1 (X.2 (w32 (i + 1))) (X.2 (w32 (i + 2)))).r hτ) (hS.up (by omega))
theorem bo_likes {X : aX} {i : Int} (hx : ∀ j, X.2 (w32 (i + j)) ≤ 2147483647) {k : Int} {σ : aS} (k5 : k < 512) (hG : GI k σ) : BO (k + 1) σ (c11_likes 1 (X.2 (w32 (i + 1))) (X.2 (w32 (i + 2))) σ) (fun τ => c12_likes 130 (X.2 (w32 (i + 1))) (X.2 (w32 (i + 2))) τ) := by
  obtain ⟨T, S, hC, hM, hS, hP⟩ := hG
  obtain ⟨hN, h40, hX, h31⟩ := id hS.1
  have hB := hM.1.2.2
  have hm : S.1 3 1 + 240 ≤ 130000 := by omega
  exact bo hM hP (c11_likes_q hC (X.2 (w32 (i + 1))) (X.2 (w32 (i + 2)))) (fun τ hτ => (c12_likes_q hτ.1 hτ.2.1 (X.2 (w32 (i + 1))) (X.2 (w32 (i + 2)))).r hτ) (hS.up (by omega))
theorem bo_town {X : aX} {i : Int} (hx : ∀ j, X.2 (w32 (i + j)) ≤ 2147483647) {k : Int} {σ : aS} (k5 : k < 512) (hG : GI k σ) : BO (k + 1) σ (c11_town 1 (X.2 (w32 (i + 1))) (X.2 (w32 (i + 2))) σ) (fun τ => c12_town 130 (X.2 (w32 (i + 1))) (X.2 (w32 (i + 2))) τ) := by
  obtain ⟨T, S, hC, hM, hS, hP⟩ := hG
  obtain ⟨hN, h40, hX, h31⟩ := id hS.1
  have hB := hM.1.2.2
  have hm : S.1 3 1 + 240 ≤ 130000 := by omega
  exact bo hM hP (c11_town_q hC hN (X.2 (w32 (i + 1))) (X.2 (w32 (i + 2)))) (fun τ hτ => (c12_town_q hτ.1 hN hτ.2.1 (X.2 (w32 (i + 1))) (X.2 (w32 (i + 2)))).r hτ) (hS.up (by omega))
theorem bo_at {X : aX} {i : Int} (hx : ∀ j, X.2 (w32 (i + j)) ≤ 2147483647) {k : Int} {σ : aS} (k5 : k < 512) (hG : GI k σ) : BO (k + 1) σ (c11_at 1 (X.2 (w32 (i + 1))) (X.2 (w32 (i + 2))) σ) (fun τ => c12_at 130 (X.2 (w32 (i + 1))) (X.2 (w32 (i + 2))) τ) := by
  obtain ⟨T, S, hC, hM, hS, hP⟩ := hG
  obtain ⟨hN, h40, hX, h31⟩ := id hS.1
  have hB := hM.1.2.2
  have hm : S.1 3 1 + 240 ≤ 130000 := by omega
  exact bo hM hP (c11_at_q hC hN (X.2 (w32 (i + 1))) (X.2 (w32 (i + 2)))) (fun τ hτ => (c12_at_q hτ.1 hτ.2.1 (X.2 (w32 (i + 1))) (X.2 (w32 (i + 2)))).r hτ) (hS.up (by omega))
theorem bo_asked {X : aX} {i : Int} (hx : ∀ j, X.2 (w32 (i + j)) ≤ 2147483647) {k : Int} {σ : aS} (k5 : k < 512) (hG : GI k σ) : BO (k + 1) σ (c11_asked 1 (X.2 (w32 (i + 1))) (X.2 (w32 (i + 2))) σ) (fun τ => c12_asked 130 (X.2 (w32 (i + 1))) (X.2 (w32 (i + 2))) τ) := by
  obtain ⟨T, S, hC, hM, hS, hP⟩ := hG
  obtain ⟨hN, h40, hX, h31⟩ := id hS.1
  have hB := hM.1.2.2
  have hm : S.1 3 1 + 240 ≤ 130000 := by omega
  exact bo hM hP (c11_asked_q hC hN h40 (X.2 (w32 (i + 1))) (X.2 (w32 (i + 2)))) (fun τ hτ => (c12_asked_q hτ.1 hN hτ.2.1 (X.2 (w32 (i + 1))) (X.2 (w32 (i + 2)))).r hτ) (hS.up (by omega))
theorem bo_gain {X : aX} {i : Int} (hx : ∀ j, X.2 (w32 (i + j)) ≤ 2147483647) {k : Int} {σ : aS} (k5 : k < 512) (hG : GI k σ) : BO (k + 1) σ (c11_gain 1 (X.2 (w32 (i + 1))) (X.2 (w32 (i + 2))) (X.2 (w32 (i + 3))) σ) (fun τ => c12_gain 130 (X.2 (w32 (i + 1))) (X.2 (w32 (i + 2))) (X.2 (w32 (i + 3))) τ) := by
  obtain ⟨T, S, hC, hM, hS, hP⟩ := hG
  obtain ⟨hN, h40, hX, h31⟩ := id hS.1
  have hB := hM.1.2.2
  have hm : S.1 3 1 + 240 ≤ 130000 := by omega
  exact bo hM hP (c11_gain_q hC hN h40 (X.2 (w32 (i + 1))) (X.2 (w32 (i + 2))) (X.2 (w32 (i + 3)))) (fun τ hτ => (c12_gain_q hτ.1 hN hτ.2.1 (X.2 (w32 (i + 1))) (X.2 (w32 (i + 2))) (X.2 (w32 (i + 3)))).r hτ) (hS.up (by omega))
theorem bo_go {X : aX} {i : Int} (hx : ∀ j, X.2 (w32 (i + j)) ≤ 2147483647) {k : Int} {σ : aS} (k5 : k < 512) (hG : GI k σ) : BO (k + 1) σ (c11_go 1 (X.2 (w32 (i + 1))) (X.2 (w32 (i + 2))) (X.2 (w32 (i + 3))) σ) (fun τ => c12_go 130 (X.2 (w32 (i + 1))) (X.2 (w32 (i + 2))) (X.2 (w32 (i + 3))) τ) := by
  obtain ⟨T, S, hC, hM, hS, hP⟩ := hG
  obtain ⟨hN, h40, hX, h31⟩ := id hS.1
  have hB := hM.1.2.2
  have hm : S.1 3 1 + 240 ≤ 130000 := by omega
  exact bo hM hP (c11_go_q hC hN (X.2 (w32 (i + 1))) (X.2 (w32 (i + 2))) (X.2 (w32 (i + 3)))) (fun τ hτ => c12_go_q hτ hN (X.2 (w32 (i + 1))) (X.2 (w32 (i + 2))) (X.2 (w32 (i + 3)))) ((hS.go hB _ _ _).up (by omega))
theorem bo_first {X : aX} {i : Int} (hx : ∀ j, X.2 (w32 (i + j)) ≤ 2147483647) {k : Int} {σ : aS} (k5 : k < 512) (hG : GI k σ) : BO (k + 1) σ (c11_first 1 (X.2 (w32 (i + 1))) σ) (fun τ => c12_first 130 (X.2 (w32 (i + 1))) τ) := by
  obtain ⟨T, S, hC, hM, hS, hP⟩ := hG
  obtain ⟨hN, h40, hX, h31⟩ := id hS.1
  have hB := hM.1.2.2
  have hm : S.1 3 1 + 240 ≤ 130000 := by omega
  exact bo hM hP (c11_first_q hC hN h40 (X.2 (w32 (i + 1)))) (fun τ hτ => (c12_first_q hτ.1 hN hτ.2.1 (X.2 (w32 (i + 1)))).r hτ) (hS.up (by omega))
theorem bo_would {X : aX} {i : Int} (hx : ∀ j, X.2 (w32 (i + j)) ≤ 2147483647) {k : Int} {σ : aS} (k5 : k < 512) (hG : GI k σ) : BO (k + 1) σ (c11_would 1 (X.2 (w32 (i + 1))) (X.2 (w32 (i + 2))) (X.2 (w32 (i + 3))) σ) (fun τ => c12_would 130 (X.2 (w32 (i + 1))) (X.2 (w32 (i + 2))) (X.2 (w32 (i + 3))) τ) := by
  obtain ⟨T, S, hC, hM, hS, hP⟩ := hG
  obtain ⟨hN, h40, hX, h31⟩ := id hS.1
  have hB := hM.1.2.2
  have hm : S.1 3 1 + 240 ≤ 130000 := by omega
  exact bo hM hP (c11_would_q hC hN h40 (hx 1) (X.2 (w32 (i + 2))) (X.2 (w32 (i + 3)))) (fun τ hτ => (c12_would_q hτ.1 hN hτ.2.1 (hx 1) (X.2 (w32 (i + 2))) (X.2 (w32 (i + 3)))).r hτ) (hS.up (by omega))
theorem bo_party {X : aX} {i : Int} (hx : ∀ j, X.2 (w32 (i + j)) ≤ 2147483647) {k : Int} {σ : aS} (k5 : k < 512) (hG : GI k σ) : BO (k + 1) σ (c11_party 1 (X.2 (w32 (i + 1))) (X.2 (w32 (i + 2))) σ) (fun τ => c12_party 130 (X.2 (w32 (i + 1))) (X.2 (w32 (i + 2))) τ) := by
  obtain ⟨T, S, hC, hM, hS, hP⟩ := hG
  obtain ⟨hN, h40, hX, h31⟩ := id hS.1
  have hB := hM.1.2.2
  have hm : S.1 3 1 + 240 ≤ 130000 := by omega
  exact bo hM hP (c11_party_q hC hN h40 (X.2 (w32 (i + 1))) (X.2 (w32 (i + 2)))) (fun τ hτ => (c12_party_q hτ.1 hN hτ.2.1 (X.2 (w32 (i + 1))) (X.2 (w32 (i + 2)))).r hτ) (hS.up (by omega))
theorem bo_goings {X : aX} {i : Int} (hx : ∀ j, X.2 (w32 (i + j)) ≤ 2147483647) {k : Int} {σ : aS} (k5 : k < 512) (hG : GI k σ) : BO (k + 1) σ (c11_goings 1 (X.2 (w32 (i + 1))) σ) (fun τ => c12_goings 130 (X.2 (w32 (i + 1))) τ) := by
  obtain ⟨T, S, hC, hM, hS, hP⟩ := hG
  obtain ⟨hN, h40, hX, h31⟩ := id hS.1
  have hB := hM.1.2.2
  have hm : S.1 3 1 + 240 ≤ 130000 := by omega
  exact bo hM hP (c11_goings_q hC hN h40 (X.2 (w32 (i + 1)))) (fun τ hτ => c12_goings_q hτ hN (X.2 (w32 (i + 1)))) ((hS.goings hB _).up (by omega))
theorem bo_ring {X : aX} {i : Int} (hx : ∀ j, X.2 (w32 (i + j)) ≤ 2147483647) {k : Int} {σ : aS} (k5 : k < 512) (hG : GI k σ) : BO (k + 1) σ (c11_ring 1 (X.2 (w32 (i + 1))) σ) (fun τ => c12_ring 130 (X.2 (w32 (i + 1))) τ) := by
  obtain ⟨T, S, hC, hM, hS, hP⟩ := hG
  obtain ⟨hN, h40, hX, h31⟩ := id hS.1
  have hB := hM.1.2.2
  have hm : S.1 3 1 + 240 ≤ 130000 := by omega
  exact bo hM hP (c11_ring_q hC hN h40 (X.2 (w32 (i + 1)))) (fun τ hτ => (c12_ring_q hτ.1 hN hτ.2.1 (X.2 (w32 (i + 1)))).r hτ) (hS.up (by omega))
theorem bo_all {X : aX} {i : Int} (hx : ∀ j, X.2 (w32 (i + j)) ≤ 2147483647) {k : Int} {σ : aS} (k5 : k < 512) (hG : GI k σ) : BO (k + 1) σ (c11_all 1 (X.2 (w32 (i + 1))) σ) (fun τ => c12_all 130 (X.2 (w32 (i + 1))) τ) := by
  obtain ⟨T, S, hC, hM, hS, hP⟩ := hG
  obtain ⟨hN, h40, hX, h31⟩ := id hS.1
  have hB := hM.1.2.2
  have hm : S.1 3 1 + 240 ≤ 130000 := by omega
  exact bo hM hP (c11_all_q hC hN h40 (X.2 (w32 (i + 1)))) (fun τ hτ => (c12_all_q hτ.1 hN hτ.2.1 (X.2 (w32 (i + 1)))).r hτ) (hS.up (by omega))
theorem bo_held {X : aX} {i : Int} (hx : ∀ j, X.2 (w32 (i + j)) ≤ 2147483647) {k : Int} {σ : aS} (k5 : k < 512) (hG : GI k σ) : BO (k + 1) σ (c11_held 1 (X.2 (w32 (i + 1))) (X.2 (w32 (i + 2))) (X.2 (w32 (i + 3))) σ) (fun τ => c12_held 130 (X.2 (w32 (i + 1))) (X.2 (w32 (i + 2))) (X.2 (w32 (i + 3))) τ) := by
  obtain ⟨T, S, hC, hM, hS, hP⟩ := hG
  obtain ⟨hN, h40, hX, h31⟩ := id hS.1
  have hB := hM.1.2.2
  have hm : S.1 3 1 + 240 ≤ 130000 := by omega
  exact bo hM hP (c11_held_q hC hN h40 (X.2 (w32 (i + 1))) (X.2 (w32 (i + 2))) (X.2 (w32 (i + 3)))) (fun τ hτ => (c12_held_q hτ.1 hN hτ.2.1 (hx 1) (X.2 (w32 (i + 2))) (X.2 (w32 (i + 3)))).r hτ) (hS.up (by omega))
theorem bo_total {X : aX} {i : Int} (hx : ∀ j, X.2 (w32 (i + j)) ≤ 2147483647) {k : Int} {σ : aS} (k5 : k < 512) (hG : GI k σ) : BO (k + 1) σ (c11_total 1 σ) (fun τ => c12_total 130 τ) := by
  obtain ⟨T, S, hC, hM, hS, hP⟩ := hG
  obtain ⟨hN, h40, hX, h31⟩ := id hS.1
  have hB := hM.1.2.2
  have hm : S.1 3 1 + 240 ≤ 130000 := by omega
  exact bo hM hP (c11_total_q hC hN h40) (fun τ hτ => (c12_total_q hτ.1 hN hτ.2.1).r hτ) (hS.up (by omega))
theorem bo_lost {X : aX} {i : Int} (hx : ∀ j, X.2 (w32 (i + j)) ≤ 2147483647) {k : Int} {σ : aS} (k5 : k < 512) (hG : GI k σ) : BO (k + 1) σ (c11_lost 1 (X.2 (w32 (i + 1))) σ) (fun τ => c12_lost 130 (X.2 (w32 (i + 1))) τ) := by
  obtain ⟨T, S, hC, hM, hS, hP⟩ := hG
  obtain ⟨hN, h40, hX, h31⟩ := id hS.1
  have hB := hM.1.2.2
  have hm : S.1 3 1 + 240 ≤ 130000 := by omega
  exact bo hM hP (c11_lost_q hC hN h40 (X.2 (w32 (i + 1)))) (fun τ hτ => (c12_lost_q hτ.1 hN hτ.2.1 (X.2 (w32 (i + 1)))).r hτ) (hS.up (by omega))
theorem bo_best {X : aX} {i : Int} (hx : ∀ j, X.2 (w32 (i + j)) ≤ 2147483647) {k : Int} {σ : aS} (k5 : k < 512) (hG : GI k σ) : BO (k + 1) σ (c11_best 1 σ) (fun τ => c12_best 130 τ) := by
  obtain ⟨T, S, hC, hM, hS, hP⟩ := hG
  obtain ⟨hN, h40, hX, h31⟩ := id hS.1
  have hB := hM.1.2.2
  have hm : S.1 3 1 + 240 ≤ 130000 := by omega
  exact bo hM hP (c11_best_q hC hN h40) (fun τ hτ => c12_best_q hτ hN) ((hS.best hB).up (by omega))
theorem bo_extra {X : aX} {i : Int} (hx : ∀ j, X.2 (w32 (i + j)) ≤ 2147483647) {k : Int} {σ : aS} (k5 : k < 512) (hG : GI k σ) : BO (k + 1) σ (c11_extra 1 (X.2 (w32 (i + 1))) (X.2 (w32 (i + 2))) σ) (fun τ => c12_extra 130 (X.2 (w32 (i + 1))) (X.2 (w32 (i + 2))) τ) := by
  obtain ⟨T, S, hC, hM, hS, hP⟩ := hG
  obtain ⟨hN, h40, hX, h31⟩ := id hS.1
  have hB := hM.1.2.2
  have hm : S.1 3 1 + 240 ≤ 130000 := by omega
  exact bo hM hP (c11_extra_q hC (X.2 (w32 (i + 1))) (X.2 (w32 (i + 2)))) (fun τ hτ => c12_extra_q hτ (X.2 (w32 (i + 1))) (X.2 (w32 (i + 2)))) ((hS.extra _ _).up (by omega))
theorem bo_edge {X : aX} {i : Int} (hx : ∀ j, X.2 (w32 (i + j)) ≤ 2147483647) {k : Int} {σ : aS} (k5 : k < 512) (hG : GI k σ) : BO (k + 1) σ (c11_edge 1 (X.2 (w32 (i + 1))) (X.2 (w32 (i + 2))) σ) (fun τ => c12_edge 130 (X.2 (w32 (i + 1))) (X.2 (w32 (i + 2))) τ) := by
  obtain ⟨T, S, hC, hM, hS, hP⟩ := hG
  obtain ⟨hN, h40, hX, h31⟩ := id hS.1
  have hB := hM.1.2.2
  have hm : S.1 3 1 + 240 ≤ 130000 := by omega
  exact bo hM hP (c11_edge_q hC hN h40 (X.2 (w32 (i + 1))) (X.2 (w32 (i + 2)))) (fun τ hτ => (c12_edge_q hτ.1 hN hX hτ.2.1 (X.2 (w32 (i + 1))) (X.2 (w32 (i + 2)))).r hτ) (hS.up (by omega))
theorem bo_empties {X : aX} {i : Int} (hx : ∀ j, X.2 (w32 (i + j)) ≤ 2147483647) {k : Int} {σ : aS} (k5 : k < 512) (hG : GI k σ) : BO (k + 1) σ (c11_empties 1 (X.2 (w32 (i + 1))) σ) (fun τ => c12_empties 130 (X.2 (w32 (i + 1))) τ) := by
  obtain ⟨T, S, hC, hM, hS, hP⟩ := hG
  obtain ⟨hN, h40, hX, h31⟩ := id hS.1
  have hB := hM.1.2.2
  have hm : S.1 3 1 + 240 ≤ 130000 := by omega
  exact bo hM hP (c11_empties_q hC hN hX h40 (X.2 (w32 (i + 1)))) (fun τ hτ => (c12_empties_q hτ.1 hN hX hτ.2.1 (X.2 (w32 (i + 1)))).r hτ) (hS.up (by omega))
theorem bo_met {X : aX} {i : Int} (hx : ∀ j, X.2 (w32 (i + j)) ≤ 2147483647) {k : Int} {σ : aS} (k5 : k < 512) (hG : GI k σ) : BO (k + 1) σ (c11_met 1 (X.2 (w32 (i + 1))) σ) (fun τ => c12_met 130 (X.2 (w32 (i + 1))) τ) := by
  obtain ⟨T, S, hC, hM, hS, hP⟩ := hG
  obtain ⟨hN, h40, hX, h31⟩ := id hS.1
  have hB := hM.1.2.2
  have hm : S.1 3 1 + 240 ≤ 130000 := by omega
  exact bo hM hP (c11_met_q hC hN h40 (X.2 (w32 (i + 1)))) (fun τ hτ => (c12_met_q hτ.1 hN hτ.2.1 (X.2 (w32 (i + 1)))).r hτ) (hS.up (by omega))
theorem bo_reform {X : aX} {i : Int} (hx : ∀ j, X.2 (w32 (i + j)) ≤ 2147483647) {k : Int} {σ : aS} (k5 : k < 512) (hG : GI k σ) : BO (k + 1) σ (c11_reform 1 (X.2 (w32 (i + 1))) (X.2 (w32 (i + 2))) (X.2 (w32 (i + 3))) (X.2 (w32 (i + 4))) σ) (fun τ => c12_reform 130 (X.2 (w32 (i + 1))) (X.2 (w32 (i + 2))) (X.2 (w32 (i + 3))) (X.2 (w32 (i + 4))) τ) := by
  obtain ⟨T, S, hC, hM, hS, hP⟩ := hG
  obtain ⟨hN, h40, hX, h31⟩ := id hS.1
  have hB := hM.1.2.2
  have hm : S.1 3 1 + 240 ≤ 130000 := by omega
  exact bo hM hP (c11_reform_q hC hN (X.2 (w32 (i + 1))) (X.2 (w32 (i + 2))) (X.2 (w32 (i + 3))) (X.2 (w32 (i + 4)))) (fun τ hτ => (c12_reform_q hτ.1 hN h40 hτ.2.1 (X.2 (w32 (i + 1))) (X.2 (w32 (i + 2))) (X.2 (w32 (i + 3))) (X.2 (w32 (i + 4)))).r hτ) (hS.up (by omega))
theorem bo_split {X : aX} {i : Int} (hx : ∀ j, X.2 (w32 (i + j)) ≤ 2147483647) {k : Int} {σ : aS} (k5 : k < 512) (hG : GI k σ) : BO (k + 1) σ (c11_split 1 (X.2 (w32 (i + 1))) (X.2 (w32 (i + 2))) (X.2 (w32 (i + 3))) σ) (fun τ => c12_split 130 (X.2 (w32 (i + 1))) (X.2 (w32 (i + 2))) (X.2 (w32 (i + 3))) τ) := by
  obtain ⟨T, S, hC, hM, hS, hP⟩ := hG
  obtain ⟨hN, h40, hX, h31⟩ := id hS.1
  have hB := hM.1.2.2
  have hm : S.1 3 1 + 240 ≤ 130000 := by omega
  exact bo hM hP (c11_split_q hC hN h40 (X.2 (w32 (i + 1))) (X.2 (w32 (i + 2))) (X.2 (w32 (i + 3)))) (fun τ hτ => (c12_split_q hτ.1 hN hτ.2.1 (X.2 (w32 (i + 1))) (X.2 (w32 (i + 2))) (X.2 (w32 (i + 3)))).r hτ) (hS.up (by omega))
theorem bo_out {X : aX} {i : Int} (hx : ∀ j, X.2 (w32 (i + j)) ≤ 2147483647) {k : Int} {σ : aS} (k5 : k < 512) (hG : GI k σ) : BO (k + 1) σ (c11_out 1 (X.2 (w32 (i + 1))) (X.2 (w32 (i + 2))) (X.2 (w32 (i + 3))) σ) (fun τ => c12_out 130 (X.2 (w32 (i + 1))) (X.2 (w32 (i + 2))) (X.2 (w32 (i + 3))) τ) := by
  obtain ⟨T, S, hC, hM, hS, hP⟩ := hG
  obtain ⟨hN, h40, hX, h31⟩ := id hS.1
  have hB := hM.1.2.2
  have hm : S.1 3 1 + 240 ≤ 130000 := by omega
  obtain ⟨v, v1, v2⟩ := c11_out_q hC (X.2 (w32 (i + 1))) (X.2 (w32 (i + 2))) (X.2 (w32 (i + 3)))
  refine bo hM hP v2 (fun τ hτ => ?_) (hS.up (by omega))
  obtain ⟨u, u1, u2⟩ := c12_out_q hτ.1 hτ.2.1 (X.2 (w32 (i + 1))) (X.2 (w32 (i + 2))) (X.2 (w32 (i + 3)))
  rw [oOut_u v1 u1]
  exact u2.r hτ
theorem bo_months {X : aX} {i : Int} (hx : ∀ j, X.2 (w32 (i + j)) ≤ 2147483647) {k : Int} {σ : aS} (k5 : k < 512) (hG : GI k σ) : BO (k + 1) σ (c11_months 1 (X.2 (w32 (i + 1))) (X.2 (w32 (i + 2))) σ) (fun τ => c12_months 130 (X.2 (w32 (i + 1))) (X.2 (w32 (i + 2))) τ) := by
  obtain ⟨T, S, hC, hM, hS, hP⟩ := hG
  obtain ⟨hN, h40, hX, h31⟩ := id hS.1
  have hB := hM.1.2.2
  have hm : S.1 3 1 + 240 ≤ 130000 := by omega
  exact bo hM hP (c11_months_q (m := (X.2 (w32 (i + 2)))) hC hN h40 (hx 1) hm) (fun τ hτ => c12_months_q (m := (X.2 (w32 (i + 2)))) hτ hN (hx 1) hm) (hS.months hB k5 _ _)
theorem bo_tied {X : aX} {i : Int} (hx : ∀ j, X.2 (w32 (i + j)) ≤ 2147483647) {k : Int} {σ : aS} (k5 : k < 512) (hG : GI k σ) : BO (k + 1) σ (c11_tied 1 σ) (fun τ => c12_tied 130 τ) := by
  obtain ⟨T, S, hC, hM, hS, hP⟩ := hG
  obtain ⟨hN, h40, hX, h31⟩ := id hS.1
  have hB := hM.1.2.2
  have hm : S.1 3 1 + 240 ≤ 130000 := by omega
  exact bo hM hP (c11_tied_q hC) (fun τ hτ => (c12_tied_q hτ.2.1).r hτ) (hS.up (by omega))
theorem bo_odds {X : aX} {i : Int} (hx : ∀ j, X.2 (w32 (i + j)) ≤ 2147483647) {k : Int} {σ : aS} (k5 : k < 512) (hG : GI k σ) : BO (k + 1) σ (c11_odds 1 (X.2 (w32 (i + 1))) (X.2 (w32 (i + 2))) (X.2 (w32 (i + 3))) (X.2 (w32 (i + 4))) σ) (fun τ => c12_odds 130 (X.2 (w32 (i + 1))) (X.2 (w32 (i + 2))) (X.2 (w32 (i + 3))) (X.2 (w32 (i + 4))) τ) := by
  obtain ⟨T, S, hC, hM, hS, hP⟩ := hG
  obtain ⟨hN, h40, hX, h31⟩ := id hS.1
  have hB := hM.1.2.2
  have hm : S.1 3 1 + 240 ≤ 130000 := by omega
  exact bo hM hP (c11_odds_q hC hN h40 hm (X.2 (w32 (i + 1))) (hx 2) (X.2 (w32 (i + 3))) (X.2 (w32 (i + 4)))) (fun τ hτ => (c12_odds_q hτ.1 hN hτ.2.1 (X.2 (w32 (i + 1))) (hx 2) (X.2 (w32 (i + 3))) (X.2 (w32 (i + 4)))).r hτ) (hS.up (by omega))
theorem bo_undo {X : aX} {i : Int} (hx : ∀ j, X.2 (w32 (i + j)) ≤ 2147483647) {k : Int} {σ : aS} (k5 : k < 512) (hG : GI k σ) : BO (k + 1) σ (c11_undo 1 σ) (fun τ => c12_undo 130 τ) := by
  obtain ⟨T, S, hC, hM, hS, hP⟩ := hG
  obtain ⟨hN, h40, hX, h31⟩ := id hS.1
  have hB := hM.1.2.2
  have hm : S.1 3 1 + 240 ≤ 130000 := by omega
  exact bo hM hP (c11_undo_q hC) (fun τ hτ => c12_undo_q hτ h40 (fun j j0 j1 => (hS.2.2.1 j j0 j1).2.1)) ((hS.undo).up (by omega))
theorem bo_keep {X : aX} {i : Int} (hx : ∀ j, X.2 (w32 (i + j)) ≤ 2147483647) {k : Int} {σ : aS} (k5 : k < 512) (hG : GI k σ) : BO (k + 1) σ (c11_keep 1 σ) (fun τ => c12_keep 130 τ) := by
  obtain ⟨T, S, hC, hM, hS, hP⟩ := hG
  obtain ⟨hN, h40, hX, h31⟩ := id hS.1
  have hB := hM.1.2.2
  have hm : S.1 3 1 + 240 ≤ 130000 := by omega
  exact bo hM hP (c11_keep_q hC) (fun τ hτ => c12_keep_q hτ) ((hS.keep).up (by omega))
theorem bo_back {X : aX} {i : Int} (hx : ∀ j, X.2 (w32 (i + j)) ≤ 2147483647) {k : Int} {σ : aS} (k5 : k < 512) (hG : GI k σ) : BO (k + 1) σ (c11_back 1 σ) (fun τ => c12_back 130 τ) := by
  obtain ⟨T, S, hC, hM, hS, hP⟩ := hG
  obtain ⟨hN, h40, hX, h31⟩ := id hS.1
  have hB := hM.1.2.2
  have hm : S.1 3 1 + 240 ≤ 130000 := by omega
  exact bo hM hP (c11_back_q hC) (fun τ hτ => c12_back_q hτ h40 (fun q => (hS.2.2.2.2 q).2.1)) ((hS.back).up (by omega))
theorem bo_count {X : aX} {i : Int} (hx : ∀ j, X.2 (w32 (i + j)) ≤ 2147483647) {k : Int} {σ : aS} (k5 : k < 512) (hG : GI k σ) : BO (k + 1) σ (c11_count 1 (X.2 (w32 (i + 1))) σ) (fun τ => c12_count 130 (X.2 (w32 (i + 1))) τ) := by
  obtain ⟨T, S, hC, hM, hS, hP⟩ := hG
  obtain ⟨hN, h40, hX, h31⟩ := id hS.1
  have hB := hM.1.2.2
  have hm : S.1 3 1 + 240 ≤ 130000 := by omega
  exact bo hM hP (c11_count_q hC (X.2 (w32 (i + 1)))) (fun τ hτ => c12_count_q hτ (X.2 (w32 (i + 1)))) (hS.up (by omega))
theorem bo_worth {k : Int} {σ : aS} (k5 : k < 512) (hG : GI k σ) (s p : Int) {c : Int} (hc : c = 0 ∨ c = 1) : BO (k + 1) σ (c11_worth 1 s p c σ) (fun τ => c12_worth 130 s p c τ) := by
  obtain ⟨T, S, hC, hM, hS, hP⟩ := hG
  obtain ⟨hN, h40, hX, h31⟩ := id hS.1
  exact bo hM hP (c11_worth_q hC hN h40 s p c) (fun τ hτ => (c12_worth_q hτ.1 hN hτ.2.1 s p hc).r hτ) (hS.up (by omega))
theorem bo_bind {k : Int} {σ : aS} (k5 : k < 512) (hG : GI k σ) (t : Int) {on : Int} (ho : on = 0 ∨ on = 1) : BO (k + 1) σ (c11_bind 1 t on σ) (fun τ => c12_bind 130 t on τ) := by
  obtain ⟨T, S, hC, hM, hS, hP⟩ := hG
  obtain ⟨hN, h40, hX, h31⟩ := id hS.1
  exact bo hM hP (c11_bind_q hC hN t ho) (fun τ hτ => c12_bind_q hτ hN t ho) ((hS.bind _ ho).up (by omega))
