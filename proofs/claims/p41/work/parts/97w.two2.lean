/-! hunt and flee: the ring, all partings, the months -/
section TWO
variable {T N : aH} {l : Int}
theorem A2.st (h : A2 T l) {e : Nat} (he : e < 9) (hN : M2 N e) : fiS T N < T 0 1 ∧ M2 (nxt T N) (stp e) := by
  match e, he, hN with
  | 0, _, hN => exact h.n0 hN
  | 1, _, hN => exact h.n1 hN
  | 2, _, hN => exact h.n2 hN
  | 3, _, hN => exact h.n3 hN
  | 4, _, hN => exact h.n4 hN
  | 5, _, hN => exact h.n5 hN
  | 6, _, hN => exact h.n6 hN
  | 7, _, hN => exact h.n7 hN
  | 8, _, hN => exact h.n8 hN
def stN2 : Nat → Nat → Nat
  | 0, e => e
  | i + 1, e => stp (stN2 i e)
theorem stp9 : ∀ e : Fin 9, stp e.val < 9 := by decide +kernel
theorem stN9 {e : Nat} (he : e < 9) : ∀ i : Nat, stN2 i e < 9 := by
  intro i
  induction i with
  | zero => exact he
  | succ i ih => exact stp9 ⟨_, ih⟩
theorem A2.its (h : A2 T l) {e : Nat} (he : e < 9) (hN : M2 N e) : ∀ i : Nat, M2 (itn T i N) (stN2 i e) := by
  intro i
  induction i with
  | zero => exact hN
  | succ i ih => exact (h.st (stN9 he i) ih).2
def pc2 (e : Nat) : Int := ind (e / 3) 0 + 8 * ind (e % 3) 0 + 32768 * (ind (e / 3) 1 + 8 * ind (e % 3) 1)
theorem A2.pk (h : A2 T l) {e : Nat} (hN : M2 N e) : pkP T N = pc2 e := by
  obtain ⟨⟨x0, x1, -⟩, ⟨y0, y1, -⟩, -⟩ := hN
  have e2 : ∀ t, 2 ≤ t → pkT T N t = 0 := fun t ht => by unfold pkT; rw [if_neg (by have := h.1.2.2.1; omega)]
  have cz : ∀ p s : Int, 2 ≤ s → ctn T N p s = 0 := fun p s hs => by unfold ctn; rw [h.1.2.1, if_neg (by omega)]
  have e0 : pkT T N 0 = ind (e / 3) 0 + 8 * ind (e % 3) 0 := by
    unfold pkT
    rw [h.1.2.2.1, if_pos (by omega)]
    unfold pk5
    rw [(h.cn (N := N) 0).1, (h.cn (N := N) 0).2, cz _ _ (by omega), cz _ _ (by omega), cz _ _ (by omega), show (5 : Int) + 0 = 5 from rfl, x0, y0]; omega
  have e1 : pkT T N 1 = ind (e / 3) 1 + 8 * ind (e % 3) 1 := by
    unfold pkT
    rw [h.1.2.2.1, if_pos (by omega)]
    unfold pk5
    rw [(h.cn (N := N) 1).1, (h.cn (N := N) 1).2, cz _ _ (by omega), cz _ _ (by omega), cz _ _ (by omega), show (5 : Int) + 1 = 6 from rfl, x1, y1]; omega
  unfold pkP pc2
  rw [e0, e1, e2 2 (by omega), e2 3 (by omega)]; omega
def fr2 (e : Nat) : Nat := ([0, 0, 1, 0, 0, 1, 1, 1, 2] : List Nat).getD e 0
theorem cyc2 : ∀ e : Fin 9, fr2 e.val ≤ 2 ∧ (∀ g : Fin 7, ∀ i : Fin 7, i.val < g.val → g.val < fr2 e.val + 4 → pc2 (stN2 i.val e.val) ≠ pc2 (stN2 g.val e.val)) ∧ (∀ i : Fin 7, i.val < fr2 e.val → pc2 (stN2 i.val e.val) ≠ pc2 (stN2 (fr2 e.val + 4) e.val)) ∧ pc2 (stN2 (fr2 e.val) e.val) = pc2 (stN2 (fr2 e.val + 4) e.val) := by decide +kernel
theorem A2.ring (h : A2 T l) {e : Nat} (he : e < 9) (hN : M2 N e) : aRing T N 0 = 2 ∧ aRing T N 2 = 4 := by
  obtain ⟨f2, c1, c2, c3⟩ := cyc2 ⟨e, he⟩
  simp only at f2 c1 c2 c3
  have hi := h.its he hN
  obtain ⟨a1, a2⟩ := chainR (T := T) (N := N) (F := fr2 e) (G := fr2 e + 4) (by omega) (by omega) (fun i _ => (h.st (stN9 he i) (hi i)).1)
    (fun i g q1 q2 => by rw [h.pk (hi i), h.pk (hi g)]; exact c1 ⟨g, by omega⟩ ⟨i, by omega⟩ q1 q2)
    (fun i q => by rw [h.pk (hi i), h.pk (hi _)]; exact c2 ⟨i, by omega⟩ q) (by rw [h.pk (hi _), h.pk (hi _)]; exact c3)
  unfold aRing
  refine ⟨by rw [if_pos (by omega), if_pos rfl, a1], ?_⟩
  rw [if_pos (by omega), if_neg (by omega), if_neg (by omega), a2]; omega
theorem A2.np (h : A2 T l) : npT T = 9 := by
  unfold npT
  rw [h.1.2.1]
  show 1 * wyI (T 2 (4 * ((0 : Nat) : Int))) (T 0 2) * wyI (T 2 (4 * ((1 : Nat) : Int))) (T 0 2) = 9
  rw [show 4 * ((0 : Nat) : Int) = 0 by omega, show 4 * ((1 : Nat) : Int) = 4 by omega, h.2.1.1, h.2.1.2.2.2.1, h.1.2.2.1]; rfl

theorem A2.s8 (h : A2 T l) (hN : M2 N 8) : M2 (sq T N) 7 := by
  obtain ⟨⟨x0, x1, x2⟩, ⟨y0, y1, y2⟩, z⟩ := hN
  replace x0 : N 0 0 = 0 := x0
  replace y0 : N 0 5 = 0 := y0
  replace x1 : N 0 1 = 0 := x1
  replace y1 : N 0 6 = 0 := y1
  replace x2 : N 0 2 = 1 := x2
  replace y2 : N 0 7 = 1 := y2
  have d0 : lsp T N 0 = 2 := by
    unfold lsp
    rw [h.1.2.2.1, ff2, show (5 : Int) * 0 + (2 - 0) = 2 from rfl, show (5 : Int) * 0 + (2 - 1) = 1 from rfl, x2, x1]; rfl
  have d1 : lsp T N 1 = 2 := by
    unfold lsp
    rw [h.1.2.2.1, ff2, show (5 : Int) * 1 + (2 - 0) = 7 from rfl, show (5 : Int) * 1 + (2 - 1) = 6 from rfl, y2, y1]; rfl
  have dl : lss T N = 1 := by
    unfold lss
    rw [h.1.2.1, ff2, show (2 : Int) - 1 - 0 = 1 from rfl, show (2 : Int) - 1 - 1 = 0 from rfl, d1, d0]; rfl
  have v00 : sqv T N 0 0 = 0 := by
    simp [sqv, nwv, alv, dl, d0, d1, h.1.2.2.1, h.2.1.1, h.2.1.2.2.2.1, x0, x1, x2, y0, y1, y2]
  have v01 : sqv T N 0 1 = 0 := by
    simp [sqv, nwv, alv, dl, d0, d1, h.1.2.2.1, h.2.1.1, h.2.1.2.2.2.1, x0, x1, x2, y0, y1, y2]
  have v02 : sqv T N 0 2 = 1 := by
    simp [sqv, nwv, alv, dl, d0, d1, h.1.2.2.1, h.2.1.1, h.2.1.2.2.2.1, x0, x1, x2, y0, y1, y2]
  have v10 : sqv T N 1 0 = 0 := by
    simp [sqv, nwv, alv, dl, d0, d1, h.1.2.2.1, h.2.1.1, h.2.1.2.2.2.1, x0, x1, x2, y0, y1, y2]
  have v11 : sqv T N 1 1 = 1 := by
    simp [sqv, nwv, alv, dl, d0, d1, h.1.2.2.1, h.2.1.1, h.2.1.2.2.2.1, x0, x1, x2, y0, y1, y2]
  have v12 : sqv T N 1 2 = 0 := by
    simp [sqv, nwv, alv, dl, d0, d1, h.1.2.2.1, h.2.1.1, h.2.1.2.2.2.1, x0, x1, x2, y0, y1, y2]
  exact ⟨⟨(sq_0 T N (u := 0) (p := 0) (by omega) (by omega)).trans v00, (sq_0 T N (u := 0) (p := 1) (by omega) (by omega)).trans v01, (sq_0 T N (u := 0) (p := 2) (by omega) (by omega)).trans v02⟩, ⟨(sq_0 T N (u := 1) (p := 0) (by omega) (by omega)).trans v10, (sq_0 T N (u := 1) (p := 1) (by omega) (by omega)).trans v11, (sq_0 T N (u := 1) (p := 2) (by omega) (by omega)).trans v12⟩, z⟩
theorem A2.s7 (h : A2 T l) (hN : M2 N 7) : M2 (sq T N) 6 := by
  obtain ⟨⟨x0, x1, x2⟩, ⟨y0, y1, y2⟩, z⟩ := hN
  replace x0 : N 0 0 = 0 := x0
  replace y0 : N 0 5 = 0 := y0
  replace x1 : N 0 1 = 0 := x1
  replace y1 : N 0 6 = 1 := y1
  replace x2 : N 0 2 = 1 := x2
  replace y2 : N 0 7 = 0 := y2
  have d0 : lsp T N 0 = 2 := by
    unfold lsp
    rw [h.1.2.2.1, ff2, show (5 : Int) * 0 + (2 - 0) = 2 from rfl, show (5 : Int) * 0 + (2 - 1) = 1 from rfl, x2, x1]; rfl
  have d1 : lsp T N 1 = 1 := by
    unfold lsp
    rw [h.1.2.2.1, ff2, show (5 : Int) * 1 + (2 - 0) = 7 from rfl, show (5 : Int) * 1 + (2 - 1) = 6 from rfl, y2, y1]; rfl
  have dl : lss T N = 1 := by
    unfold lss
    rw [h.1.2.1, ff2, show (2 : Int) - 1 - 0 = 1 from rfl, show (2 : Int) - 1 - 1 = 0 from rfl, d1, d0]; rfl
  have v00 : sqv T N 0 0 = 0 := by
    simp [sqv, nwv, alv, dl, d0, d1, h.1.2.2.1, h.2.1.1, h.2.1.2.2.2.1, x0, x1, x2, y0, y1, y2]
  have v01 : sqv T N 0 1 = 0 := by
    simp [sqv, nwv, alv, dl, d0, d1, h.1.2.2.1, h.2.1.1, h.2.1.2.2.2.1, x0, x1, x2, y0, y1, y2]
  have v02 : sqv T N 0 2 = 1 := by
    simp [sqv, nwv, alv, dl, d0, d1, h.1.2.2.1, h.2.1.1, h.2.1.2.2.2.1, x0, x1, x2, y0, y1, y2]
  have v10 : sqv T N 1 0 = 1 := by
    simp [sqv, nwv, alv, dl, d0, d1, h.1.2.2.1, h.2.1.1, h.2.1.2.2.2.1, x0, x1, x2, y0, y1, y2]
  have v11 : sqv T N 1 1 = 0 := by
    simp [sqv, nwv, alv, dl, d0, d1, h.1.2.2.1, h.2.1.1, h.2.1.2.2.2.1, x0, x1, x2, y0, y1, y2]
  have v12 : sqv T N 1 2 = 0 := by
    simp [sqv, nwv, alv, dl, d0, d1, h.1.2.2.1, h.2.1.1, h.2.1.2.2.2.1, x0, x1, x2, y0, y1, y2]
  exact ⟨⟨(sq_0 T N (u := 0) (p := 0) (by omega) (by omega)).trans v00, (sq_0 T N (u := 0) (p := 1) (by omega) (by omega)).trans v01, (sq_0 T N (u := 0) (p := 2) (by omega) (by omega)).trans v02⟩, ⟨(sq_0 T N (u := 1) (p := 0) (by omega) (by omega)).trans v10, (sq_0 T N (u := 1) (p := 1) (by omega) (by omega)).trans v11, (sq_0 T N (u := 1) (p := 2) (by omega) (by omega)).trans v12⟩, z⟩
theorem A2.s6 (h : A2 T l) (hN : M2 N 6) : M2 (sq T N) 5 := by
  obtain ⟨⟨x0, x1, x2⟩, ⟨y0, y1, y2⟩, z⟩ := hN
  replace x0 : N 0 0 = 0 := x0
  replace y0 : N 0 5 = 1 := y0
  replace x1 : N 0 1 = 0 := x1
  replace y1 : N 0 6 = 0 := y1
  replace x2 : N 0 2 = 1 := x2
  replace y2 : N 0 7 = 0 := y2
  have d0 : lsp T N 0 = 2 := by
    unfold lsp
    rw [h.1.2.2.1, ff2, show (5 : Int) * 0 + (2 - 0) = 2 from rfl, show (5 : Int) * 0 + (2 - 1) = 1 from rfl, x2, x1]; rfl
  have d1 : lsp T N 1 = 0 := by
    unfold lsp
    rw [h.1.2.2.1, ff2, show (5 : Int) * 1 + (2 - 0) = 7 from rfl, show (5 : Int) * 1 + (2 - 1) = 6 from rfl, y2, y1]; rfl
  have dl : lss T N = 0 := by
    unfold lss
    rw [h.1.2.1, ff2, show (2 : Int) - 1 - 0 = 1 from rfl, show (2 : Int) - 1 - 1 = 0 from rfl, d1, d0]; rfl
  have v00 : sqv T N 0 0 = 0 := by
    simp [sqv, nwv, alv, dl, d0, d1, h.1.2.2.1, h.2.1.1, h.2.1.2.2.2.1, x0, x1, x2, y0, y1, y2]
  have v01 : sqv T N 0 1 = 1 := by
    simp [sqv, nwv, alv, dl, d0, d1, h.1.2.2.1, h.2.1.1, h.2.1.2.2.2.1, x0, x1, x2, y0, y1, y2]
  have v02 : sqv T N 0 2 = 0 := by
    simp [sqv, nwv, alv, dl, d0, d1, h.1.2.2.1, h.2.1.1, h.2.1.2.2.2.1, x0, x1, x2, y0, y1, y2]
  have v10 : sqv T N 1 0 = 0 := by
    simp [sqv, nwv, alv, dl, d0, d1, h.1.2.2.1, h.2.1.1, h.2.1.2.2.2.1, x0, x1, x2, y0, y1, y2]
  have v11 : sqv T N 1 1 = 0 := by
    simp [sqv, nwv, alv, dl, d0, d1, h.1.2.2.1, h.2.1.1, h.2.1.2.2.2.1, x0, x1, x2, y0, y1, y2]
  have v12 : sqv T N 1 2 = 1 := by
    simp [sqv, nwv, alv, dl, d0, d1, h.1.2.2.1, h.2.1.1, h.2.1.2.2.2.1, x0, x1, x2, y0, y1, y2]
  exact ⟨⟨(sq_0 T N (u := 0) (p := 0) (by omega) (by omega)).trans v00, (sq_0 T N (u := 0) (p := 1) (by omega) (by omega)).trans v01, (sq_0 T N (u := 0) (p := 2) (by omega) (by omega)).trans v02⟩, ⟨(sq_0 T N (u := 1) (p := 0) (by omega) (by omega)).trans v10, (sq_0 T N (u := 1) (p := 1) (by omega) (by omega)).trans v11, (sq_0 T N (u := 1) (p := 2) (by omega) (by omega)).trans v12⟩, z⟩
theorem A2.s5 (h : A2 T l) (hN : M2 N 5) : M2 (sq T N) 4 := by
  obtain ⟨⟨x0, x1, x2⟩, ⟨y0, y1, y2⟩, z⟩ := hN
  replace x0 : N 0 0 = 0 := x0
  replace y0 : N 0 5 = 0 := y0
  replace x1 : N 0 1 = 1 := x1
  replace y1 : N 0 6 = 0 := y1
  replace x2 : N 0 2 = 0 := x2
  replace y2 : N 0 7 = 1 := y2
  have d0 : lsp T N 0 = 1 := by
    unfold lsp
    rw [h.1.2.2.1, ff2, show (5 : Int) * 0 + (2 - 0) = 2 from rfl, show (5 : Int) * 0 + (2 - 1) = 1 from rfl, x2, x1]; rfl
  have d1 : lsp T N 1 = 2 := by
    unfold lsp
    rw [h.1.2.2.1, ff2, show (5 : Int) * 1 + (2 - 0) = 7 from rfl, show (5 : Int) * 1 + (2 - 1) = 6 from rfl, y2, y1]; rfl
  have dl : lss T N = 1 := by
    unfold lss
    rw [h.1.2.1, ff2, show (2 : Int) - 1 - 0 = 1 from rfl, show (2 : Int) - 1 - 1 = 0 from rfl, d1, d0]; rfl
  have v00 : sqv T N 0 0 = 0 := by
    simp [sqv, nwv, alv, dl, d0, d1, h.1.2.2.1, h.2.1.1, h.2.1.2.2.2.1, x0, x1, x2, y0, y1, y2]
  have v01 : sqv T N 0 1 = 1 := by
    simp [sqv, nwv, alv, dl, d0, d1, h.1.2.2.1, h.2.1.1, h.2.1.2.2.2.1, x0, x1, x2, y0, y1, y2]
  have v02 : sqv T N 0 2 = 0 := by
    simp [sqv, nwv, alv, dl, d0, d1, h.1.2.2.1, h.2.1.1, h.2.1.2.2.2.1, x0, x1, x2, y0, y1, y2]
  have v10 : sqv T N 1 0 = 0 := by
    simp [sqv, nwv, alv, dl, d0, d1, h.1.2.2.1, h.2.1.1, h.2.1.2.2.2.1, x0, x1, x2, y0, y1, y2]
  have v11 : sqv T N 1 1 = 1 := by
    simp [sqv, nwv, alv, dl, d0, d1, h.1.2.2.1, h.2.1.1, h.2.1.2.2.2.1, x0, x1, x2, y0, y1, y2]
  have v12 : sqv T N 1 2 = 0 := by
    simp [sqv, nwv, alv, dl, d0, d1, h.1.2.2.1, h.2.1.1, h.2.1.2.2.2.1, x0, x1, x2, y0, y1, y2]
  exact ⟨⟨(sq_0 T N (u := 0) (p := 0) (by omega) (by omega)).trans v00, (sq_0 T N (u := 0) (p := 1) (by omega) (by omega)).trans v01, (sq_0 T N (u := 0) (p := 2) (by omega) (by omega)).trans v02⟩, ⟨(sq_0 T N (u := 1) (p := 0) (by omega) (by omega)).trans v10, (sq_0 T N (u := 1) (p := 1) (by omega) (by omega)).trans v11, (sq_0 T N (u := 1) (p := 2) (by omega) (by omega)).trans v12⟩, z⟩
theorem A2.s4 (h : A2 T l) (hN : M2 N 4) : M2 (sq T N) 3 := by
  obtain ⟨⟨x0, x1, x2⟩, ⟨y0, y1, y2⟩, z⟩ := hN
  replace x0 : N 0 0 = 0 := x0
  replace y0 : N 0 5 = 0 := y0
  replace x1 : N 0 1 = 1 := x1
  replace y1 : N 0 6 = 1 := y1
  replace x2 : N 0 2 = 0 := x2
  replace y2 : N 0 7 = 0 := y2
  have d0 : lsp T N 0 = 1 := by
    unfold lsp
    rw [h.1.2.2.1, ff2, show (5 : Int) * 0 + (2 - 0) = 2 from rfl, show (5 : Int) * 0 + (2 - 1) = 1 from rfl, x2, x1]; rfl
  have d1 : lsp T N 1 = 1 := by
    unfold lsp
    rw [h.1.2.2.1, ff2, show (5 : Int) * 1 + (2 - 0) = 7 from rfl, show (5 : Int) * 1 + (2 - 1) = 6 from rfl, y2, y1]; rfl
  have dl : lss T N = 1 := by
    unfold lss
    rw [h.1.2.1, ff2, show (2 : Int) - 1 - 0 = 1 from rfl, show (2 : Int) - 1 - 1 = 0 from rfl, d1, d0]; rfl
  have v00 : sqv T N 0 0 = 0 := by
    simp [sqv, nwv, alv, dl, d0, d1, h.1.2.2.1, h.2.1.1, h.2.1.2.2.2.1, x0, x1, x2, y0, y1, y2]
  have v01 : sqv T N 0 1 = 1 := by
    simp [sqv, nwv, alv, dl, d0, d1, h.1.2.2.1, h.2.1.1, h.2.1.2.2.2.1, x0, x1, x2, y0, y1, y2]
  have v02 : sqv T N 0 2 = 0 := by
    simp [sqv, nwv, alv, dl, d0, d1, h.1.2.2.1, h.2.1.1, h.2.1.2.2.2.1, x0, x1, x2, y0, y1, y2]
  have v10 : sqv T N 1 0 = 1 := by
    simp [sqv, nwv, alv, dl, d0, d1, h.1.2.2.1, h.2.1.1, h.2.1.2.2.2.1, x0, x1, x2, y0, y1, y2]
  have v11 : sqv T N 1 1 = 0 := by
    simp [sqv, nwv, alv, dl, d0, d1, h.1.2.2.1, h.2.1.1, h.2.1.2.2.2.1, x0, x1, x2, y0, y1, y2]
  have v12 : sqv T N 1 2 = 0 := by
    simp [sqv, nwv, alv, dl, d0, d1, h.1.2.2.1, h.2.1.1, h.2.1.2.2.2.1, x0, x1, x2, y0, y1, y2]
  exact ⟨⟨(sq_0 T N (u := 0) (p := 0) (by omega) (by omega)).trans v00, (sq_0 T N (u := 0) (p := 1) (by omega) (by omega)).trans v01, (sq_0 T N (u := 0) (p := 2) (by omega) (by omega)).trans v02⟩, ⟨(sq_0 T N (u := 1) (p := 0) (by omega) (by omega)).trans v10, (sq_0 T N (u := 1) (p := 1) (by omega) (by omega)).trans v11, (sq_0 T N (u := 1) (p := 2) (by omega) (by omega)).trans v12⟩, z⟩
theorem A2.s3 (h : A2 T l) (hN : M2 N 3) : M2 (sq T N) 2 := by
  obtain ⟨⟨x0, x1, x2⟩, ⟨y0, y1, y2⟩, z⟩ := hN
  replace x0 : N 0 0 = 0 := x0
  replace y0 : N 0 5 = 1 := y0
  replace x1 : N 0 1 = 1 := x1
  replace y1 : N 0 6 = 0 := y1
  replace x2 : N 0 2 = 0 := x2
  replace y2 : N 0 7 = 0 := y2
  have d0 : lsp T N 0 = 1 := by
    unfold lsp
    rw [h.1.2.2.1, ff2, show (5 : Int) * 0 + (2 - 0) = 2 from rfl, show (5 : Int) * 0 + (2 - 1) = 1 from rfl, x2, x1]; rfl
  have d1 : lsp T N 1 = 0 := by
    unfold lsp
    rw [h.1.2.2.1, ff2, show (5 : Int) * 1 + (2 - 0) = 7 from rfl, show (5 : Int) * 1 + (2 - 1) = 6 from rfl, y2, y1]; rfl
  have dl : lss T N = 0 := by
    unfold lss
    rw [h.1.2.1, ff2, show (2 : Int) - 1 - 0 = 1 from rfl, show (2 : Int) - 1 - 1 = 0 from rfl, d1, d0]; rfl
  have v00 : sqv T N 0 0 = 1 := by
    simp [sqv, nwv, alv, dl, d0, d1, h.1.2.2.1, h.2.1.1, h.2.1.2.2.2.1, x0, x1, x2, y0, y1, y2]
  have v01 : sqv T N 0 1 = 0 := by
    simp [sqv, nwv, alv, dl, d0, d1, h.1.2.2.1, h.2.1.1, h.2.1.2.2.2.1, x0, x1, x2, y0, y1, y2]
  have v02 : sqv T N 0 2 = 0 := by
    simp [sqv, nwv, alv, dl, d0, d1, h.1.2.2.1, h.2.1.1, h.2.1.2.2.2.1, x0, x1, x2, y0, y1, y2]
  have v10 : sqv T N 1 0 = 0 := by
    simp [sqv, nwv, alv, dl, d0, d1, h.1.2.2.1, h.2.1.1, h.2.1.2.2.2.1, x0, x1, x2, y0, y1, y2]
  have v11 : sqv T N 1 1 = 0 := by
    simp [sqv, nwv, alv, dl, d0, d1, h.1.2.2.1, h.2.1.1, h.2.1.2.2.2.1, x0, x1, x2, y0, y1, y2]
  have v12 : sqv T N 1 2 = 1 := by
    simp [sqv, nwv, alv, dl, d0, d1, h.1.2.2.1, h.2.1.1, h.2.1.2.2.2.1, x0, x1, x2, y0, y1, y2]
  exact ⟨⟨(sq_0 T N (u := 0) (p := 0) (by omega) (by omega)).trans v00, (sq_0 T N (u := 0) (p := 1) (by omega) (by omega)).trans v01, (sq_0 T N (u := 0) (p := 2) (by omega) (by omega)).trans v02⟩, ⟨(sq_0 T N (u := 1) (p := 0) (by omega) (by omega)).trans v10, (sq_0 T N (u := 1) (p := 1) (by omega) (by omega)).trans v11, (sq_0 T N (u := 1) (p := 2) (by omega) (by omega)).trans v12⟩, z⟩
theorem A2.s2 (h : A2 T l) (hN : M2 N 2) : M2 (sq T N) 1 := by
  obtain ⟨⟨x0, x1, x2⟩, ⟨y0, y1, y2⟩, z⟩ := hN
  replace x0 : N 0 0 = 1 := x0
  replace y0 : N 0 5 = 0 := y0
  replace x1 : N 0 1 = 0 := x1
  replace y1 : N 0 6 = 0 := y1
  replace x2 : N 0 2 = 0 := x2
  replace y2 : N 0 7 = 1 := y2
  have d0 : lsp T N 0 = 0 := by
    unfold lsp
    rw [h.1.2.2.1, ff2, show (5 : Int) * 0 + (2 - 0) = 2 from rfl, show (5 : Int) * 0 + (2 - 1) = 1 from rfl, x2, x1]; rfl
  have d1 : lsp T N 1 = 2 := by
    unfold lsp
    rw [h.1.2.2.1, ff2, show (5 : Int) * 1 + (2 - 0) = 7 from rfl, show (5 : Int) * 1 + (2 - 1) = 6 from rfl, y2, y1]; rfl
  have dl : lss T N = 1 := by
    unfold lss
    rw [h.1.2.1, ff2, show (2 : Int) - 1 - 0 = 1 from rfl, show (2 : Int) - 1 - 1 = 0 from rfl, d1, d0]; rfl
  have v00 : sqv T N 0 0 = 1 := by
    simp [sqv, nwv, alv, dl, d0, d1, h.1.2.2.1, h.2.1.1, h.2.1.2.2.2.1, x0, x1, x2, y0, y1, y2]
  have v01 : sqv T N 0 1 = 0 := by
    simp [sqv, nwv, alv, dl, d0, d1, h.1.2.2.1, h.2.1.1, h.2.1.2.2.2.1, x0, x1, x2, y0, y1, y2]
  have v02 : sqv T N 0 2 = 0 := by
    simp [sqv, nwv, alv, dl, d0, d1, h.1.2.2.1, h.2.1.1, h.2.1.2.2.2.1, x0, x1, x2, y0, y1, y2]
  have v10 : sqv T N 1 0 = 0 := by
    simp [sqv, nwv, alv, dl, d0, d1, h.1.2.2.1, h.2.1.1, h.2.1.2.2.2.1, x0, x1, x2, y0, y1, y2]
  have v11 : sqv T N 1 1 = 1 := by
    simp [sqv, nwv, alv, dl, d0, d1, h.1.2.2.1, h.2.1.1, h.2.1.2.2.2.1, x0, x1, x2, y0, y1, y2]
  have v12 : sqv T N 1 2 = 0 := by
    simp [sqv, nwv, alv, dl, d0, d1, h.1.2.2.1, h.2.1.1, h.2.1.2.2.2.1, x0, x1, x2, y0, y1, y2]
  exact ⟨⟨(sq_0 T N (u := 0) (p := 0) (by omega) (by omega)).trans v00, (sq_0 T N (u := 0) (p := 1) (by omega) (by omega)).trans v01, (sq_0 T N (u := 0) (p := 2) (by omega) (by omega)).trans v02⟩, ⟨(sq_0 T N (u := 1) (p := 0) (by omega) (by omega)).trans v10, (sq_0 T N (u := 1) (p := 1) (by omega) (by omega)).trans v11, (sq_0 T N (u := 1) (p := 2) (by omega) (by omega)).trans v12⟩, z⟩
theorem A2.s1 (h : A2 T l) (hN : M2 N 1) : M2 (sq T N) 0 := by
  obtain ⟨⟨x0, x1, x2⟩, ⟨y0, y1, y2⟩, z⟩ := hN
  replace x0 : N 0 0 = 1 := x0
  replace y0 : N 0 5 = 0 := y0
  replace x1 : N 0 1 = 0 := x1
  replace y1 : N 0 6 = 1 := y1
  replace x2 : N 0 2 = 0 := x2
  replace y2 : N 0 7 = 0 := y2
  have d0 : lsp T N 0 = 0 := by
    unfold lsp
    rw [h.1.2.2.1, ff2, show (5 : Int) * 0 + (2 - 0) = 2 from rfl, show (5 : Int) * 0 + (2 - 1) = 1 from rfl, x2, x1]; rfl
  have d1 : lsp T N 1 = 1 := by
    unfold lsp
    rw [h.1.2.2.1, ff2, show (5 : Int) * 1 + (2 - 0) = 7 from rfl, show (5 : Int) * 1 + (2 - 1) = 6 from rfl, y2, y1]; rfl
  have dl : lss T N = 1 := by
    unfold lss
    rw [h.1.2.1, ff2, show (2 : Int) - 1 - 0 = 1 from rfl, show (2 : Int) - 1 - 1 = 0 from rfl, d1, d0]; rfl
  have v00 : sqv T N 0 0 = 1 := by
    simp [sqv, nwv, alv, dl, d0, d1, h.1.2.2.1, h.2.1.1, h.2.1.2.2.2.1, x0, x1, x2, y0, y1, y2]
  have v01 : sqv T N 0 1 = 0 := by
    simp [sqv, nwv, alv, dl, d0, d1, h.1.2.2.1, h.2.1.1, h.2.1.2.2.2.1, x0, x1, x2, y0, y1, y2]
  have v02 : sqv T N 0 2 = 0 := by
    simp [sqv, nwv, alv, dl, d0, d1, h.1.2.2.1, h.2.1.1, h.2.1.2.2.2.1, x0, x1, x2, y0, y1, y2]
  have v10 : sqv T N 1 0 = 1 := by
    simp [sqv, nwv, alv, dl, d0, d1, h.1.2.2.1, h.2.1.1, h.2.1.2.2.2.1, x0, x1, x2, y0, y1, y2]
  have v11 : sqv T N 1 1 = 0 := by
    simp [sqv, nwv, alv, dl, d0, d1, h.1.2.2.1, h.2.1.1, h.2.1.2.2.2.1, x0, x1, x2, y0, y1, y2]
  have v12 : sqv T N 1 2 = 0 := by
    simp [sqv, nwv, alv, dl, d0, d1, h.1.2.2.1, h.2.1.1, h.2.1.2.2.2.1, x0, x1, x2, y0, y1, y2]
  exact ⟨⟨(sq_0 T N (u := 0) (p := 0) (by omega) (by omega)).trans v00, (sq_0 T N (u := 0) (p := 1) (by omega) (by omega)).trans v01, (sq_0 T N (u := 0) (p := 2) (by omega) (by omega)).trans v02⟩, ⟨(sq_0 T N (u := 1) (p := 0) (by omega) (by omega)).trans v10, (sq_0 T N (u := 1) (p := 1) (by omega) (by omega)).trans v11, (sq_0 T N (u := 1) (p := 2) (by omega) (by omega)).trans v12⟩, z⟩
theorem A2.pn (h : A2 T l) {e : Nat} (hN : M2 N e) : ∀ i : Nat, i < 9 → M2 (PNn T N i) (8 - i) := by
  have h0 : M2 (PNn T N 0) 8 := by
    have v : ∀ u p : Int, 0 ≤ p → p < 5 → PNn T N 0 0 (5 * u + p) = alv T u p := fun u p p0 p5 => PN0_0 T N p0 p5
    refine ⟨⟨(v 0 0 (by omega) (by omega)).trans ?_, (v 0 1 (by omega) (by omega)).trans ?_, (v 0 2 (by omega) (by omega)).trans ?_⟩, ⟨(v 1 0 (by omega) (by omega)).trans ?_, (v 1 1 (by omega) (by omega)).trans ?_, (v 1 2 (by omega) (by omega)).trans ?_⟩, hN.2.2⟩
    all_goals simp [alv, h.1.2.2.1, h.2.1.1, h.2.1.2.2.2.1, ind]
  intro i hi
  match i, hi with
  | 0, _ => exact h0
  | 1, _ => exact h.s8 h0
  | 2, _ => exact h.s7 (h.s8 h0)
  | 3, _ => exact h.s6 (h.s7 (h.s8 h0))
  | 4, _ => exact h.s5 (h.s6 (h.s7 (h.s8 h0)))
  | 5, _ => exact h.s4 (h.s5 (h.s6 (h.s7 (h.s8 h0))))
  | 6, _ => exact h.s3 (h.s4 (h.s5 (h.s6 (h.s7 (h.s8 h0)))))
  | 7, _ => exact h.s2 (h.s3 (h.s4 (h.s5 (h.s6 (h.s7 (h.s8 h0))))))
  | 8, _ => exact h.s1 (h.s2 (h.s3 (h.s4 (h.s5 (h.s6 (h.s7 (h.s8 h0)))))))
theorem none_hc {H : Int → Bool} : ∀ m : Nat, (∀ i : Nat, i < m → H i = false) → hcN H m = 0 := by
  intro m
  induction m with
  | zero => intro _; rfl
  | succ m ih =>
    intro h
    show hcN H m + (if H m = true then 1 else 0) = 0
    rw [ih (fun i hi => h i (by omega)), h m (by omega)]; rfl
theorem A2.hc (h : A2 T l) {e : Nat} (hN : M2 N e) : hcT T N = 0 := by
  unfold hcT
  rw [h.np]
  refine none_hc _ (fun i hi => ?_)
  have hi9 : i < 9 := hi
  unfold svH
  rw [PN_n, decide_eq_true (h.st (by omega) (h.pn hN i hi9)).1]; rfl
theorem A2.no (h : A2 T l) {e : Nat} (hN : M2 N e) : aAll T N 1 = 0 ∧ aLost T N 1 = MINL := by
  unfold aAll aLost
  rw [h.np, h.hc hN]
  exact ⟨rfl, rfl⟩
theorem A2.mo (h : A2 T l) {e : Nat} (he : e < 9) (hN : M2 N e) (c : Int) : ∀ i : Nat, M2 (monN T i N c).1 (stN2 i e) := by
  intro i
  induction i with
  | zero => exact hN
  | succ i ih =>
    show M2 (moN T (monN T i N c).1 (monN T i N c).2) (stp (stN2 i e))
    generalize (monN T i N c).1 = M at ih
    generalize (monN T i N c).2 = d
    have s := h.st (stN9 he i) ih
    have e1 : moB T M d = nxt T M := by
      unfold moB moA
      rw [h.1.2.2.2, if_neg (by omega), ih.2.2.2.2.2.2.2, if_neg (by omega), if_pos s.1]
    unfold moN
    rw [e1]
    exact s.2
end TWO
section L2
variable {T : aH} {H : Int → aH} {IM N0 : aH} {σ : aS} {n l im K : Int}
theorem seg692 (hA : A2 T l) (h0 : M2 N0 8) (hS : CSt T (N0, H, 0, im, IM) σ) (hG : SG T K (N0, H, 0, im, IM)) : GQ (fun τ => CSt T (N0, H, 0, im, IM) τ) 741 [7, 1, 0, 1, n, l] σ (law_p692 6 0 1 n l σ) := by
  obtain ⟨r0, r2⟩ := hA.ring (by omega) h0
  obtain ⟨a1, a2⟩ := hA.no h0
  unfold law_p692
  refine GQ.p rfl ((c11_ring_q hS hG.1.1 hG.1.2.1 0).gq (x := 2) r0 (fun τ1 c1 => ?_))
  refine GQ.p rfl ((c11_ring_q c1 hG.1.1 hG.1.2.1 2).gq (x := 4) r2 (fun τ2 c2 => ?_))
  refine GQ.p rfl ((c11_all_q c2 hG.1.1 hG.1.2.1 1).gq (x := 0) a1 (fun τ3 c3 => ?_))
  refine GQ.p rfl ((c11_lost_q c3 hG.1.1 hG.1.2.1 1).gq (x := -9223372036854775808) a2 (fun τ4 c4 => ?_))
  exact GQ.p (acmp_0 rfl) (GQ.e c4)
theorem seg751 {m : Int} (m0 : 0 ≤ m) (m1 : m < 40) (hA : A2 T l) (h0 : M2 N0 8) (h3 : N0 3 1 = 0) (hS : CSt T (N0, H, 0, im, IM) σ) (hG : SG T 0 (N0, H, 0, im, IM)) : Gd 792 [0, 1, n, l] σ (law_p751 m 7 1 0 1 n l σ) := by
  have hB : TB T := by obtain ⟨pl, c, -⟩ := hS; exact c.2.2.2.2.2
  obtain ⟨k, rfl⟩ := Int.eq_ofNat_of_zero_le m0
  have G1 := hG.months hB (by omega) 7 k
  have hS1 : (sMonths T ((N0, H, 0, im, IM) : aSS) 7 k).1 = moK T N0 7 k ∧ (sMonths T ((N0, H, 0, im, IM) : aSS) 7 k).2.2.1 = if 0 < (k : Int) then 1 else 0 := by
    unfold sMonths
    rw [if_neg (by omega), if_pos (by omega)]
    by_cases c : 0 < (k : Int)
    · rw [if_pos c, if_pos c]; exact ⟨rfl, rfl⟩
    · rw [if_neg c, if_neg c]
      have : k = 0 := by omega
      subst this
      exact ⟨rfl, rfl⟩
  obtain ⟨e1, e2⟩ := hS1
  have hM : M2 (sMonths T ((N0, H, 0, im, IM) : aSS) 7 k).1 (stN2 k 8) := by
    rw [e1]
    have := hA.mo (by omega) h0 7 k
    unfold moK
    rw [Int.toNat_natCast]; exact this
  unfold law_p751
  refine (c11_months_q hS hG.1.1 hG.1.2.1 (c := 7) (m := k) (by omega) (show N0 3 1 + 240 ≤ 130000 by rw [h3]; omega)).g (x := k) ?_ (fun τ1 c1 => ?_)
  · unfold aMonths
    rw [if_neg (by omega), if_pos (by omega)]
    show N0 3 1 + _ = _
    rw [h3]; omega
  generalize sMonths T ((N0, H, 0, im, IM) : aSS) 7 k = S1 at G1 e1 e2 hM c1
  refine (c11_ring_q c1 G1.1.1 G1.1.2.1 0).g (x := 2) (hA.ring (stN9 (by omega) k) hM).1 (fun τ2 c2 => ?_)
  refine Gd.p rfl ((c11_tied_q c2).g (x := 0) hM.2.2.2.2.2.2.2 (fun τ3 c3 => ?_))
  refine Gd.p rfl ((c11_undo_q c3).g (x := if 0 < (k : Int) then 0 else -1) ?_ (fun τ4 c4 => ?_))
  · unfold aUndo
    rw [e2]
    by_cases c : 0 < (k : Int)
    · rw [if_pos c, if_neg (by omega), if_pos c]; rfl
    · rw [if_neg c, if_pos rfl, if_neg c]
  · unfold law_p786
    by_cases c : 0 < (k : Int)
    · rw [if_pos c, if_pos c, if_pos rfl]; exact Gd.e c4
    · rw [if_neg c, if_neg c, if_pos rfl]; exact Gd.e c4
end L2
