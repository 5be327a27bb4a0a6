/-! the reference reads rules: what waits, what is held, the nodes -/
def wcd (w : Int) : Int := if w = 40 then 0 else if w = 2000 then 2 else if w = 3043 then 3 else if w = 3045 then 4 else if w = 3042 then 5 else 6
def rnk (w : Int) : Int := if w = 40 then 0 else if w = 2000 then 3 else if w = 3043 then 1 else if w = 3045 then 1 else 2
def WTk (a : Int → Int) : List Int → Prop
  | [] => True
  | w :: W => a W.length = wcd w ∧ WTk a W
theorem WTk.cg {a a' : Int → Int} : ∀ {W : List Int}, WTk a W → (∀ j, 0 ≤ j → j < W.length → a' j = a j) → WTk a' W := by
  intro W
  induction W with
  | nil => intro _ _; trivial
  | cons w W ih =>
    intro h g
    have hl : ((w :: W).length : Int) = W.length + 1 := by simp
    exact ⟨by rw [g _ (by omega) (by omega)]; exact h.1, ih h.2 (fun j j0 j1 => g j j0 (by omega))⟩
def nbs : List Int → Int
  | [] => 0
  | w :: W => (if w = 40 ∨ w = 2000 then 0 else 1) + nbs W
theorem nbs_0 : ∀ W : List Int, 0 ≤ nbs W ∧ nbs W ≤ W.length := by
  intro W
  induction W with
  | nil => exact ⟨Int.le_refl _, Int.le_refl _⟩
  | cons w W ih =>
    have hl : ((w :: W).length : Int) = W.length + 1 := by simp
    have e1 : nbs (w :: W) = (if w = 40 ∨ w = 2000 then 0 else 1) + nbs W := rfl
    rw [e1]
    split <;> omega
def flR (r : Int) : List Int → aH → List Int × aH
  | [], T => ([], T)
  | w :: W, T => if rnk w < r then (w :: W, T) else flR r W (wrT T w)
theorem flR_s {r w : Int} {W : List Int} {T : aH} (h : ¬ rnk w < r) : flR r (w :: W) T = flR r W (wrT T w) := if_neg h
theorem flR_n {r w : Int} {W : List Int} {T : aH} (h : rnk w < r) : flR r (w :: W) T = (w :: W, T) := if_pos h
theorem sgn_rk {w : Int} (h : sgn w) : rnk w = stg w := by unfold sgn at h; rcases h with rfl | rfl | rfl | rfl <;> rfl
theorem flR_W {r : Int} (r1 : 1 ≤ r) : ∀ (W : List Int) (T : aH), wfW false W → flR r W T = flW r W T := by
  intro W
  induction W with
  | nil => intro T _; rfl
  | cons w W ih =>
    intro T hw
    rcases hw with h | h | h
    · exact absurd h.1 (by decide)
    · by_cases c : stg w < r
      · rw [flW_n c, flR_n (by rw [sgn_rk h.1]; exact c)]
      · rw [flW_s c, flR_s (by rw [sgn_rk h.1]; exact c)]; exact ih _ h.2
    · rw [h.1, flW_n (show stg 40 < r by show (0 : Int) < r; omega), flR_n (show rnk 40 < r by show (0 : Int) < r; omega)]
/-- the reference's binding takes what the class wrote before -/
theorem flR_N {r : Int} (r1 : 1 ≤ r) (r2 : r ≤ 2) : ∀ (W : List Int) (T : aH), wfW true W → flR r W T = flW r (flN W T).1 (flN W T).2 := by
  intro W
  induction W with
  | nil => intro T _; rfl
  | cons w W ih =>
    intro T hw
    by_cases c : w = 2000
    · subst c
      have hw2 : wfW true W := by
        rcases hw with h | h | h
        · exact h.2.2
        · exact absurd h.1 (by unfold sgn; omega)
        · exact absurd h.1 (by omega)
      rw [flN_s, flR_s (show ¬ rnk 2000 < r by show ¬ (3 : Int) < r; omega)]
      exact ih _ hw2
    · rw [flN_n c]
      refine flR_W r1 (w :: W) T ?_
      rcases hw with h | h | h
      · exact absurd h.2.1 c
      · exact Or.inr (Or.inl h)
      · exact Or.inr (Or.inr h)
def HD (S : List Int) (σ : aS) : Prop := aget σ 130 47 = S.length ∧ WTl (aget σ 154) S
def ND (s : Int) (S : List Int) (T : aH) (σ : aS) : Prop := ∃ stk : Int → List Int, stk s = [] ∧ stk (T 24 0) = S ∧ ∀ k, s ≤ k → k < T 24 0 → nod T (fun k => aget σ 150 (64 + k)) (fun k => aget σ 151 (64 + k)) (fun k => aget σ 152 (64 + k)) stk k
/-- what reading a rule changes, tokens aside -/
def wsr (s x j : Int) : Prop := (x = 130 ∧ (j = 23 ∨ (46 ≤ j ∧ j ≤ 50))) ∨ ((150 ≤ x ∧ x ≤ 152) ∧ 64 + s ≤ j) ∨ x = 153 ∨ x = 154
theorem wsr_r {s : Int} (s0 : 0 ≤ s) {σ τ : aS} (hF : Fp (wsr s) σ τ) : Fp wrr σ τ := hF.mono (fun x j q => by unfold wsr at q; unfold wrr; omega)
theorem TKr.sr {b : Int → Int} {n P s : Int} {σ τ : aS} (h : TKr b n P σ) (s0 : 0 ≤ s) (hF : Fp (wsr s) σ τ) : TKr b n P τ := h.pf hF (fun x j q => by unfold wsr at q; unfold wrr; omega) (fun x j q => by unfold wsr at q; unfold wkt; omega)
theorem ND.cg {s : Int} {S : List Int} {T : aH} {σ τ : aS} (h : ND s S T σ) (g : ∀ x j, 150 ≤ x → x ≤ 152 → 64 + s ≤ j → j < 64 + T 24 0 → aget τ x j = aget σ x j) : ND s S T τ := by
  obtain ⟨stk, h1, h2, h3⟩ := h
  refine ⟨stk, h1, h2, fun k ka kb => ?_⟩
  have := h3 k ka kb
  unfold nod at this ⊢
  dsimp only at this ⊢
  rw [g 150 _ (by omega) (by omega) (by omega) (by omega), g 151 _ (by omega) (by omega) (by omega) (by omega), g 152 _ (by omega) (by omega) (by omega) (by omega)]
  exact this
theorem HD.cg {S : List Int} {σ τ : aS} (h : HD S σ) (g : aget τ 130 47 = aget σ 130 47) (g2 : ∀ j, aget τ 154 j = aget σ 154 j) : HD S τ := ⟨g.trans h.1, h.2.cg (fun j _ _ => g2 j)⟩
theorem r_drop {a : Int} {S : List Int} {σ : aS} (hL : LR σ) (h : HD (a :: S) σ) (hS : (S.length : Int) < 96) :
    c12_dropHeld 130 σ = some (0, [a], aput σ 130 47 S.length) ∧ HD S (aput σ 130 47 S.length) ∧ LR (aput σ 130 47 S.length) ∧ Fp (fun x j => x = 130 ∧ j = 47) σ (aput σ 130 47 S.length) := by
  have hF : Fp (fun x j => x = 130 ∧ j = 47) σ (aput σ 130 47 S.length) := (Fp.rf _ _).put _ ⟨rfl, rfl⟩
  have L2 : LR (aput σ 130 47 S.length) := hL.rr hF (fun x j q => by unfold wrr; omega)
  have hl : ((a :: S).length : Int) = S.length + 1 := by simp
  have e47 : aget σ 130 47 = S.length + 1 := by rw [h.1, hl]
  have e154 : aget σ 154 S.length = a := h.2.1
  refine ⟨?_, ⟨ag_s _ _ _ _, h.2.2.cg (fun j _ _ => ag_x (by omega))⟩, L2, hF⟩
  unfold c12_dropHeld
  rw [e47, wq (x := (S.length : Int) + 1 - 1) (by omega) (by omega), show (S.length : Int) + 1 - 1 = S.length by omega, r_130_45 L2, n_154 L2, ag_s, ag_x (show (154 : Int) ≠ 130 by omega), e154]
  exact ite_n (by omega) (ite_p (by omega) rfl)
/-- the node that a step stands for -/
def nst (S0 S : List Int) (v k a b : Int) : Prop := (0 ≤ v ∧ v ≤ 999 ∧ k = 0 ∧ a = v ∧ S = S0) ∨ (1000 ≤ v ∧ v ≤ 1004 ∧ k = 1 ∧ a = v - 1000 ∧ S = S0) ∨ (v = 2000 ∧ k = 2 ∧ S0 = a :: S) ∨ (S0 = b :: a :: S ∧ ((v = 3043 ∧ k = 3) ∨ (v = 3045 ∧ k = 4) ∨ (v = 3042 ∧ k = 5) ∨ (v = 3047 ∧ k = 6)))
theorem wrT_p {T : aH} {v : Int} (h : T 24 0 < 64) (v0 : 0 ≤ v) : wrT T v = stv (stv T 8 (T 24 0) v) 24 0 (T 24 0 + 1) := by unfold wrT; rw [if_pos ⟨h, v0⟩]
theorem r_grown {s v k a b : Int} {S0 S : List Int} {T : aH} {σ : aS} (hL : LR σ) (hH : HD S σ) (hN : ND s S0 T σ) (e23 : aget σ 130 23 = T 24 0) (s0 : 0 ≤ s) (s1 : s ≤ T 24 0) (h64 : T 24 0 < 64) (hS : (S.length : Int) < 96) (hn : nst S0 S v k a b) :
    ∃ τ, c12_grown 130 k a b σ = some (0, [], τ) ∧ Fp (fun x j => (x = 130 ∧ (j = 23 ∨ j = 47)) ∨ ((150 ≤ x ∧ x ≤ 152) ∧ j = 64 + T 24 0) ∨ (x = 154 ∧ j = S.length)) σ τ ∧ LR τ ∧ HD (T 24 0 :: S) τ ∧ ND s (T 24 0 :: S) (wrT T v) τ ∧ aget τ 130 23 = wrT T v 24 0 ∧ wrT T v 24 0 = T 24 0 + 1 := by
  have v0 : 0 ≤ v := by unfold nst at hn; omega
  have ew : wrT T v = stv (stv T 8 (T 24 0) v) 24 0 (T 24 0 + 1) := wrT_p h64 v0
  have ew24 : wrT T v 24 0 = T 24 0 + 1 := by rw [ew, stv_s]
  rw [ew24]
  obtain ⟨a1, h1⟩ : ∃ a1, a1 = aput σ 150 (64 + T 24 0) k := ⟨_, rfl⟩
  have f1 : Fp (fun x j => x = 150 ∧ j = 64 + T 24 0) σ a1 := by rw [h1]; exact (Fp.rf _ _).put _ ⟨rfl, rfl⟩
  have L1 : LR a1 := hL.rr f1 (fun x j q => by unfold wrr; omega)
  obtain ⟨a2, h2⟩ : ∃ a2, a2 = aput a1 151 (64 + T 24 0) a := ⟨_, rfl⟩
  have f2 : Fp (fun x j => x = 151 ∧ j = 64 + T 24 0) a1 a2 := by rw [h2]; exact (Fp.rf _ _).put _ ⟨rfl, rfl⟩
  have L2 : LR a2 := L1.rr f2 (fun x j q => by unfold wrr; omega)
  obtain ⟨a3, h3⟩ : ∃ a3, a3 = aput a2 152 (64 + T 24 0) b := ⟨_, rfl⟩
  have f3 : Fp (fun x j => x = 152 ∧ j = 64 + T 24 0) a2 a3 := by rw [h3]; exact (Fp.rf _ _).put _ ⟨rfl, rfl⟩
  have L3 : LR a3 := L2.rr f3 (fun x j q => by unfold wrr; omega)
  obtain ⟨a4, h4⟩ : ∃ a4, a4 = aput a3 154 S.length (T 24 0) := ⟨_, rfl⟩
  have f4 : Fp (fun x j => x = 154 ∧ j = S.length) a3 a4 := by rw [h4]; exact (Fp.rf _ _).put _ ⟨rfl, rfl⟩
  obtain ⟨a5, h5⟩ : ∃ a5, a5 = aput a4 130 47 (S.length + 1) := ⟨_, rfl⟩
  have f5 : Fp (fun x j => x = 130 ∧ j = 47) a4 a5 := by rw [h5]; exact (Fp.rf _ _).put _ ⟨rfl, rfl⟩
  obtain ⟨a6, h6⟩ : ∃ a6, a6 = aput a5 130 23 (T 24 0 + 1) := ⟨_, rfl⟩
  have f6 : Fp (fun x j => x = 130 ∧ j = 23) a5 a6 := by rw [h6]; exact (Fp.rf _ _).put _ ⟨rfl, rfl⟩
  have q1 : aget a1 130 23 = T 24 0 := by rw [f1.g (by omega)]; exact e23
  have q2 : aget a2 130 23 = T 24 0 := by rw [f2.g (by omega)]; exact q1
  have q3 : aget a3 130 23 = T 24 0 := by rw [f3.g (by omega)]; exact q2
  have q5 : aget a5 130 23 = T 24 0 := by rw [f5.g (by omega), f4.g (by omega)]; exact q3
  have p3 : aget a3 130 47 = S.length := by rw [f3.g (by omega), f2.g (by omega), f1.g (by omega)]; exact hH.1
  have p4 : aget a4 130 47 = S.length := by rw [f4.g (by omega)]; exact p3
  have fA : Fp (fun x j => (x = 130 ∧ (j = 23 ∨ j = 47)) ∨ ((150 ≤ x ∧ x ≤ 152) ∧ j = 64 + T 24 0) ∨ (x = 154 ∧ j = S.length)) σ a6 := by
    have r : ∀ {P : Int → Int → Prop} {α β : aS}, (∀ x j, P x j → (x = 130 ∧ (j = 23 ∨ j = 47)) ∨ ((150 ≤ x ∧ x ≤ 152) ∧ j = 64 + T 24 0) ∨ (x = 154 ∧ j = S.length)) → Fp P α β → Fp (fun x j => (x = 130 ∧ (j = 23 ∨ j = 47)) ∨ ((150 ≤ x ∧ x ≤ 152) ∧ j = 64 + T 24 0) ∨ (x = 154 ∧ j = S.length)) α β := fun hP hF => hF.mono hP
    exact (r (fun x j q => by omega) f1).tr ((r (fun x j q => by omega) f2).tr ((r (fun x j q => by omega) f3).tr ((r (fun x j q => by omega) f4).tr ((r (fun x j q => by omega) f5).tr (r (fun x j q => by omega) f6)))))
  refine ⟨a6, ?_, fA, hL.rr fA (fun x j q => by unfold wrr; omega), ⟨?_, ?_, ?_⟩, ?_, by rw [h6, ag_s], rfl⟩
  · unfold c12_grown c12_grown_p39
    rw [r_130_41 hL, e23, wq (x := 64 + T 24 0) (by omega) (by omega), n_150 hL, ← h1, r_130_42 L1, q1, wq (x := 64 + T 24 0) (by omega) (by omega), n_151 L1, ← h2, r_130_43 L2, q2, wq (x := 64 + T 24 0) (by omega) (by omega), n_152 L2, ← h3, r_130_45 L3, q3, p3, n_154 L3, ← h4, p4, wq (x := (S.length : Int) + 1) (by omega) (by omega), ← h5, q5, wq (x := T 24 0 + 1) (by omega) (by omega), ← h6]
    exact ite_n (by omega) (ite_p (by omega) (ite_n (by omega) (ite_p (by omega) (ite_n (by omega) (ite_p (by omega) (ite_n (by omega) (ite_p (by omega) rfl)))))))
  · rw [f6.g (by omega), h5, ag_s]; simp
  · rw [f6.g (by omega), f5.g (by omega), h4, ag_s]
  · exact hH.2.cg (fun j j0 j1 => fA.g (by omega))
  · obtain ⟨stk, n1, n2, n3⟩ := hN
    refine ⟨fun i => if i = T 24 0 + 1 then T 24 0 :: S else stk i, by show (if s = T 24 0 + 1 then T 24 0 :: S else stk s) = []; rw [if_neg (by omega)]; exact n1, by rw [ew24]; exact if_pos rfl, fun i ia ib => ?_⟩
    rw [ew24] at ib
    have e8 : ∀ i, i ≠ T 24 0 → wrT T v 8 i = T 8 i := fun i hi => by rw [ew, stv_x (by omega), stv_j hi]
    have e8s : wrT T v 8 (T 24 0) = v := by rw [ew, stv_x (by omega), stv_s]
    by_cases c : i = T 24 0
    · have g0 : aget a6 150 (64 + T 24 0) = k := by rw [f6.g (by omega), f5.g (by omega), f4.g (by omega), f3.g (by omega), f2.g (by omega), h1, ag_s]
      have g1 : aget a6 151 (64 + T 24 0) = a := by rw [f6.g (by omega), f5.g (by omega), f4.g (by omega), f3.g (by omega), h2, ag_s]
      have g2 : aget a6 152 (64 + T 24 0) = b := by rw [f6.g (by omega), f5.g (by omega), f4.g (by omega), h3, ag_s]
      subst c
      unfold nod
      dsimp only
      rw [e8s, g0, g1, g2, if_neg (show ¬ T 24 0 = T 24 0 + 1 by omega), if_pos rfl, n2]
      rcases hn with ⟨c1, c2, c3, c4, c5⟩ | ⟨c1, c2, c3, c4, c5⟩ | ⟨c1, c2, c3⟩ | ⟨c1, c2⟩
      · exact Or.inl ⟨c1, c2, c3, c4, by rw [c5]⟩
      · exact Or.inr (Or.inl ⟨c1, c2, c3, c4, by rw [c5]⟩)
      · exact Or.inr (Or.inr (Or.inl ⟨c1, c2, a, S, c3, rfl, rfl⟩))
      · exact Or.inr (Or.inr (Or.inr ⟨b, a, S, c1, rfl, rfl, rfl, c2⟩))
    · have := n3 i ia (by omega)
      unfold nod at this ⊢
      dsimp only at this ⊢
      rw [e8 i c, fA.g (x := 150) (by omega), fA.g (x := 151) (by omega), fA.g (x := 152) (by omega), if_neg (show ¬ i = T 24 0 + 1 by omega), if_neg (show ¬ i + 1 = T 24 0 + 1 by omega)]
      exact this
