/-! the class's half of whole's part of this name -/
def sgn (w : Int) : Prop := w = 3042 ∨ w = 3043 ∨ w = 3045 ∨ w = 3047
/-- what may wait: behind a value no minus of one value lies open -/
def wfW : Bool → List Int → Prop
  | _, [] => True
  | o, w :: W => (o = true ∧ w = 2000 ∧ wfW true W) ∨ (sgn w ∧ wfW false W) ∨ (w = 40 ∧ wfW true W)
def cnb : List Int → Int
  | [] => 0
  | w :: W => (if w = 40 then 0 else 1) + cnb W
def cbr : List Int → Int
  | [] => 0
  | w :: W => (if w = 40 then 1 else 0) + cbr W
theorem cnb_0 : ∀ W : List Int, 0 ≤ cnb W ∧ 0 ≤ cbr W ∧ (W.length : Int) = cnb W + cbr W := by
  intro W
  induction W with
  | nil => exact ⟨Int.le_refl _, Int.le_refl _, rfl⟩
  | cons w W ih =>
    have hl : ((w :: W).length : Int) = W.length + 1 := by simp
    have e1 : cnb (w :: W) = (if w = 40 then 0 else 1) + cnb W := rfl
    have e2 : cbr (w :: W) = (if w = 40 then 1 else 0) + cbr W := rfl
    rw [e1, e2]
    by_cases c : w = 40
    · rw [if_pos c, if_pos c]; omega
    · rw [if_neg c, if_neg c]; omega
/-- steps written: what is kept -/
def WK (T U : aH) : Prop := T 24 0 ≤ U 24 0 ∧ (∀ k, 0 ≤ k → k < U 24 0 → stk1 (U 8 k)) ∧ ∀ a i, a ≠ 8 → a ≠ 24 → U a i = T a i
theorem WK.tr {T U V : aH} (h : WK T U) (h2 : WK U V) : WK T V := ⟨Int.le_trans h.1 h2.1, h2.2.1, fun a i a0 a1 => by rw [h2.2.2 a i a0 a1, h.2.2 a i a0 a1]⟩
theorem wrT_K {T : aH} {v : Int} (h0 : 0 ≤ T 24 0) (h : T 24 0 < 64) (hs : stk1 v) (hk : ∀ k, 0 ≤ k → k < T 24 0 → stk1 (T 8 k)) : WK T (wrT T v) ∧ wrT T v 24 0 = T 24 0 + 1 := by
  have v0 : 0 ≤ v := by unfold stk1 at hs; omega
  unfold wrT
  rw [if_pos ⟨h, v0⟩]
  refine ⟨⟨by rw [stv_s]; omega, fun k k0 k1 => ?_, fun a i a0 a1 => by rw [stv_x a1, stv_x a0]⟩, stv_s _ _ _ _⟩
  rw [stv_s] at k1
  rw [stv_x (by omega)]
  by_cases q : k = T 24 0
  · rw [q, stv_s]; exact hs
  · rw [stv_j q]; exact hk k k0 (by omega)
theorem WK.rf {T : aH} (hk : ∀ k, 0 ≤ k → k < T 24 0 → stk1 (T 8 k)) : WK T T := ⟨Int.le_refl _, hk, fun _ _ _ _ => rfl⟩
theorem flN_I : ∀ (W : List Int) (T : aH), wfW true W → 0 ≤ T 24 0 → T 24 0 + cnb W = T 0 4 → T 0 4 ≤ 64 → (∀ k, 0 ≤ k → k < T 24 0 → stk1 (T 8 k)) →
    wfW false (flN W T).1 ∧ cbr (flN W T).1 = cbr W ∧ WK T (flN W T).2 ∧ (flN W T).2 24 0 + cnb (flN W T).1 = T 0 4 := by
  intro W
  induction W with
  | nil => intro T _ _ hc _ hk; exact ⟨trivial, rfl, WK.rf hk, hc⟩
  | cons w W ih =>
    intro T hw h0 hc h64 hk
    have c0 := cnb_0 W
    by_cases c : w = 2000
    · subst c
      have e1 : cnb (2000 :: W) = 1 + cnb W := rfl
      have e2 : cbr (2000 :: W) = 0 + cbr W := rfl
      rw [flN_s]
      obtain ⟨k1, k2⟩ := wrT_K (v := 2000) h0 (by omega) (by unfold stk1; omega) hk
      have hw2 : wfW true W := by
        rcases hw with h | h | h
        · exact h.2.2
        · exact absurd h.1 (by unfold sgn; omega)
        · exact absurd h.1 (by omega)
      obtain ⟨a1, a2, a3, a4⟩ := ih (wrT T 2000) hw2 (by omega) (by rw [k1.2.2 0 4 (by omega) (by omega)]; omega) (by rw [k1.2.2 0 4 (by omega) (by omega)]; exact h64) k1.2.1
      exact ⟨a1, by rw [a2, e2]; omega, k1.tr a3, by rw [a4, k1.2.2 0 4 (by omega) (by omega)]⟩
    · rw [flN_n c]
      refine ⟨?_, rfl, WK.rf hk, hc⟩
      rcases hw with h | h | h
      · exact absurd h.2.1 c
      · exact Or.inr (Or.inl h)
      · exact Or.inr (Or.inr h)
theorem flW_I {r : Int} (r1 : 1 ≤ r) : ∀ (W : List Int) (T : aH), wfW false W → 0 ≤ T 24 0 → T 24 0 + cnb W = T 0 4 → T 0 4 ≤ 64 → (∀ k, 0 ≤ k → k < T 24 0 → stk1 (T 8 k)) →
    wfW false (flW r W T).1 ∧ cbr (flW r W T).1 = cbr W ∧ WK T (flW r W T).2 ∧ (flW r W T).2 24 0 + cnb (flW r W T).1 = T 0 4 ∧ (r = 1 → (flW r W T).1 = [] ∨ ∃ V, (flW r W T).1 = 40 :: V ∧ wfW true V) := by
  intro W
  induction W with
  | nil => intro T _ _ hc _ hk; exact ⟨trivial, rfl, WK.rf hk, hc, fun _ => Or.inl rfl⟩
  | cons w W ih =>
    intro T hw h0 hc h64 hk
    have c0 := cnb_0 W
    by_cases c : stg w < r
    · rw [flW_n c]
      refine ⟨hw, rfl, WK.rf hk, hc, fun hr => Or.inr ?_⟩
      rcases hw with h | h | h
      · exact absurd h.1 (by decide)
      · exfalso
        have hs := h.1
        unfold sgn at hs
        unfold stg at c
        rcases hs with rfl | rfl | rfl | rfl <;> simp at c <;> omega
      · exact ⟨W, by rw [h.1], h.2⟩
    · have hs : sgn w ∧ wfW false W := by
        rcases hw with h | h | h
        · exact absurd h.1 (by decide)
        · exact h
        · exfalso
          rw [h.1] at c
          exact c (by show (0 : Int) < r; omega)
      have w40 : w ≠ 40 := by have := hs.1; unfold sgn at this; omega
      have e1 : cnb (w :: W) = 1 + cnb W := by show (if w = 40 then 0 else 1) + cnb W = _; rw [if_neg w40]
      have e2 : cbr (w :: W) = 0 + cbr W := by show (if w = 40 then 1 else 0) + cbr W = _; rw [if_neg w40]
      rw [flW_s c]
      obtain ⟨k1, k2⟩ := wrT_K (v := w) h0 (by omega) (by have := hs.1; unfold sgn at this; unfold stk1; omega) hk
      obtain ⟨a1, a2, a3, a4, a5⟩ := ih (wrT T w) hs.2 (by omega) (by rw [k1.2.2 0 4 (by omega) (by omega)]; omega) (by rw [k1.2.2 0 4 (by omega) (by omega)]; exact h64) k1.2.1
      exact ⟨a1, by rw [a2, e2]; omega, k1.tr a3, by rw [a4, k1.2.2 0 4 (by omega) (by omega)], a5⟩
/-- .. also where one is counted that isn't yet written -/
theorem flW_K {r : Int} (r1 : 1 ≤ r) : ∀ (W : List Int) (T : aH), wfW false W → 0 ≤ T 24 0 → T 24 0 + cnb W ≤ T 0 4 → T 0 4 ≤ 64 → (∀ k, 0 ≤ k → k < T 24 0 → stk1 (T 8 k)) →
    wfW false (flW r W T).1 ∧ cbr (flW r W T).1 = cbr W ∧ WK T (flW r W T).2 ∧ (flW r W T).2 24 0 + cnb (flW r W T).1 = T 24 0 + cnb W := by
  intro W
  induction W with
  | nil => intro T _ _ hc _ hk; exact ⟨trivial, rfl, WK.rf hk, rfl⟩
  | cons w W ih =>
    intro T hw h0 hc h64 hk
    have c0 := cnb_0 W
    by_cases c : stg w < r
    · rw [flW_n c]
      exact ⟨hw, rfl, WK.rf hk, rfl⟩
    · have hs : sgn w ∧ wfW false W := by
        rcases hw with h | h | h
        · exact absurd h.1 (by decide)
        · exact h
        · exfalso
          rw [h.1] at c
          exact c (by show (0 : Int) < r; omega)
      have w40 : w ≠ 40 := by have := hs.1; unfold sgn at this; omega
      have e1 : cnb (w :: W) = 1 + cnb W := by show (if w = 40 then 0 else 1) + cnb W = _; rw [if_neg w40]
      have e2 : cbr (w :: W) = 0 + cbr W := by show (if w = 40 then 1 else 0) + cbr W = _; rw [if_neg w40]
      rw [flW_s c]
      obtain ⟨k1, k2⟩ := wrT_K (v := w) h0 (by omega) (by have := hs.1; unfold sgn at this; unfold stk1; omega) hk
      obtain ⟨a1, a2, a3, a4⟩ := ih (wrT T w) hs.2 (by omega) (by rw [k1.2.2 0 4 (by omega) (by omega)]; omega) (by rw [k1.2.2 0 4 (by omega) (by omega)]; exact h64) k1.2.1
      exact ⟨a1, by rw [a2, e2]; omega, k1.tr a3, by rw [a4, k2]; omega⟩
/-- while a rule is read that began with s steps written -/
def RIv (s o : Int) (W : List Int) (op : Int) (T : aH) : Prop :=
  (o = 0 ∨ o = 1) ∧ wfW (decide (o = 1)) W ∧ cbr W = op ∧ op ≤ 8 ∧ T 24 0 + cnb W = T 0 4 ∧ T 0 4 ≤ 64 ∧ (0 ≤ s ∧ s ≤ T 24 0) ∧ (∀ k, 0 ≤ k → k < T 24 0 → stk1 (T 8 k)) ∧ (o = 0 → s < T 24 0)
theorem nxp_p {b : Int → Int} {n P : Int} (h0 : 0 ≤ P) (h : P ≤ n) : P ≤ nxp b n P ∧ nxp b n P ≤ n := by
  by_cases c : P < n
  · have := nxp_bd b c; omega
  · unfold nxp; rw [if_neg c]; omega
theorem kd_lt {b : Int → Int} {n P : Int} (h : kd b n P ≠ 0) : P < n := by
  by_cases c : P < n
  · exact c
  · exact absurd (if_neg c) h
theorem nxp_k {b : Int → Int} {n P : Int} {k : Nat} (h : kd b n P ≠ 0) (h2 : n - P < ((k + 1 : Nat) : Int)) : nxp b n P ≤ n ∧ n - nxp b n P < (k : Int) ∧ P < nxp b n P := by
  have := nxp_bd b (kd_lt h)
  omega
theorem kntT_x {T : aH} {a i : Int} (h : a ≠ 0 ∨ i ≠ 4) : kntT T a i = T a i := by
  unfold kntT
  by_cases c : a = 0
  · rw [c, stv_j (by omega)]
  · exact stv_x c _
theorem pushW_p {W : List Int} {v : Int} (h : (W.length : Int) < 72) : pushW W v = v :: W := if_pos (by omega)
/-- a value written: on behind it -/
theorem RIv.leaf {s : Int} {W : List Int} {op : Int} {T : aH} (h : RIv s 1 W op T) (hk : ¬ 64 ≤ T 0 4) {v : Int} (hv : 0 ≤ v ∧ v ≤ 1004) : RIv s 0 (flN W (wrT (kntT T) v)).1 op (flN W (wrT (kntT T) v)).2 ∧ ∀ a i, a ≠ 8 → a ≠ 24 → (a ≠ 0 ∨ i ≠ 4) → (flN W (wrT (kntT T) v)).2 a i = T a i := by
  obtain ⟨-, hw, hb, ho, hc, h64, hs, hst, -⟩ := h
  have c0 := cnb_0 W
  have e24 : kntT T 24 0 = T 24 0 := kntT_x (by omega)
  have e8 : ∀ k, kntT T 8 k = T 8 k := fun k => kntT_x (by omega)
  obtain ⟨k1, k2⟩ := wrT_K (T := kntT T) (v := v) (by omega) (by omega) (Or.inl hv) (fun k k0 k1 => by rw [e8]; exact hst k k0 (by omega))
  have e4 : wrT (kntT T) v 0 4 = T 0 4 + 1 := by rw [k1.2.2 0 4 (by omega) (by omega)]; exact kntT_4
  obtain ⟨a1, a2, a3, a4⟩ := flN_I W (wrT (kntT T) v) hw (by omega) (by omega) (by omega) k1.2.1
  have e5 := a3.2.2 0 4 (by omega) (by omega)
  have a0 := a3.1
  refine ⟨⟨Or.inl rfl, a1, by rw [a2]; exact hb, ho, by omega, by omega, by omega, a3.2.1, fun _ => by omega⟩, fun a i n8 n24 n04 => by rw [a3.2.2 a i n8 n24, k1.2.2 a i n8 n24, kntT_x n04]⟩
theorem RIv.sign {s : Int} {W : List Int} {op : Int} {T : aH} (h : RIv s 0 W op T) (hk : ¬ 64 ≤ T 0 4) {r v : Int} (r1 : 1 ≤ r) (hv : sgn v) : RIv s 1 (pushW (flW r W (kntT T)).1 v) op (flW r W (kntT T)).2 ∧ ∀ a i, a ≠ 8 → a ≠ 24 → (a ≠ 0 ∨ i ≠ 4) → (flW r W (kntT T)).2 a i = T a i := by
  obtain ⟨-, hw, hb, ho, hc, h64, hs, hst, hs0⟩ := h
  have c0 := cnb_0 W
  have e24 : kntT T 24 0 = T 24 0 := kntT_x (by omega)
  have e8 : ∀ k, kntT T 8 k = T 8 k := fun k => kntT_x (by omega)
  have e4 : kntT T 0 4 = T 0 4 + 1 := kntT_4
  have hs0 := hs0 rfl
  obtain ⟨a1, a2, a3, a4⟩ := flW_K r1 W (kntT T) hw (by omega) (by omega) (by omega) (fun k k0 k1 => by rw [e8]; exact hst k k0 (by omega))
  have a0 := a3.1
  have e5 := a3.2.2 0 4 (by omega) (by omega)
  have c1 := cnb_0 (flW r W (kntT T)).1
  rw [pushW_p (by omega)]
  have v40 : v ≠ 40 := by unfold sgn at hv; omega
  have e1 : cnb (v :: (flW r W (kntT T)).1) = 1 + cnb (flW r W (kntT T)).1 := by show (if v = 40 then 0 else 1) + _ = _; rw [if_neg v40]
  have e2 : cbr (v :: (flW r W (kntT T)).1) = 0 + cbr (flW r W (kntT T)).1 := by show (if v = 40 then 1 else 0) + _ = _; rw [if_neg v40]
  exact ⟨⟨Or.inr rfl, Or.inr (Or.inl ⟨hv, a1⟩), by omega, ho, by omega, by omega, by omega, a3.2.1, fun q => by omega⟩, fun a i n8 n24 n04 => by rw [a3.2.2 a i n8 n24, kntT_x n04]⟩
/-- a bracket opened, a minus held -/
theorem RIv.open1 {s : Int} {W : List Int} {op : Int} {T : aH} (h : RIv s 1 W op T) (ho : ¬ 8 ≤ op) : RIv s 1 (pushW W 40) (op + 1) T := by
  obtain ⟨-, hw, hb, _, hc, h64, hs, hst, -⟩ := h
  have c0 := cnb_0 W
  rw [pushW_p (by omega)]
  exact ⟨Or.inr rfl, Or.inr (Or.inr ⟨rfl, hw⟩), by show (1 : Int) + cbr W = _; omega, by omega, by show T 24 0 + (0 + cnb W) = _; omega, h64, hs, hst, fun q => by omega⟩
theorem RIv.neg {s : Int} {W : List Int} {op : Int} {T : aH} (h : RIv s 1 W op T) (hk : ¬ 64 ≤ T 0 4) : RIv s 1 (pushW W 2000) op (kntT T) := by
  obtain ⟨-, hw, hb, ho, hc, h64, hs, hst, -⟩ := h
  have c0 := cnb_0 W
  have e24 : kntT T 24 0 = T 24 0 := kntT_x (by omega)
  have e4 : kntT T 0 4 = T 0 4 + 1 := kntT_4
  rw [pushW_p (by omega)]
  exact ⟨Or.inr rfl, Or.inl ⟨rfl, rfl, hw⟩, by show (0 : Int) + cbr W = _; omega, ho, by show kntT T 24 0 + (1 + cnb W) = _; omega, by omega, by omega, fun k k0 k1 => by rw [kntT_x (by omega)]; exact hst k k0 (by omega), fun q => by omega⟩
theorem RIv.clos {s : Int} {W : List Int} {op : Int} {T : aH} (h : RIv s 0 W op T) (ho : 0 < op) : RIv s 0 (flN (clW (flW 1 W T).1) (flW 1 W T).2).1 (op - 1) (flN (clW (flW 1 W T).1) (flW 1 W T).2).2 ∧ ∀ a i, a ≠ 8 → a ≠ 24 → (flN (clW (flW 1 W T).1) (flW 1 W T).2).2 a i = T a i := by
  obtain ⟨-, hw, hb, ho8, hc, h64, hs, hst, hs0⟩ := h
  have hs0 := hs0 rfl
  obtain ⟨a1, a2, a3, a4, a5⟩ := flW_I (Int.le_refl 1) W T hw (by omega) hc h64 hst
  have e4 := a3.2.2 0 4 (by omega) (by omega)
  have a0 := a3.1
  rcases a5 rfl with q | ⟨V, q, hV⟩
  · rw [q] at a2; exact absurd (show (0 : Int) = cbr W from a2) (by omega)
  · rw [q] at a2 a4 ⊢
    have e1 : cnb (40 :: V) = 0 + cnb V := rfl
    have e2 : cbr (40 :: V) = 1 + cbr V := rfl
    show RIv s 0 (flN V (flW 1 W T).2).1 (op - 1) (flN V (flW 1 W T).2).2 ∧ ∀ a i, a ≠ 8 → a ≠ 24 → (flN V (flW 1 W T).2).2 a i = T a i
    obtain ⟨b1, b2, b3, b4⟩ := flN_I V (flW 1 W T).2 hV (by omega) (by omega) (by omega) a3.2.1
    have e5 := b3.2.2 0 4 (by omega) (by omega)
    have b0 := b3.1
    exact ⟨⟨Or.inl rfl, b1, by omega, by omega, by omega, by omega, by omega, b3.2.1, fun _ => by omega⟩, fun a i n8 n24 => by rw [b3.2.2 a i n8 n24, a3.2.2 a i n8 n24]⟩
theorem rlE_I {b : Int → Int} {n s : Int} : ∀ (k : Nat) (o : Int) (W : List Int) (op P : Int) (T : aH), RIv s o W op T → 0 ≤ P → P ≤ n → n - P < (k : Int) → (rlE b n k o W op P T).1 = 0 →
    (rlE b n k o W op P T).2.2 24 0 = (rlE b n k o W op P T).2.2 0 4 ∧ (rlE b n k o W op P T).2.2 0 4 ≤ 64 ∧ s < (rlE b n k o W op P T).2.2 24 0 ∧ (∀ j, 0 ≤ j → j < (rlE b n k o W op P T).2.2 24 0 → stk1 ((rlE b n k o W op P T).2.2 8 j)) ∧
    (∀ a i, a ≠ 8 → a ≠ 24 → (a ≠ 0 ∨ i ≠ 4) → (rlE b n k o W op P T).2.2 a i = T a i) ∧ (P ≤ (rlE b n k o W op P T).2.1 ∧ (rlE b n k o W op P T).2.1 ≤ n) := by
  intro k
  induction k with
  | zero => intro o W op P T _ _ h2 h3 _; exact absurd h3 (by omega)
  | succ k ih =>
    intro o W op P T hI p0 p1 hk hz
    have on : ∀ {o' : Int} {W' : List Int} {op' : Int} {T' : aH}, RIv s o' W' op' T' → kd b n P ≠ 0 → (∀ a i, a ≠ 8 → a ≠ 24 → (a ≠ 0 ∨ i ≠ 4) → T' a i = T a i) → (rlE b n k o' W' op' (nxp b n P) T').1 = 0 →
        (rlE b n k o' W' op' (nxp b n P) T').2.2 24 0 = (rlE b n k o' W' op' (nxp b n P) T').2.2 0 4 ∧ (rlE b n k o' W' op' (nxp b n P) T').2.2 0 4 ≤ 64 ∧ s < (rlE b n k o' W' op' (nxp b n P) T').2.2 24 0 ∧ (∀ j, 0 ≤ j → j < (rlE b n k o' W' op' (nxp b n P) T').2.2 24 0 → stk1 ((rlE b n k o' W' op' (nxp b n P) T').2.2 8 j)) ∧
        (∀ a i, a ≠ 8 → a ≠ 24 → (a ≠ 0 ∨ i ≠ 4) → (rlE b n k o' W' op' (nxp b n P) T').2.2 a i = T a i) ∧ (P ≤ (rlE b n k o' W' op' (nxp b n P) T').2.1 ∧ (rlE b n k o' W' op' (nxp b n P) T').2.1 ≤ n) := by
      intro o' W' op' T' hI' hk0 hx hz'
      have nk := nxp_k hk0 hk
      obtain ⟨a1, a2, a3, a4, a5, a6⟩ := ih o' W' op' (nxp b n P) T' hI' (by omega) nk.1 nk.2.1 hz'
      exact ⟨a1, a2, a3, a4, fun a i n8 n24 n04 => by rw [a5 a i n8 n24 n04, hx a i n8 n24 n04], by omega⟩
    rw [rlE_s] at hz ⊢
    rcases hI.1 with rfl | rfl
    · rw [if_pos rfl] at hz ⊢
      by_cases c41 : kd b n P = 41 ∧ 0 < op
      · rw [if_pos c41] at hz ⊢
        obtain ⟨h1, h2⟩ := hI.clos c41.2
        exact on h1 (by omega) (fun a i n8 n24 _ => h2 a i n8 n24) hz
      · rw [if_neg c41] at hz ⊢
        by_cases cs : isS (kd b n P)
        · rw [if_pos cs] at hz ⊢
          by_cases c64 : 64 ≤ T 0 4
          · rw [if_pos c64] at hz; exact absurd (show (2 : Int) = 0 from hz) (by decide)
          · rw [if_neg c64] at hz ⊢
            obtain ⟨h1, h2⟩ := hI.sign c64 (r := sStr (kd b n P)) (v := 3000 + kd b n P) (by unfold sStr; split <;> omega) (by unfold isS at cs; unfold sgn; omega)
            exact on h1 (by unfold isS at cs; omega) h2 hz
        · rw [if_neg cs] at hz ⊢
          unfold endR at hz ⊢
          by_cases c0 : 0 < op
          · rw [if_pos c0] at hz; exact absurd (show (1 : Int) = 0 from hz) (by decide)
          · rw [if_neg c0]
            obtain ⟨-, hw, hb, ho8, hc, h64, hs, hst, hs0⟩ := hI
            have hs0 := hs0 rfl
            obtain ⟨a1, a2, a3, a4, a5⟩ := flW_I (Int.le_refl 1) W T hw (by omega) hc h64 hst
            have e4 := a3.2.2 0 4 (by omega) (by omega)
            have a0 := a3.1
            have cn : cnb (flW 1 W T).1 = 0 := by
              rcases a5 rfl with q | ⟨V, q, hV⟩
              · rw [q]; rfl
              · rw [q] at a2
                have e2 : cbr (40 :: V) = 1 + cbr V := rfl
                have := cnb_0 V
                omega
            exact ⟨by show (flW 1 W T).2 24 0 = (flW 1 W T).2 0 4; omega, by show (flW 1 W T).2 0 4 ≤ 64; omega, by show s < (flW 1 W T).2 24 0; omega, a3.2.1, fun a i n8 n24 _ => a3.2.2 a i n8 n24, by show P ≤ P ∧ P ≤ n; omega⟩
    · rw [if_neg (show ¬ (1 : Int) = 0 by omega)] at hz ⊢
      by_cases c2 : kd b n P = 2
      · rw [if_pos c2] at hz ⊢
        by_cases c64 : 64 ≤ T 0 4
        · rw [if_pos c64] at hz; exact absurd (show (2 : Int) = 0 from hz) (by decide)
        · rw [if_neg c64] at hz ⊢
          by_cases d : pNum b n 0 999 P = 0
          · rw [if_neg (fun q => q d)] at hz ⊢
            have hv := pNum_bd d
            obtain ⟨h1, h2⟩ := hI.leaf c64 (v := vlt b n P) (by omega)
            exact on h1 (by omega) h2 hz
          · rw [if_pos d] at hz; exact absurd hz d
      · rw [if_neg c2] at hz ⊢
        by_cases cn : 111 ≤ kd b n P ∧ kd b n P ≤ 115
        · rw [if_pos cn] at hz ⊢
          by_cases c64 : 64 ≤ T 0 4
          · rw [if_pos c64] at hz; exact absurd (show (2 : Int) = 0 from hz) (by decide)
          · rw [if_neg c64] at hz ⊢
            obtain ⟨h1, h2⟩ := hI.leaf c64 (v := 1000 + kd b n P - 111) (by omega)
            exact on h1 (by omega) h2 hz
        · rw [if_neg cn] at hz ⊢
          by_cases c45 : kd b n P = 45
          · rw [if_pos c45] at hz ⊢
            by_cases c64 : 64 ≤ T 0 4
            · rw [if_pos c64] at hz; exact absurd (show (2 : Int) = 0 from hz) (by decide)
            · rw [if_neg c64] at hz ⊢
              exact on (hI.neg c64) (by omega) (fun a i _ _ n04 => kntT_x n04) hz
          · rw [if_neg c45] at hz ⊢
            by_cases c40 : kd b n P = 40
            · rw [if_pos c40] at hz ⊢
              by_cases c8 : 8 ≤ op
              · rw [if_pos c8] at hz; exact absurd (show (2 : Int) = 0 from hz) (by decide)
              · rw [if_neg c8] at hz ⊢
                exact on (hI.open1 c8) (by omega) (fun a i _ _ _ => rfl) hz
            · rw [if_neg c40] at hz; exact absurd (show (1 : Int) = 0 from hz) (by decide)
