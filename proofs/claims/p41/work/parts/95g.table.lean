/-! the class's half of whole's part of this name -/
/-- what a cell of the plan (x from its first on) tells -/
def ctm (x j : Int) : Option (Int × Int) :=
  if x = 1 ∧ 0 ≤ j ∧ j < 3 then some (0, j) else
  if x = 0 ∧ j = 14 then some (0, 3) else
  if x = 7 ∧ j = 1 then some (0, 4) else
  if x = 0 ∧ j = 12 then some (0, 5) else
  if x = 0 ∧ j = 13 then some (22, 0) else
  if x = 7 ∧ j = 7 then some (24, 0) else
  if x = 2 ∧ 0 ≤ j ∧ j < 5 then some (1, j) else
  if x = 3 ∧ 0 ≤ j ∧ j < 20 then some (2, j) else
  if x = 4 ∧ 0 ≤ j ∧ j < 25 then some (3, j) else
  if x = 5 ∧ 0 ≤ j ∧ j < 25 then some (4, j) else
  if x = 6 ∧ 0 ≤ j ∧ j < 4 then some (5, j) else
  if x = 9 ∧ 0 ≤ j ∧ j < 64 then some (8, j) else
  if x = 10 ∧ 0 ≤ j ∧ j < 4 then some (9, j) else
  if x = 11 ∧ 0 ≤ j ∧ j < 4 then some (10, j) else
  if x = 19 ∧ 0 ≤ j ∧ j < 15 then some (11, j) else
  if x = 15 ∧ 0 ≤ j ∧ j < 4 then some (12, j) else
  if x = 16 ∧ 0 ≤ j ∧ j < 4 then some (13, j) else
  if x = 17 ∧ 0 ≤ j ∧ j < 24 then some (14, j) else none
theorem its {c : Prop} [Decidable c] {p q : Int × Int} {r : Option (Int × Int)} : ((if c then some p else r) = some q) ↔ (c ∧ p = q) ∨ (¬ c ∧ r = some q) := by
  by_cases h : c
  · rw [if_pos h]; exact ⟨fun e => Or.inl ⟨h, Option.some.inj e⟩, fun e => e.elim (fun w => congrArg some w.2) (fun w => absurd h w.1)⟩
  · rw [if_neg h]; exact ⟨fun e => Or.inr ⟨h, e⟩, fun e => e.elim (fun w => absurd w.1 h) (fun w => w.2)⟩
/-- where a figure of the text stands -/
def itm (a i : Int) : Int × Int :=
  if a = 0 then (if i < 3 then (1, i) else if i = 3 then (0, 14) else if i = 4 then (7, 1) else (0, 12)) else
  if a = 22 then (0, 13) else if a = 24 then (7, 7) else if a = 1 then (2, i) else if a = 2 then (3, i) else if a = 3 then (4, i) else if a = 4 then (5, i) else if a = 5 then (6, i) else
  if a = 8 then (9, i) else if a = 9 then (10, i) else if a = 10 then (11, i) else if a = 11 then (19, i) else if a = 12 then (15, i) else if a = 13 then (16, i) else (17, i)
theorem itm_ctm {x j a i : Int} (h : ctm x j = some (a, i)) : itm a i = (x, j) := by
  unfold ctm at h
  iterate 18 (replace h := its.1 h; rcases h with ⟨q, e⟩ | ⟨-, h⟩; · (cases e; unfold itm; first | (simp; omega) | (rw [if_pos rfl, if_pos (by omega)]; simp; omega)))
  cases h
theorem ctm_u {x j x' j' : Int} {p : Int × Int} (h : ctm x j = some p) (h' : ctm x' j' = some p) : x = x' ∧ j = j' := by
  obtain ⟨a, i⟩ := p
  have e := (itm_ctm h).symm.trans (itm_ctm h')
  injection e with e1 e2
  exact ⟨e1, e2⟩
def TMc (pl : Int) (T : aH) (σ : aS) : Prop := ∀ x j a i, ctm x j = some (a, i) → aget σ (pl + x) j = T a i
theorem TMc.put {pl : Int} {T : aH} {σ : aS} (h : TMc pl T σ) {x j a i : Int} (hc : ctm x j = some (a, i)) (v : Int) : TMc pl (stv T a i v) (aput σ (pl + x) j v) := by
  intro x' j' a' i' h'
  by_cases e : x' = x ∧ j' = j
  · obtain ⟨rfl, rfl⟩ := e
    rw [hc] at h'
    injection h' with h'
    injection h' with e1 e2
    subst e1; subst e2
    rw [ag_s, stv_s]
  · have n : ¬ (a' = a ∧ i' = i) := fun w => e (by
      obtain ⟨rfl, rfl⟩ := w
      exact ctm_u h' hc)
    rw [stv_g, if_neg n]
    by_cases ex : x' = x
    · rw [ex, ag_j (fun w => e ⟨ex, w⟩), ← ex]; exact h x' j' a' i' h'
    · rw [ag_x (by omega)]; exact h x' j' a' i' h'
theorem TMc.fp {pl : Int} {T : aH} {σ τ : aS} {P : Int → Int → Prop} (h : TMc pl T σ) (hF : Fp P σ τ) (hP : ∀ x j, P (pl + x) j → ctm x j = none) : TMc pl T τ := by
  intro x j a i hc
  rw [hF.g (fun q => by rw [hP x j q] at hc; cases hc)]
  exact h x j a i hc
/-- words of bits: the plan's cell w, m bits of T a -/
def BWc (pl w a m : Int) (T : aH) (σ : aS) : Prop := (0 ≤ aget σ pl w ∧ aget σ pl w < p2 m) ∧ ∀ j, 0 ≤ j → j < m → bI (aget σ pl w) j = T a j
theorem BWc.set {pl w a m k : Int} {T : aH} {σ : aS} (h : BWc pl w a m T σ) (m25 : m ≤ 25) (k0 : 0 ≤ k) (k1 : k < m) : BWc pl w a m (stv T a k 1) (aput σ pl w (aor (aget σ pl w) (ashl 1 k))) := by
  obtain ⟨⟨h0, h1⟩, h2⟩ := h
  have hp : p2 m ≤ 33554432 := by
    unfold p2
    have : 2 ^ m.toNat ≤ 2 ^ 25 := Nat.pow_le_pow_right (by decide) (by omega)
    omega
  have hb := aor_bd (x := aget σ pl w) (k := k) (b := m.toNat) h0 (by rw [Int.toNat_of_nonneg (by omega)]; exact h1) k0 (by omega) (by omega)
  rw [Int.toNat_of_nonneg (show 0 ≤ m by omega)] at hb
  refine ⟨by rw [ag_s]; exact hb, fun j j0 j1 => ?_⟩
  rw [ag_s, bI_or h0 (by omega) k0 (by omega) j0]
  by_cases e : j = k
  · rw [if_pos e, e, stv_s]
  · rw [if_neg e, stv_j e]; exact h2 j j0 j1
theorem BWc.ot {pl w a m : Int} {T T' : aH} {σ τ : aS} (h : BWc pl w a m T σ) (hg : aget τ pl w = aget σ pl w) (hT : ∀ j, 0 ≤ j → j < m → T' a j = T a j) : BWc pl w a m T' τ :=
  ⟨by rw [hg]; exact h.1, fun j j0 j1 => by rw [hg, hT j j0 j1]; exact h.2 j j0 j1⟩
/-- the plan that is read into tells T -/
def PLc (pl : Int) (T : aH) (σ : aS) : Prop := (pl = 90 ∨ pl = 110) ∧ TMc pl T σ ∧ BWc pl 8 20 25 T σ ∧ BWc pl 9 21 25 T σ ∧ BWc pl 10 6 4 T σ ∧ BWc pl 11 23 4 T σ ∧ aget σ pl 15 = pk5 (hsf T)
/-- a figure changed that stands in the table, not how many are of a sort -/
theorem PLc.put {pl : Int} {T : aH} {σ : aS} (h : PLc pl T σ) {x j a i : Int} (hc : ctm x j = some (a, i)) (v : Int) (hh : pk5 (hsf (stv T a i v)) = pk5 (hsf T)) : PLc pl (stv T a i v) (aput σ (pl + x) j v) := by
  obtain ⟨hp, h1, h2, h3, h4, h5, h6⟩ := h
  have na : a ≠ 20 ∧ a ≠ 21 ∧ a ≠ 6 ∧ a ≠ 23 ∧ ¬ (x = 0 ∧ (j = 8 ∨ j = 9 ∨ j = 10 ∨ j = 11 ∨ j = 15)) := by
    unfold ctm at hc
    iterate 18 (replace hc := its.1 hc; rcases hc with ⟨q, e⟩ | ⟨-, hc⟩; · (cases e; omega))
    cases hc
  have g : ∀ w, (w = 8 ∨ w = 9 ∨ w = 10 ∨ w = 11 ∨ w = 15) → aget (aput σ (pl + x) j v) pl w = aget σ pl w := fun w hw => by
    by_cases e : x = 0
    · rw [show pl + x = pl by omega]; exact ag_j (by have := na.2.2.2.2; omega)
    · exact ag_x (by omega)
  exact ⟨hp, h1.put hc v, h2.ot (g 8 (by omega)) (fun j _ _ => stv_x (by omega) _), h3.ot (g 9 (by omega)) (fun j _ _ => stv_x (by omega) _), h4.ot (g 10 (by omega)) (fun j _ _ => stv_x (by omega) _), h5.ot (g 11 (by omega)) (fun j _ _ => stv_x (by omega) _), by rw [g 15 (by omega), hh]; exact h6⟩
theorem PLc.fp {pl : Int} {T : aH} {σ τ : aS} {P : Int → Int → Prop} (h : PLc pl T σ) (hF : Fp P σ τ) (hP : ∀ x j, P x j → x < 90 ∨ 130 ≤ x ∨ (x = pl + 7 ∧ (j = 8 ∨ j = 9)) ∨ x = pl + 13) : PLc pl T τ := by
  obtain ⟨hp, h1, h2, h3, h4, h5, h6⟩ := h
  have g : ∀ w, aget τ pl w = aget σ pl w := fun w => hF.g (fun q => by have := hP _ _ q; omega)
  refine ⟨hp, h1.fp hF (fun x j q => ?_), h2.ot (g 8) (fun _ _ _ => rfl), h3.ot (g 9) (fun _ _ _ => rfl), h4.ot (g 10) (fun _ _ _ => rfl), h5.ot (g 11) (fun _ _ _ => rfl), by rw [g 15]; exact h6⟩
  have := hP _ _ q
  cases hc : ctm x j with
  | none => rfl
  | some p =>
    exfalso
    unfold ctm at hc
    iterate 18 (replace hc := its.1 hc; rcases hc with ⟨q, e⟩ | ⟨-, hc⟩; · omega)
    cases hc
