/-! the class's half of whole's part of this name -/
/-- cells that may have changed, told by a property -/
def Fp (P : Int → Int → Prop) (σ τ : aS) : Prop := τ.1 = σ.1 ∧ τ.2.2 = σ.2.2 ∧ ∀ x j, ¬ P x j → aget τ x j = aget σ x j
theorem Fp.rf (P : Int → Int → Prop) (σ : aS) : Fp P σ σ := ⟨rfl, rfl, fun _ _ _ => rfl⟩
theorem Fp.tr {P : Int → Int → Prop} {σ τ υ : aS} (h1 : Fp P σ τ) (h2 : Fp P τ υ) : Fp P σ υ := ⟨h2.1.trans h1.1, h2.2.1.trans h1.2.1, fun x j h => (h2.2.2 x j h).trans (h1.2.2 x j h)⟩
theorem Fp.put {P : Int → Int → Prop} {σ τ : aS} (h : Fp P σ τ) {x j : Int} (v : Int) (hw : P x j) : Fp P σ (aput τ x j v) :=
  ⟨h.1, h.2.1, fun y k hk => by rw [ag_if, if_neg (fun q => hk (by rw [q.1, q.2]; exact hw))]; exact h.2.2 y k hk⟩
theorem Fp.mono {P Q : Int → Int → Prop} {σ τ : aS} (h : Fp P σ τ) (hl : ∀ x j, P x j → Q x j) : Fp Q σ τ := ⟨h.1, h.2.1, fun x j hx => h.2.2 x j (fun q => hx (hl x j q))⟩
theorem Fp.g {P : Int → Int → Prop} {σ τ : aS} (h : Fp P σ τ) {x j : Int} (hw : ¬ P x j) : aget τ x j = aget σ x j := h.2.2 x j hw
theorem Fp.LR {P : Int → Int → Prop} {σ τ : aS} (h : Fp P σ τ) (hl : ∀ q ∈ kR, ¬ P q.1 q.2.1) (hL : LR σ) : LR τ := by
  refine ⟨h.1.trans hL.1, fun q hq => ?_⟩
  rw [h.g (hl q hq)]
  exact hL.2 q hq
/-- a cell of the class's work while it calculates: of scenes 16, 18, 22 and 88 all but the reference, what was found, the course's, the survey's fields -/
def wkc (x j : Int) : Prop := ((x = 16 ∨ x = 18 ∨ x = 22 ∨ x = 88) ∧ 1 ≤ j) ∨ x = 17 ∨ x = 19 ∨ x = 23 ∨ x = 89 ∨ x = 15 ∨ x = 21 ∨ (x = 8 ∧ 1 ≤ j ∧ j ≤ 7) ∨ (x = 8 ∧ j = 9) ∨ (x = 14 ∧ (j ≤ 2 ∨ j = 7)) ∨ (x = 20 ∧ (j ≤ 5 ∨ j = 9))
def wkB (x j : Int) : Bool := decide (((x = 16 ∨ x = 18 ∨ x = 22 ∨ x = 88) ∧ 1 ≤ j) ∨ x = 17 ∨ x = 19 ∨ x = 23 ∨ x = 89 ∨ x = 15 ∨ x = 21 ∨ (x = 8 ∧ 1 ≤ j ∧ j ≤ 7) ∨ (x = 8 ∧ j = 9) ∨ (x = 14 ∧ (j ≤ 2 ∨ j = 7)) ∨ (x = 20 ∧ (j ≤ 5 ∨ j = 9)))
theorem wkc_kR : ∀ q ∈ kR, ¬ wkc q.1 q.2.1 := by
  have h : (kR.all fun q => !(wkB q.1 q.2.1)) = true := by decide +kernel
  intro q hq hw
  have h1 := List.all_eq_true.mp h q hq
  have h2 : wkB q.1 q.2.1 = true := by unfold wkB; unfold wkc at hw; exact decide_eq_true hw
  rw [h2] at h1; cases h1
theorem CI.fp {pl : Int} {T : aH} {P : Int → Int → Prop} {σ τ : aS} (h : CI pl T σ) (hF : Fp P σ τ) (hP : ∀ x j, P x j → wkc x j) : CI pl T τ := by
  refine h.co ((hF.mono hP).LR wkc_kR h.1) (fun x j hx => hF.g (fun q => ?_))
  have := hP x j q
  unfold cor at hx
  unfold wkc at this
  omega
theorem SC.fp {T N : aH} {sc : Int} {P : Int → Int → Prop} {σ τ : aS} (h : SC T N sc σ) (hF : Fp P σ τ) (h1 : ∀ j, ¬ P (sc + 1) j) (h2 : ∀ j, 1 ≤ j → ¬ P sc j) : SC T N sc τ := by
  refine ⟨by rw [hF.g (h2 1 (by omega))]; exact h.1, fun t a b => by rw [hF.g (h1 t)]; exact h.2.1 t a b, by rw [hF.g (h2 2 (by omega))]; exact h.2.2.1, by rw [hF.g (h2 3 (by omega))]; exact h.2.2.2.1, by rw [hF.g (h2 4 (by omega))]; exact h.2.2.2.2⟩
theorem RE.fp {N : aH} {P : Int → Int → Prop} {σ τ : aS} (h : RE N σ) (hF : Fp P σ τ) (h5 : ¬ P 8 5) (h6 : ¬ P 8 6) (h9 : ¬ P 8 9) : RE N τ := h.co (hF.g h9) (hF.g h5) (hF.g h6)
theorem fi_in {T N : aH} (hB : TB T) (h : fiS T N < T 0 1) : (0 ≤ fiS T N ∧ fiS T N < T 0 1) ∧ (0 ≤ fiA T N (fiS T N) ∧ fiA T N (fiS T N) ≤ T 0 2) ∧ (0 ≤ fiB T N (fiS T N) (fiA T N (fiS T N)) ∧ fiB T N (fiS T N) (fiA T N (fiS T N)) ≤ T 0 2) ∧
    fiA T N (fiS T N) ≠ fiB T N (fiS T N) (fiA T N (fiS T N)) ∧ 0 < N 0 (5 * fiS T N + fiA T N (fiS T N)) := by
  have z := ff_at (P := fun s => decide (fiA T N s ≤ T 0 2)) (n := T 0 1) h
  have z1 := ff_0 (fun s => decide (fiA T N s ≤ T 0 2)) (n := T 0 1)
  simp only [decide_eq_true_iff] at z
  have hA : fiA T N (fiS T N) ≤ T 0 2 := z
  have y := ff_at (P := fun a => decide (0 < N 0 (5 * fiS T N + a)) && decide (bnd T N a = 0) && decide (fiB T N (fiS T N) a ≤ T 0 2)) (n := T 0 2 + 1) (by unfold fiA at hA; omega)
  have y1 := ff_0 (fun a => decide (0 < N 0 (5 * fiS T N + a)) && decide (bnd T N a = 0) && decide (fiB T N (fiS T N) a ≤ T 0 2)) (n := T 0 2 + 1)
  simp only [Bool.and_eq_true, decide_eq_true_iff] at y
  have hBB : fiB T N (fiS T N) (fiA T N (fiS T N)) ≤ T 0 2 := y.2
  have x := ff_at (P := fun b => !decide (b = fiA T N (fiS T N)) && decide (0 < gai T N (fiS T N) (fiA T N (fiS T N)) b)) (n := T 0 2 + 1) (by unfold fiB at hBB; omega)
  have x1 := ff_0 (fun b => !decide (b = fiA T N (fiS T N)) && decide (0 < gai T N (fiS T N) (fiA T N (fiS T N)) b)) (n := T 0 2 + 1)
  simp only [Bool.and_eq_true, Bool.not_eq_true', decide_eq_false_iff_not] at x
  exact ⟨⟨z1, h⟩, ⟨y1, hA⟩, ⟨x1, hBB⟩, fun e => x.1 e.symm, y.1.1⟩
theorem on1_z {T : aH} {s : Int} (s0 : 0 ≤ s) (s1 : s < T 0 1) : ∀ k, ¬ (0 ≤ k ∧ k < T 0 1) → on1 s k = 0 := fun k hk => by
  rw [on1_eq]; exact if_neg (fun e => hk (by omega))
theorem on1_le {T N : aH} {s a : Int} (h : 0 < N 0 (5 * s + a)) (hn : ∀ k, 0 ≤ k → k < T 0 1 → 0 ≤ N 0 (5 * k + a)) : ∀ k, 0 ≤ k → k < T 0 1 → 0 ≤ on1 s k ∧ on1 s k ≤ N 0 (5 * k + a) := fun k k0 k1 => by
  have := hn k k0 k1
  rw [on1_eq]
  by_cases e : k = s
  · subst e; rw [if_pos rfl]; omega
  · rw [if_neg e]; omega
theorem nxt_NB {T N : aH} (hN : NB T N) (hB : TB T) (h : fiS T N < T 0 1) : NB T (nxt T N) := by
  obtain ⟨⟨s0, s1⟩, ⟨a0, a1⟩, ⟨b0, b1⟩, hab, hp⟩ := fi_in hB h
  exact mv_NB hN hB a0 a1 b0 b1 hab (on1_le hp (fun k k0 k1 => hN.1 k _ k0 k1 a0 a1))
theorem mv_SC {T N : aH} {sc : Int} {σ : aS} (hS : SC T N sc σ) {f : Int → Int} {a b : Int} (hs : SH sc) : SC T (mvN N f a b) sc (aput σ sc 1 (pkP T (mvN N f a b))) := by
  have := hs.p
  refine ⟨ag_s _ _ _ _, fun t t0 t1 => ?_, ?_, ?_, ?_⟩
  · rw [ag_x (by omega), mvN_x _ _ _ _ (by omega)]; exact hS.2.1 t t0 t1
  · rw [ag_j (by omega)]
    have e : bnI T (mvN N f a b) = bnI T N := by unfold bnI; exact sI_congr (fun k _ _ => by rw [mvN_x _ _ _ _ (by omega)])
    rw [e]; exact hS.2.2.1
  · rw [ag_j (by omega), mvN_x _ _ _ _ (by omega)]; exact hS.2.2.2.1
  · rw [ag_j (by omega), mvN_x _ _ _ _ (by omega)]; exact hS.2.2.2.2
/-- the float that was found goes -/
theorem c7_sailFound_ok {pl : Int} {T N : aH} {σ : aS} (hC : CI pl T σ) (hN : NB T N) {sc : Int} (hs : SH sc) (hS : SC T N sc σ) (h : fiS T N < T 0 1) (f1 : aget σ 8 1 = fiS T N) (f3 : aget σ 8 3 = fiA T N (fiS T N)) (f4 : aget σ 8 4 = fiB T N (fiS T N) (fiA T N (fiS T N))) :
    c7_sailFound 8 sc σ = some (0, [], aput σ sc 1 (pkP T (nxt T N))) := by
  have hB := hC.2.2.2.2.2
  have h5 := hB.2.1
  obtain ⟨⟨s0, s1⟩, ⟨a0, a1⟩, ⟨b0, b1⟩, hab, hp⟩ := fi_in hB h
  have h1 := c11_one_ok (s := fiS T N) σ s0 (by omega)
  have hsh := c4_shifted_ok hC hN (f := on1 (fiS T N)) a0 a1 b0 b1 hab (on1_le hp (fun k k0 k1 => hN.1 k _ k0 k1 a0 a1)) (on1_z s0 s1)
  rw [← pk5_one s0 (by omega)] at hsh
  have hp2 := hC.2.1
  have q := hC.2.2.1.1
  simp (disch := omega) only [c7_sailFound, ↓reduceIte, acall1_some, acall0_some, q_lt, q_nlt, q_le, q_nle, q_eq, q_ne, q_01, true_or, or_true, false_or, or_false, false_and, and_false, and_self, and_true, true_and, wq, wQ, alen_aput, ag_s, ag_x, ag_j, ag_e, q, f1, f3, f4, hS.1, h1, hsh]
  rfl
/-- one going of the class -/
theorem sail1 {pl : Int} {T N : aH} {σ : aS} (hC : CI pl T σ) (hN : NB T N) {sc : Int} (hs : SH sc) (hS : SC T N sc σ) (hR : RE N σ) :
    (¬ fiS T N < T 0 1 ∧ c7_seekFirst 8 sc σ = some (0, [0], σ)) ∨
    (fiS T N < T 0 1 ∧ ∃ τ υ, c7_seekFirst 8 sc σ = some (0, [1], τ) ∧ c7_sailFound 8 sc τ = some (0, [], υ) ∧ SC T (nxt T N) sc υ ∧ RE (nxt T N) υ ∧ NB T (nxt T N) ∧ Fp (fun x j => (x = sc ∧ j = 1) ∨ (x = 8 ∧ 1 ≤ j ∧ j ≤ 4)) σ υ ∧ Fp (fun x j => x = 8 ∧ 1 ≤ j ∧ j ≤ 4) σ τ) := by
  have h := c7_seekFirst_ok hC hN hs hS hR
  have hsp := hs.p
  by_cases c : fiS T N < T 0 1
  · rw [if_pos c] at h
    refine Or.inr ⟨c, _, _, h, c7_sailFound_ok (((hC.s8 ⟨by omega, by omega⟩ _).s8 ⟨by omega, by omega⟩ _).s8 ⟨by omega, by omega⟩ _) hN hs (((hS.s8 hs _ _).s8 hs _ _).s8 hs _ _) c (by rw [ag_j (by omega), ag_j (by omega), ag_s]) (by rw [ag_j (by omega), ag_s]) (by rw [ag_s]), mv_SC (((hS.s8 hs _ _).s8 hs _ _).s8 hs _ _) hs, ?_, nxt_NB hN hC.2.2.2.2.2 c, ?_, ?_⟩
    · have hR2 : RE (nxt T N) σ := hR
      exact hR2.co (by rw [ag_x (by omega), ag_j (by omega), ag_j (by omega), ag_j (by omega)]) (by rw [ag_x (by omega), ag_j (by omega), ag_j (by omega), ag_j (by omega)]) (by rw [ag_x (by omega), ag_j (by omega), ag_j (by omega), ag_j (by omega)])
    · exact ((((Fp.rf _ _).put _ (Or.inr ⟨rfl, by omega, by omega⟩)).put _ (Or.inr ⟨rfl, by omega, by omega⟩)).put _ (Or.inr ⟨rfl, by omega, by omega⟩)).put _ (Or.inl ⟨rfl, rfl⟩)
    · exact (((Fp.rf _ _).put _ ⟨rfl, by omega, by omega⟩).put _ ⟨rfl, by omega, by omega⟩).put _ ⟨rfl, by omega, by omega⟩
  · rw [if_neg c] at h
    exact Or.inl ⟨c, h⟩
