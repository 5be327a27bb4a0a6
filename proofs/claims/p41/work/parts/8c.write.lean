/-! the class's half of whole's part of this name -/
def wkw (x : Int) : Prop := x = 10 ∨ x = 11 ∨ x = 12 ∨ x = 13 ∨ x = 98 ∨ x = 118 ∨ x = 102 ∨ x = 122 ∨ x = 103 ∨ x = 123
theorem wkw_kR : ∀ q ∈ kR, ¬ wkw q.1 := by
  have h : (kR.all fun q => !(decide (q.1 = 10 ∨ q.1 = 11 ∨ q.1 = 12 ∨ q.1 = 13 ∨ q.1 = 98 ∨ q.1 = 118 ∨ q.1 = 102 ∨ q.1 = 122 ∨ q.1 = 103 ∨ q.1 = 123))) = true := by decide +kernel
  intro q hq hw
  have h1 := List.all_eq_true.mp h q hq
  have h2 : decide (q.1 = 10 ∨ q.1 = 11 ∨ q.1 = 12 ∨ q.1 = 13 ∨ q.1 = 98 ∨ q.1 = 118 ∨ q.1 = 102 ∨ q.1 = 122 ∨ q.1 = 103 ∨ q.1 = 123) = true := decide_eq_true hw
  rw [h2] at h1; cases h1
theorem CQ.fp {pl : Int} {T : aH} {P : Int → Int → Prop} {σ τ : aS} (h : CQ pl T σ) (hF : Fp P σ τ) (hP : ∀ x j, P x j → wkw x) : CQ pl T τ := by
  obtain ⟨hL, hp, hT, hB⟩ := h
  refine ⟨(hF.mono hP).LR (P := fun x _ => wkw x) wkw_kR hL, hp, hT.c2 (fun x j hx => hF.g (fun q => ?_)), hB⟩
  have := hP x j q
  unfold ctp at hx
  unfold wkw at this
  rcases hp with rfl | rfl <;> omega
theorem CQ.put {pl : Int} {T : aH} {σ : aS} (h : CQ pl T σ) {x : Int} (j v : Int) (hx : wkw x) : CQ pl T (aput σ x j v) :=
  h.fp ((Fp.rf (fun y _ => y = x) σ).put v rfl) (fun y _ e => by rw [e]; exact hx)
theorem ite_n {c : Prop} [Decidable c] {a b r : aR} (h : ¬ c) (hb : b = r) : (if c then a else b) = r := by rw [if_neg h]; exact hb
theorem ite_p {c : Prop} [Decidable c] {a b r : aR} (h : c) (ha : a = r) : (if c then a else b) = r := by rw [if_pos h]; exact ha
theorem acall1_h {x : aR} {k : Int → aS → aR} {v : Int} {τ : aS} {r : aR} (h : x = some (0, [v], τ)) (h2 : k v τ = r) : acall1 x k = r := by rw [h, acall1_some]; exact h2
theorem rrn_s (T : aH) (t : Int) (f : Int → Int) (s : Int) (n : Nat) (k : Int) (q : List Int) : rrn T t f s (n + 1) k q = match rst T t f s (T 8 k) q with
    | some r => rrn T t f s n (k + 1) r
    | none => none := rfl
def hd1 : List Int → Int
  | [v] => v
  | _ => 0
theorem rul_of {T : aH} {t : Int} {f : Int → Int} {s : Int} {q : List Int} (h : rrn T t f s (T 10 t - T 9 t).toNat (T 9 t) [] = some q) : rul T t f s = hd1 q := by
  unfold rul
  rw [h]
  rcases q with _ | ⟨v, _ | ⟨w, r⟩⟩ <;> rfl
theorem c6_workedOut_ok {pl : Int} {T : aH} {σ : aS} (hC : CQ pl T σ) {t : Int} (t0 : 0 ≤ t) (t1 : t < T 0 2) {f : Int → Int} (hf : ∀ s, 0 ≤ s → s < 5 → 0 ≤ f s ∧ f s ≤ 7) {s : Int} (s0 : 0 ≤ s) (s1 : s < T 0 1) (hM : MG pl T t f s σ) :
    ∃ τ, c6_workedOut (pl + 7) t σ = some (0, [rul T t f s], τ) ∧ Fp (fun x _ => x = pl + 12) σ τ := by
  have hC' := hC
  obtain ⟨hL, hp, hT, hB⟩ := hC
  have h4 := hB.2.2.1
  obtain ⟨-, -, b9, -, -, b8, -⟩ := hB.2.2.2.2.2.2.2.2.2 t t0 t1
  have e9 := (hT.2.2.2.2.2.1 t t0 t1).2.2.1
  have hw : ∀ x j : Int, x = pl + 12 → wkw x := fun x _ e => by unfold wkw; omega
  have hal := al_I (c := 10) (B := aU4 c6_workedOut_b9) (n := T 10 t) (i := T 9 t) (vs := [pl + 7, t, 0, T 9 t]) (σ := σ)
    (fun k vs τ => ∃ q, vs = [pl + 7, t, (q.length : Int), k] ∧ T 9 t ≤ k ∧ rrn T t f s (T 10 t - k).toNat k q = rrn T t f s (T 10 t - T 9 t).toNat (T 9 t) [] ∧ sk τ (pl + 12) q ∧ lm12 q ∧ (q.length : Int) ≤ k - T 9 t ∧ Fp (fun x _ => x = pl + 12) σ τ)
    (fun r => ∃ τ, Fp (fun x _ => x = pl + 12) σ τ ∧ ((r = (0, [0], τ) ∧ rul T t f s = 0) ∨ ∃ q : List Int, r = (179, [pl + 7, (q.length : Int)], τ) ∧ rrn T t f s (T 10 t - T 9 t).toNat (T 9 t) [] = some q ∧ sk τ (pl + 12) q))
    (by omega) (by omega) ⟨[], rfl, Int.le_refl _, rfl, True.intro, (fun v hv => by cases hv), by simp, Fp.rf _ _⟩ ?_
  · obtain ⟨r, hr, τ, hF, h⟩ := hal
    have hLt := (hC'.fp hF hw).1
    rcases h with ⟨rfl, hz⟩ | ⟨q, rfl, hq, hs⟩
    · refine ⟨τ, ?_, hF⟩
      simp (disch := omega) only [c6_workedOut, ↓reduceIte, acall1_some, acall0_some, q_lt, q_nlt, q_le, q_nle, q_eq, q_ne, q_01, true_or, or_true, false_or, or_false, false_and, and_false, and_self, and_true, true_and, wq, wQ, alen_aput, ag_s, ag_x, ag_j, ag_e, ru_0 hL hp, ru_2 hL hp, ru_3 hL hp, ru_4 hL hp, ru_5 hL hp, ru_6 hL hp, np_8 hL hp, np_9 hL hp, np_10 hL hp, np_11 hL hp, np_12 hL hp, np_13 hL hp, e9, c6_workedOut_l9, hr, abind, c6_workedOut_d9]
      rw [if_neg (by decide), hz]
    · refine ⟨τ, ?_, hF⟩
      rw [rul_of hq]
      simp (disch := omega) only [c6_workedOut, ↓reduceIte, acall1_some, acall0_some, q_lt, q_nlt, q_le, q_nle, q_eq, q_ne, q_01, true_or, or_true, false_or, or_false, false_and, and_false, and_self, and_true, true_and, wq, wQ, alen_aput, ag_s, ag_x, ag_j, ag_e, ru_0 hL hp, ru_2 hL hp, ru_3 hL hp, ru_4 hL hp, ru_5 hL hp, ru_6 hL hp, np_8 hL hp, np_9 hL hp, np_10 hL hp, np_11 hL hp, np_12 hL hp, np_13 hL hp, e9, c6_workedOut_l9, hr, abind, c6_workedOut_d9, aU2, c6_workedOut_p178]
      rcases q with _ | ⟨v, _ | ⟨w, r⟩⟩
      · simp [hd1]
      · have e0 := hs.1
        rw [show (([] : List Int).length : Int) = 0 from rfl] at e0
        simp (disch := omega) only [List.length_cons, List.length_nil, ↓reduceIte, acall1_some, acall0_some, q_lt, q_nlt, q_le, q_nle, q_eq, q_ne, q_01, true_or, or_true, false_or, or_false, false_and, and_false, and_self, and_true, true_and, wq, wQ, alen_aput, ag_s, ag_x, ag_j, ag_e, ru_5 hLt hp, np_12 hLt hp, e0, hd1]
      · have : ¬ (((v :: w :: r).length : Int) = 1) := by rw [List.length_cons, List.length_cons]; omega
        rw [if_neg this]
        rfl
  · rintro k vs τ k1 ⟨q, rfl, k0, hrr, hs, hb, hn, hF⟩
    have hCt := hC'.fp hF hw
    have e10 := (hCt.2.2.1.2.2.2.2.2.1 t t0 t1).2.2.2.1
    by_cases c : k < T 10 t
    · have hMt : MG pl T t f s τ := fun j j0 j1 => by rw [hF.g (by omega)]; exact hM j j0 j1
      have st := wko_step hCt t0 t1 hMt k0 c hs hb (by omega)
      have eN : (T 10 t - k).toNat = (T 10 t - (k + 1)).toNat + 1 := by omega
      rw [eN, rrn_s] at hrr
      cases hv : rst T t f s (T 8 k) q with
      | none =>
        simp only [hv] at st hrr
        obtain ⟨υ, h1, h2⟩ := st
        refine Or.inr ⟨_, h1, Nat.ne_of_beq_eq_false rfl, υ, hF.tr h2, Or.inl ⟨rfl, ?_⟩⟩
        unfold rul
        rw [← hrr]
      | some r =>
        simp only [hv] at st hrr
        obtain ⟨υ, h1, h2, h3, h4⟩ := st
        exact Or.inl ⟨c, _, _, h1, r, rfl, by omega, hrr, h3, rst_bd hB hf s0 s1 (hB.st t0 t1 k0 c) hb hv, by omega, hF.tr h2⟩
    · have hk : k = T 10 t := by omega
      subst hk
      rw [show (T 10 t - T 10 t).toNat = 0 by omega] at hrr
      refine Or.inr ⟨(179, [pl + 7, (q.length : Int)], τ), ?_, Nat.ne_of_beq_eq_false rfl, τ, hF, Or.inr ⟨q, rfl, hrr.symm, hs⟩⟩
      simp (disch := omega) only [aU4, c6_workedOut_b9, ↓reduceIte, acall1_some, acall0_some, q_lt, q_nlt, q_le, q_nle, q_eq, q_ne, q_01, true_or, or_true, false_or, or_false, false_and, and_false, and_self, and_true, true_and, wq, wQ, alen_aput, ag_s, ag_x, ag_j, ag_e, ru_4 hCt.1 hp, np_11 hCt.1 hp, e10]
/-- cells that a row's making may change -/
def fwr (pl r x j : Int) : Prop := (x = 10 ∧ j = r) ∨ ((x = 11 ∨ x = 12) ∧ 5 * r ≤ j ∧ j < 5 * r + 5) ∨ x = pl + 8 ∨ x = pl + 12
theorem fwr_w {pl r : Int} (hp : pl = 90 ∨ pl = 110) (x j : Int) (h : fwr pl r x j) : wkw x := by unfold fwr at h; unfold wkw; omega
set_option maxHeartbeats 4000000 in
theorem c3_write_s {pl : Int} {T : aH} {σ : aS} (hC : CQ pl T σ) (h95 : aget σ 9 5 = pl) {f : Int → Int} (hf : B7 T f) {t : Int} (t0 : 0 ≤ t) (t1 : t < T 0 2) {r : Int} (r0 : 0 ≤ r) (r1 : r ≤ 1728)
    (h0 : aget σ (pl + 8) 0 = szf f * 27720) (h2 : aget σ (pl + 8) 2 = gco T t f * 27720) {k : Int} (k0 : 0 ≤ k) (k1 : k < T 0 1) :
    ∃ τ, aU7 c3_write_b68 [9, r, t, pk5 f, gvn T t f, pl + 7, k] σ = some (69, [9, r, t, pk5 f, gvn T t f, pl + 7, k + 1], aput (aput τ 12 (r * 5 + k) (rul T t f k)) 11 (r * 5 + k) (lik T t f k)) ∧ Fp (fun x j => (x = pl + 8 ∧ (j = 1 ∨ j = 3 ∨ j = 4)) ∨ x = pl + 12) σ τ := by
  have hp := hC.2.1
  have hB := hC.2.2.2
  have h5 := hB.2.1
  have h4 := hB.2.2.1
  have hL := hC.1
  have ha := hf.1 k k0 (by omega)
  have hfg := (hB.2.2.2.2.2.1 k k0 k1)
  have w8 : wkw (pl + 8) := by unfold wkw; omega
  have w12 : wkw 12 := by unfold wkw; omega
  have c1 := hC.put 1 (f k * 27720) w8
  have c2 := c1.put 3 (T 2 (4 * k + 1) * 27720) w8
  have c3 := c2.put 4 (T 2 (4 * k + 2) * 27720) w8
  have hso := q_sorts hC
  have hpt := c11_part_ok hf.1 k0 (show k < 5 by omega) σ
  have f1 := q_figure c1 k0 k1 (show (0 : Int) ≤ 1 by omega) (by omega)
  have f2 := q_figure c2 k0 k1 (show (0 : Int) ≤ 2 by omega) (by omega)
  obtain ⟨τ, hw, hF⟩ := c6_workedOut_ok c3 t0 t1 hf.1 k0 k1 (by
    intro j j0 j1
    rcases cs5 j0 j1 with rfl | rfl | rfl | rfl | rfl
    · rw [ag_j (by omega), ag_j (by omega), ag_j (by omega), h0]; rfl
    · rw [ag_j (by omega), ag_j (by omega), ag_s]; rfl
    · rw [ag_j (by omega), ag_j (by omega), ag_j (by omega), h2]; rfl
    · rw [ag_j (by omega), ag_s]; rfl
    · rw [ag_s]; rfl)
  have c4 := c3.fp hF (fun x _ e => by rw [e]; unfold wkw; omega)
  have hLt := c4.1
  have g95 : aget τ 9 5 = pl := by rw [hF.g (by omega), ag_x (by omega), ag_x (by omega), ag_x (by omega), h95]
  have c5 := c4.put (r * 5 + k) (rul T t f k) w12
  have hli := c3_likedIn_ok c5 (by rw [ag_x (by omega)]; exact g95) hf t k0 k1
  have frr := (((Fp.rf (fun x j => (x = pl + 8 ∧ (j = 1 ∨ j = 3 ∨ j = 4)) ∨ x = pl + 12) σ).put (x := pl + 8) (j := 1) (f k * 27720) (by omega)).put (x := pl + 8) (j := 3) (T 2 (4 * k + 1) * 27720) (by omega)).put (x := pl + 8) (j := 4) (T 2 (4 * k + 2) * 27720) (by omega)
  refine ⟨τ, ?_, frr.tr (hF.mono (fun x j e => Or.inr e))⟩
  clear hF frr c1 c2 c3 c4 c5 hC
  show c3_write_b68 9 r t (pk5 f) (gvn T t f) (pl + 7) k σ = _
  unfold c3_write_b68
  refine ite_n ?_ (acall1_h (v := T 0 1) (τ := σ) ?_ (ite_p k1 (ite_n ?_ (acall1_h (v := f k) (τ := σ) ?_ (ite_p ?_ (ite_n ?_ (ite_n ?_ (acall1_h (v := T 2 (4 * k + 1)) (τ := aput σ (pl + 8) 1 (f k * 27720)) ?_ (ite_p ?_ (ite_n ?_ (ite_n ?_ (acall1_h (v := T 2 (4 * k + 2)) (τ := aput (aput σ (pl + 8) 1 (f k * 27720)) (pl + 8) 3 (T 2 (4 * k + 1) * 27720)) ?_ (ite_p ?_ (ite_n ?_ (acall1_h (v := rul T t f k) (τ := τ) ?_ (ite_p ?_ (ite_n ?_ (acall1_h (v := lik T t f k) (τ := aput τ 12 (r * 5 + k) (rul T t f k)) ?_ ?_))))))))))))))))))
  all_goals simp (disch := omega) only [c3_write_p178, ↓reduceIte, acall1_some, acall0_some, q_lt, q_nlt, q_le, q_nle, q_eq, q_ne, q_01, true_or, or_true, false_or, or_false, false_and, and_false, and_self, and_true, true_and, wq, wQ, alen_aput, ag_s, ag_x, ag_j, ag_e, r_8_8 hL, r_9_0 hL, r_9_2 hL, r_9_3 hL, r_9_4 hL, n_10 hL, n_11 hL, n_12 hL, n_13 hL, rp_0 hL hp, rp_1 hL hp, rp_2 hL hp, rp_3 hL hp, rp_4 hL hp, rp_5 hL hp, rp_6 hL hp, rp_7 hL hp, rp_16 hL hp, np_1 hL hp, np_2 hL hp, np_3 hL hp, np_4 hL hp, np_5 hL hp, np_6 hL hp, np_19 hL hp, ru_0 hL hp, ru_2 hL hp, ru_3 hL hp, ru_4 hL hp, ru_5 hL hp, ru_6 hL hp, np_8 hL hp, np_9 hL hp, np_10 hL hp, np_11 hL hp, np_12 hL hp, np_13 hL hp, h95, hso, hpt, f1, f2, hw, hli, g95, r_9_2 hLt, r_9_3 hLt, n_11 hLt, n_12 hLt, not_false_eq_true]
theorem c3_write_ok {pl : Int} {T : aH} {σ : aS} (hC : CQ pl T σ) (h95 : aget σ 9 5 = pl) {f : Int → Int} (hf : B7 T f) {t : Int} (t0 : 0 ≤ t) (t1 : t < T 0 2) {r : Int} (r0 : 0 ≤ r) (r1 : r ≤ 1728) :
    ∃ τ, c3_write 9 r t (pk5 f) σ = some (0, [], τ) ∧ Fp (fwr pl r) σ τ ∧ aget τ 10 r = gvn T t f ∧ ∀ s, 0 ≤ s → s < T 0 1 → aget τ 11 (r * 5 + s) = lik T t f s ∧ aget τ 12 (r * 5 + s) = rul T t f s := by
  have hp := hC.2.1
  have hB := hC.2.2.2
  have h5 := hB.2.1
  have h4 := hB.2.2.1
  have hL := hC.1
  have w8 : wkw (pl + 8) := by unfold wkw; omega
  have hsz := szf_13 hf
  have hgc := gco_bd hB t f hB.1.1 (Int.le_refl _)
  have hgc' : 0 ≤ gco T t f ∧ gco T t f ≤ 4995 := hgc
  have c1 := hC.put (x := 10) r (gvn T t f) (by unfold wkw; omega)
  have c2 := c1.put 0 (szf f * 27720) w8
  have c3 := c2.put 2 (gco T t f * 27720) w8
  have hgi := c4_givenTo_ok hC hf t0 t1
  have hzo := c11_sizeOf_ok hf.1 (aput σ 10 r (gvn T t f))
  have hco := q_costOf c2 t f
  have fr0 := (((Fp.rf (fwr pl r) σ).put (x := 10) (j := r) (gvn T t f) (by unfold fwr; omega)).put (x := pl + 8) (j := 0) (szf f * 27720) (by unfold fwr; omega)).put (x := pl + 8) (j := 2) (gco T t f * 27720) (by unfold fwr; omega)
  have hal := al_I (c := 69) (B := aU7 c3_write_b68) (n := T 0 1) (i := 0) (vs := [9, r, t, pk5 f, gvn T t f, pl + 7, 0]) (σ := aput (aput (aput σ 10 r (gvn T t f)) (pl + 8) 0 (szf f * 27720)) (pl + 8) 2 (gco T t f * 27720))
    (fun k vs τ => vs = [9, r, t, pk5 f, gvn T t f, pl + 7, k] ∧ 0 ≤ k ∧ Fp (fwr pl r) σ τ ∧ aget τ 10 r = gvn T t f ∧ (aget τ (pl + 8) 0 = szf f * 27720 ∧ aget τ (pl + 8) 2 = gco T t f * 27720) ∧ ∀ s, 0 ≤ s → s < k → aget τ 11 (r * 5 + s) = lik T t f s ∧ aget τ 12 (r * 5 + s) = rul T t f s)
    (fun q => ∃ τ, q = (0, [], τ) ∧ Fp (fwr pl r) σ τ ∧ aget τ 10 r = gvn T t f ∧ ∀ s, 0 ≤ s → s < T 0 1 → aget τ 11 (r * 5 + s) = lik T t f s ∧ aget τ 12 (r * 5 + s) = rul T t f s)
    (by omega) (by omega) ⟨rfl, Int.le_refl _, fr0, by rw [ag_x (by omega), ag_x (by omega), ag_s], ⟨by rw [ag_j (by omega), ag_s], ag_s _ _ _ _⟩, fun s s0 s1 => by omega⟩ ?_
  · obtain ⟨q, hq, τ, rfl, h1, h2, h3⟩ := hal
    refine ⟨τ, ?_, h1, h2, h3⟩
    clear h1 h2 h3 fr0 c1 c2 c3 hgc
    unfold c3_write
    refine ite_n ?_ (acall1_h (v := gvn T t f) (τ := σ) ?_ (ite_n ?_ (ite_p ?_ (ite_n ?_ (ite_n ?_ (ite_n ?_ (acall1_h (v := szf f) (τ := aput σ 10 r (gvn T t f)) ?_ (ite_p ?_ (ite_n ?_ (ite_n ?_ (acall1_h (v := gco T t f) (τ := aput (aput σ 10 r (gvn T t f)) (pl + 8) 0 (szf f * 27720)) ?_ (ite_p ?_ ?_))))))))))))
    all_goals simp (disch := omega) only [↓reduceIte, acall1_some, acall0_some, q_lt, q_nlt, q_le, q_nle, q_eq, q_ne, q_01, true_or, or_true, false_or, or_false, false_and, and_false, and_self, and_true, true_and, wq, wQ, alen_aput, ag_s, ag_x, ag_j, ag_e, r_8_8 hL, r_9_0 hL, r_9_2 hL, r_9_3 hL, r_9_4 hL, n_10 hL, n_11 hL, n_12 hL, n_13 hL, rp_0 hL hp, rp_1 hL hp, rp_2 hL hp, rp_3 hL hp, rp_4 hL hp, rp_5 hL hp, rp_6 hL hp, rp_7 hL hp, rp_16 hL hp, np_1 hL hp, np_2 hL hp, np_3 hL hp, np_4 hL hp, np_5 hL hp, np_6 hL hp, np_19 hL hp, ru_0 hL hp, ru_2 hL hp, ru_3 hL hp, ru_4 hL hp, ru_5 hL hp, ru_6 hL hp, np_8 hL hp, np_9 hL hp, np_10 hL hp, np_11 hL hp, np_12 hL hp, np_13 hL hp, h95, hgi, hzo, hco, c3_write_l68, hq, abind, c3_write_d68, not_false_eq_true]
  · rintro k vs τ k1 ⟨rfl, k0, hF, e10, ⟨e0, e2⟩, hr⟩
    have hCt := hC.fp hF (fwr_w hp)
    have g95 : aget τ 9 5 = pl := by rw [hF.g (by unfold fwr; omega), h95]
    by_cases c : k < T 0 1
    · obtain ⟨υ, hs, hF2⟩ := c3_write_s hCt g95 hf t0 t1 r0 r1 e0 e2 k0 c
      refine Or.inl ⟨c, _, _, hs, rfl, by omega, ?_, ?_, ⟨?_, ?_⟩, fun s s0 s1 => ⟨?_, ?_⟩⟩
      · exact ((hF.tr (hF2.mono (fun x j e => by unfold fwr; omega))).put (x := 12) (j := r * 5 + k) (rul T t f k) (by unfold fwr; omega)).put (x := 11) (j := r * 5 + k) (lik T t f k) (by unfold fwr; omega)
      · rw [ag_x (by omega), ag_x (by omega), hF2.g (by omega)]; exact e10
      · rw [ag_x (by omega), ag_x (by omega), hF2.g (by omega)]; exact e0
      · rw [ag_x (by omega), ag_x (by omega), hF2.g (by omega)]; exact e2
      · by_cases d : s = k
        · subst d; exact ag_s _ _ _ _
        · rw [ag_j (by omega), ag_x (by omega), hF2.g (by omega)]; exact (hr s s0 (by omega)).1
      · by_cases d : s = k
        · subst d; rw [ag_x (by omega)]; exact ag_s _ _ _ _
        · rw [ag_x (by omega), ag_j (by omega), hF2.g (by omega)]; exact (hr s s0 (by omega)).2
    · have hk : k = T 0 1 := by omega
      subst hk
      refine Or.inr ⟨(0, [], τ), ?_, Nat.ne_of_beq_eq_false rfl, τ, rfl, hF, e10, hr⟩
      show c3_write_b68 9 r t (pk5 f) (gvn T t f) (pl + 7) (T 0 1) τ = _
      unfold c3_write_b68
      exact ite_n (by rw [g95]; omega) (acall1_h (v := T 0 1) (τ := τ) (by rw [g95]; exact q_sorts hCt) (ite_n (Int.lt_irrefl _) rfl))
