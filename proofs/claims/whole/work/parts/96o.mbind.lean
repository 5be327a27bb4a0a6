/-! the reference reads rules: signs bound -/
def RR (s : Int) (W S : List Int) (T : aH) (σ : aS) : Prop := LR σ ∧ (aget σ 130 46 = W.length ∧ WTk (aget σ 153) W) ∧ HD S σ ∧ aget σ 130 23 = T 24 0 ∧ ND s S T σ
theorem c12_rank_ok {w : Int} (h : w = 40 ∨ w = 2000 ∨ sgn w) (σ : aS) : c12_rank (wcd w) σ = some (0, [rnk w], σ) := by
  unfold sgn at h
  rcases h with rfl | rfl | rfl | rfl | rfl | rfl <;> rfl
theorem wcd_2 {w : Int} (h : w = 40 ∨ w = 2000 ∨ sgn w) : (wcd w = 2 ↔ w = 2000) ∧ 0 ≤ wcd w ∧ wcd w ≤ 6 := by
  unfold sgn at h
  rcases h with rfl | rfl | rfl | rfl | rfl | rfl <;> decide
theorem wfW_h {o : Bool} {w : Int} {W : List Int} (h : wfW o (w :: W)) : (w = 40 ∨ w = 2000 ∨ sgn w) ∧ (w = 2000 → wfW true W) ∧ (sgn w → wfW false W) := by
  rcases h with h | h | h
  · exact ⟨Or.inr (Or.inl h.2.1), fun _ => h.2.2, fun q => absurd q (by rw [h.2.1]; unfold sgn; omega)⟩
  · exact ⟨Or.inr (Or.inr h.1), fun q => absurd h.1 (by rw [q]; unfold sgn; omega), fun _ => h.2⟩
  · exact ⟨Or.inl h.1, fun q => absurd q (by rw [h.1]; omega), fun q => absurd q (by rw [h.1]; unfold sgn; omega)⟩
/-- what is kept of the sums -/
def RB (s : Int) (W S : List Int) (T : aH) : Prop := (0 ≤ s ∧ s ≤ T 24 0) ∧ T 24 0 + cnb W ≤ 64 ∧ (W.length : Int) ≤ 72 ∧ (S.length : Int) = nbs W + 1 ∧ S.head? = some (T 24 0 - 1)
/-- what binding changes -/
def wbg (s x j : Int) : Prop := (x = 130 ∧ (j = 23 ∨ j = 46 ∨ j = 47)) ∨ ((150 ≤ x ∧ x ≤ 152) ∧ 64 + s ≤ j) ∨ x = 154
theorem wbg_s {s : Int} {σ τ : aS} (hF : Fp (wbg s) σ τ) : Fp (wsr s) σ τ := hF.mono (fun x j q => by unfold wbg at q; unfold wsr; omega)
theorem bind_step {s w a b : Int} {W S0 S1 : List Int} {T : aH} {σ1 : aS} (r : Int) (hL : LR σ1) (e46 : aget σ1 130 46 = W.length) (hw : WTk (aget σ1 153) W) (e23 : aget σ1 130 23 = T 24 0) (hN : ND s S0 T σ1) (hH : HD (a :: S1) σ1) (s0 : 0 ≤ s) (s1 : s ≤ T 24 0) (h64 : T 24 0 < 64) (hS : (S1.length : Int) < 90) (hn : nst S0 S1 w (wcd w) a b) :
    ∃ τ, c12_bindSigns_p58 b 130 r (wcd w) σ1 = some (1, [130, r], τ) ∧ Fp (fun x j => (x = 130 ∧ (j = 23 ∨ j = 47)) ∨ ((150 ≤ x ∧ x ≤ 152) ∧ j = 64 + T 24 0) ∨ x = 154) σ1 τ ∧ RR s W (T 24 0 :: S1) (wrT T w) τ ∧ wrT T w 24 0 = T 24 0 + 1 := by
  obtain ⟨d1, d2, d3, d4⟩ := r_drop hL hH (by omega)
  obtain ⟨τ, g1, g2, g3, g4, g5, g6, g7⟩ := r_grown d3 d2 (hN.cg (fun x j _ _ _ _ => d4.g (by omega))) (by rw [d4.g (by omega)]; exact e23) s0 s1 h64 (by omega) hn
  refine ⟨τ, ?_, (d4.mono (fun x j q => by omega)).tr (g2.mono (fun x j q => by omega)), ⟨g3, ⟨?_, ?_⟩, g4, g6, g5⟩, g7⟩
  · unfold c12_bindSigns_p58
    rw [d1, acall1_some, g1, acall0_some]
  · rw [g2.g (by omega), d4.g (by omega)]; exact e46
  · exact hw.cg (fun j _ _ => by rw [g2.g (by omega), d4.g (by omega)])
theorem bind_loop {s r : Int} (r1 : 1 ≤ r) (r2 : r ≤ 2) : ∀ (W : List Int) (S : List Int) (T : aH) (σ : aS) (m : Nat), RR s W S T σ → wfW true W → RB s W S T → W.length < m →
    ∃ τ S', aloop 1 (aU2 c12_bindSigns_b0) m [130, r] σ = some (0, [], τ) ∧ Fp (wbg s) σ τ ∧ RR s (flR r W T).1 S' (flR r W T).2 τ ∧ RB s (flR r W T).1 S' (flR r W T).2 := by
  intro W
  induction W with
  | nil =>
    intro S T σ m hR _ hB hm
    obtain ⟨m, rfl⟩ : ∃ m', m = m' + 1 := ⟨m - 1, by omega⟩
    refine ⟨σ, S, al_out ?_ (Nat.ne_of_beq_eq_false rfl), Fp.rf _ _, hR, hB⟩
    show c12_bindSigns_b0 130 r σ = _
    unfold c12_bindSigns_b0
    rw [hR.2.1.1]
    exact ite_n (by simp) rfl
  | cons w W ih =>
    intro S T σ m hR hw hB hm
    obtain ⟨m, rfl⟩ : ∃ m', m = m' + 1 := ⟨m - 1, by omega⟩
    have hl : ((w :: W).length : Int) = W.length + 1 := by simp
    obtain ⟨hL, ⟨e46, ek, ek2⟩, hH, e23, hN⟩ := hR
    obtain ⟨⟨s0, s1⟩, b64, b72, bS, bh⟩ := hB
    obtain ⟨w1, w2, w3⟩ := wfW_h hw
    have c0 := cnb_0 W
    have n0 := nbs_0 W
    rw [hl] at e46
    obtain ⟨σ1, h1⟩ : ∃ σ1, σ1 = aput σ 130 46 W.length := ⟨_, rfl⟩
    have f1 : Fp (fun x j => x = 130 ∧ j = 46) σ σ1 := by rw [h1]; exact (Fp.rf _ _).put _ ⟨rfl, rfl⟩
    have L1 : LR σ1 := hL.rr f1 (fun x j q => by unfold wrr; omega)
    have hW1 : WTk (aget σ1 153) W := ek2.cg (fun j _ _ => f1.g (by omega))
    have e1k : aget σ1 153 W.length = wcd w := by rw [f1.g (by omega)]; exact ek
    have e146 : aget σ1 130 46 = W.length := by rw [h1, ag_s]
    have H1 : HD S σ1 := hH.cg (f1.g (by omega)) (fun j => f1.g (by omega))
    have N1 : ND s S T σ1 := hN.cg (fun x j _ _ _ _ => f1.g (by omega))
    have e123 : aget σ1 130 23 = T 24 0 := by rw [f1.g (by omega)]; exact e23
    have pre : ∀ q : aR, (if rnk w < r then some (0, [], σ) else (if wcd w = 2 then c12_bindSigns_p58 ((-1)) 130 r (wcd w) σ1 else (acall1 (c12_dropHeld 130 σ1) fun v2 σ2 => c12_bindSigns_p58 v2 130 r (wcd w) σ2))) = q → aU2 c12_bindSigns_b0 [130, r] σ = q := by
      intro q hq
      show c12_bindSigns_b0 130 r σ = q
      unfold c12_bindSigns_b0
      rw [e46, wq (x := (W.length : Int) + 1 - 1) (by omega) (by omega), show (W.length : Int) + 1 - 1 = W.length by omega, r_130_44 hL, n_153 hL, ek, c12_rank_ok w1, acall1_some, e46, wq (x := (W.length : Int) + 1 - 1) (by omega) (by omega), show (W.length : Int) + 1 - 1 = W.length by omega, ← h1, r_130_44 L1, n_153 L1, e146, e1k]
      refine ite_p (by omega) (ite_n (by omega) (ite_p (by omega) ?_))
      by_cases c : rnk w < r
      · rw [if_pos c] at hq ⊢; exact hq
      · rw [if_neg c] at hq ⊢
        exact ite_n (by omega) (ite_p (by omega) hq)
    by_cases c : rnk w < r
    · rw [flR_n c]
      refine ⟨σ, S, al_out (pre _ (if_pos c)) (Nat.ne_of_beq_eq_false rfl), Fp.rf _ _, ⟨hL, ⟨by rw [e46, hl], ek, ek2⟩, hH, e23, hN⟩, ⟨s0, s1⟩, b64, b72, bS, bh⟩
    · rw [flR_s c]
      have w40 : w ≠ 40 := fun q => c (by rw [q]; show (0 : Int) < r; omega)
      have ec : cnb (w :: W) = 1 + cnb W := by show (if w = 40 then 0 else 1) + cnb W = _; rw [if_neg w40]
      by_cases c2 : w = 2000
      · have en : nbs (w :: W) = 0 + nbs W := by show (if w = 40 ∨ w = 2000 then 0 else 1) + nbs W = _; rw [if_pos (Or.inr c2)]
        cases S with
        | nil => simp at bh
        | cons a S1 =>
          have hls : ((a :: S1).length : Int) = S1.length + 1 := by simp
          obtain ⟨τ, g1, g2, g3, g4⟩ := bind_step (S0 := a :: S1) (w := w) (b := -1) r L1 e146 hW1 e123 N1 H1 s0 s1 (by omega) (by omega) (by rw [c2]; exact Or.inr (Or.inr (Or.inl ⟨rfl, rfl, rfl⟩)))
          have hb : aU2 c12_bindSigns_b0 [130, r] σ = some (1, [130, r], τ) := pre _ (by rw [if_neg c, if_pos ((wcd_2 w1).1.mpr c2)]; exact g1)
          have hB2 : RB s W (T 24 0 :: S1) (wrT T w) := ⟨⟨s0, by omega⟩, by omega, by omega, by have : ((T 24 0 :: S1).length : Int) = S1.length + 1 := by simp
                                                                                                omega, by rw [g4]; simp⟩
          obtain ⟨υ, S', k1, k2, k3, k4⟩ := ih (T 24 0 :: S1) (wrT T w) τ m g3 (w2 c2) hB2 (by simp at hm; omega)
          refine ⟨υ, S', by rw [al_go hb]; exact k1, ?_, k3, k4⟩
          exact (f1.mono (fun x j q => by unfold wbg; omega)).tr ((g2.mono (fun x j q => by unfold wbg; omega)).tr k2)
      · have hs : sgn w := by
          rcases w1 with q | q | q
          · exact absurd q w40
          · exact absurd q c2
          · exact q
        have en : nbs (w :: W) = 1 + nbs W := by show (if w = 40 ∨ w = 2000 then 0 else 1) + nbs W = _; rw [if_neg (by omega)]
        cases S with
        | nil => simp at bh
        | cons b S1 =>
          cases S1 with
          | nil =>
            have : (([b] : List Int).length : Int) = 1 := rfl
            omega
          | cons a S2 =>
            have hls : ((b :: a :: S2).length : Int) = S2.length + 2 := by simp; omega
            obtain ⟨d1, d2, d3, d4⟩ := r_drop L1 H1 (by have : ((a :: S2).length : Int) = S2.length + 1 := by simp
                                                        omega)
            obtain ⟨σ2, h2⟩ : ∃ σ2, σ2 = aput σ1 130 47 (a :: S2).length := ⟨_, rfl⟩
            rw [← h2] at d1 d2 d3 d4
            obtain ⟨τ, g1, g2, g3, g4⟩ := bind_step (S0 := b :: a :: S2) (w := w) (b := b) r d3 (by rw [d4.g (by omega)]; exact e146) (hW1.cg (fun j _ _ => d4.g (by omega))) (by rw [d4.g (by omega)]; exact e123) (N1.cg (fun x j _ _ _ _ => d4.g (by omega))) d2 s0 s1 (by omega) (by omega) (by
              refine Or.inr (Or.inr (Or.inr ⟨rfl, ?_⟩))
              unfold sgn at hs
              rcases hs with rfl | rfl | rfl | rfl
              · exact Or.inr (Or.inr (Or.inl ⟨rfl, rfl⟩))
              · exact Or.inl ⟨rfl, rfl⟩
              · exact Or.inr (Or.inl ⟨rfl, rfl⟩)
              · exact Or.inr (Or.inr (Or.inr ⟨rfl, rfl⟩)))
            have hb : aU2 c12_bindSigns_b0 [130, r] σ = some (1, [130, r], τ) := pre _ (by rw [if_neg c, if_neg (fun q => c2 ((wcd_2 w1).1.mp q)), d1, acall1_some]; exact g1)
            have hB2 : RB s W (T 24 0 :: S2) (wrT T w) := ⟨⟨s0, by omega⟩, by omega, by omega, by have : ((T 24 0 :: S2).length : Int) = S2.length + 1 := by simp
                                                                                                  omega, by rw [g4]; simp⟩
            obtain ⟨υ, S', k1, k2, k3, k4⟩ := ih (T 24 0 :: S2) (wrT T w) τ m g3 (wfW_t (w3 hs)) hB2 (by simp at hm; omega)
            refine ⟨υ, S', by rw [al_go hb]; exact k1, ?_, k3, k4⟩
            exact (f1.mono (fun x j q => by unfold wbg; omega)).tr ((d4.mono (fun x j q => by unfold wbg; omega)).tr ((g2.mono (fun x j q => by unfold wbg; omega)).tr k2))
theorem c12_bindSigns_ok {s r : Int} (r1 : 1 ≤ r) (r2 : r ≤ 2) {W S : List Int} {T : aH} {σ : aS} (hR : RR s W S T σ) (hw : wfW true W) (hB : RB s W S T) :
    ∃ τ S', c12_bindSigns 130 r σ = some (0, [], τ) ∧ Fp (wbg s) σ τ ∧ RR s (flR r W T).1 S' (flR r W T).2 τ ∧ RB s (flR r W T).1 S' (flR r W T).2 := by
  obtain ⟨τ, S', h1, h2, h3, h4⟩ := bind_loop r1 r2 W S T σ aBig hR hw hB (by have := hB.2.2.1; unfold aBig; omega)
  refine ⟨τ, S', ?_, h2, h3, h4⟩
  unfold c12_bindSigns c12_bindSigns_l0
  rw [h1]; rfl
theorem RR.cg {s : Int} {W S : List Int} {T U : aH} {σ τ : aS} {P : Int → Int → Prop} (h : RR s W S T σ) (hL : LR τ) (hF : Fp P σ τ) (hP : ∀ x j, P x j → x = 130 ∧ j ≠ 23 ∧ j ≠ 46 ∧ j ≠ 47) (e24 : U 24 0 = T 24 0) (e8 : ∀ k, U 8 k = T 8 k) : RR s W S U τ := by
  obtain ⟨-, ⟨a1, a2⟩, a3, a4, stk, n1, n2, n3⟩ := h
  have g : ∀ x j, x ≠ 130 ∨ j = 23 ∨ j = 46 ∨ j = 47 → aget τ x j = aget σ x j := fun x j hx => hF.g (fun q => by have := hP x j q; omega)
  refine ⟨hL, ⟨by rw [g _ _ (by omega)]; exact a1, a2.cg (fun j _ _ => g _ _ (by omega))⟩, a3.cg (g _ _ (by omega)) (fun j => g _ _ (by omega)), by rw [g _ _ (by omega), e24]; exact a4, stk, n1, by rw [e24]; exact n2, fun k ka kb => ?_⟩
  rw [e24] at kb
  have := n3 k ka kb
  unfold nod at this ⊢
  dsimp only at this ⊢
  rw [e8, g 150 _ (by omega), g 151 _ (by omega), g 152 _ (by omega)]
  exact this
theorem r_waits {s v k : Int} {W S : List Int} {T : aH} {σ : aS} (hR : RR s W S T σ) (hk : wcd v = k) (hW : (W.length : Int) < 160) :
    ∃ τ, c12_waitsFor 130 k σ = some (0, [], τ) ∧ Fp (fun x j => (x = 130 ∧ j = 46) ∨ x = 153) σ τ ∧ RR s (v :: W) S T τ := by
  obtain ⟨hL, ⟨e46, ek⟩, hH, e23, hN⟩ := hR
  obtain ⟨σ1, h1⟩ : ∃ σ1, σ1 = aput σ 153 W.length k := ⟨_, rfl⟩
  have f1 : Fp (fun x j => x = 153 ∧ j = W.length) σ σ1 := by rw [h1]; exact (Fp.rf _ _).put _ ⟨rfl, rfl⟩
  obtain ⟨σ2, h2⟩ : ∃ σ2, σ2 = aput σ1 130 46 (W.length + 1) := ⟨_, rfl⟩
  have f2 : Fp (fun x j => x = 130 ∧ j = 46) σ1 σ2 := by rw [h2]; exact (Fp.rf _ _).put _ ⟨rfl, rfl⟩
  have fA : Fp (fun x j => (x = 130 ∧ j = 46) ∨ (x = 153 ∧ j = W.length)) σ σ2 := (f1.mono (fun x j q => Or.inr q)).tr (f2.mono (fun x j q => Or.inl q))
  have e1 : aget σ1 130 46 = W.length := by rw [f1.g (by omega)]; exact e46
  refine ⟨σ2, ?_, fA.mono (fun x j q => by omega), hL.rr fA (fun x j q => by unfold wrr; omega), ⟨by rw [h2, ag_s]; simp, by rw [f2.g (by omega), h1, ag_s, hk], ek.cg (fun j j0 j1 => fA.g (by omega))⟩, hH.cg (fA.g (by omega)) (fun j => fA.g (by omega)), by rw [fA.g (by omega)]; exact e23, hN.cg (fun x j _ _ _ _ => fA.g (by omega))⟩
  unfold c12_waitsFor
  rw [r_130_44 hL, n_153 hL, e46, ← h1, e1, wq (x := (W.length : Int) + 1) (by omega) (by omega), ← h2]
  exact ite_n (by omega) (ite_p (by omega) rfl)
theorem r_counted {b : Int → Int} {n P c : Int} {σ : aS} (h : TKr b n P σ) (e49 : aget σ 130 49 = c) (c0 : 0 ≤ c) (c64 : c ≤ 64) :
    (¬ 64 ≤ c ∧ ∃ τ, c12_isCounted 130 σ = some (0, [1], τ) ∧ Fp (fun x j => x = 130 ∧ j = 49) σ τ ∧ aget τ 130 49 = c + 1) ∨ (64 ≤ c ∧ ∃ τ, c12_isCounted 130 σ = some (0, [0], τ) ∧ Fp wrr σ τ ∧ FRr 2 P τ) := by
  unfold c12_isCounted
  rw [e49]
  by_cases q : c = 64
  · right
    obtain ⟨τ, e1, e2, e3⟩ := c12_wrong_ok h 2
    exact ⟨by omega, τ, by rw [e1, acall1_some]; exact ite_p q (bz01 (Or.inl rfl)), e2, e3⟩
  · left
    refine ⟨by omega, aput σ 130 49 (c + 1), ?_, (Fp.rf _ _).put _ ⟨rfl, rfl⟩, ag_s _ _ _ _⟩
    rw [wq (x := c + 1) (by omega) (by omega)]
    exact ite_n q (bz01 (Or.inr rfl))
