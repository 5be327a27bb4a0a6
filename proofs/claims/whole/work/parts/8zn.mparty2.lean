/-! the first party found: the reference -/
theorem nx_sp {T : aH} (hB : TB T) {z : Int} (hz : z ≤ 12) {g : Int → Int} (hc : cmp T z g) (h1 : 1 ≤ T 0 1) :
    (nxX (T 0 1) g < T 0 1 - 1 → cmp T z (nxg (T 0 1) (nxX (T 0 1) g) g) ∧ n13 (nxg (T 0 1) (nxX (T 0 1) g) g) < n13 g ∧ ∀ h, cmp T z h → LX h g → LX h (nxg (T 0 1) (nxX (T 0 1) g) g) ∨ E5 h (nxg (T 0 1) (nxX (T 0 1) g) g)) ∧
    (¬ nxX (T 0 1) g < T 0 1 - 1 → ∀ h, cmp T z h → ¬ LX h g) := by
  have h5 := hB.2.1
  have x0 := ff_0 (fun k => !decide (g (T 0 1 - 2 - k) = 0)) (n := T 0 1 - 1)
  have xn := ff_n (fun k => !decide (g (T 0 1 - 2 - k) = 0)) (n := T 0 1 - 1) (by omega)
  have xat := ff_at (P := fun k => !decide (g (T 0 1 - 2 - k) = 0)) (n := T 0 1 - 1)
  have xno := fun k => ff_no (P := fun k => !decide (g (T 0 1 - 2 - k) = 0)) (n := T 0 1 - 1) (k := k)
  have e : nxX (T 0 1) g = ff (fun k => !decide (g (T 0 1 - 2 - k) = 0)) (T 0 1 - 1) := rfl
  rw [← e] at x0 xn xat xno
  generalize nxX (T 0 1) g = X at x0 xn xat xno
  have xat' : X < T 0 1 - 1 → g (T 0 1 - 2 - X) ≠ 0 := fun q w => by
    have := xat q
    rw [decide_eq_true w] at this; exact absurd this (by decide)
  have xno' : ∀ k, 0 ≤ k → k < X → g (T 0 1 - 2 - k) = 0 := fun k k0 k1 => by
    have := xno k k0 k1
    by_cases w : g (T 0 1 - 2 - k) = 0
    · exact w
    · rw [decide_eq_false w] at this; exact absurd this (by decide)
  obtain ⟨c0, c1, c2⟩ := hc
  unfold szf at c2
  have g0 := c0 0 (by omega) (by omega)
  have g1 := c0 1 (by omega) (by omega)
  have g2 := c0 2 (by omega) (by omega)
  have g3 := c0 3 (by omega) (by omega)
  have g4 := c0 4 (by omega) (by omega)
  have d1 := c1 1
  have d2 := c1 2
  have d3 := c1 3
  have d4 := c1 4
  refine ⟨fun hX => ?_, fun hX h hc hl => ?_⟩
  · have ky : KY (T 0 1) z g (nxg (T 0 1) X g) := by
      rcases (show T 0 1 = 2 ∨ T 0 1 = 3 ∨ T 0 1 = 4 ∨ T 0 1 = 5 by omega) with t | t | t | t
      · rw [t] at xat' hX d2 d3 d4 ⊢
        have : X = 0 := by omega
        subst this
        exact KY_2 hz ⟨g0, g1, d2 (by omega), d3 (by omega), d4 (by omega)⟩ c2 (xat' hX)
      · rw [t] at xat' xno' hX d3 d4 ⊢
        exact KY_3 hz ⟨g0, g1, g2, d3 (by omega), d4 (by omega)⟩ c2 x0 (by omega) (xat' hX) xno'
      · rw [t] at xat' xno' hX d4 ⊢
        exact KY_4 hz ⟨g0, g1, g2, g3, d4 (by omega)⟩ c2 x0 (by omega) (xat' hX) xno'
      · rw [t] at xat' xno' hX ⊢
        exact KY_5 hz ⟨g0, g1, g2, g3, g4⟩ c2 x0 (by omega) (xat' hX) xno'
    obtain ⟨⟨k0, k1, k2, k3, k4⟩, ks, ⟨kz1, kz2, kz3, kz4⟩, kn, kl⟩ := ky
    refine ⟨⟨fun s s0 s5 => ?_, fun s hs => ?_, ks⟩, kn, fun h hc hl => ?_⟩
    · rcases cs5 s0 s5 with rfl | rfl | rfl | rfl | rfl <;> assumption
    · by_cases sn : s < 0
      · show (if s < T 0 1 - 2 - X then g s else _) = 0
        rw [if_pos (by omega)]; exact c1 s (by omega)
      · by_cases s5 : s < 5
        · rcases cs5 (show 0 ≤ s by omega) s5 with rfl | rfl | rfl | rfl | rfl
          · exact absurd (show (0 : Int) ≤ 0 ∧ (0 : Int) < T 0 1 by omega) hs
          · exact kz1 (by omega)
          · exact kz2 (by omega)
          · exact kz3 (by omega)
          · exact kz4 (by omega)
        · unfold nxg
          rw [if_neg (by omega), if_neg (by omega), if_neg (by omega)]
    · exact kl h ⟨hc.1 0 (by omega) (by omega), hc.1 1 (by omega) (by omega), hc.1 2 (by omega) (by omega), hc.1 3 (by omega) (by omega), hc.1 4 (by omega) (by omega)⟩ hc.2.2 (fun q => hc.2.1 1 (by omega)) (fun q => hc.2.1 2 (by omega)) (fun q => hc.2.1 3 (by omega)) (fun q => hc.2.1 4 (by omega)) hl
  · have a0 := hc.1 0 (by omega) (by omega)
    have a1 := hc.1 1 (by omega) (by omega)
    have a2 := hc.1 2 (by omega) (by omega)
    have a3 := hc.1 3 (by omega) (by omega)
    have a4 := hc.1 4 (by omega) (by omega)
    have b1 := hc.2.1 1
    have b2 := hc.2.1 2
    have b3 := hc.2.1 3
    have b4 := hc.2.1 4
    have hs := hc.2.2
    unfold szf at hs
    have hXe : X = T 0 1 - 1 := by omega
    have y0 := xno' (T 0 1 - 2)
    have y1 := xno' (T 0 1 - 3)
    have y2 := xno' (T 0 1 - 4)
    have y3 := xno' (T 0 1 - 5)
    rw [show T 0 1 - 2 - (T 0 1 - 2) = 0 by omega] at y0
    rw [show T 0 1 - 2 - (T 0 1 - 3) = 1 by omega] at y1
    rw [show T 0 1 - 2 - (T 0 1 - 4) = 2 by omega] at y2
    rw [show T 0 1 - 2 - (T 0 1 - 5) = 3 by omega] at y3
    unfold LX at hl
    omega
def wgr : List (Int × List Int) := [(159, [])]
theorem MI.gr {T : aH} {σ τ : aS} (h : MI T σ) (hF : Fr wgr σ τ) : MI T τ := h.fr hF (by decide +kernel) (wdj_spec (by decide +kernel))
theorem c12_nextGroup_ok {T : aH} {σ : aS} (hM : MI T σ) {z : Int} (hz : z ≤ 12) {g : Int → Int} (hc : cmp T z g) (hG : GR g σ) (h1 : 1 ≤ T 0 1) :
    ∃ τ, c12_nextGroup 130 σ = some (0, [if nxX (T 0 1) g < T 0 1 - 1 then 1 else 0], τ) ∧ Fr wgr σ τ ∧ (nxX (T 0 1) g < T 0 1 - 1 → GR (nxg (T 0 1) (nxX (T 0 1) g) g) τ) := by
  have hB := hM.2.2
  have h5 := hB.2.1
  have hL := hM.1
  have x0 := ff_0 (fun k => !decide (g (T 0 1 - 2 - k) = 0)) (n := T 0 1 - 1)
  have xn := ff_n (fun k => !decide (g (T 0 1 - 2 - k) = 0)) (n := T 0 1 - 1) (by omega)
  have xat := ff_at (P := fun k => !decide (g (T 0 1 - 2 - k) = 0)) (n := T 0 1 - 1)
  have xno := fun k => ff_no (P := fun k => !decide (g (T 0 1 - 2 - k) = 0)) (n := T 0 1 - 1) (k := k)
  have e : nxX (T 0 1) g = ff (fun k => !decide (g (T 0 1 - 2 - k) = 0)) (T 0 1 - 1) := rfl
  rw [← e] at x0 xn xat xno
  generalize nxX (T 0 1) g = X at x0 xn xat xno
  have gb : ∀ s, 0 ≤ s → s < 5 → 0 ≤ g s ∧ g s ≤ 12 := fun s s0 s5 => by
    have hs := hc.2.2
    unfold szf at hs
    have a0 := hc.1 0 (by omega) (by omega)
    have a1 := hc.1 1 (by omega) (by omega)
    have a2 := hc.1 2 (by omega) (by omega)
    have a3 := hc.1 3 (by omega) (by omega)
    have a4 := hc.1 4 (by omega) (by omega)
    rcases cs5 s0 s5 with e | e | e | e | e <;> rw [e] <;> omega
  have hal := al_I (c := 12) (B := aU3 c12_nextGroup_b11) (n := T 0 1 - 1) (i := 0) (vs := [130, T 0 1 - 1, T 0 1 - 2]) (σ := σ)
    (fun k vs τ => 0 ≤ k ∧ vs = [130, T 0 1 - 1, T 0 1 - 2 - k] ∧ k ≤ X ∧ τ = σ)
    (fun r => r = (31, [130, T 0 1 - 1, T 0 1 - 2 - X], σ)) (by omega) (by omega) ⟨Int.le_refl _, by rw [Int.sub_zero], x0, rfl⟩ ?_
  · obtain ⟨r, hr, rfl⟩ := hal
    have start : ∀ r : aR, c12_nextGroup_p30 130 (T 0 1 - 1) (T 0 1 - 2 - X) σ = r → c12_nextGroup 130 σ = r := by
      intro r h
      unfold c12_nextGroup
      rw [hM.2.1.1.2.1, wq (x := T 0 1 - 1) (by omega) (by omega), wq (x := T 0 1 - 1 - 1) (by omega) (by omega), show T 0 1 - 1 - 1 = T 0 1 - 2 by omega]
      unfold c12_nextGroup_l11
      rw [hr]
      exact h
    by_cases c : X < T 0 1 - 1
    · obtain ⟨i, hi⟩ : ∃ i, i = T 0 1 - 2 - X := ⟨_, rfl⟩
      have i0 : 0 ≤ i := by omega
      have gi := gb i i0 (by omega)
      have gl := gb (T 0 1 - 1) (by omega) (by omega)
      have xa := xat c
      have xa' : g i ≠ 0 := fun w => by
        rw [hi] at w
        rw [decide_eq_true w] at xa; exact absurd xa (by decide)
      have f1 : Fr wgr σ (aput σ 159 i (g i - 1)) := (Fr.rf _ _).put _ rfl
      obtain ⟨υ, hυ⟩ : ∃ υ, υ = aput σ 159 i (g i - 1) := ⟨_, rfl⟩
      rw [← hυ] at f1
      have hal2 := al_I (c := 61) (B := aU5 c12_nextGroup_b60) (n := T 0 1) (i := i + 1) (vs := [130, T 0 1 - 1, i, g (T 0 1 - 1) + 1, i + 1]) (σ := υ)
        (fun k vs τ => i + 1 ≤ k ∧ vs = [130, T 0 1 - 1, i, g (T 0 1 - 1) + 1, k] ∧ Fr wgr σ τ ∧ (∀ s, s ≤ i → aget τ 159 s = aget υ 159 s) ∧ (∀ s, i < s → s < k → aget τ 159 s = 0) ∧ ∀ s, k ≤ s → aget τ 159 s = aget υ 159 s)
        (fun r => ∃ τ, r = (81, [130, i, g (T 0 1 - 1) + 1], τ) ∧ Fr wgr σ τ ∧ (∀ s, s ≤ i → aget τ 159 s = aget υ 159 s) ∧ (∀ s, i < s → s < T 0 1 → aget τ 159 s = 0) ∧ ∀ s, T 0 1 ≤ s → aget τ 159 s = aget υ 159 s)
        (by omega) (by omega) ⟨Int.le_refl _, rfl, f1, fun s _ => rfl, fun s s0 s1 => by omega, fun s _ => rfl⟩ ?_
      · obtain ⟨r, hr2, φ, rfl, hF2, v1, v2, v3⟩ := hal2
        have hLf := (hM.gr hF2).1
        refine ⟨aput φ 159 (i + 1) (g (T 0 1 - 1) + 1), ?_, hF2.put _ rfl, fun _ s s0 s5 => ?_⟩
        · rw [if_pos c]
          refine start _ ?_
          rw [← hi]
          unfold c12_nextGroup_p30
          rw [r_130_65 hL, n_159 hL, hG (T 0 1 - 1) (by omega) (by omega), hG i i0 (by omega), wq (x := g (T 0 1 - 1) + 1) (by omega) (by omega), wq (x := i + 1) (by omega) (by omega), wq (x := g i - 1) (by omega) (by omega), ← hυ]
          refine ite_n (by omega) (ite_n (by omega) (ite_p (by omega) (ite_n (by omega) (ite_p (by omega) (ite_p (by omega) ?_)))))
          unfold c12_nextGroup_l60
          rw [hr2]
          show c12_nextGroup_p80 130 i (g (T 0 1 - 1) + 1) φ = _
          unfold c12_nextGroup_p80
          rw [r_130_65 hLf, n_159 hLf, wq (x := i + 1) (by omega) (by omega)]
          exact ite_n (by omega) (ite_p (by omega) (ite_p (by omega) rfl))
        · show _ = (if s < T 0 1 - 2 - X then g s else if s = T 0 1 - 2 - X then g s - 1 else if s = T 0 1 - 2 - X + 1 then g (T 0 1 - 1) + 1 else 0)
          rw [← hi]
          by_cases e1 : s = i + 1
          · rw [e1, ag_s, if_neg (by omega), if_neg (by omega), if_pos rfl]
          · rw [ag_j e1]
            by_cases e2 : s < i
            · rw [if_pos e2, v1 s (by omega), hυ, ag_j (by omega)]; exact hG s s0 s5
            · rw [if_neg e2]
              by_cases e3 : s = i
              · rw [if_pos e3, v1 s (by omega), hυ, e3, ag_s]
              · rw [if_neg e3, if_neg e1]
                by_cases e4 : s < T 0 1
                · exact v2 s (by omega) e4
                · rw [v3 s (by omega), hυ, ag_j (by omega), hG s s0 s5]; exact hc.2.1 s (by omega)
      · rintro k vs τ hk ⟨k0, rfl, hF, v1, v2, v3⟩
        have hLt := (hM.gr hF).1
        by_cases d : k < T 0 1
        · refine Or.inl ⟨d, [130, T 0 1 - 1, i, g (T 0 1 - 1) + 1, k + 1], aput τ 159 k 0, ?_, by omega, rfl, hF.put _ rfl, fun s hs => ?_, fun s s0 s1 => ?_, fun s hs => ?_⟩
          · show c12_nextGroup_b60 130 (T 0 1 - 1) i (g (T 0 1 - 1) + 1) k τ = _
            unfold c12_nextGroup_b60
            rw [r_130_65 hLt, n_159 hLt, wq (by omega) (by omega)]
            exact ite_n (by omega) (ite_n (by omega) (ite_p (by omega) rfl))
          · rw [ag_j (by omega)]; exact v1 s hs
          · by_cases e : s = k
            · rw [e, ag_s]
            · rw [ag_j e]; exact v2 s s0 (by omega)
          · rw [ag_j (by omega)]; exact v3 s (by omega)
        · have hke : k = T 0 1 := by omega
          subst hke
          refine Or.inr ⟨(81, [130, i, g (T 0 1 - 1) + 1], τ), ?_, Nat.ne_of_beq_eq_false rfl, τ, rfl, hF, v1, v2, v3⟩
          show c12_nextGroup_b60 130 (T 0 1 - 1) i (g (T 0 1 - 1) + 1) (T 0 1) τ = _
          unfold c12_nextGroup_b60
          exact ite_p (by omega) rfl
    · refine ⟨σ, ?_, Fr.rf _ _, fun q => absurd q c⟩
      rw [if_neg c]
      refine start _ ?_
      unfold c12_nextGroup_p30
      exact ite_p (by omega) (ite_p (by omega) rfl)
  · rintro k vs τ hk ⟨k0, rfl, hX, rfl⟩
    by_cases c : k < T 0 1 - 1
    · have hgk := hG (T 0 1 - 2 - k) (by omega) (by omega)
      by_cases q : g (T 0 1 - 2 - k) = 0
      · refine Or.inl ⟨c, [130, T 0 1 - 1, T 0 1 - 2 - (k + 1)], τ, ?_, by omega, rfl, ?_, rfl⟩
        · show c12_nextGroup_b11 130 (T 0 1 - 1) (T 0 1 - 2 - k) τ = _
          unfold c12_nextGroup_b11
          rw [r_130_65 hL, n_159 hL, hgk, wq (by omega) (by omega), show T 0 1 - 2 - (k + 1) = T 0 1 - 2 - k + -1 by omega]
          exact ite_n (by omega) (ite_n (by omega) (ite_p (by omega) (ite_p q rfl)))
        · by_cases w : X = k
          · have := xat (by omega)
            rw [w, decide_eq_true q] at this; exact absurd this (by decide)
          · omega
      · have hXk : X = k := by
          by_cases w : k < X
          · have := xno k k0 w
            rw [decide_eq_false q] at this; exact absurd this (by decide)
          · omega
        refine Or.inr ⟨_, ?_, Nat.ne_of_beq_eq_false rfl, rfl⟩
        rw [hXk]
        show c12_nextGroup_b11 130 (T 0 1 - 1) (T 0 1 - 2 - k) τ = _
        unfold c12_nextGroup_b11
        rw [r_130_65 hL, n_159 hL, hgk]
        exact ite_n (by omega) (ite_n (by omega) (ite_p (by omega) (ite_n q rfl)))
    · refine Or.inr ⟨_, ?_, Nat.ne_of_beq_eq_false rfl, rfl⟩
      rw [show X = k by omega]
      show c12_nextGroup_b11 130 (T 0 1 - 1) (T 0 1 - 2 - k) τ = _
      unfold c12_nextGroup_b11
      exact ite_p (by omega) rfl
