/-! split: the reference -/
def nyX (n : Int) (f g : Int → Int) : Int := ff (fun k => !decide (g (n - 1 - k) = f (n - 1 - k))) n
def nyg (n X : Int) (g : Int → Int) : Int → Int := fun s => if s < n - 1 - X then g s else if s = n - 1 - X then g s + 1 else 0
def C5 (f g : Int → Int) : Prop := (0 ≤ g 0 ∧ g 0 ≤ f 0) ∧ (0 ≤ g 1 ∧ g 1 ≤ f 1) ∧ (0 ≤ g 2 ∧ g 2 ≤ f 2) ∧ (0 ≤ g 3 ∧ g 3 ≤ f 3) ∧ 0 ≤ g 4 ∧ g 4 ≤ f 4
def KW (f g g' : Int → Int) : Prop := C5 f g' ∧ LX g g' ∧ ∀ h : Int → Int, C5 f h → LX g h → LX g' h ∨ E5 g' h
theorem KW_5 {f g : Int → Int} (hg : C5 f g) {X : Int} (x0 : 0 ≤ X) (x1 : X < 5) (xa : g (4 - X) ≠ f (4 - X)) (xn : ∀ k, 0 ≤ k → k < X → g (4 - k) = f (4 - k)) : KW f g (nyg 5 X g) := by
  have n0 := xn 0; have n1 := xn 1; have n2 := xn 2; have n3 := xn 3
  unfold KW C5 LX E5 nyg
  unfold C5 at hg
  rcases cs5 x0 x1 with x | x | x | x | x <;> rw [x] at xa n0 n1 n2 n3 ⊢ <;> simp at xa n0 n1 n2 n3 ⊢ <;> refine ⟨by omega, by omega, fun h a b c d e => ?_⟩ <;> omega
theorem KW_4 {f g : Int → Int} (hg : C5 f g) (f4 : f 4 = 0) {X : Int} (x0 : 0 ≤ X) (x1 : X < 4) (xa : g (3 - X) ≠ f (3 - X)) (xn : ∀ k, 0 ≤ k → k < X → g (3 - k) = f (3 - k)) : KW f g (nyg 4 X g) := by
  have n0 := xn 0; have n1 := xn 1; have n2 := xn 2
  unfold KW C5 LX E5 nyg
  unfold C5 at hg
  rcases (show X = 0 ∨ X = 1 ∨ X = 2 ∨ X = 3 by omega) with x | x | x | x <;> rw [x] at xa n0 n1 n2 ⊢ <;> simp at xa n0 n1 n2 ⊢ <;> refine ⟨by omega, by omega, fun h a b c d e => ?_⟩ <;> omega
theorem KW_3 {f g : Int → Int} (hg : C5 f g) (f4 : f 4 = 0) (f3 : f 3 = 0) {X : Int} (x0 : 0 ≤ X) (x1 : X < 3) (xa : g (2 - X) ≠ f (2 - X)) (xn : ∀ k, 0 ≤ k → k < X → g (2 - k) = f (2 - k)) : KW f g (nyg 3 X g) := by
  have n0 := xn 0; have n1 := xn 1
  unfold KW C5 LX E5 nyg
  unfold C5 at hg
  rcases (show X = 0 ∨ X = 1 ∨ X = 2 by omega) with x | x | x <;> rw [x] at xa n0 n1 ⊢ <;> simp at xa n0 n1 ⊢ <;> refine ⟨by omega, by omega, fun h a b c d e => ?_⟩ <;> omega
theorem KW_2 {f g : Int → Int} (hg : C5 f g) (f4 : f 4 = 0) (f3 : f 3 = 0) (f2 : f 2 = 0) {X : Int} (x0 : 0 ≤ X) (x1 : X < 2) (xa : g (1 - X) ≠ f (1 - X)) (xn : ∀ k, 0 ≤ k → k < X → g (1 - k) = f (1 - k)) : KW f g (nyg 2 X g) := by
  have n0 := xn 0
  unfold KW C5 LX E5 nyg
  unfold C5 at hg
  rcases (show X = 0 ∨ X = 1 by omega) with x | x <;> rw [x] at xa n0 ⊢ <;> simp at xa n0 ⊢ <;> refine ⟨by omega, by omega, fun h a b c d e => ?_⟩ <;> omega
theorem KW_1 {f g : Int → Int} (hg : C5 f g) (f4 : f 4 = 0) (f3 : f 3 = 0) (f2 : f 2 = 0) (f1 : f 1 = 0) (xa : g 0 ≠ f 0) : KW f g (nyg 1 0 g) := by
  unfold KW C5 LX E5 nyg
  unfold C5 at hg
  simp
  refine ⟨by omega, by omega, fun h a b c d e => ?_⟩
  omega
theorem cvf_C5 {f g : Int → Int} (hg : ∀ s, 0 ≤ s → s < 5 → 0 ≤ g s) (h : cvf f g = true) : C5 f g := by
  rw [cvf_iff] at h
  exact ⟨⟨hg 0 (by omega) (by omega), h 0 (by omega) (by omega)⟩, ⟨hg 1 (by omega) (by omega), h 1 (by omega) (by omega)⟩, ⟨hg 2 (by omega) (by omega), h 2 (by omega) (by omega)⟩, ⟨hg 3 (by omega) (by omega), h 3 (by omega) (by omega)⟩, hg 4 (by omega) (by omega), h 4 (by omega) (by omega)⟩
theorem C5_cvf {f g : Int → Int} (h : C5 f g) : cvf f g = true := by
  rw [cvf_iff]
  intro s s0 s5
  obtain ⟨⟨-, a⟩, ⟨-, b⟩, ⟨-, c⟩, ⟨-, d⟩, -, e⟩ := h
  rcases cs5 s0 s5 with rfl | rfl | rfl | rfl | rfl <;> assumption
theorem ny_sp {T : aH} (hB : TB T) {f g : Int → Int} (hf : BF T f) (hg : BF T g) (hc : cvf f g = true) :
    (nyX (T 0 1) f g < T 0 1 → BF T (nyg (T 0 1) (nyX (T 0 1) f g) g) ∧ cvf f (nyg (T 0 1) (nyX (T 0 1) f g) g) = true ∧ LX g (nyg (T 0 1) (nyX (T 0 1) f g) g) ∧ ∀ h, BF T h → cvf f h = true → LX g h → LX (nyg (T 0 1) (nyX (T 0 1) f g) g) h ∨ E5 (nyg (T 0 1) (nyX (T 0 1) f g) g) h) ∧
    (¬ nyX (T 0 1) f g < T 0 1 → ∀ h, BF T h → cvf f h = true → ¬ LX g h) := by
  have h5 := hB.2.1
  have x0 := ff_0 (fun k => !decide (g (T 0 1 - 1 - k) = f (T 0 1 - 1 - k))) (n := T 0 1)
  have xn := ff_n (fun k => !decide (g (T 0 1 - 1 - k) = f (T 0 1 - 1 - k))) (n := T 0 1) (by omega)
  have xat := ff_at (P := fun k => !decide (g (T 0 1 - 1 - k) = f (T 0 1 - 1 - k))) (n := T 0 1)
  have xno := fun k => ff_no (P := fun k => !decide (g (T 0 1 - 1 - k) = f (T 0 1 - 1 - k))) (n := T 0 1) (k := k)
  have e : nyX (T 0 1) f g = ff (fun k => !decide (g (T 0 1 - 1 - k) = f (T 0 1 - 1 - k))) (T 0 1) := rfl
  rw [← e] at x0 xn xat xno
  generalize nyX (T 0 1) f g = X at x0 xn xat xno
  have xat' : X < T 0 1 → g (T 0 1 - 1 - X) ≠ f (T 0 1 - 1 - X) := fun q w => by
    have := xat q
    rw [decide_eq_true w] at this; exact absurd this (by decide)
  have xno' : ∀ k, 0 ≤ k → k < X → g (T 0 1 - 1 - k) = f (T 0 1 - 1 - k) := fun k k0 k1 => by
    have := xno k k0 k1
    by_cases w : g (T 0 1 - 1 - k) = f (T 0 1 - 1 - k)
    · exact w
    · rw [decide_eq_false w] at this; exact absurd this (by decide)
  have hcg := cvf_C5 (fun s s0 s5 => (hg.1 s s0 s5).1) hc
  refine ⟨fun hX => ?_, fun hX h hh hch hl => ?_⟩
  · have kw : KW f g (nyg (T 0 1) X g) := by
      have z1 := hf.2 1
      have z2 := hf.2 2
      have z3 := hf.2 3
      have z4 := hf.2 4
      rcases (show T 0 1 = 1 ∨ T 0 1 = 2 ∨ T 0 1 = 3 ∨ T 0 1 = 4 ∨ T 0 1 = 5 by omega) with t | t | t | t | t
      · rw [t] at xat' xno' hX z1 z2 z3 z4 ⊢
        have : X = 0 := by omega
        subst this
        exact KW_1 hcg (z4 (by omega)) (z3 (by omega)) (z2 (by omega)) (z1 (by omega)) (xat' hX)
      · rw [t] at xat' xno' hX z2 z3 z4 ⊢
        exact KW_2 hcg (z4 (by omega)) (z3 (by omega)) (z2 (by omega)) x0 (by omega) (xat' hX) xno'
      · rw [t] at xat' xno' hX z3 z4 ⊢
        exact KW_3 hcg (z4 (by omega)) (z3 (by omega)) x0 (by omega) (xat' hX) xno'
      · rw [t] at xat' xno' hX z4 ⊢
        exact KW_4 hcg (z4 (by omega)) x0 (by omega) (xat' hX) xno'
      · rw [t] at xat' xno' hX ⊢
        exact KW_5 hcg x0 (by omega) (xat' hX) xno'
    obtain ⟨k1, k2, k3⟩ := kw
    have hcv := C5_cvf k1
    refine ⟨⟨fun s s0 s5 => ?_, fun s hs => ?_⟩, hcv, k2, fun h hh hch hl => k3 h (cvf_C5 (fun s s0 s5 => (hh.1 s s0 s5).1) hch) hl⟩
    · have a := (cvf_iff.1 hcv) s s0 s5
      have b := (hf.1 s s0 s5).2
      obtain ⟨⟨a0, -⟩, ⟨a1, -⟩, ⟨a2, -⟩, ⟨a3, -⟩, a4, -⟩ := k1
      refine ⟨?_, by omega⟩
      rcases cs5 s0 s5 with rfl | rfl | rfl | rfl | rfl <;> assumption
    · by_cases sn : s < 0
      · show (if s < T 0 1 - 1 - X then g s else _) = 0
        rw [if_pos (by omega)]; exact hg.2 s hs
      · unfold nyg
        rw [if_neg (by omega), if_neg (by omega)]
  · have hXe : X = T 0 1 := by omega
    have hch5 := cvf_C5 (fun s s0 s5 => (hh.1 s s0 s5).1) hch
    have ee : ∀ s, 0 ≤ s → s < 5 → g s = f s := fun s s0 s5 => by
      by_cases w : s < T 0 1
      · have := xno' (T 0 1 - 1 - s) (by omega) (by omega)
        rw [show T 0 1 - 1 - (T 0 1 - 1 - s) = s by omega] at this
        exact this
      · rw [hg.2 s (by omega), hf.2 s (by omega)]
    have e0 := ee 0 (by omega) (by omega)
    have e1 := ee 1 (by omega) (by omega)
    have e2 := ee 2 (by omega) (by omega)
    have e3 := ee 3 (by omega) (by omega)
    have e4 := ee 4 (by omega) (by omega)
    unfold C5 at hch5
    unfold LX at hl
    omega
theorem c12_nextOf_ok {T N : aH} {σ : aS} (hM : MI T σ) (hN : NB T N) (hS : MN T N σ) {t : Int} (t0 : 0 ≤ t) (t1 : t < T 0 2) {g : Int → Int} (hg : BF T g) (hG : GR g σ) :
    ∃ τ, c12_nextOf 130 t σ = some (0, [if nyX (T 0 1) (ctn T N t) g < T 0 1 then 1 else 0], τ) ∧ Fr wgr σ τ ∧ (nyX (T 0 1) (ctn T N t) g < T 0 1 → GR (nyg (T 0 1) (nyX (T 0 1) (ctn T N t) g) g) τ) := by
  have hB := hM.2.2
  have h5 := hB.2.1
  have h4 := hB.2.2.1
  have x0 := ff_0 (fun k => !decide (g (T 0 1 - 1 - k) = ctn T N t (T 0 1 - 1 - k))) (n := T 0 1)
  have xn := ff_n (fun k => !decide (g (T 0 1 - 1 - k) = ctn T N t (T 0 1 - 1 - k))) (n := T 0 1) (by omega)
  have xat := ff_at (P := fun k => !decide (g (T 0 1 - 1 - k) = ctn T N t (T 0 1 - 1 - k))) (n := T 0 1)
  have xno := fun k => ff_no (P := fun k => !decide (g (T 0 1 - 1 - k) = ctn T N t (T 0 1 - 1 - k))) (n := T 0 1) (k := k)
  have e : nyX (T 0 1) (ctn T N t) g = ff (fun k => !decide (g (T 0 1 - 1 - k) = ctn T N t (T 0 1 - 1 - k))) (T 0 1) := rfl
  rw [← e] at x0 xn xat xno
  generalize nyX (T 0 1) (ctn T N t) g = X at x0 xn xat xno
  have hal := al_I (c := 8) (B := aU3 c12_nextOf_b7) (n := T 0 1) (i := 0) (vs := [130, t, T 0 1 - 1]) (σ := σ)
    (fun k vs τ => 0 ≤ k ∧ vs = [130, t, T 0 1 - 1 - k] ∧ k ≤ X ∧ Fr wgr σ τ ∧ (∀ s, s ≤ T 0 1 - 1 - k ∨ T 0 1 ≤ s → aget τ 159 s = aget σ 159 s) ∧ ∀ s, T 0 1 - 1 - k < s → s < T 0 1 → aget τ 159 s = 0)
    (fun r => ∃ τ, r = (44, [130, T 0 1 - 1 - X], τ) ∧ Fr wgr σ τ ∧ (∀ s, s ≤ T 0 1 - 1 - X ∨ T 0 1 ≤ s → aget τ 159 s = aget σ 159 s) ∧ ∀ s, T 0 1 - 1 - X < s → s < T 0 1 → aget τ 159 s = 0) (by omega) (by omega)
    ⟨Int.le_refl _, by rw [Int.sub_zero], x0, Fr.rf _ _, fun s _ => rfl, fun s s0 s1 => by omega⟩ ?_
  · obtain ⟨r, hr, φ, rfl, hF, v1, v2⟩ := hal
    have hLf := (hM.gr hF).1
    have start : ∀ r : aR, c12_nextOf_p43 130 (T 0 1 - 1 - X) φ = r → c12_nextOf 130 t σ = r := by
      intro r h
      unfold c12_nextOf
      rw [hM.2.1.1.2.1, wq (x := T 0 1 - 1) (by omega) (by omega)]
      unfold c12_nextOf_l7
      rw [hr]
      exact h
    by_cases c : X < T 0 1
    · obtain ⟨i, hi⟩ : ∃ i, i = T 0 1 - 1 - X := ⟨_, rfl⟩
      rw [← hi] at v1 v2
      have gi := hg.b7 hB i (by omega) (by omega)
      have vi : aget φ 159 i = g i := by rw [v1 i (Or.inl (by omega))]; exact hG i (by omega) (by omega)
      refine ⟨aput φ 159 i (g i + 1), ?_, hF.put _ rfl, fun _ s s0 s5 => ?_⟩
      · rw [if_pos c]
        refine start _ ?_
        rw [← hi]
        unfold c12_nextOf_p43
        rw [r_130_65 hLf, n_159 hLf, vi, wq (by omega) (by omega)]
        exact ite_n (by omega) (ite_n (by omega) (ite_p (by omega) (ite_p (by omega) (ite_p (by omega) rfl))))
      · show _ = (if s < T 0 1 - 1 - X then g s else if s = T 0 1 - 1 - X then g s + 1 else 0)
        rw [← hi]
        by_cases e1 : s < i
        · rw [if_pos e1, ag_j (by omega), v1 s (Or.inl (by omega))]; exact hG s s0 s5
        · rw [if_neg e1]
          by_cases e2 : s = i
          · rw [if_pos e2, e2, ag_s]
          · rw [if_neg e2, ag_j e2]
            by_cases e3 : s < T 0 1
            · exact v2 s (by omega) e3
            · rw [v1 s (Or.inr (by omega)), hG s s0 s5]; exact hg.2 s (by omega)
    · refine ⟨φ, ?_, hF, fun q => absurd q c⟩
      rw [if_neg c]
      refine start _ ?_
      unfold c12_nextOf_p43
      exact ite_p (by omega) (ite_p (by omega) rfl)
  · rintro k vs τ hk ⟨k0, rfl, hX, hF, v1, v2⟩
    have hMt := hM.gr hF
    have hL := hMt.1
    have hSt : MN T N τ := hS.fr hF (wdj_spec (by decide +kernel))
    by_cases c : k < T 0 1
    · have hgk : aget τ 159 (T 0 1 - 1 - k) = g (T 0 1 - 1 - k) := by rw [v1 _ (Or.inl (by omega))]; exact hG _ (by omega) (by omega)
      have hnk : aget τ 155 (5 * (T 0 1 - 1 - k) + t) = ctn T N t (T 0 1 - 1 - k) := by
        rw [hSt.1 _ _ (by omega) (by omega) t0 (by omega)]
        exact (if_pos ⟨by omega, by omega⟩).symm
      by_cases q : g (T 0 1 - 1 - k) = ctn T N t (T 0 1 - 1 - k)
      · refine Or.inl ⟨c, [130, t, T 0 1 - 1 - (k + 1)], aput τ 159 (T 0 1 - 1 - k) 0, ?_, by omega, rfl, ?_, hF.put _ rfl, fun s hs => ?_, fun s s0 s1 => ?_⟩
        · show c12_nextOf_b7 130 t (T 0 1 - 1 - k) τ = _
          unfold c12_nextOf_b7
          rw [r_130_65 hL, n_159 hL, r_130_51 hL, n_155 hL, w5 (by omega) (by omega) (by omega) (by omega), hgk, hnk, wq (x := T 0 1 - 1 - k + -1) (by omega) (by omega), show T 0 1 - 1 - (k + 1) = T 0 1 - 1 - k + -1 by omega]
          exact ite_n (by omega) (ite_n (by omega) (ite_p (by omega) (ite_n (by omega) (ite_p (by omega) (ite_p q (ite_n (by omega) (ite_p (by omega) rfl)))))))
        · by_cases w : X = k
          · have := xat (by omega)
            rw [w, decide_eq_true q] at this; exact absurd this (by decide)
          · omega
        · rw [ag_j (by omega)]; exact v1 s (by omega)
        · by_cases e : s = T 0 1 - 1 - k
          · rw [e, ag_s]
          · rw [ag_j e]; exact v2 s (by omega) s1
      · have hXk : X = k := by
          by_cases w : k < X
          · have := xno k k0 w
            rw [decide_eq_false q] at this; exact absurd this (by decide)
          · omega
        refine Or.inr ⟨(44, [130, T 0 1 - 1 - X], τ), ?_, Nat.ne_of_beq_eq_false rfl, τ, rfl, hF, by rw [hXk]; exact v1, by rw [hXk]; exact v2⟩
        rw [hXk]
        show c12_nextOf_b7 130 t (T 0 1 - 1 - k) τ = _
        unfold c12_nextOf_b7
        rw [r_130_65 hL, n_159 hL, r_130_51 hL, n_155 hL, w5 (by omega) (by omega) (by omega) (by omega), hgk, hnk]
        exact ite_n (by omega) (ite_n (by omega) (ite_p (by omega) (ite_n (by omega) (ite_p (by omega) (ite_n q rfl)))))
    · have hke : k = X := by omega
      refine Or.inr ⟨(44, [130, T 0 1 - 1 - X], τ), ?_, Nat.ne_of_beq_eq_false rfl, τ, rfl, hF, by rw [← hke]; exact v1, by rw [← hke]; exact v2⟩
      rw [← hke]
      show c12_nextOf_b7 130 t (T 0 1 - 1 - k) τ = _
      unfold c12_nextOf_b7
      exact ite_p (by omega) rfl
