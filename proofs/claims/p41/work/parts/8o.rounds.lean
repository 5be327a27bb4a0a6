/-! the class's half of whole's part of this name -/
/-- what is true of the places all the time -/
def GS (pl W H : Int) (w : Int → Int → Int) (sx sy : Int) (τ : aS) : Prop := VB pl W H τ ∧ vl pl τ sx sy = 0 ∧ ∀ x y, inn W H x y → gD W H w sx sy x y ≤ vl pl τ x y
theorem vl_put {pl : Int} {σ : aS} {x y u v c : Int} (x0 : 0 ≤ x) (x6 : x < 6) (u0 : 0 ≤ u) (u6 : u < 6) : vl pl (aput σ (pl + 18) (y * 6 + x) c) u v = if u = x ∧ v = y then c else vl pl σ u v := by
  unfold vl
  rw [ag_if]
  by_cases q : u = x ∧ v = y
  · rw [if_pos q, if_pos ⟨rfl, by rw [q.1, q.2]⟩]
  · rw [if_neg q, if_neg (fun e => q (by omega))]
/-- a round under way: before row y, column x -/
def RI (pl : Int) (T : aH) (t sx sy : Int) (σ : aS) (fl y x : Int) (τ : aS) : Prop :=
  Fp (fun x _ => x = pl + 18) σ τ ∧ GS pl (T 12 t) (T 13 t) (tkw T t) sx sy τ ∧ (fl = 0 ∨ fl = 1) ∧ (∀ u v, inn (T 12 t) (T 13 t) u v → vl pl τ u v ≤ vl pl σ u v) ∧
  (∀ u v, inn (T 12 t) (T 13 t) u v → (v < y ∨ (v = y ∧ u < x)) → ∀ a b, inn (T 12 t) (T 13 t) a b → adj u v a b → vl pl τ u v ≤ vl pl σ a b + tkw T t u v) ∧
  (fl = 0 → ∀ u v, inn (T 12 t) (T 13 t) u v → vl pl τ u v = vl pl σ u v)
theorem RI_step {pl : Int} {T : aH} {σ : aS} (hC : CQ pl T σ) {t : Int} (t0 : 0 ≤ t) (t1 : t < T 0 2) {sx sy : Int} (hs : inn (T 12 t) (T 13 t) sx sy) {fl y x : Int} {τ : aS} (hi : inn (T 12 t) (T 13 t) x y) (h : RI pl T t sx sy σ fl y x τ) :
    ∃ fl' τ', aU5 c1_spread_b17 [pl + 14, t, fl, y, x] τ = some (18, [pl + 14, t, fl', y, x + 1], τ') ∧ RI pl T t sx sy σ fl' y (x + 1) τ' := by
  obtain ⟨hF, ⟨hV, hz, hD⟩, hfl, hle, hpr, heq⟩ := h
  have hCt := hC.f18 hF
  have hB := hC.2.2.2
  have g := hB.gr t0 t1
  have hc := sp_cell hCt t0 t1 hi hV fl
  have w01 := tkw_ok T t x y
  have hi2 := hi
  have hs2 := hs
  unfold inn at hi2 hs2
  -- what the new number is, from a place beside
  have nb : ∀ a b, inn (T 12 t) (T 13 t) a b → adj x y a b → gnr (T 12 t) (T 13 t) (vl pl τ) x y ≤ vl pl τ a b := fun a b hab had => by
    have := gnr_le (W := T 12 t) (H := T 13 t) (vl pl τ) had
    rwa [gat_in hab] at this
  by_cases c : gnr (T 12 t) (T 13 t) (vl pl τ) x y + tkw T t x y < vl pl τ x y
  · rw [if_pos c] at hc
    have vx := hV x y hi
    obtain ⟨u, v, had, e⟩ := gnr_at (W := T 12 t) (H := T 13 t) (vl pl τ) x y
    have hu : inn (T 12 t) (T 13 t) u v := by
      by_cases q : 0 ≤ u ∧ u < T 12 t ∧ 0 ≤ v ∧ v < T 13 t
      · exact q
      · have : gat (T 12 t) (T 13 t) (vl pl τ) u v = 1000 := if_neg q
        omega
    have eg : gnr (T 12 t) (T 13 t) (vl pl τ) x y = vl pl τ u v := by rw [e, gat_in hu]
    have vu := hV u v hu
    have hput : ∀ a b, inn (T 12 t) (T 13 t) a b → vl pl (aput τ (pl + 18) (y * 6 + x) (gnr (T 12 t) (T 13 t) (vl pl τ) x y + tkw T t x y)) a b = if a = x ∧ b = y then gnr (T 12 t) (T 13 t) (vl pl τ) x y + tkw T t x y else vl pl τ a b := fun a b hab => by
      unfold inn at hab
      exact vl_put (by omega) (by omega) (by omega) (by omega)
    refine ⟨1, _, hc, hF.put (x := pl + 18) (j := y * 6 + x) _ rfl, ⟨fun a b hab => ?_, ?_, fun a b hab => ?_⟩, Or.inr rfl, fun a b hab => ?_, fun a b hab hlt p q hpq hadj => ?_, fun q => absurd q (by omega)⟩
    · rw [hput a b hab]; split
      · omega
      · exact hV a b hab
    · rw [hput sx sy hs]; split
      · rename_i q
        have hzx : vl pl τ x y = 0 := by rw [← q.1, ← q.2]; exact hz
        omega
      · exact hz
    · rw [hput a b hab]; split
      · rename_i q
        rw [q.1, q.2, eg]
        have a1 := hD u v hu
        have a2 := gD_fx (tkw_ok T t) g.1.2 g.2.1.2 hs had hu
        omega
      · exact hD a b hab
    · rw [hput a b hab]; split
      · rename_i q
        have := hle x y hi
        rw [q.1, q.2]; omega
      · exact hle a b hab
    · rw [hput a b hab]; split
      · rename_i r
        rw [r.1, r.2] at hadj ⊢
        have a1 := nb p q hpq hadj
        have a2 := hle p q hpq
        omega
      · rename_i r
        exact hpr a b hab (by rcases hlt with h1 | ⟨h1, h2⟩; exact Or.inl h1; exact Or.inr ⟨h1, by by_cases e2 : a = x; exact absurd ⟨e2, h1⟩ r; omega⟩) p q hpq hadj
  · rw [if_neg c] at hc
    refine ⟨fl, τ, hc, hF, ⟨hV, hz, hD⟩, hfl, hle, fun a b hab hlt p q hpq hadj => ?_, heq⟩
    by_cases r : a = x ∧ b = y
    · rw [r.1, r.2] at hadj ⊢
      have a1 := nb p q hpq hadj
      have a2 := hle p q hpq
      omega
    · exact hpr a b hab (by rcases hlt with h1 | ⟨h1, h2⟩; exact Or.inl h1; exact Or.inr ⟨h1, by by_cases e2 : a = x; exact absurd ⟨e2, h1⟩ r; omega⟩) p q hpq hadj
theorem RI_row {pl : Int} {T : aH} {σ : aS} (hC : CQ pl T σ) {t : Int} (t0 : 0 ≤ t) (t1 : t < T 0 2) {sx sy : Int} (hs : inn (T 12 t) (T 13 t) sx sy) {fl y : Int} {υ : aS} (y0 : 0 ≤ y) (y1 : y < T 13 t) (h : RI pl T t sx sy σ fl y 0 υ) :
    ∃ fl' τ, c1_spread_l17 (pl + 14) t fl y 0 υ = some (5, [pl + 14, t, fl', y + 1], τ) ∧ RI pl T t sx sy σ fl' (y + 1) 0 τ := by
  have hB := hC.2.2.2
  have hp := hC.2.1
  have h4 := hB.2.2.1
  have g := hB.gr t0 t1
  have hal := al_I (c := 18) (B := aU5 c1_spread_b17) (n := T 12 t) (i := 0) (vs := [pl + 14, t, fl, y, 0]) (σ := υ)
    (fun k vs τ => 0 ≤ k ∧ ∃ f, vs = [pl + 14, t, f, y, k] ∧ RI pl T t sx sy σ f y k τ)
    (fun r => ∃ f τ, r = (140, [pl + 14, t, f, y], τ) ∧ RI pl T t sx sy σ f y (T 12 t) τ)
    (by omega) (by omega) ⟨Int.le_refl _, fl, rfl, h⟩ ?_
  · obtain ⟨r, hr, f, τ, rfl, hI⟩ := hal
    refine ⟨f, τ, ?_, hI.1, hI.2.1, hI.2.2.1, hI.2.2.2.1, fun u v huv hlt => hI.2.2.2.2.1 u v huv (by unfold inn at huv; omega), hI.2.2.2.2.2⟩
    unfold c1_spread_l17
    rw [hr]
    show c1_spread_p139 (pl + 14) t f y τ = _
    unfold c1_spread_p139
    rw [wq (by omega) (by omega)]
  · rintro k vs τ k1 ⟨k0, f, rfl, hI⟩
    by_cases c : k < T 12 t
    · obtain ⟨f', τ', h1, h2⟩ := RI_step hC t0 t1 hs ⟨k0, c, y0, y1⟩ hI
      exact Or.inl ⟨c, _, _, h1, by omega, f', rfl, h2⟩
    · have hk : k = T 12 t := by omega
      subst hk
      have hCt := hC.f18 hI.1
      have e15 := (hCt.2.2.1.2.2.2.2.2.1 t t0 t1).2.2.2.2.1
      refine Or.inr ⟨(140, [pl + 14, t, f, y], τ), ?_, Nat.ne_of_beq_eq_false rfl, f, τ, rfl, hI⟩
      show c1_spread_b17 (pl + 14) t f y (T 12 t) τ = _
      unfold c1_spread_b17
      rw [rg_0 hCt.1 hp, np_15 hCt.1 hp, e15]
      exact ite_n (by omega) (ite_p (by omega) (ite_n (by omega) rfl))
theorem c1_spread_ok {pl : Int} {T : aH} {σ : aS} (hC : CQ pl T σ) {t : Int} (t0 : 0 ≤ t) (t1 : t < T 0 2) {sx sy : Int} (hs : inn (T 12 t) (T 13 t) sx sy) (hG : GS pl (T 12 t) (T 13 t) (tkw T t) sx sy σ) :
    ∃ fl τ, c1_spread (pl + 14) t σ = some (0, [fl], τ) ∧ RI pl T t sx sy σ fl (T 13 t) 0 τ := by
  have hB := hC.2.2.2
  have hp := hC.2.1
  have h4 := hB.2.2.1
  have g := hB.gr t0 t1
  have hal := al_I (c := 5) (B := aU4 c1_spread_b4) (n := T 13 t) (i := 0) (vs := [pl + 14, t, 0, 0]) (σ := σ)
    (fun k vs τ => 0 ≤ k ∧ ∃ f, vs = [pl + 14, t, f, k] ∧ RI pl T t sx sy σ f k 0 τ)
    (fun r => ∃ f τ, r = (0, [f], τ) ∧ RI pl T t sx sy σ f (T 13 t) 0 τ)
    (by omega) (by omega) ⟨Int.le_refl _, 0, rfl, Fp.rf _ _, hG, Or.inl rfl, fun _ _ _ => Int.le_refl _, fun u v huv hlt => by unfold inn at huv; omega, fun _ _ _ _ => rfl⟩ ?_
  · obtain ⟨r, hr, f, τ, rfl, hI⟩ := hal
    refine ⟨f, τ, ?_, hI⟩
    unfold c1_spread c1_spread_l4
    rw [hr]; rfl
  · rintro k vs τ k1 ⟨k0, f, rfl, hI⟩
    have hCt := hC.f18 hI.1
    have e16 := (hCt.2.2.1.2.2.2.2.2.1 t t0 t1).2.2.2.2.2
    by_cases c : k < T 13 t
    · obtain ⟨f', τ', h1, h2⟩ := RI_row hC t0 t1 hs k0 c hI
      refine Or.inl ⟨c, _, _, ?_, by omega, f', rfl, h2⟩
      show c1_spread_b4 (pl + 14) t f k τ = _
      unfold c1_spread_b4
      rw [rg_1 hCt.1 hp, np_16 hCt.1 hp, e16]
      exact ite_n (by omega) (ite_p (by omega) (ite_p c h1))
    · have hk : k = T 13 t := by omega
      subst hk
      refine Or.inr ⟨(0, [f], τ), ?_, Nat.ne_of_beq_eq_false rfl, f, τ, rfl, hI⟩
      show c1_spread_b4 (pl + 14) t f (T 13 t) τ = _
      unfold c1_spread_b4
      rw [rg_1 hCt.1 hp, np_16 hCt.1 hp, e16]
      refine ite_n (by omega) (ite_p (by omega) (ite_n (by omega) (ite_p hI.2.2.1 rfl)))
theorem GS_le {pl : Int} {T : aH} {t : Int} {sx sy : Int} {τ : aS} (hG : GS pl (T 12 t) (T 13 t) (tkw T t) sx sy τ) (hle : ∀ u v, inn (T 12 t) (T 13 t) u v → vl pl τ u v ≤ gD (T 12 t) (T 13 t) (tkw T t) sx sy u v) : ∀ u v, inn (T 12 t) (T 13 t) u v → vl pl τ u v = gD (T 12 t) (T 13 t) (tkw T t) sx sy u v := fun u v h => by
  have a := hle u v h
  have b := hG.2.2 u v h
  omega
theorem lm_rounds {pl : Int} {T : aH} {σ : aS} (hC : CQ pl T σ) {t : Int} (t0 : 0 ≤ t) (t1 : t < T 0 2) {sx sy : Int} (hs : inn (T 12 t) (T 13 t) sx sy) (hG : GS pl (T 12 t) (T 13 t) (tkw T t) sx sy σ) (hle : ∀ u v, inn (T 12 t) (T 13 t) u v → vl pl σ u v ≤ gJ (T 12 t) (T 13 t) (tkw T t) sx sy 0 u v) :
    ∃ τ, aloop 29 (aU4 c1_leastMoved_b28) aBig [pl + 14, t, 1, 0] σ = some (54, [pl + 14, t], τ) ∧ Fp (fun x _ => x = pl + 18) σ τ ∧ ∀ u v, inn (T 12 t) (T 13 t) u v → vl pl τ u v = gD (T 12 t) (T 13 t) (tkw T t) sx sy u v := by
  have hB := hC.2.2.2
  have hp := hC.2.1
  have hal := al_I (c := 29) (B := aU4 c1_leastMoved_b28) (n := 36) (i := 0) (vs := [pl + 14, t, 1, 0]) (σ := σ)
    (fun k vs τ => 0 ≤ k ∧ ∃ b, vs = [pl + 14, t, b, k] ∧ (b = 0 ∨ b = 1) ∧ Fp (fun x _ => x = pl + 18) σ τ ∧ GS pl (T 12 t) (T 13 t) (tkw T t) sx sy τ ∧ (∀ u v, inn (T 12 t) (T 13 t) u v → vl pl τ u v ≤ gJ (T 12 t) (T 13 t) (tkw T t) sx sy k.toNat u v) ∧
      (b = 0 → ∀ u v p q, inn (T 12 t) (T 13 t) u v → inn (T 12 t) (T 13 t) p q → adj u v p q → vl pl τ u v ≤ vl pl τ p q + tkw T t u v))
    (fun r => ∃ τ, r = (54, [pl + 14, t], τ) ∧ Fp (fun x _ => x = pl + 18) σ τ ∧ ∀ u v, inn (T 12 t) (T 13 t) u v → vl pl τ u v = gD (T 12 t) (T 13 t) (tkw T t) sx sy u v)
    (by omega) (by omega) ⟨Int.le_refl _, 1, rfl, Or.inr rfl, Fp.rf _ _, hG, hle, fun q => absurd q (by omega)⟩ ?_
  · obtain ⟨r, hr, τ, rfl, h1, h2⟩ := hal
    exact ⟨τ, hr, h1, h2⟩
  · rintro k vs τ k1 ⟨k0, b, rfl, hb, hF, hGt, hJ, hfx⟩
    have hCt := hC.f18 hF
    by_cases c : k < 36
    · by_cases z : b = 0
      · refine Or.inr ⟨(54, [pl + 14, t], τ), ?_, Nat.ne_of_beq_eq_false rfl, τ, rfl, hF, GS_le hGt (fx_le (tkw_ok T t) (fun _ => by rw [hGt.2.1]; exact Int.le_refl _) (fun x y h => (hGt.1 x y h).2) (fun x y u v h1 h2 h3 => hfx z x y u v h1 h2 h3) 36)⟩
        show c1_leastMoved_b28 (pl + 14) t b k τ = _
        unfold c1_leastMoved_b28
        exact ite_p c (ite_p z rfl)
      · obtain ⟨fl, υ, h1, hF2, hG2, hfl, hle2, hpr, heq⟩ := c1_spread_ok hCt t0 t1 hs hGt
        refine Or.inl ⟨c, [pl + 14, t, fl, k + 1], υ, ?_, by omega, fl, rfl, hfl, hF.tr hF2, hG2, fun u v huv => ?_, fun q u v a d huv had hadj => ?_⟩
        · show c1_leastMoved_b28 (pl + 14) t b k τ = _
          unfold c1_leastMoved_b28
          refine ite_p c (ite_n z (acall1_h h1 ?_))
          rw [wq (by omega) (by omega)]
        · rw [show (k + 1).toNat = k.toNat + 1 by omega]
          have a1 := hJ u v huv
          have a2 := hle2 u v huv
          rcases (show gJ (T 12 t) (T 13 t) (tkw T t) sx sy (k.toNat + 1) u v = gJ (T 12 t) (T 13 t) (tkw T t) sx sy k.toNat u v ∨ gJ (T 12 t) (T 13 t) (tkw T t) sx sy (k.toNat + 1) u v < gJ (T 12 t) (T 13 t) (tkw T t) sx sy k.toNat u v by have := gJ_dn (T 12 t) (T 13 t) (tkw T t) sx sy k.toNat u v; omega) with q | q
          · omega
          · obtain ⟨a, d, hadj, had, e⟩ := gJ_st (tkw_ok T t) q
            have a3 := hJ a d had
            have a4 := hpr u v huv (Or.inl (by unfold inn at huv; omega)) a d had hadj
            omega
        · have a3 := hpr u v huv (Or.inl (by unfold inn at huv; omega)) a d had hadj
          rw [heq q a d had]; exact a3
    · have hk : k = 36 := by omega
      subst hk
      refine Or.inr ⟨(54, [pl + 14, t], τ), ?_, Nat.ne_of_beq_eq_false rfl, τ, rfl, hF, GS_le hGt hJ⟩
      show c1_leastMoved_b28 (pl + 14) t b 36 τ = _
      unfold c1_leastMoved_b28
      exact ite_n (by omega) rfl
/-- the least of the places on the border before row y, column x -/
def isP (W H : Int) (D : Int → Int → Int) (y x l : Int) : Prop := l ≤ 1000 ∧ (∀ u v, bdr W H u v → (v < y ∨ (v = y ∧ u < x)) → l ≤ D u v) ∧ (l = 1000 ∨ ∃ u v, bdr W H u v ∧ l = D u v)
theorem lm_min {pl : Int} {T : aH} {σ : aS} (hC : CQ pl T σ) {t : Int} (t0 : 0 ≤ t) (t1 : t < T 0 2) {D : Int → Int → Int} (hD : ∀ u v, inn (T 12 t) (T 13 t) u v → vl pl σ u v = D u v) :
    ∃ l, aloop 62 (aU4 c1_leastMoved_b61) aBig [pl + 14, t, 1000, 0] σ = some (0, [l], σ) ∧ isL (T 12 t) (T 13 t) D l := by
  have hB := hC.2.2.2
  have hp := hC.2.1
  have hL := hC.1
  have h4 := hB.2.2.1
  have g := hB.gr t0 t1
  have e := hC.2.2.1.2.2.2.2.2.1 t t0 t1
  have e15 := e.2.2.2.2.1
  have e16 := e.2.2.2.2.2
  have cell : ∀ l y x, inn (T 12 t) (T 13 t) x y → isP (T 12 t) (T 13 t) D y x l → ∃ l', aU5 c1_leastMoved_b75 [pl + 14, t, l, y, x] σ = some (76, [pl + 14, t, l', y, x + 1], σ) ∧ isP (T 12 t) (T 13 t) D y (x + 1) l' := by
    intro l y x hi hP
    have hi2 := hi
    unfold inn at hi2
    have p142 : ∀ l, c1_leastMoved_p142 (pl + 14) t l y x σ = some (76, [pl + 14, t, l, y, x + 1], σ) := fun l => by
      unfold c1_leastMoved_p142; rw [wq (by omega) (by omega)]
    have p122 : c1_leastMoved_p122 (pl + 14) t l y x σ = some (76, [pl + 14, t, mn l (D x y), y, x + 1], σ) := by
      unfold c1_leastMoved_p122
      rw [rg_3 hL hp, np_18 hL hp, wq (x := y * 6) (by omega) (by omega), wq (x := y * 6 + x) (by omega) (by omega), show aget σ (pl + 18) (y * 6 + x) = D x y from hD x y hi]
      exact ite_n (by omega) (ite_p (by omega) (acall1_h (jmin_mn _ _ _) (p142 _)))
    have pick : bdr (T 12 t) (T 13 t) x y → isP (T 12 t) (T 13 t) D y (x + 1) (mn l (D x y)) := fun hb => by
      have a := mn_l l (D x y)
      have b := mn_r l (D x y)
      refine ⟨by have := hP.1; omega, fun u v huv hlt => ?_, ?_⟩
      · by_cases q : u = x ∧ v = y
        · rw [q.1, q.2]; exact b
        · have := hP.2.1 u v huv (by omega)
          omega
      · rcases mn_o l (D x y) with q | q <;> rw [q]
        · exact hP.2.2
        · exact Or.inr ⟨x, y, hb, rfl⟩
    have skip : ¬ bdr (T 12 t) (T 13 t) x y → isP (T 12 t) (T 13 t) D y (x + 1) l := fun hb => ⟨hP.1, fun u v huv hlt => by
      by_cases q : u = x ∧ v = y
      · rw [q.1, q.2] at huv; exact absurd huv hb
      · exact hP.2.1 u v huv (by omega), hP.2.2⟩
    have base : c1_leastMoved_b75 (pl + 14) t l y x σ = if y = 0 ∨ y = T 13 t - 1 ∨ x = 0 ∨ x = T 12 t - 1 then c1_leastMoved_p122 (pl + 14) t l y x σ else c1_leastMoved_p142 (pl + 14) t l y x σ := by
      unfold c1_leastMoved_b75
      rw [rg_0 hL hp, np_15 hL hp, e15, rg_1 hL hp, np_16 hL hp, e16, wq (x := T 13 t - 1) (by omega) (by omega), wq (x := T 12 t - 1) (by omega) (by omega)]
      refine ite_n (by omega) (ite_p (by omega) (ite_p (by omega) ?_))
      by_cases c1 : y = 0
      · rw [if_pos c1, if_pos (Or.inl c1)]
      · refine ite_n c1 (ite_n (by omega) (ite_p (by omega) ?_))
        by_cases c2 : y = T 13 t - 1
        · rw [if_pos c2, if_pos (Or.inr (Or.inl c2))]
        · refine ite_n c2 ?_
          by_cases c3 : x = 0
          · rw [if_pos c3, if_pos (Or.inr (Or.inr (Or.inl c3)))]
          · refine ite_n c3 (ite_n (by omega) (ite_p (by omega) ?_))
            by_cases c4 : x = T 12 t - 1
            · rw [if_pos c4, if_pos (Or.inr (Or.inr (Or.inr c4)))]
            · rw [if_neg c4, if_neg (by omega)]
    by_cases c : y = 0 ∨ y = T 13 t - 1 ∨ x = 0 ∨ x = T 12 t - 1
    · exact ⟨_, by show c1_leastMoved_b75 (pl + 14) t l y x σ = _; rw [base, if_pos c, p122], pick ⟨hi, c⟩⟩
    · exact ⟨_, by show c1_leastMoved_b75 (pl + 14) t l y x σ = _; rw [base, if_neg c, p142], skip (fun q => c q.2)⟩
  have row : ∀ l y, 0 ≤ y → y < T 13 t → isP (T 12 t) (T 13 t) D y 0 l → ∃ l', c1_leastMoved_l75 (pl + 14) t l y 0 σ = some (62, [pl + 14, t, l', y + 1], σ) ∧ isP (T 12 t) (T 13 t) D (y + 1) 0 l' := by
    intro l y y0 y1 hP
    have hal := al_I (c := 76) (B := aU5 c1_leastMoved_b75) (n := T 12 t) (i := 0) (vs := [pl + 14, t, l, y, 0]) (σ := σ)
      (fun k vs τ => 0 ≤ k ∧ τ = σ ∧ ∃ l, vs = [pl + 14, t, l, y, k] ∧ isP (T 12 t) (T 13 t) D y k l)
      (fun r => ∃ l, r = (149, [pl + 14, t, l, y], σ) ∧ isP (T 12 t) (T 13 t) D y (T 12 t) l)
      (by omega) (by omega) ⟨Int.le_refl _, rfl, l, rfl, hP⟩ ?_
    · obtain ⟨r, hr, l', rfl, hI⟩ := hal
      refine ⟨l', ?_, hI.1, fun u v huv hlt => hI.2.1 u v huv (by have := huv.1; unfold inn at this; omega), hI.2.2⟩
      unfold c1_leastMoved_l75
      rw [hr]
      show c1_leastMoved_p148 (pl + 14) t l' y σ = _
      unfold c1_leastMoved_p148
      rw [wq (by omega) (by omega)]
    · rintro k vs τ k1 ⟨k0, rfl, l, rfl, hI⟩
      by_cases c : k < T 12 t
      · obtain ⟨l', h1, h2⟩ := cell l y k ⟨k0, c, y0, y1⟩ hI
        exact Or.inl ⟨c, _, _, h1, by omega, rfl, l', rfl, h2⟩
      · have hk : k = T 12 t := by omega
        subst hk
        refine Or.inr ⟨(149, [pl + 14, t, l, y], τ), ?_, Nat.ne_of_beq_eq_false rfl, l, rfl, hI⟩
        show c1_leastMoved_b75 (pl + 14) t l y (T 12 t) τ = _
        unfold c1_leastMoved_b75
        rw [rg_0 hL hp, np_15 hL hp, e15]
        exact ite_n (by omega) (ite_p (by omega) (ite_n (by omega) rfl))
  have hal := al_I (c := 62) (B := aU4 c1_leastMoved_b61) (n := T 13 t) (i := 0) (vs := [pl + 14, t, 1000, 0]) (σ := σ)
    (fun k vs τ => 0 ≤ k ∧ τ = σ ∧ ∃ l, vs = [pl + 14, t, l, k] ∧ isP (T 12 t) (T 13 t) D k 0 l)
    (fun r => ∃ l, r = (0, [l], σ) ∧ isL (T 12 t) (T 13 t) D l)
    (by omega) (by omega) ⟨Int.le_refl _, rfl, 1000, rfl, Int.le_refl _, fun u v huv hlt => by have := huv.1; unfold inn at this; omega, Or.inl rfl⟩ ?_
  · obtain ⟨r, hr, l, rfl, hI⟩ := hal
    exact ⟨l, hr, hI⟩
  · rintro k vs τ k1 ⟨k0, rfl, l, rfl, hI⟩
    by_cases c : k < T 13 t
    · obtain ⟨l', h1, h2⟩ := row l k k0 c hI
      refine Or.inl ⟨c, _, _, ?_, by omega, rfl, l', rfl, h2⟩
      show c1_leastMoved_b61 (pl + 14) t l k τ = _
      unfold c1_leastMoved_b61
      rw [rg_1 hL hp, np_16 hL hp, e16]
      exact ite_n (by omega) (ite_p (by omega) (ite_p c h1))
    · have hk : k = T 13 t := by omega
      subst hk
      refine Or.inr ⟨(0, [l], τ), ?_, Nat.ne_of_beq_eq_false rfl, l, rfl, hI.1, fun u v huv => hI.2.1 u v huv (by have := huv.1; unfold inn at this; omega), hI.2.2⟩
      show c1_leastMoved_b61 (pl + 14) t l (T 13 t) τ = _
      unfold c1_leastMoved_b61
      rw [rg_1 hL hp, np_16 hL hp, e16]
      exact ite_n (by omega) (ite_p (by omega) (ite_n (by omega) rfl))
theorem c1_leastMoved_ok {pl : Int} {T : aH} {σ : aS} (hC : CQ pl T σ) {t : Int} (t0 : 0 ≤ t) (t1 : t < T 0 2) {x y : Int} (hi : inn (T 12 t) (T 13 t) x y) :
    ∃ l τ, c1_leastMoved (pl + 14) t x y σ = some (0, [l], τ) ∧ Fp (fun x _ => x = pl + 18) σ τ ∧ isL (T 12 t) (T 13 t) (gD (T 12 t) (T 13 t) (tkw T t) x y) l := by
  have hB := hC.2.2.2
  have hp := hC.2.1
  have hL := hC.1
  have g := hB.gr t0 t1
  have hi2 := hi
  unfold inn at hi2
  have hj := jfill_ok (σ := σ) (x := pl + 18) (n := 36) 1000 (np_18 hL hp) (by omega) (by omega)
  have fr := ((Fp.rf (fun x _ => x = pl + 18) σ).apf (x := pl + 18) (fun _ => 1000) 36 (fun _ => rfl)).put (x := pl + 18) (j := y * 6 + x) 0 rfl
  have hC2 := hC.f18 fr
  have hLa : LR (apf σ (pl + 18) (fun _ => 1000) 36) := (hC.f18 ((Fp.rf (fun x _ => x = pl + 18) σ).apf (x := pl + 18) (fun _ => 1000) 36 (fun _ => rfl))).1
  have hv : ∀ u v, inn (T 12 t) (T 13 t) u v → vl pl (aput (apf σ (pl + 18) (fun _ => 1000) 36) (pl + 18) (y * 6 + x) 0) u v = if u = x ∧ v = y then 0 else 1000 := fun u v huv => by
    unfold inn at huv
    rw [vl_put (by omega) (by omega) (by omega) (by omega)]
    by_cases q : u = x ∧ v = y
    · rw [if_pos q, if_pos q]
    · rw [if_neg q, if_neg q]
      unfold vl
      rw [apf_i (by omega) (by omega)]
  have hG : GS pl (T 12 t) (T 13 t) (tkw T t) x y (aput (apf σ (pl + 18) (fun _ => 1000) 36) (pl + 18) (y * 6 + x) 0) := by
    refine ⟨fun u v h => by rw [hv u v h]; split <;> omega, by rw [hv x y hi, if_pos ⟨rfl, rfl⟩], fun u v h => ?_⟩
    rw [hv u v h]
    by_cases q : u = x ∧ v = y
    · rw [if_pos q, q.1, q.2, gD_s (tkw_ok T t)]; exact Int.le_refl _
    · rw [if_neg q]; exact (gJ_bd (tkw_ok T t) x y 36 u v).2
  obtain ⟨τ, h1, h2, h3⟩ := lm_rounds hC2 t0 t1 hi hG (fun u v h => by rw [hv u v h]; exact Int.le_refl _)
  obtain ⟨l, h4, h5⟩ := lm_min (hC2.f18 h2) t0 t1 h3
  refine ⟨l, τ, ?_, fr.tr h2, h5⟩
  unfold c1_leastMoved
  rw [rg_3 hL hp, hj, acall0_some, rg_3 hLa hp, apf_n, np_18 hL hp, wq (x := y * 6) (by omega) (by omega), wq (x := y * 6 + x) (by omega) (by omega)]
  refine ite_n (by omega) (ite_n (by omega) (ite_p (by omega) ?_))
  unfold c1_leastMoved_l28
  rw [h1]
  show c1_leastMoved_p53 (pl + 14) t τ = _
  unfold c1_leastMoved_p53 c1_leastMoved_l61
  rw [h4]; rfl
