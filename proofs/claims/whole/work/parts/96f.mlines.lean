/-! the reference's reading half tells T -/
def Q0 (T : aH) (d1 d2 d3 : Int) (σ : aS) : Prop := aget σ 130 18 = T 0 0 ∧ aget σ 130 19 = T 0 1 - d1 ∧ aget σ 130 20 = T 0 2 - d2 ∧ aget σ 130 21 = T 0 3 - d3 ∧ aget σ 130 22 = T 0 5 ∧ aget σ 130 23 = T 24 0 ∧ aget σ 130 49 = T 0 4 ∧ aget σ 130 4 = 0 ∧ aget σ 130 5 = -1
def Qg (T : aH) (σ : aS) : Prop := ∀ g, 0 ≤ g → g < T 0 0 → aget σ 133 (5 + g) = T 11 g ∧ aget σ 134 (5 + g) = T 1 g
def Qs1 (T : aH) (σ : aS) (s : Int) : Prop := aget σ 135 (5 + s) = T 11 (5 + s) ∧ (∀ w, 0 ≤ w → w < 4 → aget σ 136 (20 + (4 * s + w)) = T 2 (4 * s + w)) ∧
  (∀ g, 0 ≤ g → g < 5 → aget σ 137 (25 + (5 * s + g)) = T 3 (5 * s + g) ∧ aget σ 139 (25 + (5 * s + g)) = T 4 (5 * s + g) ∧ bI (aget σ 138 s) g = T 20 (5 * s + g) ∧ bI (aget σ 140 s) g = T 21 (5 * s + g)) ∧ (0 ≤ aget σ 138 s ∧ aget σ 138 s < 32) ∧ (0 ≤ aget σ 140 s ∧ aget σ 140 s < 32)
def Qs (T : aH) (σ : aS) : Prop := ∀ s, 0 ≤ s → s < T 0 1 → Qs1 T σ s
def Qt1 (T : aH) (σ : aS) (t : Int) : Prop := aget σ 141 (4 + t) = T 11 (10 + t) ∧ aget σ 142 (4 + t) = T 5 t ∧ aget σ 143 (4 + t) = T 6 t ∧ aget σ 144 (4 + t) = T 23 t ∧ aget σ 145 (4 + t) = T 9 t ∧ aget σ 146 (4 + t) = T 10 t ∧ aget σ 147 (4 + t) = T 12 t ∧ (0 < T 12 t → aget σ 148 (4 + t) = T 13 t) ∧ ∀ y, 0 ≤ y → y < T 13 t → aget σ 149 (24 + (6 * t + y)) = T 14 (6 * t + y)
def Qt (T : aH) (σ : aS) : Prop := ∀ t, 0 ≤ t → t < T 0 2 → Qt1 T σ t
def Qk1 (T : aH) (σ : aS) (t : Int) : Prop := rok T (fun k => aget σ 150 (64 + k)) (fun k => aget σ 151 (64 + k)) (fun k => aget σ 152 (64 + k)) t
def Qk (T : aH) (σ : aS) : Prop := ∀ t, 0 ≤ t → t < T 0 2 → Qk1 T σ t
def QR (T : aH) (σ : aS) : Prop := Q0 T 0 0 0 σ ∧ Qg T σ ∧ Qs T σ ∧ Qt T σ ∧ Qk T σ
theorem Q0.fp {T : aH} {d1 d2 d3 : Int} {σ τ : aS} {P : Int → Int → Prop} (h : Q0 T d1 d2 d3 σ) (hF : Fp P σ τ) (hP : ∀ x j, P x j → ¬ (x = 130 ∧ (18 ≤ j ∧ j ≤ 23 ∨ j = 49 ∨ j = 4 ∨ j = 5))) : Q0 T d1 d2 d3 τ := by
  have g : ∀ j, (18 ≤ j ∧ j ≤ 23 ∨ j = 49 ∨ j = 4 ∨ j = 5) → aget τ 130 j = aget σ 130 j := fun j hj => hF.g (fun q => hP _ _ q ⟨rfl, hj⟩)
  unfold Q0
  rw [g 18 (by omega), g 19 (by omega), g 20 (by omega), g 21 (by omega), g 22 (by omega), g 23 (by omega), g 49 (by omega), g 4 (by omega), g 5 (by omega)]
  exact h
theorem Q0.cg {T U : aH} {d1 d2 d3 : Int} {σ : aS} (h : Q0 T d1 d2 d3 σ) (e : ∀ i, 0 ≤ i → i < 6 → U 0 i = T 0 i) (e24 : U 24 0 = T 24 0) : Q0 U d1 d2 d3 σ := by
  unfold Q0
  rw [e 0 (by omega) (by omega), e 1 (by omega) (by omega), e 2 (by omega) (by omega), e 3 (by omega) (by omega), e 4 (by omega) (by omega), e 5 (by omega) (by omega), e24]
  exact h
theorem Qg.cg {T U : aH} {σ τ : aS} {P : Int → Int → Prop} (h : Qg T σ) (hF : Fp P σ τ) (hP : ∀ x j, P x j → ¬ ((x = 133 ∨ x = 134) ∧ 5 ≤ j)) (e0 : U 0 0 = T 0 0) (e : ∀ g, 0 ≤ g → g < T 0 0 → U 11 g = T 11 g ∧ U 1 g = T 1 g) : Qg U τ := fun g g0 g1 => by
  rw [e0] at g1
  rw [hF.g (fun q => hP _ _ q (by omega)), hF.g (fun q => hP _ _ q (by omega)), (e g g0 g1).1, (e g g0 g1).2]
  exact h g g0 g1
def cqs (x j : Int) : Prop := (x = 135 ∧ 5 ≤ j) ∨ (x = 136 ∧ 20 ≤ j) ∨ ((x = 137 ∨ x = 139) ∧ 25 ≤ j) ∨ x = 138 ∨ x = 140
theorem Qs1.cg {T U : aH} {σ τ : aS} {s : Int} (s0 : 0 ≤ s) (h : Qs1 T σ s) (g : ∀ x j, (x = 135 ∧ j = 5 + s) ∨ (x = 136 ∧ 20 + 4 * s ≤ j ∧ j < 24 + 4 * s) ∨ ((x = 137 ∨ x = 139) ∧ 25 + 5 * s ≤ j ∧ j < 30 + 5 * s) ∨ ((x = 138 ∨ x = 140) ∧ j = s) → aget τ x j = aget σ x j) (e11 : U 11 (5 + s) = T 11 (5 + s)) (e2 : ∀ w, 0 ≤ w → w < 4 → U 2 (4 * s + w) = T 2 (4 * s + w)) (e : ∀ w, 0 ≤ w → w < 5 → U 3 (5 * s + w) = T 3 (5 * s + w) ∧ U 4 (5 * s + w) = T 4 (5 * s + w) ∧ U 20 (5 * s + w) = T 20 (5 * s + w) ∧ U 21 (5 * s + w) = T 21 (5 * s + w)) : Qs1 U τ s := by
  obtain ⟨h1, h2, h3, h4, h5⟩ := h
  refine ⟨by rw [g _ _ (by omega), e11]; exact h1, fun w w0 w1 => by rw [g _ _ (by omega), e2 w w0 w1]; exact h2 w w0 w1, fun w w0 w1 => ?_, by rw [g 138 s (by omega)]; exact h4, by rw [g 140 s (by omega)]; exact h5⟩
  obtain ⟨a, b, c, d⟩ := e w w0 w1
  rw [g 137 _ (by omega), g 139 _ (by omega), g 138 s (by omega), g 140 s (by omega), a, b, c, d]
  exact h3 w w0 w1
theorem Qs.cg {T U : aH} {σ τ : aS} {P : Int → Int → Prop} (h : Qs T σ) (hF : Fp P σ τ) (hP : ∀ x j, P x j → ¬ cqs x j) (h5 : T 0 1 ≤ 5) (e0 : U 0 1 = T 0 1) (e11 : ∀ i, 5 ≤ i → i < 10 → U 11 i = T 11 i) (e : ∀ a, (a = 2 ∨ a = 3 ∨ a = 4 ∨ a = 20 ∨ a = 21) → ∀ i, U a i = T a i) : Qs U τ := fun s s0 s1 => by
  rw [e0] at s1
  exact (h s s0 s1).cg s0 (fun x j hx => hF.g (fun q => hP _ _ q (by unfold cqs; omega))) (e11 _ (by omega) (by omega)) (fun w _ _ => e 2 (by omega) _) (fun w _ _ => ⟨e 3 (by omega) _, e 4 (by omega) _, e 20 (by omega) _, e 21 (by omega) _⟩)
theorem Qt1.cg {T U : aH} {σ τ : aS} {t : Int} (t0 : 0 ≤ t) (h6 : T 13 t ≤ 6) (h : Qt1 T σ t) (g : ∀ x j, ((141 ≤ x ∧ x ≤ 148) ∧ j = 4 + t) ∨ (x = 149 ∧ 24 + 6 * t ≤ j ∧ j < 30 + 6 * t) → aget τ x j = aget σ x j) (e11 : U 11 (10 + t) = T 11 (10 + t)) (e : ∀ a, (a = 5 ∨ a = 6 ∨ a = 23 ∨ a = 9 ∨ a = 10 ∨ a = 12 ∨ a = 13) → U a t = T a t) (e14 : ∀ y, 0 ≤ y → y < 6 → U 14 (6 * t + y) = T 14 (6 * t + y)) : Qt1 U τ t := by
  obtain ⟨a1, a2, a3, a4, a5, a6, a7, a8, a9⟩ := h
  unfold Qt1
  rw [g 141 _ (by omega), g 142 _ (by omega), g 143 _ (by omega), g 144 _ (by omega), g 145 _ (by omega), g 146 _ (by omega), g 147 _ (by omega), g 148 _ (by omega), e11, e 5 (by omega), e 6 (by omega), e 23 (by omega), e 9 (by omega), e 10 (by omega), e 12 (by omega), e 13 (by omega)]
  exact ⟨a1, a2, a3, a4, a5, a6, a7, a8, fun y y0 y1 => by rw [g 149 _ (by omega), e14 y y0 (by omega)]; exact a9 y y0 y1⟩
def cqt (x j : Int) : Prop := ((141 ≤ x ∧ x ≤ 148) ∧ 4 ≤ j) ∨ (x = 149 ∧ 24 ≤ j)
theorem Qt.cg {T U : aH} {σ τ : aS} {P : Int → Int → Prop} (h : Qt T σ) (hF : Fp P σ τ) (hP : ∀ x j, P x j → ¬ cqt x j) (h4 : T 0 2 ≤ 4) (h6 : ∀ t, 0 ≤ t → t < 4 → T 13 t ≤ 6) (e0 : U 0 2 = T 0 2) (e11 : ∀ i, 10 ≤ i → i < 14 → U 11 i = T 11 i) (e : ∀ a, (a = 5 ∨ a = 6 ∨ a = 23 ∨ a = 9 ∨ a = 10 ∨ a = 12 ∨ a = 13 ∨ a = 14) → ∀ i, U a i = T a i) : Qt U τ := fun t t0 t1 => by
  rw [e0] at t1
  exact (h t t0 t1).cg t0 (h6 t t0 (by omega)) (fun x j hx => hF.g (fun q => hP _ _ q (by unfold cqt; omega))) (e11 _ (by omega) (by omega)) (fun a ha => e a (by omega) t) (fun y _ _ => e 14 (by omega) _)
theorem rok_t {T U : aH} {a b c a' b' c' : Int → Int} {t : Int} (h : rok T a b c t) (e9 : U 9 t = T 9 t) (e10 : U 10 t = T 10 t) (e : ∀ k, T 9 t ≤ k → k < T 10 t → U 8 k = T 8 k ∧ a' k = a k ∧ b' k = b k ∧ c' k = c k) : rok U a' b' c' t := by
  obtain ⟨stk, h1, h2, h3⟩ := h
  refine ⟨stk, by rw [e9]; exact h1, by rw [e10]; exact h2, fun k ka kb => ?_⟩
  rw [e9] at ka
  rw [e10] at kb
  obtain ⟨x8, xa, xb, xc⟩ := e k ka kb
  have := h3 k ka kb
  unfold nod at this ⊢
  rw [x8, xa, xb, xc]
  exact this
def cqk (x j : Int) : Prop := (150 ≤ x ∧ x ≤ 152) ∧ 64 ≤ j
theorem Qk.cg {T U : aH} {σ τ : aS} {P : Int → Int → Prop} (h : Qk T σ) (hF : Fp P σ τ) (hP : ∀ x j, P x j → ¬ cqk x j) (h9 : ∀ t, 0 ≤ t → t < T 0 2 → 0 ≤ T 9 t) (e0 : U 0 2 = T 0 2) (e : ∀ a, (a = 8 ∨ a = 9 ∨ a = 10) → ∀ i, U a i = T a i) : Qk U τ := fun t t0 t1 => by
  rw [e0] at t1
  have h9t := h9 t t0 t1
  exact rok_t (h t t0 t1) (e 9 (by omega) t) (e 10 (by omega) t) (fun k ka kb => ⟨e 8 (by omega) k, hF.g (fun q => hP _ _ q (by unfold cqk; omega)), hF.g (fun q => hP _ _ q (by unfold cqk; omega)), hF.g (fun q => hP _ _ q (by unfold cqk; omega))⟩)
theorem TI.q {T : aH} (h : TI T) : (T 0 0 ≤ 5 ∧ T 0 1 ≤ 5 ∧ T 0 2 ≤ 4) ∧ (∀ t, 0 ≤ t → t < 4 → T 13 t ≤ 6) ∧ ∀ t, 0 ≤ t → t < T 0 2 → 0 ≤ T 9 t :=
  ⟨⟨h.1.1.2, h.1.2.1.2, h.1.2.2.1.2⟩, fun t t0 t1 => (h.2.2.2.2.2.2.1.1 t t0 t1).2.2.1.2, fun t t0 t1 => (h.2.2.2.2.2.2.2.1 t t0 t1).1⟩
def OKr (b : Int → Int) (n : Int) (o : Int × Int × aH) (v : Int) (σ : aS) : Prop := (v = 1 ∧ o.1 = 0 ∧ TKr b n o.2.1 σ ∧ QR o.2.2 σ) ∨ (v = 0 ∧ o.1 ≠ 0 ∧ FRr o.1 o.2.1 σ)
theorem QR.nm {T : aH} {σ : aS} (h : QR T σ) : (∀ k, 0 ≤ k → k < T 0 0 → aget σ 133 (5 + k) = T 11 (5 * 0 + k)) ∧ (∀ k, 0 ≤ k → k < T 0 1 → aget σ 135 (5 + k) = T 11 (5 * 1 + k)) ∧ (∀ k, 0 ≤ k → k < T 0 2 → aget σ 141 (4 + k) = T 11 (5 * 2 + k)) := by
  obtain ⟨-, hg, hs, ht, -⟩ := h
  exact ⟨fun k k0 k1 => by rw [show 5 * 0 + k = k by omega]; exact (hg k k0 k1).1, fun k k0 k1 => by rw [show 5 * 1 + k = 5 + k by omega]; exact (hs k k0 k1).1, fun k k0 k1 => by rw [show 5 * 2 + k = 10 + k by omega]; exact (ht k k0 k1).1⟩
/-- the place and fault of a new name, seen from the reference -/
theorem nwF_r {b : Int → Int} {n : Int} {T : aH} {w most P : Int} (h : ¬ most ≤ T 0 w) : nwF b n T w most P = if kd b n (nxp b n P) = 3 then (if aNamed T w (vlt b n (nxp b n P)) = -1 then (0, nxp b n (nxp b n P)) else (3, nxp b n P)) else (1, nxp b n P) := by
  unfold nwF
  rw [if_neg h]
  by_cases c : kd b n (nxp b n P) = 3
  · rw [if_neg (fun q => q c), if_pos c]
    by_cases d : aNamed T w (vlt b n (nxp b n P)) = -1
    · rw [if_neg (fun q => q d), if_pos d]
    · rw [if_pos d, if_neg d]
  · rw [if_pos c, if_neg c]
theorem c12_goodLine_ok {b : Int → Int} {n P : Int} {T : aH} {σ : aS} (h : TKr b n P σ) (hQ : QR T σ) (hI : TI T) : ∃ v τ, c12_goodLine 130 σ = some (0, [v], τ) ∧ Fp wrr σ τ ∧ OKr b n (lnG b n P T) v τ := by
  obtain ⟨⟨q5, q51, q4⟩, q13, q9⟩ := hI.q
  have hB0 := hI.1.1.1
  have hL := h.1.1
  have nm := hQ.nm.1
  obtain ⟨h0, hg, hs, ht, hk⟩ := hQ
  unfold c12_goodLine lnG
  rw [h0.1]
  by_cases c5 : T 0 0 = 5
  · obtain ⟨τ, e1, e2, e3⟩ := c12_wrong_ok h 2
    have hf : nwF b n T 0 5 P = (2, P) := by unfold nwF; rw [if_pos (by omega)]
    refine ⟨0, τ, ?_, e2, ?_⟩
    · rw [e1, acall1_some]; exact ite_p c5 (bz01 (Or.inl rfl))
    · rw [hf, if_pos (by show (2 : Int) ≠ 0; omega)]
      exact Or.inr ⟨rfl, by show (2 : Int) ≠ 0; omega, e3⟩
  · rw [if_neg c5]
    have hf := nwF_r (b := b) (n := n) (T := T) (w := 0) (most := 5) (P := P) (by omega)
    obtain ⟨σ1, e1, e2, e3⟩ := r_token h
    have f1 : Fp wrr σ σ1 := wtn_r (wkt_n e2)
    have w1 : ∀ x j, wkt x j → x = 130 ∧ 7 ≤ j ∧ j ≤ 10 := fun x j q => q
    have e18 : aget σ1 130 18 = T 0 0 := by rw [e2.g (by unfold wkt; omega)]; exact h0.1
    have nm1 : ∀ k, 0 ≤ k → k < T 0 0 → aget σ1 133 (5 + k) = T 11 (5 * 0 + k) := fun k k0 k1 => by rw [e2.g (by unfold wkt; omega)]; exact nm k k0 k1
    rw [e1, acall0_some, r_130_24 e3.1.1, if_neg (show ¬ (133 : Int) = 0 by omega), e18]
    rcases r_new e3 (T := T) (w := 0) (x := 133) (o := 5) (N := 10) (by omega) (by omega) (by omega) hB0 (by omega) nm1 with ⟨⟨k3, kn⟩, σ2, g1, g2, g3, g4⟩ | ⟨kk, τ, g1, g2, g3⟩
    · rw [if_pos k3, if_pos kn] at hf
      rw [hf, if_neg (show ¬ ((0 : Int), nxp b n (nxp b n P)).1 ≠ 0 from fun q => q rfl), g1, acall1_some, if_neg (show ¬ (1 : Int) = 0 by omega)]
      have f2 : Fp wrr σ1 σ2 := g2.mono (fun x j q => by unfold wkt at q; unfold wrr; omega)
      rcases r_num g3 0 (hi := 999) (by omega) with ⟨y, hv, σ3, i1, i2, i3, i4⟩ | ⟨y, τ, i1, i2, i3⟩
      · have L3 := i3.1.1
        rw [if_neg (show ¬ pNum b n 0 999 (nxp b n (nxp b n P)) ≠ 0 from fun q => q y), i1, acall1_some, if_neg (show ¬ (1 : Int) = 0 by omega)]
        have e318 : aget σ3 130 18 = T 0 0 := by rw [i2.g (by unfold wtn; omega), g2.g (by unfold wkt; omega)]; exact e18
        obtain ⟨σ4, h4⟩ : ∃ σ4, σ4 = aput (aput σ3 134 (5 + T 0 0) (vlt b n (nxp b n (nxp b n P)))) 130 18 (T 0 0 + 1) := ⟨_, rfl⟩
        have f4 : Fp (fun x j => (x = 134 ∧ j = 5 + T 0 0) ∨ (x = 130 ∧ j = 18)) σ3 σ4 := by rw [h4]; exact ((Fp.rf _ _).put _ (by omega)).put _ (by omega)
        have f3 : Fp wrr σ2 σ3 := wtn_r i2
        have f4' : Fp wrr σ3 σ4 := f4.mono (fun x j q => by unfold wrr; omega)
        -- all that was touched
        have fA : Fp (fun x j => (x = 130 ∧ ((7 ≤ j ∧ j ≤ 11) ∨ j = 18)) ∨ ((x = 133 ∨ x = 134) ∧ j = 5 + T 0 0)) σ σ4 := by
          have a1 := e2.mono (Q := fun x j => (x = 130 ∧ ((7 ≤ j ∧ j ≤ 11) ∨ j = 18)) ∨ ((x = 133 ∨ x = 134) ∧ j = 5 + T 0 0)) (fun x j q => by unfold wkt at q; omega)
          have a2 := g2.mono (Q := fun x j => (x = 130 ∧ ((7 ≤ j ∧ j ≤ 11) ∨ j = 18)) ∨ ((x = 133 ∨ x = 134) ∧ j = 5 + T 0 0)) (fun x j q => by unfold wkt at q; omega)
          have a3 := i2.mono (Q := fun x j => (x = 130 ∧ ((7 ≤ j ∧ j ≤ 11) ∨ j = 18)) ∨ ((x = 133 ∨ x = 134) ∧ j = 5 + T 0 0)) (fun x j q => by unfold wtn at q; omega)
          have a4 := f4.mono (Q := fun x j => (x = 130 ∧ ((7 ≤ j ∧ j ≤ 11) ∨ j = 18)) ∨ ((x = 133 ∨ x = 134) ∧ j = 5 + T 0 0)) (fun x j q => by omega)
          exact a1.tr (a2.tr (a3.tr a4))
        refine ⟨1, σ4, ?_, f1.tr (f2.tr (f3.tr f4')), Or.inl ⟨rfl, rfl, i3.pf f4 (fun x j q => by unfold wrr; omega) (fun x j q => by unfold wkt; omega), ?_⟩⟩
        · rw [r_130_25 L3, e318, wq (x := 5 + T 0 0) (by omega) (by omega), n_134 L3, i4, ag_x (show (130 : Int) ≠ 134 by omega), e318, wq (x := T 0 0 + 1) (by omega) (by omega), ← h4]
          exact ite_n (by omega) (ite_p (by omega) (bz01 (Or.inr rfl)))
        · obtain ⟨U, hU⟩ : ∃ U, U = stv (nwT b n T 0 P) 1 (T 0 0) (vlt b n (nxp b n (nxp b n P))) := ⟨_, rfl⟩
          show QR (stv (nwT b n T 0 P) 1 (T 0 0) (vlt b n (nxp b n (nxp b n P)))) σ4
          rw [← hU]
          have u00 : U 0 0 = T 0 0 + 1 := by rw [hU, stv_x (by omega)]; unfold nwT; rw [stv_s]
          have u0 : ∀ i, i ≠ 0 → U 0 i = T 0 i := fun i hi => by rw [hU, stv_x (by omega), nwT_0 hi]
          have u11 : ∀ i, i ≠ T 0 0 → U 11 i = T 11 i := fun i hi => by rw [hU, stv_x (by omega)]; unfold nwT; rw [stv_x (by omega), stv_j (by omega)]
          have u11s : U 11 (T 0 0) = vlt b n (nxp b n P) := by rw [hU, stv_x (by omega)]; unfold nwT; rw [stv_x (by omega), show 5 * 0 + T 0 0 = T 0 0 by omega, stv_s]
          have u1 : ∀ i, i ≠ T 0 0 → U 1 i = T 1 i := fun i hi => by rw [hU, stv_j hi, nwT_x (by omega) (by omega)]
          have u1s : U 1 (T 0 0) = vlt b n (nxp b n (nxp b n P)) := by rw [hU, stv_s]
          have ux : ∀ a i, a ≠ 0 → a ≠ 1 → a ≠ 11 → U a i = T a i := fun a i a0 a1 a2 => by rw [hU, stv_x a1, nwT_x a0 a2]
          refine ⟨?_, fun g g0 g1 => ?_, hs.cg fA (fun x j q => by unfold cqs; omega) (by omega) (u0 1 (by omega)) (fun i i0 i1 => u11 i (by omega)) (fun a ha i => ux a i (by omega) (by omega) (by omega)), ht.cg fA (fun x j q => by unfold cqt; omega) (by omega) q13 (u0 2 (by omega)) (fun i i0 i1 => u11 i (by omega)) (fun a ha i => ux a i (by omega) (by omega) (by omega)), hk.cg fA (fun x j q => by unfold cqk; omega) q9 (u0 2 (by omega)) (fun a ha i => ux a i (by omega) (by omega) (by omega))⟩
          · unfold Q0 at h0 ⊢
            rw [fA.g (x := 130) (j := 19) (by omega), fA.g (x := 130) (j := 20) (by omega), fA.g (x := 130) (j := 21) (by omega), fA.g (x := 130) (j := 22) (by omega), fA.g (x := 130) (j := 23) (by omega), fA.g (x := 130) (j := 49) (by omega), fA.g (x := 130) (j := 4) (by omega), fA.g (x := 130) (j := 5) (by omega), u00, u0 1 (by omega), u0 2 (by omega), u0 3 (by omega), u0 4 (by omega), u0 5 (by omega), ux 24 0 (by omega) (by omega) (by omega)]
            exact ⟨by rw [h4, ag_s], h0.2⟩
          · by_cases q : g = T 0 0
            · rw [q, u11s, u1s]
              refine ⟨?_, by rw [h4, ag_x (by omega), ag_s]⟩
              rw [f4.g (by omega), i2.g (by unfold wtn; omega)]; exact g4
            · rw [u11 g q, u1 g q, fA.g (by omega), fA.g (by omega)]
              exact hg g g0 (by omega)
      · rw [if_pos y, i1, acall1_some, if_pos rfl]
        exact ⟨0, τ, bz01 (Or.inl rfl), f1.tr (f2.tr i2), Or.inr ⟨rfl, y, i3⟩⟩
    · have hf2 : nwF b n T 0 5 P = (if kd b n (nxp b n P) = 3 then 3 else 1, nxp b n P) := by
        rw [hf]
        rcases kk with q | ⟨q, q2⟩
        · rw [if_neg q, if_neg q]
        · rw [if_pos q, if_neg q2, if_pos q]
      have hz : (nwF b n T 0 5 P).1 ≠ 0 := by rw [hf2]; show (if kd b n (nxp b n P) = 3 then (3 : Int) else 1) ≠ 0; split <;> omega
      rw [if_pos hz, g1, acall1_some, if_pos rfl]
      exact ⟨0, τ, bz01 (Or.inl rfl), f1.tr g2, Or.inr ⟨rfl, hz, by rw [hf2]; exact g3⟩⟩
