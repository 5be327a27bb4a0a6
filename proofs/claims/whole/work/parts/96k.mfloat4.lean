/-! the reference reads: a float's line, put together -/
def wfl (s x j : Int) : Prop := (x = 130 ∧ 7 ≤ j ∧ j ≤ 11) ∨ (x = 135 ∧ j = 5 + s) ∨ (x = 136 ∧ 20 + 4 * s ≤ j ∧ j < 24 + 4 * s) ∨ ((x = 137 ∨ x = 139) ∧ 25 + 5 * s ≤ j ∧ j < 30 + 5 * s) ∨ ((x = 138 ∨ x = 140) ∧ j = s)
theorem fltT_v {b : Int → Int} {n P : Int} {T : aH} :
    (∀ a i, a ≠ 0 → a ≠ 2 → a ≠ 11 → fltT b n P T a i = T a i) ∧ (∀ i, i ≠ 1 → i ≠ 3 → fltT b n P T 0 i = T 0 i) ∧ fltT b n P T 0 3 = T 0 3 + vlt b n (nxp b n (nxp b n P)) ∧
    (fltT b n P T 2 (4 * T 0 1) = vlt b n (nxp b n (nxp b n P)) ∧ fltT b n P T 2 (4 * T 0 1 + 1) = vlt b n (nxp b n (nxp b n (nxp b n P))) ∧ fltT b n P T 2 (4 * T 0 1 + 2) = vlt b n (nxp b n (nxp b n (nxp b n (nxp b n P)))) ∧ fltT b n P T 2 (4 * T 0 1 + 3) = vlt b n (nxp b n (nxp b n (nxp b n (nxp b n (nxp b n P)))))) ∧
    (∀ i, ¬ (4 * T 0 1 ≤ i ∧ i ≤ 4 * T 0 1 + 3) → fltT b n P T 2 i = T 2 i) ∧ (∀ i, i ≠ 5 + T 0 1 → fltT b n P T 11 i = T 11 i) ∧ fltT b n P T 11 (5 + T 0 1) = vlt b n (nxp b n P) := by
  refine ⟨fun a i a0 a2 a11 => ?_, fun i h1 h3 => ?_, ?_, ⟨?_, ?_, ?_, ?_⟩, fun i hi => ?_, fun i hi => ?_, ?_⟩
  · unfold fltT addT
    rw [stv_x a2, stv_x a2, stv_x a2, stv_x a0, stv_x a2, nwT_x a0 a11]
  · unfold fltT
    rw [stv_x (by omega), stv_x (by omega), stv_x (by omega), addT_0 h3, nwT_0 h1]
  · unfold fltT
    rw [stv_x (by omega), stv_x (by omega), stv_x (by omega), addT_3, nwT_0 (by omega)]
  · unfold fltT addT
    rw [stv_j (by omega), stv_j (by omega), stv_j (by omega), stv_x (by omega), stv_s]
  · unfold fltT
    rw [stv_j (by omega), stv_j (by omega), stv_s]
  · unfold fltT
    rw [stv_j (by omega), stv_s]
  · unfold fltT
    rw [stv_s]
  · unfold fltT addT
    rw [stv_j (by omega), stv_j (by omega), stv_j (by omega), stv_x (by omega), stv_j (by omega), nwT_x (by omega) (by omega)]
  · unfold fltT addT nwT
    rw [stv_x (by omega), stv_x (by omega), stv_x (by omega), stv_x (by omega), stv_x (by omega), stv_x (by omega), stv_j (by omega)]
  · unfold fltT addT nwT
    rw [stv_x (by omega), stv_x (by omega), stv_x (by omega), stv_x (by omega), stv_x (by omega), stv_x (by omega), show 5 * 1 + T 0 1 = 5 + T 0 1 by omega, stv_s]
/-- ahead of the wants -/
theorem flt_base {T U : aH} {m nm : Int} {σ τ : aS} (hQ : QR T σ) (hI : TI T) (hs5 : T 0 1 < 5) (hF : Fp (wfl (T 0 1)) σ τ)
    (ux : ∀ a i, a ≠ 0 → a ≠ 2 → a ≠ 11 → U a i = T a i) (u0 : ∀ i, i ≠ 1 → i ≠ 3 → U 0 i = T 0 i) (u1 : U 0 1 = T 0 1 + 1) (u3 : U 0 3 = T 0 3 + m) (u2 : ∀ i, ¬ (4 * T 0 1 ≤ i ∧ i ≤ 4 * T 0 1 + 3) → U 2 i = T 2 i) (u11 : ∀ i, i ≠ 5 + T 0 1 → U 11 i = T 11 i) (u11s : U 11 (5 + T 0 1) = nm)
    (cn : aget τ 135 (5 + T 0 1) = nm) (cf : ∀ w, 0 ≤ w → w < 4 → aget τ 136 (20 + (4 * T 0 1 + w)) = U 2 (4 * T 0 1 + w)) (cz : ∀ g, 0 ≤ g → g < 5 → aget τ 137 (25 + (5 * T 0 1 + g)) = 0 ∧ aget τ 139 (25 + (5 * T 0 1 + g)) = 0) (c138 : aget τ 138 (T 0 1) = 0) (c140 : aget τ 140 (T 0 1) = 0) : QF U m τ := by
  obtain ⟨⟨q5, q51, q4⟩, q13, q9⟩ := hI.q
  have s00 := hI.1.2.1.1
  have z34 := hI.2.2.2.1.2.2
  clear hI
  obtain ⟨h0, hg, hs, ht, hk⟩ := hQ
  refine ⟨?_, hg.cg hF (fun x j q => by unfold wfl at q; omega) (u0 0 (by omega) (by omega)) (fun g g0 g1 => ⟨u11 g (by omega), ux 1 g (by omega) (by omega) (by omega)⟩), fun r r0 r1 => ?_, ht.cg hF (fun x j q => by unfold wfl at q; unfold cqt; omega) q4 q13 (u0 2 (by omega) (by omega)) (fun i i0 i1 => u11 i (by omega)) (fun a ha i => ux a i (by omega) (by omega) (by omega)), hk.cg hF (fun x j q => by unfold wfl at q; unfold cqk; omega) q9 (u0 2 (by omega) (by omega)) (fun a ha i => ux a i (by omega) (by omega) (by omega))⟩
  · have := h0.fp hF (fun x j q => by unfold wfl at q; omega)
    unfold Q0 at this ⊢
    rw [u0 0 (by omega) (by omega), u0 2 (by omega) (by omega), u0 4 (by omega) (by omega), u0 5 (by omega) (by omega), u1, u3, ux 24 0 (by omega) (by omega) (by omega)]
    obtain ⟨x1, x2, x3, x4, x5, x6, x7⟩ := this
    exact ⟨x1, by omega, x3, by omega, x5, x6, x7⟩
  · rw [u1] at r1
    by_cases q : r = T 0 1
    · rw [q]
      refine ⟨by rw [u11s]; exact cn, cf, fun w w0 w5 => ?_, by rw [c138]; omega, by rw [c140]; omega⟩
      obtain ⟨y1, y2, y3, y4⟩ := z34 (5 * T 0 1 + w) (by omega) (by omega)
      obtain ⟨k1, k2⟩ := cz w w0 w5
      have b0 : bI 0 w = 0 := by unfold bI; rw [Int.zero_ediv]; rfl
      rw [ux 3 _ (by omega) (by omega) (by omega), ux 4 _ (by omega) (by omega) (by omega), ux 20 _ (by omega) (by omega) (by omega), ux 21 _ (by omega) (by omega) (by omega), y1, y2, y3, y4, k1, k2, c138, c140, b0]
      exact ⟨rfl, rfl, rfl, rfl⟩
    · exact (hs r r0 (by omega)).cg r0 (fun x j hx => hF.g (by unfold wfl; omega)) (u11 _ (by omega)) (fun w w0 w4 => u2 _ (by omega)) (fun w w0 w5 => ⟨ux 3 _ (by omega) (by omega) (by omega), ux 4 _ (by omega) (by omega) (by omega), ux 20 _ (by omega) (by omega) (by omega), ux 21 _ (by omega) (by omega) (by omega)⟩)
/-- behind the wants -/
theorem flt_end {b : Int → Int} {n Q s m f : Int} {U : aH} {σ : aS} (h : TKr b n Q σ) (hQ : QF U m σ) (e1 : U 0 1 = s + 1) (em : U 2 (4 * s) = m) (s0 : 0 ≤ s) (s5 : s < 5) (ef : U 0 3 = f + m) (f0 : 0 ≤ f + m ∧ f + m ≤ 12) :
    ∃ τ, c12_floatLine_p308 130 (20 + 4 * s) σ = some (0, [1], τ) ∧ Fp wrr σ τ ∧ TKr b n Q τ ∧ QR U τ := by
  have L := h.1.1
  obtain ⟨⟨x1, x2, x3, x4, x5, x6, x7⟩, ag', as', at', ak⟩ := hQ
  have m1 := (as' s s0 (by omega)).2.1 0 (by omega) (by omega)
  rw [show 20 + (4 * s + 0) = 20 + 4 * s by omega, Int.add_zero, em] at m1
  obtain ⟨τ, h7⟩ : ∃ τ, τ = aput (aput σ 130 21 (U 0 3)) 130 19 (U 0 1) := ⟨_, rfl⟩
  have f7 : Fp (fun x j => x = 130 ∧ (j = 19 ∨ j = 21)) σ τ := by rw [h7]; exact ((Fp.rf _ _).put _ (by omega)).put _ (by omega)
  refine ⟨τ, ?_, f7.mono (fun x j q => by unfold wrr; omega), h.pf f7 (fun x j q => by unfold wrr; omega) (fun x j q => by unfold wkt; omega), ?_, ?_, ?_, ?_, ?_⟩
  · unfold c12_floatLine_p308
    rw [r_130_27 L, n_136 L, m1, ag_j (show (19 : Int) ≠ 21 by omega), x2, x4, wq (x := U 0 3 - m + m) (by omega) (by omega), wq (x := U 0 1 - 1 + 1) (by omega) (by omega), show U 0 3 - m + m = U 0 3 by omega, show U 0 1 - 1 + 1 = U 0 1 by omega, ← h7]
    exact ite_n (by omega) (ite_p (by omega) (bz01 (Or.inr rfl)))
  · unfold Q0
    rw [f7.g (x := 130) (j := 18) (by omega), f7.g (x := 130) (j := 20) (by omega), f7.g (x := 130) (j := 22) (by omega), f7.g (x := 130) (j := 23) (by omega), f7.g (x := 130) (j := 49) (by omega), f7.g (x := 130) (j := 4) (by omega), f7.g (x := 130) (j := 5) (by omega)]
    refine ⟨x1, ?_, x3, ?_, x5, x6, x7⟩
    · rw [h7, ag_s]; omega
    · rw [h7, ag_j (by omega), ag_s]; omega
  · intro g g0 g1
    rw [f7.g (by omega), f7.g (by omega)]; exact ag' g g0 g1
  · intro r r0 r1
    exact (as' r r0 r1).cg r0 (fun x j hx => f7.g (by omega)) rfl (fun _ _ _ => rfl) (fun _ _ _ => ⟨rfl, rfl, rfl, rfl⟩)
  · intro t t0 t1
    have := at' t t0 t1
    unfold Qt1 at this ⊢
    rw [f7.g (x := 141) (by omega), f7.g (x := 142) (by omega), f7.g (x := 143) (by omega), f7.g (x := 144) (by omega), f7.g (x := 145) (by omega), f7.g (x := 146) (by omega), f7.g (x := 147) (by omega), f7.g (x := 148) (by omega)]
    exact ⟨this.1, this.2.1, this.2.2.1, this.2.2.2.1, this.2.2.2.2.1, this.2.2.2.2.2.1, this.2.2.2.2.2.2.1, this.2.2.2.2.2.2.2.1, fun y y0 y1 => by rw [f7.g (by omega)]; exact this.2.2.2.2.2.2.2.2 y y0 y1⟩
  · intro t t0 t1
    exact rok_t (ak t t0 t1) rfl rfl (fun k _ _ => ⟨rfl, f7.g (by omega), f7.g (by omega), f7.g (by omega)⟩)
/-- from the figures to the wants -/
theorem flt_mid {s l1 : Int} {σ : aS} (L : LR σ) (h19 : aget σ 130 19 = s) (s0 : 0 ≤ s) (s5 : s < 5) :
    ∃ τ, c12_floatLine_p129 130 l1 σ = c12_floatLine_l196 130 l1 τ ∧ Fp (fun x j => ((x = 137 ∨ x = 139) ∧ 25 + 5 * s ≤ j ∧ j < 30 + 5 * s) ∨ ((x = 138 ∨ x = 140) ∧ j = s)) σ τ ∧ (∀ g, 0 ≤ g → g < 5 → aget τ 137 (25 + (5 * s + g)) = 0 ∧ aget τ 139 (25 + (5 * s + g)) = 0) ∧ aget τ 138 s = 0 ∧ aget τ 140 s = 0 := by
  obtain ⟨σ4, j1, j2, j3⟩ := flt_zero L s0 s5 h19 l1
  have L4 : LR σ4 := L.rr j2 (fun x j q => by unfold wrr; omega)
  have w419 : aget σ4 130 19 = s := by rw [j2.g (by omega)]; exact h19
  obtain ⟨σ5, h5⟩ : ∃ σ5, σ5 = aput (aput σ4 138 s 0) 140 s 0 := ⟨_, rfl⟩
  have f5 : Fp (fun x j => (x = 138 ∨ x = 140) ∧ j = s) σ4 σ5 := by rw [h5]; exact ((Fp.rf _ _).put _ (by omega)).put _ (by omega)
  refine ⟨σ5, ?_, (j2.mono (fun x j q => Or.inl q)).tr (f5.mono (fun x j q => Or.inr q)), fun g g0 g1 => ?_, ?_, ?_⟩
  · unfold c12_floatLine_p129 c12_floatLine_l131
    rw [j1]
    show c12_floatLine_p176 130 l1 σ4 = _
    unfold c12_floatLine_p176
    have f4 : Fp (fun x j => x = 138 ∧ j = s) σ4 (aput σ4 138 s 0) := (Fp.rf _ _).put _ ⟨rfl, rfl⟩
    have L4' : LR (aput σ4 138 s 0) := L4.rr f4 (fun x j q => by unfold wrr; omega)
    rw [r_130_29 L4, n_138 L4, w419, r_130_31 L4', ag_x (show (130 : Int) ≠ 138 by omega), w419, n_140 L4', ← h5]
    exact ite_n (by omega) (ite_p (by omega) (ite_n (by omega) (ite_p (by omega) rfl)))
  · rw [f5.g (by omega), f5.g (by omega)]; exact j3 g g0 g1
  · rw [h5, ag_x (by omega), ag_s]
  · rw [h5, ag_s]
