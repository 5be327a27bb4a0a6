/-! the reference reads: grounds -/
def QO (T : aH) (m t : Int) (σ : aS) : Prop := Qg T σ ∧ Qs T σ ∧ ∀ u, 0 ≤ u → u < m → u ≠ t → Qt1 T σ u ∧ Qk1 T σ u
def wqo (t K x j : Int) : Prop := x = 130 ∨ ((141 ≤ x ∧ x ≤ 148) ∧ j = 4 + t) ∨ (x = 149 ∧ 24 + 6 * t ≤ j ∧ j < 30 + 6 * t) ∨ ((150 ≤ x ∧ x ≤ 152) ∧ 64 + K ≤ j) ∨ x = 153 ∨ x = 154
theorem QO.cg {T U : aH} {m t K : Int} {σ τ : aS} {P : Int → Int → Prop} (h : QO T m t σ) (hF : Fp P σ τ) (hP : ∀ x j, P x j → wqo t K x j) (t0 : 0 ≤ t)
    (h00 : T 0 0 ≤ 5) (h5 : T 0 1 ≤ 5) (h6 : ∀ u, 0 ≤ u → u < m → T 13 u ≤ 6) (h9 : ∀ u, 0 ≤ u → u < m → 0 ≤ T 9 u ∧ T 10 u ≤ K)
    (e0 : U 0 0 = T 0 0 ∧ U 0 1 = T 0 1) (e11 : ∀ i, i ≠ 10 + t → U 11 i = T 11 i) (e1 : ∀ a i, (a = 1 ∨ a = 2 ∨ a = 3 ∨ a = 4 ∨ a = 20 ∨ a = 21) → U a i = T a i)
    (e8 : ∀ k, k < K → U 8 k = T 8 k) (et : ∀ a u, (a = 5 ∨ a = 6 ∨ a = 23 ∨ a = 9 ∨ a = 10 ∨ a = 12 ∨ a = 13) → u ≠ t → U a u = T a u)
    (e14 : ∀ j, ¬ (6 * t ≤ j ∧ j < 6 * t + 6) → U 14 j = T 14 j) : QO U m t τ := by
  obtain ⟨hg, hs, ht⟩ := h
  have hW : ∀ x j, P x j → x = 130 ∨ ((141 ≤ x ∧ x ≤ 148) ∧ j = 4 + t) ∨ (x = 149 ∧ 24 + 6 * t ≤ j ∧ j < 30 + 6 * t) ∨ ((150 ≤ x ∧ x ≤ 152) ∧ 64 + K ≤ j) ∨ x = 153 ∨ x = 154 := hP
  refine ⟨hg.cg hF (fun x j q => by have := hW x j q; omega) e0.1 (fun g g0 g1 => ⟨e11 g (by omega), e1 1 g (by omega)⟩), hs.cg hF (fun x j q => by have := hW x j q; unfold cqs; omega) h5 e0.2 (fun i i0 i1 => e11 i (by omega)) (fun a ha i => e1 a i (by omega)), fun u u0 u1 ut => ?_⟩
  have h9u := h9 u u0 u1
  exact ⟨(ht u u0 u1 ut).1.cg u0 (h6 u u0 u1) (fun x j hx => hF.g (fun q => by have := hW x j q; omega)) (e11 _ (by omega)) (fun a ha => et a u (by omega) ut) (fun y y0 y1 => e14 _ (by omega)),
    rok_t (ht u u0 u1 ut).2 (et 9 u (by omega) ut) (et 10 u (by omega) ut) (fun k ka kb => ⟨e8 k (by omega), hF.g (fun q => by have := hW _ _ q; omega), hF.g (fun q => by have := hW _ _ q; omega), hF.g (fun q => by have := hW _ _ q; omega)⟩)⟩
theorem QR.qo {T : aH} {σ : aS} (h : QR T σ) {m : Int} (hm : m ≤ T 0 2) (t : Int) : QO T m t σ := ⟨h.2.1, h.2.2.1, fun u u0 u1 _ => ⟨h.2.2.2.1 u u0 (by omega), h.2.2.2.2 u u0 (by omega)⟩⟩
theorem QO.qr {T : aH} {σ : aS} {t : Int} (h0 : Q0 T 0 0 0 σ) (h : QO T (T 0 2) t σ) (h1 : Qt1 T σ t) (h2 : Qk1 T σ t) : QR T σ := by
  refine ⟨h0, h.1, h.2.1, fun u u0 u1 => ?_, fun u u0 u1 => ?_⟩
  · by_cases c : u = t
    · rw [c]; exact h1
    · exact (h.2.2 u u0 u1 c).1
  · by_cases c : u = t
    · rw [c]; exact h2
    · exact (h.2.2 u u0 u1 c).2
/-- what of a text bounds its rows -/
def BQ (T : aH) : Prop := T 0 0 ≤ 5 ∧ T 0 1 ≤ 5 ∧ T 0 2 ≤ 4 ∧ (∀ u, 0 ≤ u → u < 4 → T 13 u ≤ 6) ∧ ∀ u, 0 ≤ u → u < T 0 2 → 0 ≤ T 9 u ∧ T 10 u ≤ T 24 0
theorem TI.bq {T : aH} (h : TI T) : BQ T := by
  obtain ⟨⟨q5, q51, q4⟩, q13, q9⟩ := h.q
  exact ⟨q5, q51, q4, q13, fun u u0 u1 => ⟨q9 u u0 u1, (h.2.2.2.2.2.2.2.1 u u0 u1).2.2⟩⟩
/-- a row of a ground told -/
theorem row_put {T : aH} {σ τ : aS} {t i v : Int} (hQ : QR T σ) (hB : BQ T) (t0 : 0 ≤ t) (t1 : t < T 0 2) (i0 : 0 ≤ i) (i6 : i < 6) (h13 : T 13 t = i)
    (hF : Fp (fun x j => wtn x j ∨ (x = 149 ∧ j = 24 + 6 * t + i) ∨ (x = 148 ∧ j = 4 + t)) σ τ) (c9 : aget τ 149 (24 + 6 * t + i) = v) (c8 : aget τ 148 (4 + t) = i + 1) :
    QR (stv (stv T 14 (6 * t + i) v) 13 t (i + 1)) τ ∧ BQ (stv (stv T 14 (6 * t + i) v) 13 t (i + 1)) := by
  obtain ⟨b00, b01, b02, b13, b9⟩ := hB
  obtain ⟨U, hU⟩ : ∃ U, U = stv (stv T 14 (6 * t + i) v) 13 t (i + 1) := ⟨_, rfl⟩
  rw [← hU]
  have ux : ∀ a k, a ≠ 13 → a ≠ 14 → U a k = T a k := fun a k a0 a1 => by rw [hU, stv_x a0, stv_x a1]
  have u13 : ∀ k, k ≠ t → U 13 k = T 13 k := fun k hk => by rw [hU, stv_j hk, stv_x (by omega)]
  have u13s : U 13 t = i + 1 := by rw [hU, stv_s]
  have u14 : ∀ k, k ≠ 6 * t + i → U 14 k = T 14 k := fun k hk => by rw [hU, stv_x (by omega), stv_j hk]
  have u14s : U 14 (6 * t + i) = v := by rw [hU, stv_x (by omega), stv_s]
  have n : ∀ x j, (wtn x j ∨ (x = 149 ∧ j = 24 + 6 * t + i) ∨ (x = 148 ∧ j = 4 + t)) → (x = 130 ∧ 7 ≤ j ∧ j ≤ 11) ∨ (x = 149 ∧ j = 24 + 6 * t + i) ∨ (x = 148 ∧ j = 4 + t) := fun x j q => q
  have hqo := (hQ.qo (Int.le_refl _) t).cg (U := U) (K := T 24 0) hF (fun x j q => by have := n x j q; unfold wqo; omega) t0 b00 b01 (fun u u0 u1 => b13 u u0 (by omega)) b9 ⟨ux 0 0 (by omega) (by omega), ux 0 1 (by omega) (by omega)⟩ (fun k _ => ux 11 k (by omega) (by omega)) (fun a k ha => ux a k (by omega) (by omega)) (fun k _ => ux 8 k (by omega) (by omega))
    (fun a u ha hu => by
      by_cases c : a = 13
      · rw [c]; exact u13 u hu
      · exact ux a u c (by omega)) (fun j hj => u14 j (by omega))
  have e02 : U 0 2 = T 0 2 := ux 0 2 (by omega) (by omega)
  rw [← e02] at hqo
  obtain ⟨a1, a2, a3, a4, a5, a6, a7, a8, a9⟩ := hQ.2.2.2.1 t t0 t1
  have hk := hQ.2.2.2.2 t t0 t1
  have g : ∀ x j, ¬ ((x = 130 ∧ 7 ≤ j ∧ j ≤ 11) ∨ (x = 149 ∧ j = 24 + 6 * t + i) ∨ (x = 148 ∧ j = 4 + t)) → aget τ x j = aget σ x j := fun x j q => hF.g (fun w => q (n x j w))
  refine ⟨QO.qr ((hQ.1.fp hF (fun x j q => by have := n x j q; omega)).cg (fun k _ _ => ux 0 k (by omega) (by omega)) (ux 24 0 (by omega) (by omega))) hqo ?_ ?_, ?_⟩
  · refine ⟨?_, ?_, ?_, ?_, ?_, ?_, ?_, fun _ => by rw [c8, u13s], fun y y0 y1 => ?_⟩
    · rw [g _ _ (by omega), ux 11 _ (by omega) (by omega)]; exact a1
    · rw [g _ _ (by omega), ux 5 _ (by omega) (by omega)]; exact a2
    · rw [g _ _ (by omega), ux 6 _ (by omega) (by omega)]; exact a3
    · rw [g _ _ (by omega), ux 23 _ (by omega) (by omega)]; exact a4
    · rw [g _ _ (by omega), ux 9 _ (by omega) (by omega)]; exact a5
    · rw [g _ _ (by omega), ux 10 _ (by omega) (by omega)]; exact a6
    · rw [g _ _ (by omega), ux 12 _ (by omega) (by omega)]; exact a7
    · rw [u13s] at y1
      by_cases c : y = i
      · rw [c, u14s, ← c9]; congr 1; omega
      · rw [u14 _ (by omega), g _ _ (by omega)]; exact a9 y y0 (by omega)
  · exact rok_t hk (ux 9 t (by omega) (by omega)) (ux 10 t (by omega) (by omega)) (fun k _ _ => ⟨ux 8 k (by omega) (by omega), g _ _ (by omega), g _ _ (by omega), g _ _ (by omega)⟩)
  · refine ⟨by rw [ux 0 0 (by omega) (by omega)]; exact b00, by rw [ux 0 1 (by omega) (by omega)]; exact b01, by rw [e02]; exact b02, fun u u0 u4 => ?_, fun u u0 u1 => ?_⟩
    · by_cases c : u = t
      · rw [c, u13s]; omega
      · rw [u13 u c]; exact b13 u u0 u4
    · rw [e02] at u1
      rw [ux 9 u (by omega) (by omega), ux 10 u (by omega) (by omega), ux 24 0 (by omega) (by omega)]; exact b9 u u0 u1
theorem KR.n2 {c v k w : Int} (h : KR c v k w) : k = 3 ↔ c = 2 := by unfold KR at h; omega
theorem rows_r {b : Int → Int} {n P t w : Int} {T : aH} {σ : aS} (h : TKr b n P σ) (hQ : QR T σ) (hB : BQ T) (t0 : 0 ≤ t) (t1 : t < T 0 2) (w1 : 1 ≤ w) (w6 : w ≤ 6) (h12 : T 12 t = w) (h13 : T 13 t = 0) (hn : n ≤ 800) :
    ∃ v τ, c12_groundLine_l77 130 (4 + t) σ = some (0, [v], τ) ∧ Fp wrr σ τ ∧ OKr b n (lnRs b n t w 7 0 P T) v τ := by
  have hw : p2 w ≤ 64 ∧ 2 ≤ p2 w := by
    rcases (show w = 1 ∨ w = 2 ∨ w = 3 ∨ w = 4 ∨ w = 5 ∨ w = 6 by omega) with rfl | rfl | rfl | rfl | rfl | rfl <;> exact ⟨by decide, by decide⟩
  have hsh : w32 ((ashl 1 w) - 1) = p2 w - 1 := by rw [ashl_1 (by omega) (by omega), wq (by omega) (by omega)]
  generalize hX : lnRs b n t w 7 0 P T = X
  have p1 := h.2.1
  have hal := al_I (c := 78) (B := aU2 c12_groundLine_b77) (n := n) (i := P) (vs := [130, 4 + t]) (σ := σ)
    (fun k vs τ => vs = [130, 4 + t] ∧ Fp wrr σ τ ∧ ∃ (fuel : Nat) (i P' : Int) (U : aH), k ≤ P' ∧ 0 ≤ P' ∧ (fuel : Int) + i = 7 ∧ 0 ≤ i ∧ i ≤ 6 ∧ TKr b n P' τ ∧ QR U τ ∧ BQ U ∧ U 0 2 = T 0 2 ∧ U 12 t = w ∧ U 13 t = i ∧ lnRs b n t w fuel i P' U = X)
    (fun r => (∃ v τ, r = (0, [v], τ) ∧ Fp wrr σ τ ∧ OKr b n X v τ) ∨ (∃ τ, r = (97, [130], τ) ∧ Fp wrr σ τ ∧ ∃ P' U, X = (2, P', U) ∧ TKr b n P' τ)) h.2.1.2 (by omega) ⟨rfl, Fp.rf _ _, 7, 0, P, T, Int.le_refl _, h.2.1.1, rfl, Int.le_refl _, by omega, h, hQ, hB, rfl, h12, h13, hX⟩ ?_
  · obtain ⟨r, hr, ⟨v, τ, rfl, h1, h2⟩ | ⟨τ, rfl, h1, P', U, rfl, h2⟩⟩ := hal
    · refine ⟨v, τ, ?_, h1, h2⟩
      unfold c12_groundLine_l77
      rw [hr]; rfl
    · obtain ⟨υ, e1, e2, e3⟩ := c12_wrong_ok h2 2
      refine ⟨0, υ, ?_, h1.tr e2, Or.inr ⟨rfl, by show (2 : Int) ≠ 0; omega, e3⟩⟩
      unfold c12_groundLine_l77
      rw [hr]
      show c12_groundLine_p96 130 τ = _
      unfold c12_groundLine_p96
      rw [e1, acall1_some]; exact bz01 (Or.inl rfl)
  · rintro k vs τ hk ⟨rfl, hF, fuel, i, P', U, kp, p0, hf, i0, i6, hT, hQ', hB', e02, e12, e13, he⟩
    obtain ⟨f, rfl⟩ : ∃ f : Nat, fuel = f + 1 := ⟨fuel - 1, by omega⟩
    have eu : lnRs b n t w (f + 1) i P' U = if kd b n P' = 2 then (if i = 6 then (2, P', U) else if pNum b n 0 (p2 w - 1) P' ≠ 0 then (pNum b n 0 (p2 w - 1) P', P', U) else lnRs b n t w f (i + 1) (nxp b n P') (stv (stv U 14 (6 * t + i) (vlt b n P')) 13 t (i + 1))) else (0, P', U) := rfl
    rw [eu] at he
    have hL := hT.1.1
    have h4 := hB'.2.2.1
    obtain ⟨a1, a2, a3, a4, a5, a6, a7, a8, a9⟩ := hQ'.2.2.2.1 t t0 (by omega)
    have e147 : aget τ 147 (4 + t) = w := by rw [a7, e12]
    have e148 : aget τ 148 (4 + t) = i := by rw [a8 (by omega), e13]
    have hk8 := hT.2.2.2.2.n2
    by_cases d : kd b n P' = 2
    · rw [if_pos d] at he
      have k8 := hk8.mpr d
      by_cases c6 : i = 6
      · rw [if_pos c6] at he
        refine Or.inr ⟨(97, [130], τ), ?_, Nat.ne_of_beq_eq_false rfl, Or.inr ⟨τ, rfl, hF, P', U, he.symm, hT⟩⟩
        show c12_groundLine_b77 130 (4 + t) τ = _
        unfold c12_groundLine_b77
        rw [r_130_39 hL, n_148 hL, e148]
        exact ite_p k8 (ite_n (by omega) (ite_p (by omega) (ite_p c6 rfl)))
      · rw [if_neg c6] at he
        have start : ∀ r : aR, (acall1 (c12_number 130 0 (p2 w - 1) τ) fun v1 σ1 => (if v1 = 0 then (if (0 : Int) = 0 ∨ (0 : Int) = 1 then some (0, [0], σ1) else none) else (if aget σ1 130 40 = 0 then none else (if aget σ1 130 39 = 0 then none else (if (0 : Int) ≤ 4 + t ∧ 4 + t < alen σ1 (aget σ1 130 39) then (if (0 : Int) ≤ w32 ((w32 (24 + (w32 (6 * (w32 (4 + t - 4)))))) + (aget σ1 (aget σ1 130 39) (4 + t))) ∧ w32 ((w32 (24 + (w32 (6 * (w32 (4 + t - 4)))))) + (aget σ1 (aget σ1 130 39) (4 + t))) < alen σ1 (aget σ1 130 40) then (if aget (aput σ1 (aget σ1 130 40) (w32 ((w32 (24 + (w32 (6 * (w32 (4 + t - 4)))))) + (aget σ1 (aget σ1 130 39) (4 + t)))) (aget σ1 130 11)) 130 39 = 0 then none else (if (0 : Int) ≤ 4 + t ∧ 4 + t < alen (aput σ1 (aget σ1 130 40) (w32 ((w32 (24 + (w32 (6 * (w32 (4 + t - 4)))))) + (aget σ1 (aget σ1 130 39) (4 + t)))) (aget σ1 130 11)) (aget (aput σ1 (aget σ1 130 40) (w32 ((w32 (24 + (w32 (6 * (w32 (4 + t - 4)))))) + (aget σ1 (aget σ1 130 39) (4 + t)))) (aget σ1 130 11)) 130 39) then (if (0 : Int) ≤ 4 + t ∧ 4 + t < alen (aput σ1 (aget σ1 130 40) (w32 ((w32 (24 + (w32 (6 * (w32 (4 + t - 4)))))) + (aget σ1 (aget σ1 130 39) (4 + t)))) (aget σ1 130 11)) (aget (aput σ1 (aget σ1 130 40) (w32 ((w32 (24 + (w32 (6 * (w32 (4 + t - 4)))))) + (aget σ1 (aget σ1 130 39) (4 + t)))) (aget σ1 130 11)) 130 39) then c12_groundLine_p157 130 (4 + t) (aput (aput σ1 (aget σ1 130 40) (w32 ((w32 (24 + (w32 (6 * (w32 (4 + t - 4)))))) + (aget σ1 (aget σ1 130 39) (4 + t)))) (aget σ1 130 11)) (aget (aput σ1 (aget σ1 130 40) (w32 ((w32 (24 + (w32 (6 * (w32 (4 + t - 4)))))) + (aget σ1 (aget σ1 130 39) (4 + t)))) (aget σ1 130 11)) 130 39) (4 + t) (w32 ((aget (aput σ1 (aget σ1 130 40) (w32 ((w32 (24 + (w32 (6 * (w32 (4 + t - 4)))))) + (aget σ1 (aget σ1 130 39) (4 + t)))) (aget σ1 130 11)) (aget (aput σ1 (aget σ1 130 40) (w32 ((w32 (24 + (w32 (6 * (w32 (4 + t - 4)))))) + (aget σ1 (aget σ1 130 39) (4 + t)))) (aget σ1 130 11)) 130 39) (4 + t)) + 1))) else none) else none)) else none) else none))))) = r → aU2 c12_groundLine_b77 [130, 4 + t] τ = r := by
          intro r hr
          show c12_groundLine_b77 130 (4 + t) τ = r
          unfold c12_groundLine_b77
          rw [r_130_39 hL, n_148 hL, e148, r_130_38 hL, n_147 hL, e147, hsh]
          exact ite_p k8 (ite_n (by omega) (ite_p (by omega) (ite_n c6 (ite_n (by omega) (ite_p (by omega) hr)))))
        rcases r_num hT 0 (hi := p2 w - 1) (by omega) with ⟨y, hv, σ1, i1, i2, i3, i4⟩ | ⟨y, σ1, i1, i2, i3⟩
        · rw [if_neg (fun q => q y)] at he
          have L1 := i3.1.1
          have ei : w32 ((w32 (24 + (w32 (6 * (w32 (4 + t - 4)))))) + i) = 24 + 6 * t + i := by
            rw [wq (x := 4 + t - 4) (by omega) (by omega), wq (x := 6 * (4 + t - 4)) (by omega) (by omega), wq (x := 24 + 6 * (4 + t - 4)) (by omega) (by omega), wq (by omega) (by omega)]; omega
          have e1 : aget σ1 148 (4 + t) = i := by rw [i2.g (by unfold wtn; omega)]; exact e148
          obtain ⟨σ2, h2⟩ : ∃ σ2, σ2 = aput σ1 149 (24 + 6 * t + i) (vlt b n P') := ⟨_, rfl⟩
          have f2 : Fp (fun x j => x = 149 ∧ j = 24 + 6 * t + i) σ1 σ2 := by rw [h2]; exact (Fp.rf _ _).put _ ⟨rfl, rfl⟩
          have L2 : LR σ2 := L1.rr f2 (fun x j q => by unfold wrr; omega)
          have e2 : aget σ2 148 (4 + t) = i := by rw [f2.g (by omega)]; exact e1
          obtain ⟨σ3, h3⟩ : ∃ σ3, σ3 = aput σ2 148 (4 + t) (i + 1) := ⟨_, rfl⟩
          have f3 : Fp (fun x j => x = 148 ∧ j = 4 + t) σ2 σ3 := by rw [h3]; exact (Fp.rf _ _).put _ ⟨rfl, rfl⟩
          have fA : Fp (fun x j => wtn x j ∨ (x = 149 ∧ j = 24 + 6 * t + i) ∨ (x = 148 ∧ j = 4 + t)) τ σ3 := by
            have b1 := i2.mono (Q := fun x j => wtn x j ∨ (x = 149 ∧ j = 24 + 6 * t + i) ∨ (x = 148 ∧ j = 4 + t)) (fun x j q => Or.inl q)
            have b2 := f2.mono (Q := fun x j => wtn x j ∨ (x = 149 ∧ j = 24 + 6 * t + i) ∨ (x = 148 ∧ j = 4 + t)) (fun x j q => Or.inr (Or.inl q))
            have b3 := f3.mono (Q := fun x j => wtn x j ∨ (x = 149 ∧ j = 24 + 6 * t + i) ∨ (x = 148 ∧ j = 4 + t)) (fun x j q => Or.inr (Or.inr q))
            exact b1.tr (b2.tr b3)
          have fW : Fp wrr τ σ3 := fA.mono (fun x j q => by
            rcases q with u | u | u
            · unfold wtn at u; unfold wrr; omega
            · unfold wrr; omega
            · unfold wrr; omega)
          obtain ⟨rq, rb⟩ := row_put (v := vlt b n P') hQ' hB' t0 (by omega) i0 (by omega) e13 fA (by rw [f3.g (by omega), h2, ag_s]) (by rw [h3, ag_s])
          have nk := nxp_bd b (kd_lt (show kd b n P' ≠ 0 by omega))
          have t3 : TKr b n (nxp b n P') σ3 := (i3.pf f2 (fun x j q => by unfold wrr; omega) (fun x j q => by unfold wkt; omega)).pf f3 (fun x j q => by unfold wrr; omega) (fun x j q => by unfold wkt; omega)
          refine Or.inl ⟨by omega, [130, 4 + t], σ3, start _ ?_, rfl, hF.tr fW, f, i + 1, nxp b n P', _, by omega, by omega, by omega, by omega, by omega, t3, rq, rb, ?_, ?_, stv_s _ _ _ _, he⟩
          · rw [i1, acall1_some, r_130_40 L1, r_130_39 L1, n_148 L1, n_149 L1, e1, ei, i4, ← h2, r_130_39 L2, n_148 L2, e2, wq (x := i + 1) (by omega) (by omega), ← h3]
            exact ite_n (by omega) (ite_n (by omega) (ite_n (by omega) (ite_p (by omega) (ite_p (by omega) (ite_n (by omega) (ite_p (by omega) (ite_p (by omega) rfl)))))))
          · rw [stv_x (by omega), stv_x (by omega)]; exact e02
          · rw [stv_x (by omega), stv_x (by omega)]; exact e12
        · rw [if_pos y] at he
          refine Or.inr ⟨(0, [0], σ1), start _ ?_, Nat.ne_of_beq_eq_false rfl, Or.inl ⟨0, σ1, rfl, hF.tr i2, Or.inr ⟨rfl, by rw [← he]; exact y, by rw [← he]; exact i3⟩⟩⟩
          rw [i1, acall1_some]; exact ite_p rfl (bz01 (Or.inl rfl))
    · rw [if_neg d] at he
      have k8 : ¬ aget τ 130 8 = 3 := fun q => d (hk8.mp q)
      refine Or.inr ⟨(0, [1], τ), ?_, Nat.ne_of_beq_eq_false rfl, Or.inl ⟨1, τ, rfl, hF, Or.inl ⟨rfl, by rw [← he], by rw [← he]; exact hT, by rw [← he]; exact hQ'⟩⟩⟩
      show c12_groundLine_b77 130 (4 + t) τ = _
      unfold c12_groundLine_b77
      exact ite_n k8 (bz01 (Or.inr rfl))
theorem c12_groundLine_ok {b : Int → Int} {n P : Int} {T : aH} {σ : aS} (h : TKr b n P σ) (hQ : QR T σ) (hI : TI T) (hn : n ≤ 800) : ∃ v τ, c12_groundLine 130 σ = some (0, [v], τ) ∧ Fp wrr σ τ ∧ OKr b n (lnD b n P T) v τ := by
  have hB := hI.bq
  have h7 := hI.2.2.2.2.2.2.1.1
  have t00 := hI.1.2.2.1.1
  have nm := hQ.nm.2.2
  have h20 : aget σ 130 20 = T 0 2 := by rw [hQ.1.2.2.1]; omega
  have h4 := hB.2.2.1
  unfold c12_groundLine lnD
  obtain ⟨σ1, e1, e2, e3⟩ := r_token h
  have f1 : Fp wtn σ σ1 := wkt_n e2
  rw [e1, acall0_some, r_130_32 e3.1.1, if_neg (show ¬ (141 : Int) = 0 by omega), f1.g (show ¬ wtn 130 20 by unfold wtn; omega), h20]
  rcases r_old e3 (T := T) (w := 2) (x := 141) (o := 4) (N := 8) (by omega) (by omega) (by omega) t00 (by omega) (fun k k0 k1 => by rw [f1.g (by unfold wtn; omega)]; exact nm k k0 k1) with ⟨z, hsr, σ2, g1, g2, g3, g4⟩ | ⟨z, τ, g1, g2, g3⟩
  · have f2 : Fp wtn σ σ2 := f1.tr (g2.mono (fun x j q => by unfold wtn; omega))
    have L2 := g3.1.1
    rw [if_neg (show ¬ odF b n T 2 (nxp b n P) ≠ 0 from fun q => q z), g1, acall1_some, if_neg (show ¬ (1 : Int) = 0 by omega), g4]
    generalize aNamed T 2 (vlt b n (nxp b n P)) = t at hsr
    have h7t := h7 t hsr.1 (by omega)
    obtain ⟨a1, a2, a3, a4, a5, a6, a7, a8, a9⟩ := hQ.2.2.2.1 t hsr.1 hsr.2
    have e147 : aget σ2 147 (4 + t) = T 12 t := by rw [f2.g (by unfold wtn; omega)]; exact a7
    rw [r_130_38 L2, n_147 L2, wq (x := 4 + t) (by omega) (by omega), if_neg (show ¬ (147 : Int) = 0 by omega), if_pos (show 0 ≤ 4 + t ∧ 4 + t < 8 by omega), e147]
    by_cases c : 0 < T 12 t
    · rw [if_pos c, if_pos c]
      obtain ⟨τ, k1, k2, k3⟩ := c12_wrong_ok g3 3
      exact ⟨0, τ, by rw [k1, acall1_some]; exact bz01 (Or.inl rfl), (wtn_r f2).tr k2, Or.inr ⟨rfl, by show (3 : Int) ≠ 0; omega, k3⟩⟩
    · rw [if_neg c, if_neg c]
      obtain ⟨σ3, i1, i2, i3⟩ := r_token g3
      have f3 : Fp wtn σ σ3 := f2.tr (wkt_n i2)
      rw [i1, acall0_some]
      rcases r_num i3 1 (hi := 6) (by omega) with ⟨y, hv, σ4, j1, j2, j3, j4⟩ | ⟨y, τ, j1, j2, j3⟩
      · have f4 : Fp wtn σ σ4 := f3.tr j2
        have L4 := j3.1.1
        rw [if_neg (show ¬ pNum b n 1 6 (nxp b n (nxp b n P)) ≠ 0 from fun q => q y), j1, acall1_some, if_neg (show ¬ (1 : Int) = 0 by omega), j4]
        generalize vlt b n (nxp b n (nxp b n P)) = w at hv
        obtain ⟨σ5, h5⟩ : ∃ σ5, σ5 = aput σ4 147 (4 + t) w := ⟨_, rfl⟩
        have f5 : Fp (fun x j => x = 147 ∧ j = 4 + t) σ4 σ5 := by rw [h5]; exact (Fp.rf _ _).put _ ⟨rfl, rfl⟩
        have L5 : LR σ5 := L4.rr f5 (fun x j q => by unfold wrr; omega)
        obtain ⟨σ6, h6⟩ : ∃ σ6, σ6 = aput σ5 148 (4 + t) 0 := ⟨_, rfl⟩
        have f6 : Fp (fun x j => x = 148 ∧ j = 4 + t) σ5 σ6 := by rw [h6]; exact (Fp.rf _ _).put _ ⟨rfl, rfl⟩
        have fA : Fp (fun x j => wtn x j ∨ ((x = 147 ∨ x = 148) ∧ j = 4 + t)) σ σ6 := by
          have b1 := f4.mono (Q := fun x j => wtn x j ∨ ((x = 147 ∨ x = 148) ∧ j = 4 + t)) (fun x j q => Or.inl q)
          have b2 := f5.mono (Q := fun x j => wtn x j ∨ ((x = 147 ∨ x = 148) ∧ j = 4 + t)) (fun x j q => Or.inr (by omega))
          have b3 := f6.mono (Q := fun x j => wtn x j ∨ ((x = 147 ∨ x = 148) ∧ j = 4 + t)) (fun x j q => Or.inr (by omega))
          exact b1.tr (b2.tr b3)
        have nA : ∀ x j, (wtn x j ∨ ((x = 147 ∨ x = 148) ∧ j = 4 + t)) → (x = 130 ∧ 7 ≤ j ∧ j ≤ 11) ∨ ((x = 147 ∨ x = 148) ∧ j = 4 + t) := fun x j q => q
        have t6 : TKr b n (nxp b n (nxp b n (nxp b n P))) σ6 := (j3.pf f5 (fun x j q => by unfold wrr; omega) (fun x j q => by unfold wkt; omega)).pf f6 (fun x j q => by unfold wrr; omega) (fun x j q => by unfold wkt; omega)
        obtain ⟨U, hU⟩ : ∃ U, U = stv T 12 t w := ⟨_, rfl⟩
        have ux : ∀ a k, a ≠ 12 → U a k = T a k := fun a k ha => by rw [hU, stv_x ha]
        have u12 : ∀ k, k ≠ t → U 12 k = T 12 k := fun k hk => by rw [hU, stv_j hk]
        have u12s : U 12 t = w := by rw [hU, stv_s]
        have z13 : T 13 t = 0 := h7t.2.2.2.1 (by omega)
        have g : ∀ x j, ¬ ((x = 130 ∧ 7 ≤ j ∧ j ≤ 11) ∨ ((x = 147 ∨ x = 148) ∧ j = 4 + t)) → aget σ6 x j = aget σ x j := fun x j q => fA.g (fun r => q (nA x j r))
        have e02 : U 0 2 = T 0 2 := ux 0 2 (by omega)
        have hqo := (hQ.qo (Int.le_refl _) t).cg (U := U) (K := T 24 0) fA (fun x j q => by have := nA x j q; unfold wqo; omega) hsr.1 hB.1 hB.2.1 (fun u u0 u1 => hB.2.2.2.1 u u0 (by omega)) hB.2.2.2.2 ⟨ux 0 0 (by omega), ux 0 1 (by omega)⟩ (fun k _ => ux 11 k (by omega)) (fun a k ha => ux a k (by omega)) (fun k _ => ux 8 k (by omega))
          (fun a u ha hu => by
            by_cases c : a = 12
            · rw [c]; exact u12 u hu
            · exact ux a u c) (fun j hj => ux 14 j (by omega))
        rw [← e02] at hqo
        have hQU : QR U σ6 := by
          refine QO.qr ((hQ.1.fp fA (fun x j q => by have := nA x j q; omega)).cg (fun k _ _ => ux 0 k (by omega)) (ux 24 0 (by omega))) hqo ?_ ?_
          · refine ⟨?_, ?_, ?_, ?_, ?_, ?_, ?_, fun _ => ?_, fun y y0 y1 => ?_⟩
            · rw [g _ _ (by omega), ux 11 _ (by omega)]; exact a1
            · rw [g _ _ (by omega), ux 5 _ (by omega)]; exact a2
            · rw [g _ _ (by omega), ux 6 _ (by omega)]; exact a3
            · rw [g _ _ (by omega), ux 23 _ (by omega)]; exact a4
            · rw [g _ _ (by omega), ux 9 _ (by omega)]; exact a5
            · rw [g _ _ (by omega), ux 10 _ (by omega)]; exact a6
            · rw [u12s, f6.g (by omega), h5, ag_s]
            · rw [ux 13 _ (by omega), z13, h6, ag_s]
            · rw [ux 13 _ (by omega), z13] at y1; omega
          · exact rok_t (hQ.2.2.2.2 t hsr.1 hsr.2) (ux 9 t (by omega)) (ux 10 t (by omega)) (fun k _ _ => ⟨ux 8 k (by omega), g _ _ (by omega), g _ _ (by omega), g _ _ (by omega)⟩)
        have hBU : BQ U := ⟨by rw [ux 0 0 (by omega)]; exact hB.1, by rw [ux 0 1 (by omega)]; exact hB.2.1, by rw [e02]; exact h4, fun u u0 u4 => by rw [ux 13 u (by omega)]; exact hB.2.2.2.1 u u0 u4, fun u u0 u1 => by rw [e02] at u1; rw [ux 9 u (by omega), ux 10 u (by omega), ux 24 0 (by omega)]; exact hB.2.2.2.2 u u0 u1⟩
        obtain ⟨v, τ, r1, r2, r3⟩ := rows_r t6 hQU hBU hsr.1 (by omega) hv.1 hv.2 u12s (by rw [ux 13 _ (by omega)]; exact z13) hn
        rw [hU] at r3
        refine ⟨v, τ, ?_, (fA.mono (fun x j q => by have := nA x j q; unfold wrr; omega)).tr r2, r3⟩
        rw [r_130_38 L4, n_147 L4, ← h5, r_130_39 L5, n_148 L5, ← h6, r1]
        exact ite_n (by omega) (ite_p (by omega) (ite_n (by omega) (ite_p (by omega) rfl)))
      · rw [if_pos y, j1, acall1_some, if_pos rfl]
        exact ⟨0, τ, bz01 (Or.inl rfl), (wtn_r f3).tr j2, Or.inr ⟨rfl, y, j3⟩⟩
  · rw [if_pos z, g1, acall1_some, if_pos rfl]
    exact ⟨0, τ, bz01 (Or.inl rfl), (wtn_r f1).tr g2, Or.inr ⟨rfl, z, g3⟩⟩
