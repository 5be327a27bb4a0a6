/-! the reference reads: a line, all lines -/
theorem rkw_5 : ∀ i : Fin 16, (rkw (i.val : Int) ≤ 5 ↔ ((i.val : Int) = 0 ∨ (i.val : Int) = 1 ∨ (i.val : Int) = 3 ∨ (i.val : Int) = 4 ∨ (i.val : Int) = 9 ∨ (i.val : Int) = 10)) := by decide +kernel
theorem rkw_5' {i : Int} (i0 : 0 ≤ i) (i1 : i < 16) : rkw i ≤ 5 ↔ (i = 0 ∨ i = 1 ∨ i = 3 ∨ i = 4 ∨ i = 9 ∨ i = 10) := by
  have h : (rkw ((i.toNat : Nat) : Int) ≤ 5 ↔ (((i.toNat : Nat) : Int) = 0 ∨ ((i.toNat : Nat) : Int) = 1 ∨ ((i.toNat : Nat) : Int) = 3 ∨ ((i.toNat : Nat) : Int) = 4 ∨ ((i.toNat : Nat) : Int) = 9 ∨ ((i.toNat : Nat) : Int) = 10)) := rkw_5 ⟨i.toNat, by omega⟩
  rw [Int.toNat_of_nonneg i0] at h
  exact h
theorem KR.ln {c v k w : Int} (h : KR c v k w) : (c = 100 → k = 1 ∧ w = 0) ∧ (c = 101 → k = 1 ∧ w = 1) ∧ (c = 103 → k = 1 ∧ w = 2) ∧ (c = 104 → k = 1 ∧ w = 3) ∧ (c = 109 → k = 1 ∧ w = 4) ∧ (c = 110 → k = 1 ∧ w = 5) ∧ (¬ (c = 100 ∨ c = 101 ∨ c = 103 ∨ c = 104 ∨ c = 109 ∨ c = 110) → ¬ k = 1 ∨ 5 < w) := by
  unfold KR at h
  rcases h with q | q | q | q | q | q
  · exact ⟨by omega, by omega, by omega, by omega, by omega, by omega, by omega⟩
  · exact ⟨by omega, by omega, by omega, by omega, by omega, by omega, by omega⟩
  · exact ⟨by omega, by omega, by omega, by omega, by omega, by omega, by omega⟩
  · exact ⟨by omega, by omega, by omega, by omega, by omega, by omega, by omega⟩
  · obtain ⟨q1, q2, q3⟩ := q
    have h5 := rkw_5' (i := c - 100) (by omega) (by omega)
    refine ⟨fun e => ⟨q2, ?_⟩, fun e => ⟨q2, ?_⟩, fun e => ⟨q2, ?_⟩, fun e => ⟨q2, ?_⟩, fun e => ⟨q2, ?_⟩, fun e => ⟨q2, ?_⟩, fun e => by omega⟩
    · rw [q3, e]; rfl
    · rw [q3, e]; rfl
    · rw [q3, e]; rfl
    · rw [q3, e]; rfl
    · rw [q3, e]; rfl
    · rw [q3, e]; rfl
  · exact ⟨by omega, by omega, by omega, by omega, by omega, by omega, by omega⟩
theorem QR.s22 {T : aH} {σ : aS} (h : QR T σ) (hB : BQ T) (i v : Int) : QR (stv T 22 i v) σ := by
  obtain ⟨b00, b01, b02, b13, b9⟩ := hB
  have e : ∀ a j, a ≠ 22 → stv T 22 i v a j = T a j := fun a j ha => stv_x ha _
  have hF := Fp.rf (fun _ _ => False) σ
  exact ⟨h.1.cg (fun j _ _ => e 0 j (by omega)) (e 24 0 (by omega)), h.2.1.cg hF (fun _ _ q => q.elim) (e 0 0 (by omega)) (fun g _ _ => ⟨e 11 g (by omega), e 1 g (by omega)⟩), h.2.2.1.cg hF (fun _ _ q => q.elim) b01 (e 0 1 (by omega)) (fun j _ _ => e 11 j (by omega)) (fun a ha j => e a j (by omega)), h.2.2.2.1.cg hF (fun _ _ q => q.elim) b02 b13 (e 0 2 (by omega)) (fun j _ _ => e 11 j (by omega)) (fun a ha j => e a j (by omega)), h.2.2.2.2.cg hF (fun _ _ q => q.elim) (fun t t0 t1 => (b9 t t0 t1).1) (e 0 2 (by omega)) (fun a ha j => e a j (by omega))⟩
def lnY (b : Int → Int) (n : Int) (o : Int × Int × aH) : Int × Int × aH := if o.1 ≠ 0 then o else if kd b n o.2.1 = 59 then (0, nxp b n o.2.1, stv o.2.2 22 0 (o.2.2 22 0 + 1)) else (1, o.2.1, o.2.2)
theorem p105_r {b : Int → Int} {n v : Int} {o : Int × Int × aH} {σ : aS} (h : OKl b n o v σ) (hB : o.1 = 0 → BQ o.2.2) : ∃ w τ, c12_lineRead_p105 130 v σ = some (0, [w], τ) ∧ Fp wrr σ τ ∧ OKr b n (lnY b n o) w τ := by
  unfold c12_lineRead_p105 lnY
  rcases h with ⟨rfl, z, hT, hQ⟩ | ⟨rfl, hE⟩
  · rw [if_neg (show ¬ o.1 ≠ 0 from fun q => q z), if_neg (show ¬ (1 : Int) = 0 by omega), r_sign hT (c := 59) (by omega), acall1_some]
    by_cases c : kd b n o.2.1 = 59
    · rw [if_pos c, if_pos c, if_neg (show ¬ (1 : Int) = 0 by omega)]
      obtain ⟨τ, t1, t2, t3⟩ := r_token hT
      exact ⟨1, τ, by rw [t1, acall0_some]; exact bz01 (Or.inr rfl), wtn_r (wkt_n t2), Or.inl ⟨rfl, rfl, t3, (show QR (stv o.2.2 22 0 (o.2.2 22 0 + 1)) τ from by
        have q1 : QR o.2.2 τ := by
          obtain ⟨b00, b01, b02, b13, b9⟩ := hB z
          exact ⟨hQ.1.fp t2 (fun x j q => by unfold wkt at q; omega), hQ.2.1.cg t2 (fun x j q => by unfold wkt at q; omega) rfl (fun _ _ _ => ⟨rfl, rfl⟩), hQ.2.2.1.cg t2 (fun x j q => by unfold wkt at q; unfold cqs; omega) b01 rfl (fun _ _ _ => rfl) (fun _ _ _ => rfl), hQ.2.2.2.1.cg t2 (fun x j q => by unfold wkt at q; unfold cqt; omega) b02 b13 rfl (fun _ _ _ => rfl) (fun _ _ _ => rfl), hQ.2.2.2.2.cg t2 (fun x j q => by unfold wkt at q; unfold cqk; omega) (fun t t0 t1 => (b9 t t0 t1).1) rfl (fun _ _ _ => rfl)⟩
        exact q1.s22 (hB z) 0 _)⟩⟩
    · rw [if_neg c, if_neg c, if_pos rfl]
      obtain ⟨τ, t1, t2, t3⟩ := c12_wrong_ok hT 1
      exact ⟨0, τ, by rw [t1, acall1_some]; exact bz01 (Or.inl rfl), t2, Or.inr ⟨rfl, by show (1 : Int) ≠ 0; omega, t3⟩⟩
  · rw [if_pos rfl]
    refine ⟨0, σ, bz01 (Or.inl rfl), Fp.rf _ _, ?_⟩
    rcases hE with ⟨z, hR⟩ | ⟨z, k, hR⟩
    · rw [if_pos z]; exact Or.inr ⟨rfl, z, hR⟩
    · rw [if_neg (show ¬ o.1 ≠ 0 from fun q => q z), if_neg k]; exact Or.inr ⟨rfl, by show (1 : Int) ≠ 0; omega, hR⟩
theorem c12_lineRead_ok {b : Int → Int} {n P : Int} {T : aH} {σ : aS} (h : TKr b n P σ) (hQ : QR T σ) (hI : TI T) (hn : n ≤ 800) : ∃ v τ, c12_lineRead 130 σ = some (0, [v], τ) ∧ Fp wrr σ τ ∧ OKr b n (lnZ b n P T) v τ := by
  have p0 := h.2.1
  obtain ⟨k0, k1, k3, k4, k9, k10, kn⟩ := h.2.2.2.2.ln
  have hB : (ln b n P T).1 = 0 → BQ (ln b n P T).2.2 := fun z => (ln_I hI p0.1 p0.2 hn z).1.bq
  show ∃ v τ, c12_lineRead 130 σ = some (0, [v], τ) ∧ Fp wrr σ τ ∧ OKr b n (lnY b n (ln b n P T)) v τ
  have fin : ∀ {m : aR}, (c12_lineRead 130 σ = acall1 m fun v σ1 => c12_lineRead_p105 130 v σ1) → (∃ v τ, m = some (0, [v], τ) ∧ Fp wrr σ τ ∧ OKl b n (ln b n P T) v τ) → ∃ v τ, c12_lineRead 130 σ = some (0, [v], τ) ∧ Fp wrr σ τ ∧ OKr b n (lnY b n (ln b n P T)) v τ := by
    intro m hm hX
    obtain ⟨v, τ, g1, g2, g3⟩ := hX
    obtain ⟨w, υ, r1, r2, r3⟩ := p105_r g3 hB
    exact ⟨w, υ, by rw [hm, g1, acall1_some]; exact r1, g2.tr r2, r3⟩
  have l : ∀ {o : Int × Int × aH} {m : aR}, (∃ v τ, m = some (0, [v], τ) ∧ Fp wrr σ τ ∧ OKr b n o v τ) → ∃ v τ, m = some (0, [v], τ) ∧ Fp wrr σ τ ∧ OKl b n o v τ := fun hX => by
    obtain ⟨v, τ, g1, g2, g3⟩ := hX
    exact ⟨v, τ, g1, g2, g3.l⟩
  by_cases c0 : kd b n P = 100
  · obtain ⟨q1, q2⟩ := k0 c0
    refine fin (m := c12_goodLine 130 σ) ?_ ?_
    · unfold c12_lineRead
      rw [q2]
      exact ite_p q1 (ite_n (by omega) (ite_p (by omega) rfl))
    · rw [show ln b n P T = lnG b n P T by unfold ln; rw [if_pos c0]]; exact l (c12_goodLine_ok h hQ hI)
  · by_cases c1 : kd b n P = 101
    · obtain ⟨q1, q2⟩ := k1 c1
      refine fin (m := c12_floatLine 130 σ) ?_ ?_
      · unfold c12_lineRead
        rw [q2]
        exact ite_p q1 (ite_n (by omega) (ite_n (by omega) (ite_p (by omega) rfl)))
      · rw [show ln b n P T = lnF b n P T by unfold ln; rw [if_neg c0, if_pos c1]]; exact l (c12_floatLine_ok h hQ hI hn)
    · by_cases c3 : kd b n P = 103
      · obtain ⟨q1, q2⟩ := k3 c3
        refine fin (m := c12_likeLine 130 σ) ?_ ?_
        · unfold c12_lineRead
          rw [q2]
          exact ite_p q1 (ite_n (by omega) (ite_n (by omega) (ite_n (by omega) (ite_p (by omega) rfl))))
        · rw [show ln b n P T = lnL b n P T by unfold ln; rw [if_neg c0, if_neg c1, if_pos c3]]; exact l (c12_likeLine_ok h hQ hI)
      · by_cases c4 : kd b n P = 104
        · obtain ⟨q1, q2⟩ := k4 c4
          refine fin (m := c12_townLine 130 σ) ?_ ?_
          · unfold c12_lineRead
            rw [q2]
            exact ite_p q1 (ite_n (by omega) (ite_n (by omega) (ite_n (by omega) (ite_n (by omega) (ite_p (by omega) rfl)))))
          · rw [show ln b n P T = lnT b n P T by unfold ln; rw [if_neg c0, if_neg c1, if_neg c3, if_pos c4]]; exact c12_townLine_ok h hQ hI hn
        · by_cases c9 : kd b n P = 109
          · obtain ⟨q1, q2⟩ := k9 c9
            refine fin (m := c12_groundLine 130 σ) ?_ ?_
            · unfold c12_lineRead
              rw [q2]
              exact ite_p q1 (ite_n (by omega) (ite_n (by omega) (ite_n (by omega) (ite_n (by omega) (ite_n (by omega) (ite_p (by omega) rfl))))))
            · rw [show ln b n P T = lnD b n P T by unfold ln; rw [if_neg c0, if_neg c1, if_neg c3, if_neg c4, if_pos c9]]; exact l (c12_groundLine_ok h hQ hI hn)
          · by_cases c10 : kd b n P = 110
            · obtain ⟨q1, q2⟩ := k10 c10
              refine fin (m := c12_stormLine 130 σ) ?_ ?_
              · unfold c12_lineRead
                rw [q2]
                exact ite_p q1 (ite_n (by omega) (ite_n (by omega) (ite_n (by omega) (ite_n (by omega) (ite_n (by omega) (ite_n (by omega) rfl))))))
              · rw [show ln b n P T = lnS b n P T by unfold ln; rw [if_neg c0, if_neg c1, if_neg c3, if_neg c4, if_neg c9, if_pos c10]]; exact l (c12_stormLine_ok h hQ hI)
            · have e : ln b n P T = (1, P, T) := by unfold ln; rw [if_neg c0, if_neg c1, if_neg c3, if_neg c4, if_neg c9, if_neg c10]
              obtain ⟨τ, w1, w2, w3⟩ := c12_wrong_ok h 1
              have hp : c12_lineRead_p16 130 σ = some (0, [0], τ) := by
                unfold c12_lineRead_p16
                rw [w1, acall1_some]; exact bz01 (Or.inl rfl)
              refine ⟨0, τ, ?_, w2, ?_⟩
              · unfold c12_lineRead
                by_cases q1 : aget σ 130 8 = 1
                · have := kn (by omega)
                  exact ite_p q1 (ite_p (by omega) hp)
                · exact ite_n q1 hp
              · rw [e]
                unfold lnY
                rw [if_pos (show (1 : Int) ≠ 0 by omega)]
                exact Or.inr ⟨rfl, by show (1 : Int) ≠ 0; omega, w3⟩
theorem KR.n0 {c v k w : Int} (h : KR c v k w) : k = 0 ↔ c = 0 := by unfold KR at h; omega
theorem txt_loop {b : Int → Int} {n P : Int} {T : aH} {σ : aS} (h : TKr b n P σ) (hQ : QR T σ) (hI : TI T) (h22 : T 22 0 = 0) (hn : n ≤ 800) :
    ∃ r, aloop 56 (aU2 c12_text_b55) aBig [130, 0] σ = some r ∧
      (((txt b n 800 P T).1 ≠ 0 ∧ ∃ τ, r = (0, [-1], τ) ∧ Fp wrr σ τ ∧ FRr (txt b n 800 P T).1 (txt b n 800 P T).2.1 τ) ∨
       ((txt b n 800 P T).1 = 0 ∧ ∃ τ, r = (78, [130, (txt b n 800 P T).2.2 22 0], τ) ∧ Fp wrr σ τ ∧ LR τ ∧ QR (txt b n 800 P T).2.2 τ ∧ TI (txt b n 800 P T).2.2)) := by
  have p0 := h.2.1
  generalize hX : txt b n 800 P T = X
  refine al_I (c := 56) (B := aU2 c12_text_b55) (n := n) (i := P) (vs := [130, 0]) (σ := σ)
    (fun k vs τ => Fp wrr σ τ ∧ ∃ (fuel : Nat) (P' : Int) (U : aH), vs = [130, U 22 0] ∧ k ≤ P' ∧ n - P' ≤ fuel ∧ TKr b n P' τ ∧ QR U τ ∧ TI U ∧ 0 ≤ U 22 0 ∧ U 22 0 ≤ P' ∧ txt b n fuel P' U = X)
    _ p0.2 (by omega) ⟨Fp.rf _ _, 800, P, T, by rw [h22], Int.le_refl _, by omega, h, hQ, hI, by omega, by omega, hX⟩ ?_
  rintro k vs τ hk ⟨hF, fuel, P', U, rfl, kp, hf, hT, hQ', hI', u0, u1, he⟩
  have p1 := hT.2.1
  have k8 := hT.2.2.2.2.n0
  by_cases c : kd b n P' = 0
  · have eu : txt b n fuel P' U = (0, P', U) := by
      cases fuel with
      | zero => rfl
      | succ f =>
        show (if kd b n P' = 0 then _ else _) = _
        rw [if_pos c]
    rw [eu] at he
    refine Or.inr ⟨(78, [130, U 22 0], τ), ?_, Nat.ne_of_beq_eq_false rfl, Or.inr ⟨by rw [← he], τ, by rw [← he], hF, hT.1.1, by rw [← he]; exact hQ', by rw [← he]; exact hI'⟩⟩
    show c12_text_b55 130 (U 22 0) τ = _
    unfold c12_text_b55
    exact ite_p (k8.mpr c) rfl
  · have plt := kd_lt c
    obtain ⟨f, rfl⟩ : ∃ f : Nat, fuel = f + 1 := ⟨fuel - 1, by omega⟩
    have eu : txt b n (f + 1) P' U = if kd b n P' = 0 then (0, P', U) else if (lnZ b n P' U).1 ≠ 0 then lnZ b n P' U else txt b n f (lnZ b n P' U).2.1 (lnZ b n P' U).2.2 := rfl
    rw [eu, if_neg c] at he
    obtain ⟨v, υ, g1, g2, g3⟩ := c12_lineRead_ok hT hQ' hI' hn
    rcases g3 with ⟨rfl, z, hT2, hQ2⟩ | ⟨rfl, z, hR2⟩
    · rw [if_neg (fun q => q z)] at he
      obtain ⟨a1, a2, a3⟩ := lnZ_I hI' p1.1 p1.2 hn z
      refine Or.inl ⟨by omega, [130, (lnZ b n P' U).2.2 22 0], υ, ?_, hF.tr g2, f, _, _, rfl, by omega, by omega, hT2, hQ2, a1, by omega, by omega, he⟩
      show c12_text_b55 130 (U 22 0) τ = _
      unfold c12_text_b55
      rw [g1, acall1_some, wq (x := U 22 0 + 1) (by omega) (by omega), a3]
      exact ite_n (fun q => c (k8.mp q)) (ite_n (by omega) rfl)
    · rw [if_pos z] at he
      refine Or.inr ⟨(0, [-1], υ), ?_, Nat.ne_of_beq_eq_false rfl, Or.inl ⟨by rw [← he]; exact z, υ, rfl, hF.tr g2, by rw [← he]; exact hR2⟩⟩
      show c12_text_b55 130 (U 22 0) τ = _
      unfold c12_text_b55
      rw [g1, acall1_some]
      exact ite_n (fun q => c (k8.mp q)) (ite_p rfl rfl)
