/-! the reference reads: towns, behind the gifts -/
/-- what a line comes to: behind a rule a token may stand that can't -/
def OKl (b : Int → Int) (n : Int) (o : Int × Int × aH) (v : Int) (σ : aS) : Prop := (v = 1 ∧ o.1 = 0 ∧ TKr b n o.2.1 σ ∧ QR o.2.2 σ) ∨ (v = 0 ∧ FE b n o σ)
theorem OKr.l {b : Int → Int} {n : Int} {o : Int × Int × aH} {v : Int} {σ : aS} (h : OKr b n o v σ) : OKl b n o v σ := h.elim (fun q => Or.inl q) (fun q => Or.inr ⟨q.1, Or.inl q.2⟩)
theorem key_r {b : Int → Int} {n P t i a : Int} {U : aH} {σ : aS} (h : TKr b n P σ) (hQ : QW U t σ) (hB : BW U t) (hi : (i = 6 ∧ a = 6) ∨ (i = 7 ∧ a = 23)) :
    ∃ v τ, c12_isKey 130 (rkw i) σ = some (0, [v], σ) ∧ ((v = 0 ∧ τ = σ) ∨ (v = 1 ∧ c12_token 130 (aput σ (if a = 6 then 143 else 144) (4 + t) 1) = some (0, [], τ))) ∧ Fp (wqw t) σ τ ∧ TKr b n (vtP b n (100 + i) P) τ ∧ QW (vtT b n (100 + i) a t P U) t τ ∧ BW (vtT b n (100 + i) a t P U) t := by
  have hkey := r_key h (i := i) (by omega) (by omega)
  obtain ⟨t0, t4⟩ := hB.2.2.1
  have e := hQ.2.2.2
  unfold vtP vtT
  by_cases c : kd b n P = 100 + i
  · rw [if_pos c] at hkey
    rw [if_pos c, if_pos c]
    obtain ⟨x, hx⟩ : ∃ x, x = (if a = 6 then (143 : Int) else 144) := ⟨_, rfl⟩
    have hx2 : (x = 143 ∧ a = 6) ∨ (x = 144 ∧ a = 23) := by
      rcases hi with q | q
      · exact Or.inl ⟨by rw [hx, if_pos q.2], q.2⟩
      · exact Or.inr ⟨by rw [hx, if_neg (by omega)], q.2⟩
    rw [← hx]
    obtain ⟨σ1, h1⟩ : ∃ σ1, σ1 = aput σ x (4 + t) 1 := ⟨_, rfl⟩
    have f1 : Fp (fun y j => y = x ∧ j = 4 + t) σ σ1 := by rw [h1]; exact (Fp.rf _ _).put _ ⟨rfl, rfl⟩
    have T1 := h.pf f1 (fun y j q => by unfold wrr; omega) (fun y j q => by unfold wkt; omega)
    obtain ⟨τ, t1, t2, t3⟩ := r_token T1
    have fA : Fp (wqw t) σ τ := (f1.mono (fun y j q => by unfold wqw; omega)).tr (wtn_w (wkt_n t2))
    have hcg := hQ.cg (V := stv U a t 1) hB fA (fun a' i' q => by
      by_cases qa : a' = a
      · rw [qa, stv_j (by omega)]
      · exact stv_x qa _) ⟨by rw [t2.g (by unfold wkt; omega), f1.g (by omega), stv_x (by omega)]; exact e.1, by
        rw [t2.g (by unfold wkt; omega)]
        rcases hx2 with q | q
        · rw [h1, q.1, q.2, ag_s, stv_s]
        · rw [f1.g (by omega), stv_x (by omega)]; exact e.2.1, by
        rw [t2.g (by unfold wkt; omega)]
        rcases hx2 with q | q
        · rw [f1.g (by omega), stv_x (by omega)]; exact e.2.2.1
        · rw [h1, q.1, q.2, ag_s, stv_s]⟩
    exact ⟨1, τ, hkey, Or.inr ⟨rfl, by rw [← h1]; exact t1⟩, fA, t3, hcg.1, hcg.2⟩
  · rw [if_neg c] at hkey
    rw [if_neg c, if_neg c]
    exact ⟨0, σ, hkey, Or.inl ⟨rfl, rfl⟩, Fp.rf _ _, h, hQ, hB⟩
/-- a town's rule, and the town told -/
theorem ask_r {b : Int → Int} {n P t : Int} {U : aH} {σ : aS} (h : TKr b n P σ) (hQ : QW U t σ) (hB : BW U t) (h24 : 0 ≤ U 24 0) (h4 : U 24 0 = U 0 4) (h64 : U 0 4 ≤ 64) (hst : ∀ k, 0 ≤ k → k < U 24 0 → stk1 (U 8 k)) (h12 : U 12 t = 0) (h13 : U 13 t = 0) (hn : n ≤ 800) :
    ∃ v τ, c12_townLine_p186 130 (4 + t) σ = some (0, [v], τ) ∧ Fp wrr σ τ ∧ OKl b n (twE b n t P U) v τ := by
  obtain ⟨b0, b1, ⟨t0, t4⟩, b3, b4, b5⟩ := hB
  obtain ⟨h0, hO, e141, e142, e143, e144, e147⟩ := hQ
  have hkey := r_key h (i := 8) (by omega) (by omega)
  rw [show rkw 8 = 10 from rfl] at hkey
  unfold twE
  by_cases c : kd b n P = 100 + 8
  · rw [if_pos c] at hkey
    rw [if_pos (show kd b n P = 108 from c)]
    have plt := kd_lt (show kd b n P ≠ 0 by omega)
    have np := nxp_bd b plt
    have p0 := h.2.1
    obtain ⟨σ1, e1, e2, e3⟩ := r_token h
    have L1 := e3.1.1
    have e23 : aget σ1 130 23 = U 24 0 := by rw [e2.g (by unfold wkt; omega)]; exact h0.2.2.2.2.2.1
    obtain ⟨σ2, h2⟩ : ∃ σ2, σ2 = aput σ1 145 (4 + t) (U 24 0) := ⟨_, rfl⟩
    have f2 : Fp (fun x j => x = 145 ∧ j = 4 + t) σ1 σ2 := by rw [h2]; exact (Fp.rf _ _).put _ ⟨rfl, rfl⟩
    have T2 := e3.pf f2 (fun x j q => by unfold wrr; omega) (fun x j q => by unfold wkt; omega)
    obtain ⟨T, hT⟩ : ∃ T, T = stv U 9 t (U 24 0) := ⟨_, rfl⟩
    have tx : ∀ a i, a ≠ 9 ∨ i ≠ t → T a i = U a i := fun a i q => by
      rw [hT]
      by_cases qa : a = 9
      · rw [qa, stv_j (by omega)]
      · exact stv_x qa _
    have t24 : T 24 0 = U 24 0 := tx 24 0 (by omega)
    have t04 : T 0 4 = U 0 4 := tx 0 4 (by omega)
    have start : ∀ r : aR, (acall1 (c12_sumRead 130 σ2) fun v4 σ4 => (if v4 = 0 then (if (0 : Int) = 0 ∨ (0 : Int) = 1 then some (0, [0], σ4) else none) else (if aget σ4 130 37 = 0 then none else (if (0 : Int) ≤ 4 + t ∧ 4 + t < alen σ4 (aget σ4 130 37) then (if (1 : Int) = 0 ∨ (1 : Int) = 1 then some (0, [1], aput (aput σ4 (aget σ4 130 37) (4 + t) (aget σ4 130 23)) 130 20 (w32 ((aget (aput σ4 (aget σ4 130 37) (4 + t) (aget σ4 130 23)) 130 20) + 1))) else none) else none)))) = r → c12_townLine_p186 130 (4 + t) σ = r := by
      intro r hr
      unfold c12_townLine_p186
      rw [hkey, acall1_some, if_neg (show ¬ (1 : Int) = 0 by omega), e1, acall0_some, r_130_36 L1, n_145 L1, e23, ← h2]
      exact ite_n (by omega) (ite_p (by omega) hr)
    have w2 : Fp wrr σ σ2 := (wtn_r (wkt_n e2)).tr (f2.mono (fun x j q => by unfold wrr; omega))
    unfold lnE
    rw [← hT]
    have hI : RIv (T 24 0) 1 [] 0 T := ⟨Or.inr rfl, trivial, rfl, by omega, by show T 24 0 + 0 = _; omega, by omega, by omega, fun k k0 k1 => by rw [tx 8 k (by omega)]; exact hst k k0 (by omega), fun q => absurd q (by omega)⟩
    have hr := rlE_I (b := b) (n := n) 800 1 [] 0 (nxp b n P) T hI (by omega) np.2 (by omega)
    have h8 := P8.rl (b := b) (n := n) (s := U 24 0) (f := U 8) 800 1 [] 0 (nxp b n P) T ⟨by omega, fun k _ => tx 8 k (by omega)⟩
    have hs := c12_sumRead_ok (T := T) T2 (by rw [f2.g (by omega), t24]; exact e23) (by rw [f2.g (by omega), e2.g (by unfold wkt; omega), t04]; exact h0.2.2.2.2.2.2.1) (by omega) (by omega) (by omega) (fun k k0 k1 => by rw [tx 8 k (by omega)]; exact hst k k0 (by omega)) hn (by omega)
    rw [t24] at hs
    generalize rlE b n 800 1 [] 0 (nxp b n P) T = X at hr h8 hs
    rcases hs with ⟨τ, s1, s2, s3⟩ | ⟨σ3, s1, s2, s3, s4, s5, s6, s7, s8⟩
    · refine ⟨0, τ, start _ ?_, w2.tr s2, Or.inr ⟨rfl, ?_⟩⟩
      · rw [s1, acall1_some]; exact ite_p rfl (bz01 (Or.inl rfl))
      · by_cases z : X.1 = 0
        · rw [if_neg (fun q => q z)]
          rcases s3 with q | q
          · exact absurd z q.1
          · exact Or.inr ⟨rfl, q.2⟩
        · rw [if_pos z]; exact s3
    · obtain ⟨r1, r2, r3, r4, r5, r6⟩ := hr s3
      rw [if_neg (fun q => q s3)]
      have n3 : ∀ x j, wsx (U 24 0) x j → (x = 130 ∧ (j = 23 ∨ (46 ≤ j ∧ j ≤ 50) ∨ (7 ≤ j ∧ j ≤ 11))) ∨ ((150 ≤ x ∧ x ≤ 152) ∧ 64 + U 24 0 ≤ j) ∨ x = 153 ∨ x = 154 := fun x j q => by
        rcases q with u | u
        · unfold wsr at u; omega
        · unfold wtn at u; omega
      have L3 := s5.1.1
      obtain ⟨σ4, h4'⟩ : ∃ σ4, σ4 = aput σ3 146 (4 + t) (X.2.2 24 0) := ⟨_, rfl⟩
      have f4 : Fp (fun x j => x = 146 ∧ j = 4 + t) σ3 σ4 := by rw [h4']; exact (Fp.rf _ _).put _ ⟨rfl, rfl⟩
      obtain ⟨σ5, h5⟩ : ∃ σ5, σ5 = aput σ4 130 20 (t + 1) := ⟨_, rfl⟩
      have f5 : Fp (fun x j => x = 130 ∧ j = 20) σ4 σ5 := by rw [h5]; exact (Fp.rf _ _).put _ ⟨rfl, rfl⟩
      have e20 : aget σ4 130 20 = t := by
        rw [f4.g (by omega), s2.g (fun q => by have := n3 _ _ q; omega), f2.g (by omega), e2.g (by unfold wkt; omega)]
        have := h0.2.2.1
        omega
      -- all that was touched
      have fA : Fp (fun x j => (x = 130 ∧ (j = 20 ∨ j = 23 ∨ (46 ≤ j ∧ j ≤ 50) ∨ (7 ≤ j ∧ j ≤ 11))) ∨ ((x = 145 ∨ x = 146) ∧ j = 4 + t) ∨ ((150 ≤ x ∧ x ≤ 152) ∧ 64 + U 24 0 ≤ j) ∨ x = 153 ∨ x = 154) σ σ5 := by
        have a1 := e2.mono (Q := fun x j => (x = 130 ∧ (j = 20 ∨ j = 23 ∨ (46 ≤ j ∧ j ≤ 50) ∨ (7 ≤ j ∧ j ≤ 11))) ∨ ((x = 145 ∨ x = 146) ∧ j = 4 + t) ∨ ((150 ≤ x ∧ x ≤ 152) ∧ 64 + U 24 0 ≤ j) ∨ x = 153 ∨ x = 154) (fun x j q => by unfold wkt at q; omega)
        have a2 := f2.mono (Q := fun x j => (x = 130 ∧ (j = 20 ∨ j = 23 ∨ (46 ≤ j ∧ j ≤ 50) ∨ (7 ≤ j ∧ j ≤ 11))) ∨ ((x = 145 ∨ x = 146) ∧ j = 4 + t) ∨ ((150 ≤ x ∧ x ≤ 152) ∧ 64 + U 24 0 ≤ j) ∨ x = 153 ∨ x = 154) (fun x j q => by omega)
        have a3 := s2.mono (Q := fun x j => (x = 130 ∧ (j = 20 ∨ j = 23 ∨ (46 ≤ j ∧ j ≤ 50) ∨ (7 ≤ j ∧ j ≤ 11))) ∨ ((x = 145 ∨ x = 146) ∧ j = 4 + t) ∨ ((150 ≤ x ∧ x ≤ 152) ∧ 64 + U 24 0 ≤ j) ∨ x = 153 ∨ x = 154) (fun x j q => by have := n3 x j q; omega)
        have a4 := f4.mono (Q := fun x j => (x = 130 ∧ (j = 20 ∨ j = 23 ∨ (46 ≤ j ∧ j ≤ 50) ∨ (7 ≤ j ∧ j ≤ 11))) ∨ ((x = 145 ∨ x = 146) ∧ j = 4 + t) ∨ ((150 ≤ x ∧ x ≤ 152) ∧ 64 + U 24 0 ≤ j) ∨ x = 153 ∨ x = 154) (fun x j q => by omega)
        have a5 := f5.mono (Q := fun x j => (x = 130 ∧ (j = 20 ∨ j = 23 ∨ (46 ≤ j ∧ j ≤ 50) ∨ (7 ≤ j ∧ j ≤ 11))) ∨ ((x = 145 ∨ x = 146) ∧ j = 4 + t) ∨ ((150 ≤ x ∧ x ≤ 152) ∧ 64 + U 24 0 ≤ j) ∨ x = 153 ∨ x = 154) (fun x j q => by omega)
        exact a1.tr (a2.tr (a3.tr (a4.tr a5)))
      obtain ⟨V, hV⟩ : ∃ V, V = stv X.2.2 10 t (X.2.2 24 0) := ⟨_, rfl⟩
      have vx : ∀ a i, a ≠ 10 ∨ i ≠ t → V a i = X.2.2 a i := fun a i q => by
        rw [hV]
        by_cases qa : a = 10
        · rw [qa, stv_j (by omega)]
        · exact stv_x qa _
      have v10 : V 10 t = X.2.2 24 0 := by rw [hV, stv_s]
      have v9 : V 9 t = U 24 0 := by rw [vx 9 t (by omega), r5 9 t (by omega) (by omega) (by omega), hT, stv_s]
      have vu : ∀ a i, a ≠ 8 → a ≠ 24 → (a ≠ 0 ∨ i ≠ 4) → (a ≠ 9 ∨ i ≠ t) → (a ≠ 10 ∨ i ≠ t) → V a i = U a i := fun a i n8 n24 n04 n9 n10 => by rw [vx a i n10, r5 a i n8 n24 n04, tx a i n9]
      have v24 : V 24 0 = X.2.2 24 0 := vx 24 0 (by omega)
      have v04 : V 0 4 = X.2.2 0 4 := vx 0 4 (by omega)
      have v8 : ∀ k, V 8 k = X.2.2 8 k := fun k => vx 8 k (by omega)
      have v02 : V 0 2 = t + 1 := by rw [vu 0 2 (by omega) (by omega) (by omega) (by omega) (by omega)]; exact b3
      have hqo := hO.cg (U := V) (K := U 24 0) fA (fun x j q => by unfold wqo; omega) t0 b0.2 b1 b4 b5 ⟨vu 0 0 (by omega) (by omega) (by omega) (by omega) (by omega), vu 0 1 (by omega) (by omega) (by omega) (by omega) (by omega)⟩ (fun i _ => vu 11 i (by omega) (by omega) (by omega) (by omega) (by omega)) (fun a i ha => vu a i (by omega) (by omega) (by omega) (by omega) (by omega)) (fun k hk => by rw [v8 k]; exact h8.2 k hk) (fun a u ha hu => vu a u (by omega) (by omega) (by omega) (Or.inr hu) (Or.inr hu)) (fun j _ => vu 14 j (by omega) (by omega) (by omega) (by omega) (by omega))
      have hqo2 : QO V (V 0 2) t σ5 := ⟨hqo.1, hqo.2.1, fun u u0 u1 ut => hqo.2.2 u u0 (by omega) ut⟩
      have g145 : aget σ5 145 (4 + t) = U 24 0 := by rw [f5.g (by omega), f4.g (by omega), s2.g (fun q => by have := n3 _ _ q; omega), h2, ag_s]
      have g146 : aget σ5 146 (4 + t) = X.2.2 24 0 := by rw [f5.g (by omega), h4', ag_s]
      refine ⟨1, σ5, start _ ?_, w2.tr ((s2.mono (fun x j q => by have := n3 x j q; unfold wrr; omega)).tr ((f4.mono (fun x j q => by unfold wrr; omega)).tr (f5.mono (fun x j q => by unfold wrr; omega)))), Or.inl ⟨rfl, rfl, ?_, ?_⟩⟩
      · rw [s1, acall1_some, r_130_37 L3, n_146 L3, s6, ← h4', e20, wq (x := t + 1) (by omega) (by omega), ← h5]
        exact ite_n (by omega) (ite_n (by omega) (ite_p (by omega) (bz01 (Or.inr rfl))))
      · exact (s5.pf f4 (fun x j q => by unfold wrr; omega) (fun x j q => by unfold wkt; omega)).pf f5 (fun x j q => by unfold wrr; omega) (fun x j q => by unfold wkt; omega)
      · show QR (stv X.2.2 10 t (X.2.2 24 0)) σ5
        rw [← hV]
        refine QO.qr ?_ hqo2 ?_ ?_
        · obtain ⟨x1, x2, x3, x4, x5, x6, x7⟩ := h0
          unfold Q0
          rw [v24, v04, v02, vu 0 0 (by omega) (by omega) (by omega) (by omega) (by omega), vu 0 1 (by omega) (by omega) (by omega) (by omega) (by omega), vu 0 3 (by omega) (by omega) (by omega) (by omega) (by omega), vu 0 5 (by omega) (by omega) (by omega) (by omega) (by omega), fA.g (x := 130) (j := 18) (by omega), fA.g (x := 130) (j := 19) (by omega), fA.g (x := 130) (j := 21) (by omega), fA.g (x := 130) (j := 22) (by omega)]
          refine ⟨x1, x2, ?_, x4, x5, ?_, ?_⟩
          · rw [h5, ag_s]; omega
          · rw [f5.g (by omega), f4.g (by omega)]; exact s6
          · rw [f5.g (by omega), f4.g (by omega), fA.g (x := 130) (j := 4) (by omega), fA.g (x := 130) (j := 5) (by omega)]; exact ⟨s7, x7.2⟩
        · have v12 : V 12 t = 0 := by rw [vu 12 t (by omega) (by omega) (by omega) (by omega) (by omega)]; exact h12
          have v13 : V 13 t = 0 := by rw [vu 13 t (by omega) (by omega) (by omega) (by omega) (by omega)]; exact h13
          refine ⟨?_, ?_, ?_, ?_, by rw [v9]; exact g145, by rw [v10]; exact g146, ?_, fun q => by omega, fun y y0 y1 => by omega⟩
          · rw [fA.g (by omega), vu 11 _ (by omega) (by omega) (by omega) (by omega) (by omega)]; exact e141
          · rw [fA.g (by omega), vu 5 _ (by omega) (by omega) (by omega) (by omega) (by omega)]; exact e142
          · rw [fA.g (by omega), vu 6 _ (by omega) (by omega) (by omega) (by omega) (by omega)]; exact e143
          · rw [fA.g (by omega), vu 23 _ (by omega) (by omega) (by omega) (by omega) (by omega)]; exact e144
          · rw [fA.g (by omega), vu 12 _ (by omega) (by omega) (by omega) (by omega) (by omega)]; exact e147
        · obtain ⟨stk, n1, n2, n3'⟩ := s8
          refine ⟨stk, by rw [v9]; exact n1, by rw [v10]; exact n2, fun k ka kb => ?_⟩
          rw [v9] at ka
          rw [v10] at kb
          have := n3' k ka kb
          unfold nod at this ⊢
          dsimp only at this ⊢
          rw [v8, f5.g (x := 150) (by omega), f5.g (x := 151) (by omega), f5.g (x := 152) (by omega), f4.g (x := 150) (by omega), f4.g (x := 151) (by omega), f4.g (x := 152) (by omega)]
          exact this
  · rw [if_neg c] at hkey
    rw [if_neg (show ¬ kd b n P = 108 from c)]
    obtain ⟨τ, w1, w2, w3⟩ := c12_wrong_ok h 1
    refine ⟨0, τ, ?_, w2, Or.inr ⟨rfl, Or.inl ⟨by show (1 : Int) ≠ 0; omega, w3⟩⟩⟩
    unfold c12_townLine_p186
    rw [hkey, acall1_some, if_pos rfl, w1, acall1_some]
    exact bz01 (Or.inl rfl)
/-- votes, bound, ask -/
theorem tail_r {b : Int → Int} {n P t : Int} {U : aH} {σ : aS} (h : TKr b n P σ) (hQ : QW U t σ) (hB : BW U t) (h24 : 0 ≤ U 24 0) (h4 : U 24 0 = U 0 4) (h64 : U 0 4 ≤ 64) (hst : ∀ k, 0 ≤ k → k < U 24 0 → stk1 (U 8 k)) (h12 : U 12 t = 0) (h13 : U 13 t = 0) (hn : n ≤ 800) :
    ∃ v τ, c12_townLine_p146 130 (4 + t) σ = some (0, [v], τ) ∧ Fp wrr σ τ ∧ OKl b n (twV b n t P U) v τ := by
  obtain ⟨t0, t4⟩ := hB.2.2.1
  obtain ⟨v1, σ1, a1, a2, a3, a4, a5, a6⟩ := key_r h hQ hB (i := 6) (a := 6) (Or.inl ⟨rfl, rfl⟩)
  obtain ⟨v2, σ2, b1, b2, b3, b4, b5, b6⟩ := key_r a4 a5 a6 (i := 7) (a := 23) (Or.inr ⟨rfl, rfl⟩)
  have vx : ∀ a i, a ≠ 6 → a ≠ 23 → vtT b n (100 + 7) 23 t (vtP b n (100 + 6) P) (vtT b n (100 + 6) 6 t P U) a i = U a i := fun a i n6 n23 => by rw [vtT_x (Or.inl n23), vtT_x (Or.inl n6)]
  have e24 := vx 24 0 (by omega) (by omega)
  have e04 := vx 0 4 (by omega) (by omega)
  obtain ⟨v, τ, c1, c2, c3⟩ := ask_r b4 b5 b6 (by omega) (by omega) (by omega) (fun k k0 k1 => by rw [vx 8 k (by omega) (by omega)]; exact hst k k0 (by omega)) (by rw [vx 12 t (by omega) (by omega)]; exact h12) (by rw [vx 13 t (by omega) (by omega)]; exact h13) hn
  refine ⟨v, τ, ?_, (wqw_r t0 a3).tr ((wqw_r t0 b3).tr c2), c3⟩
  have s2 : c12_townLine_p166 130 (4 + t) σ1 = some (0, [v], τ) := by
    unfold c12_townLine_p166
    rw [show (9 : Int) = rkw 7 from rfl, b1, acall1_some]
    rcases b2 with ⟨rfl, rfl⟩ | ⟨rfl, q⟩
    · rw [if_pos rfl]; exact c1
    · rw [if_neg (show ¬ (23 : Int) = 6 by omega)] at q
      rw [if_neg (show ¬ (1 : Int) = 0 by omega), r_130_35 a4.1.1, n_144 a4.1.1, q, acall0_some]
      exact ite_n (by omega) (ite_p (by omega) c1)
  unfold c12_townLine_p146
  rw [show (8 : Int) = rkw 6 from rfl, a1, acall1_some]
  rcases a2 with ⟨rfl, rfl⟩ | ⟨rfl, q⟩
  · rw [if_pos rfl]; exact s2
  · rw [if_pos rfl] at q
    rw [if_neg (show ¬ (1 : Int) = 0 by omega), r_130_34 h.1.1, n_143 h.1.1, q, acall0_some]
    exact ite_n (by omega) (ite_p (by omega) s2)
theorem c12_townLine_ok {b : Int → Int} {n P : Int} {T : aH} {σ : aS} (h : TKr b n P σ) (hQ : QR T σ) (hI : TI T) (hn : n ≤ 800) : ∃ v τ, c12_townLine 130 σ = some (0, [v], τ) ∧ Fp wrr σ τ ∧ OKl b n (lnT b n P T) v τ := by
  have hB := hI.bq
  obtain ⟨hK, h2, h3, h4', h05, hG, h7, h8⟩ := id hI
  have t00 := hK.2.2.1.1
  have nm := hQ.nm.2.2
  have h20 : aget σ 130 20 = T 0 2 := by rw [hQ.1.2.2.1]; omega
  have h4 := hB.2.2.1
  have p0 := h.2.1
  unfold c12_townLine lnT
  rw [h20]
  by_cases c5 : T 0 2 = 4
  · obtain ⟨τ, e1, e2, e3⟩ := c12_wrong_ok h 2
    have hf : nwF b n T 2 4 P = (2, P) := by unfold nwF; rw [if_pos (by omega)]
    refine ⟨0, τ, ?_, e2, ?_⟩
    · rw [e1, acall1_some]; exact ite_p c5 (bz01 (Or.inl rfl))
    · rw [hf, if_pos (by show (2 : Int) ≠ 0; omega)]
      exact Or.inr ⟨rfl, Or.inl ⟨by show (2 : Int) ≠ 0; omega, e3⟩⟩
  · rw [if_neg c5]
    have hf := nwF_r (b := b) (n := n) (T := T) (w := 2) (most := 4) (P := P) (by omega)
    obtain ⟨σ1, e1, e2, e3⟩ := r_token h
    have f1 : Fp wrr σ σ1 := wtn_r (wkt_n e2)
    have L1 := e3.1.1
    have e20 : aget σ1 130 20 = T 0 2 := by rw [e2.g (by unfold wkt; omega)]; exact h20
    have nm1 : ∀ k, 0 ≤ k → k < T 0 2 → aget σ1 141 (4 + k) = T 11 (5 * 2 + k) := fun k k0 k1 => by rw [e2.g (by unfold wkt; omega)]; exact nm k k0 k1
    rw [e1, acall0_some, r_130_32 L1, if_neg (show ¬ (141 : Int) = 0 by omega), e20]
    rcases r_new e3 (T := T) (w := 2) (x := 141) (o := 4) (N := 8) (by omega) (by omega) (by omega) t00 (by omega) nm1 with ⟨⟨k3, kn⟩, σ2, g1, g2, g3, g4⟩ | ⟨kk, τ, g1, g2, g3⟩
    · rw [if_pos k3, if_pos kn] at hf
      have hz : ¬ (nwF b n T 2 4 P).1 ≠ 0 := by rw [hf]; exact fun q => q rfl
      rw [if_neg hz, g1, acall1_some, if_neg (show ¬ (1 : Int) = 0 by omega)]
      obtain ⟨t, ht⟩ : ∃ t, t = T 0 2 := ⟨_, rfl⟩
      rw [← ht] at g2 g4 t00 c5 h4 ⊢
      have n2 : ∀ x j, (wkt x j ∨ (x = 141 ∧ j = 4 + t)) → (x = 130 ∧ 7 ≤ j ∧ j ≤ 10) ∨ (x = 141 ∧ j = 4 + t) := fun x j q => q
      have L2 := g3.1.1
      obtain ⟨σ3, h3'⟩ : ∃ σ3, σ3 = aput σ2 142 (4 + t) 0 := ⟨_, rfl⟩
      have f3 : Fp (fun x j => x = 142 ∧ j = 4 + t) σ2 σ3 := by rw [h3']; exact (Fp.rf _ _).put _ ⟨rfl, rfl⟩
      have L3 : LR σ3 := L2.rr f3 (fun x j q => by unfold wrr; omega)
      obtain ⟨σ4, h4''⟩ : ∃ σ4, σ4 = aput σ3 143 (4 + t) 0 := ⟨_, rfl⟩
      have f4 : Fp (fun x j => x = 143 ∧ j = 4 + t) σ3 σ4 := by rw [h4'']; exact (Fp.rf _ _).put _ ⟨rfl, rfl⟩
      have L4 : LR σ4 := L3.rr f4 (fun x j q => by unfold wrr; omega)
      obtain ⟨σ5, h5⟩ : ∃ σ5, σ5 = aput σ4 144 (4 + t) 0 := ⟨_, rfl⟩
      have f5 : Fp (fun x j => x = 144 ∧ j = 4 + t) σ4 σ5 := by rw [h5]; exact (Fp.rf _ _).put _ ⟨rfl, rfl⟩
      have L5 : LR σ5 := L4.rr f5 (fun x j q => by unfold wrr; omega)
      obtain ⟨σ6, h6⟩ : ∃ σ6, σ6 = aput σ5 147 (4 + t) 0 := ⟨_, rfl⟩
      have f6 : Fp (fun x j => x = 147 ∧ j = 4 + t) σ5 σ6 := by rw [h6]; exact (Fp.rf _ _).put _ ⟨rfl, rfl⟩
      have f26 : Fp (fun x j => ((142 ≤ x ∧ x ≤ 144) ∨ x = 147) ∧ j = 4 + t) σ2 σ6 := by
        have a1 := f3.mono (Q := fun x j => ((142 ≤ x ∧ x ≤ 144) ∨ x = 147) ∧ j = 4 + t) (fun x j q => by omega)
        have a2 := f4.mono (Q := fun x j => ((142 ≤ x ∧ x ≤ 144) ∨ x = 147) ∧ j = 4 + t) (fun x j q => by omega)
        have a3 := f5.mono (Q := fun x j => ((142 ≤ x ∧ x ≤ 144) ∨ x = 147) ∧ j = 4 + t) (fun x j q => by omega)
        have a4 := f6.mono (Q := fun x j => ((142 ≤ x ∧ x ≤ 144) ∨ x = 147) ∧ j = 4 + t) (fun x j q => by omega)
        exact a1.tr (a2.tr (a3.tr a4))
      have T6 := g3.pf f26 (fun x j q => by unfold wrr; omega) (fun x j q => by unfold wkt; omega)
      have fA : Fp (fun x j => (x = 130 ∧ 7 ≤ j ∧ j ≤ 10) ∨ (((141 ≤ x ∧ x ≤ 144) ∨ x = 147) ∧ j = 4 + t)) σ σ6 := by
        have a1 := e2.mono (Q := fun x j => (x = 130 ∧ 7 ≤ j ∧ j ≤ 10) ∨ (((141 ≤ x ∧ x ≤ 144) ∨ x = 147) ∧ j = 4 + t)) (fun x j q => Or.inl q)
        have a2 := g2.mono (Q := fun x j => (x = 130 ∧ 7 ≤ j ∧ j ≤ 10) ∨ (((141 ≤ x ∧ x ≤ 144) ∨ x = 147) ∧ j = 4 + t)) (fun x j q => by have := n2 x j q; omega)
        have a3 := f26.mono (Q := fun x j => (x = 130 ∧ 7 ≤ j ∧ j ≤ 10) ∨ (((141 ≤ x ∧ x ≤ 144) ∨ x = 147) ∧ j = 4 + t)) (fun x j q => by omega)
        exact a1.tr (a2.tr a3)
      have wA : Fp wrr σ σ6 := fA.mono (fun x j q => by unfold wrr; omega)
      obtain ⟨U, hU⟩ : ∃ U, U = nwT b n T 2 P := ⟨_, rfl⟩
      have u02 : U 0 2 = t + 1 := by rw [hU]; unfold nwT; rw [stv_s, ht]
      have u0 : ∀ i, i ≠ 2 → U 0 i = T 0 i := fun i hi => by rw [hU]; exact nwT_0 hi
      have ux : ∀ a i, a ≠ 0 → a ≠ 11 → U a i = T a i := fun a i a0 a1 => by rw [hU]; exact nwT_x a0 a1
      have u11 : ∀ i, i ≠ 10 + t → U 11 i = T 11 i := fun i hi => by rw [hU]; unfold nwT; rw [stv_x (by omega), stv_j (by omega)]
      have u11s : U 11 (10 + t) = vlt b n (nxp b n P) := by rw [hU]; unfold nwT; rw [stv_x (by omega), show 5 * 2 + T 0 2 = 10 + t by omega, stv_s]
      have z7 := h7.2 t (by omega) (by omega)
      have z13 : T 13 t = 0 := (h7.1 t t00 (by omega)).2.2.2.1 z7.2.2.1
      have hqo := (hQ.qo (m := t) (by omega) t).cg (U := U) (K := T 24 0) fA (fun x j q => by unfold wqo; omega) t00 hB.1 hB.2.1 (fun u u0 u1 => hB.2.2.2.1 u u0 (by omega)) (fun u u0 u1 => hB.2.2.2.2 u u0 (by omega)) ⟨u0 0 (by omega), u0 1 (by omega)⟩ (fun i hi => u11 i hi) (fun a i ha => ux a i (by omega) (by omega)) (fun k _ => ux 8 k (by omega) (by omega)) (fun a u ha _ => ux a u (by omega) (by omega)) (fun j _ => ux 14 j (by omega) (by omega))
      have hQW : QW U t σ6 := by
        refine ⟨?_, hqo, ?_, ?_, ?_, ?_, ?_⟩
        · have := hQ.1.fp fA (fun x j q => by omega)
          unfold Q0 at this ⊢
          rw [u02, u0 0 (by omega), u0 1 (by omega), u0 3 (by omega), u0 4 (by omega), u0 5 (by omega), ux 24 0 (by omega) (by omega)]
          obtain ⟨x1, x2, x3, x4, x5, x6, x7⟩ := this
          exact ⟨x1, x2, by omega, x4, x5, x6, x7⟩
        · rw [f26.g (by omega), u11s]; exact g4
        · rw [f6.g (by omega), f5.g (by omega), f4.g (by omega), h3', ag_s, ux 5 t (by omega) (by omega), z7.1]
        · rw [f6.g (by omega), f5.g (by omega), h4'', ag_s, ux 6 t (by omega) (by omega), z7.2.1]
        · rw [f6.g (by omega), h5, ag_s, ux 23 t (by omega) (by omega), z7.2.2.2]
        · rw [h6, ag_s, ux 12 t (by omega) (by omega), z7.2.2.1]
      have hBW : BW U t := ⟨by rw [u0 0 (by omega)]; exact hK.1, by rw [u0 1 (by omega)]; exact hB.2.1, ⟨t00, by omega⟩, u02, fun u u0 u1 => by rw [ux 13 u (by omega) (by omega)]; exact hB.2.2.2.1 u u0 (by omega), fun u u0 u1 => by rw [ux 9 u (by omega) (by omega), ux 10 u (by omega) (by omega), ux 24 0 (by omega) (by omega)]; exact hB.2.2.2.2 u u0 (by omega)⟩
      have hKU : BTk U := by rw [hU]; exact hK.nw (by omega) (by omega) (by omega) (fun _ => by omega)
      have hGU : BGk U := fun u u0' u1 => by rw [ux 5 u (by omega) (by omega), u0 0 (by omega)]; exact hG u u0' u1
      have reach : ∀ r : aR, c12_townLine_l71 130 (4 + t) σ6 = r → (if aget σ2 130 33 = 0 then none else (if (0 : Int) ≤ w32 (4 + t) ∧ w32 (4 + t) < alen σ2 (aget σ2 130 33) then (if aget (aput σ2 (aget σ2 130 33) (w32 (4 + t)) 0) 130 34 = 0 then none else (if (0 : Int) ≤ w32 (4 + t) ∧ w32 (4 + t) < alen (aput σ2 (aget σ2 130 33) (w32 (4 + t)) 0) (aget (aput σ2 (aget σ2 130 33) (w32 (4 + t)) 0) 130 34) then (if aget (aput (aput σ2 (aget σ2 130 33) (w32 (4 + t)) 0) (aget (aput σ2 (aget σ2 130 33) (w32 (4 + t)) 0) 130 34) (w32 (4 + t)) 0) 130 35 = 0 then none else (if (0 : Int) ≤ w32 (4 + t) ∧ w32 (4 + t) < alen (aput (aput σ2 (aget σ2 130 33) (w32 (4 + t)) 0) (aget (aput σ2 (aget σ2 130 33) (w32 (4 + t)) 0) 130 34) (w32 (4 + t)) 0) (aget (aput (aput σ2 (aget σ2 130 33) (w32 (4 + t)) 0) (aget (aput σ2 (aget σ2 130 33) (w32 (4 + t)) 0) 130 34) (w32 (4 + t)) 0) 130 35) then (if aget (aput (aput (aput σ2 (aget σ2 130 33) (w32 (4 + t)) 0) (aget (aput σ2 (aget σ2 130 33) (w32 (4 + t)) 0) 130 34) (w32 (4 + t)) 0) (aget (aput (aput σ2 (aget σ2 130 33) (w32 (4 + t)) 0) (aget (aput σ2 (aget σ2 130 33) (w32 (4 + t)) 0) 130 34) (w32 (4 + t)) 0) 130 35) (w32 (4 + t)) 0) 130 38 = 0 then none else c12_townLine_p69 (w32 (4 + t)) (aget (aput (aput (aput σ2 (aget σ2 130 33) (w32 (4 + t)) 0) (aget (aput σ2 (aget σ2 130 33) (w32 (4 + t)) 0) 130 34) (w32 (4 + t)) 0) (aget (aput (aput σ2 (aget σ2 130 33) (w32 (4 + t)) 0) (aget (aput σ2 (aget σ2 130 33) (w32 (4 + t)) 0) 130 34) (w32 (4 + t)) 0) 130 35) (w32 (4 + t)) 0) 130 38) 130 (w32 (4 + t)) (aput (aput (aput σ2 (aget σ2 130 33) (w32 (4 + t)) 0) (aget (aput σ2 (aget σ2 130 33) (w32 (4 + t)) 0) 130 34) (w32 (4 + t)) 0) (aget (aput (aput σ2 (aget σ2 130 33) (w32 (4 + t)) 0) (aget (aput σ2 (aget σ2 130 33) (w32 (4 + t)) 0) 130 34) (w32 (4 + t)) 0) 130 35) (w32 (4 + t)) 0)) else none)) else none)) else none)) = r := by
        intro r hr
        rw [wq (x := 4 + t) (by omega) (by omega), r_130_33 L2, n_142 L2, ← h3', r_130_34 L3, n_143 L3, ← h4'', r_130_35 L4, n_144 L4, ← h5, r_130_38 L5]
        refine ite_n (by omega) (ite_p (by omega) (ite_n (by omega) (ite_p (by omega) (ite_n (by omega) (ite_p (by omega) (ite_n (by omega) ?_))))))
        unfold c12_townLine_p69
        rw [n_147 L5, ← h6]
        exact ite_p (by omega) hr
      rw [← hU]
      rcases gifts_r T6 hQW hBW hKU hGU hn with ⟨w1, τ, r1, r2, r3, r4, r5⟩ | ⟨w1, τ, r1, r2, r3⟩
      · rw [if_neg (show ¬ (lnIs b n t 800 (nxp b n (nxp b n P)) U).1 ≠ 0 from fun q => q w1)]
        have np := nxp_p (b := b) p0.1 p0.2
        have np2 := nxp_p (b := b) (show 0 ≤ nxp b n P by omega) np.2
        have hx := (lnIs_I (b := b) (n := n) t00 (by omega) 800 _ U hKU hGU (by omega) np2.2 w1).2.2.2
        have x24 := hx 24 0 (by omega)
        have x04 := hx 0 4 (by omega)
        rw [ux 24 0 (by omega) (by omega)] at x24
        rw [u0 4 (by omega)] at x04
        have h824 := h8.2.2
        have h04 := hK.2.2.2.2
        obtain ⟨v, υ, s1, s2, s3⟩ := tail_r r3 r4 r5 (by omega) (by omega) (by omega) (fun k k0 k1 => by rw [hx 8 k (by omega), ux 8 k (by omega) (by omega)]; exact h8.2.1 k k0 (by omega)) (by rw [hx 12 t (by omega), ux 12 t (by omega) (by omega)]; exact z7.2.2.1) (by rw [hx 13 t (by omega), ux 13 t (by omega) (by omega)]; exact z13) hn
        exact ⟨v, υ, reach _ (by rw [r1]; exact s1), wA.tr ((wqw_r t00 r2).tr s2), s3⟩
      · rw [if_pos w1]
        exact ⟨0, τ, reach _ r1, wA.tr r2, Or.inr ⟨rfl, Or.inl ⟨w1, r3⟩⟩⟩
    · obtain ⟨hf2, hz⟩ := nwF_kk (b := b) (n := n) (P := P) (w := 2) (most := 4) (T := T) (by omega) kk
      rw [if_pos hz, g1, acall1_some, if_pos rfl]
      exact ⟨0, τ, bz01 (Or.inl rfl), f1.tr g2, Or.inr ⟨rfl, Or.inl ⟨hz, by rw [hf2]; exact g3⟩⟩⟩
