/-! the reference reads rules: where a value must begin -/
theorem rkw_m : ∀ i : Fin 16, (11 ≤ rkw (i.val : Int) ↔ 11 ≤ (i.val : Int)) ∧ (11 ≤ (i.val : Int) → rkw (i.val : Int) = (i.val : Int)) := by decide +kernel
theorem rkw_n {i : Int} (i0 : 0 ≤ i) (i1 : i < 16) : (11 ≤ rkw i ↔ 11 ≤ i) ∧ (11 ≤ i → rkw i = i) := by
  have h : (11 ≤ rkw ((i.toNat : Nat) : Int) ↔ 11 ≤ ((i.toNat : Nat) : Int)) ∧ (11 ≤ ((i.toNat : Nat) : Int) → rkw ((i.toNat : Nat) : Int) = ((i.toNat : Nat) : Int)) := rkw_m ⟨i.toNat, by omega⟩
  rw [Int.toNat_of_nonneg i0] at h
  exact h
theorem KR.nm {c v k w : Int} (h : KR c v k w) : ((k = 1 ∧ 11 ≤ w) ↔ (111 ≤ c ∧ c ≤ 115)) ∧ ((111 ≤ c ∧ c ≤ 115) → w = c - 100) := by
  unfold KR at h
  rcases h with q | q | q | q | q | q
  · exact ⟨by omega, by omega⟩
  · exact ⟨by omega, by omega⟩
  · exact ⟨by omega, by omega⟩
  · exact ⟨by omega, by omega⟩
  · obtain ⟨q1, q2, q3⟩ := q
    obtain ⟨r1, r2⟩ := rkw_n (i := c - 100) (by omega) (by omega)
    rw [q3]
    exact ⟨by omega, fun g => r2 (by omega)⟩
  · exact ⟨by omega, by omega⟩
def RIr (s o : Int) (W : List Int) (op : Int) (T : aH) (S : List Int) : Prop :=
  (o = 0 ∨ o = 1) ∧ wfW true W ∧ cbr W = op ∧ op ≤ 8 ∧ T 24 0 + cnb W = T 0 4 ∧ T 0 4 ≤ 64 ∧ (0 ≤ s ∧ s ≤ T 24 0) ∧ (S.length : Int) = nbs W + 1 - o ∧ (o = 0 → S.head? = some (T 24 0 - 1)) ∧ ∀ k, 0 ≤ k → k < T 24 0 → stk1 (T 8 k)
def RX (b : Int → Int) (n s o op P : Int) (W S : List Int) (T : aH) (σ : aS) : Prop := TKr b n P σ ∧ RR s W S T σ ∧ (aget σ 130 48 = op ∧ aget σ 130 49 = T 0 4 ∧ aget σ 130 50 = o) ∧ RIr s o W op T S
/-- what waits and what is told, as the class has it: the minus signs ahead of a value are written -/
def lgW (o : Int) (W : List Int) (T : aH) : List Int × aH := if o = 0 then flN W T else (W, T)
theorem lgW_0 (W : List Int) (T : aH) : lgW 0 W T = flN W T := if_pos rfl
theorem lgW_1 (W : List Int) (T : aH) : lgW 1 W T = (W, T) := if_neg (by omega)
def wsx (s x j : Int) : Prop := wsr s x j ∨ wtn x j
theorem wsx_r {s : Int} (s0 : 0 ≤ s) {σ τ : aS} (hF : Fp (wsx s) σ τ) : Fp wrr σ τ := hF.mono (fun x j q => by
  rcases q with u | u
  · unfold wsr at u; unfold wrr; omega
  · unfold wtn at u; unfold wrr; omega)
/-- a fault, or behind the rule something that can't stand there -/
def FE (b : Int → Int) (n : Int) (X : Int × Int × aH) (τ : aS) : Prop := (X.1 ≠ 0 ∧ FRr X.1 X.2.1 τ) ∨ (X.1 = 0 ∧ kd b n X.2.1 ≠ 59 ∧ FRr 1 X.2.1 τ)
def SR (b : Int → Int) (n s P : Int) (m : aR) (σ : aS) (X : Nat → Int × Int × aH) : Prop :=
  (∃ τ o' W' op' T' S', m = some (0, [1], τ) ∧ Fp (wsx s) σ τ ∧ RX b n s o' op' (nxp b n P) W' S' T' τ ∧ kd b n P ≠ 0 ∧ ∀ k, X k = rlE b n k o' (lgW o' W' T').1 op' (nxp b n P) (lgW o' W' T').2) ∨
  (∃ τ, m = some (0, [0], τ) ∧ Fp wrr σ τ ∧ ∀ k, FE b n (X k) τ)
theorem RR.tk {b : Int → Int} {n P s : Int} {W S : List Int} {T : aH} {σ τ : aS} (h : RR s W S T σ) (hT : TKr b n P τ) (hF : Fp wkt σ τ) : RR s W S T τ := h.cg hT.1.1 hF (fun x j q => by unfold wkt at q; omega) rfl (fun _ => rfl)
/-- a leaf put behind what is held -/
theorem leaf_put {b : Int → Int} {n s op P k a v : Int} {W S : List Int} {T : aH} {σ σ1 : aS} (h : RX b n s 1 op P W S T σ) (h64 : ¬ 64 ≤ T 0 4) (f1 : Fp (fun x j => x = 130 ∧ j = 49) σ σ1) (e1 : aget σ1 130 49 = T 0 4 + 1) (hk : kd b n P ≠ 0) (hv : (0 ≤ v ∧ v ≤ 999 ∧ k = 0 ∧ a = v) ∨ (1000 ≤ v ∧ v ≤ 1004 ∧ k = 1 ∧ a = v - 1000)) :
    ∃ τ, c12_leafRead_p172 a k 130 130 σ1 = some (0, [1], τ) ∧ Fp (wsx s) σ τ ∧ RX b n s 0 op (nxp b n P) W (T 24 0 :: S) (wrT (kntT T) v) τ := by
  obtain ⟨hT, hR, ⟨e48, e49, e50⟩, -, hw, hc, ho, hn, -, hs, hS, -, hst⟩ := h
  have c0 := cnb_0 W
  have nb := nbs_0 W
  have T1 : TKr b n P σ1 := hT.pf f1 (fun x j q => by unfold wrr; omega) (fun x j q => by unfold wkt; omega)
  have e24 : kntT T 24 0 = T 24 0 := kntT_x (by omega)
  have R1 : RR s W S (kntT T) σ1 := hR.cg T1.1.1 f1 (fun x j q => by omega) e24 (fun i => kntT_x (by omega))
  obtain ⟨L1, ⟨w1, w2⟩, H1, e23, N1⟩ := R1
  obtain ⟨σ2, g1, g2, g3, g4, g5, g6, g7⟩ := r_grown (v := v) (k := k) (a := a) (b := 0) (S0 := S) L1 H1 N1 e23 hs.1 (by omega) (by omega) (by omega) (by
    rcases hv with ⟨a1, a2, a3, a4⟩ | ⟨a1, a2, a3, a4⟩
    · exact Or.inl ⟨a1, a2, a3, a4, rfl⟩
    · exact Or.inr (Or.inl ⟨a1, a2, a3, a4, rfl⟩))
  rw [e24] at g2 g4 g5 g7
  obtain ⟨σ3, h3⟩ : ∃ σ3, σ3 = aput σ2 130 50 0 := ⟨_, rfl⟩
  have f3 : Fp (fun x j => x = 130 ∧ j = 50) σ2 σ3 := by rw [h3]; exact (Fp.rf _ _).put _ ⟨rfl, rfl⟩
  have g2' : Fp (wsr s) σ1 σ2 := g2.mono (fun x j q => by unfold wsr; omega)
  have f3' : Fp (wsr s) σ2 σ3 := f3.mono (fun x j q => by unfold wsr; omega)
  have T3 : TKr b n P σ3 := (T1.sr hs.1 g2').sr hs.1 f3'
  obtain ⟨τ, t1, t2, t3⟩ := r_token T3
  have w04 : wrT (kntT T) v 0 4 = T 0 4 + 1 := by
    rw [wrT_p (by omega) (by omega), stv_x (by omega), stv_x (by omega)]; exact kntT_4
  refine ⟨τ, ?_, ?_, t3, ?_, ⟨?_, ?_, ?_⟩, Or.inl rfl, hw, hc, ho, by omega, by omega, by omega, ?_, fun _ => ?_, fun i i0 i1 => ?_⟩
  · unfold c12_leafRead_p172
    rw [g1, acall0_some, ← h3, t1, acall0_some]
    exact ite_p (Or.inl rfl) (bz01 (Or.inr rfl))
  · have a1 : Fp (wsx s) σ σ1 := f1.mono (fun x j q => Or.inl (by unfold wsr; omega))
    exact a1.tr ((g2'.mono (fun x j q => Or.inl q)).tr ((f3'.mono (fun x j q => Or.inl q)).tr ((wkt_n t2).mono (fun x j q => Or.inr q))))
  · have R2 : RR s W (T 24 0 :: S) (wrT (kntT T) v) σ2 := ⟨g3, ⟨by rw [g2.g (by omega)]; exact w1, w2.cg (fun j _ _ => g2.g (by omega))⟩, g4, g6, g5⟩
    exact (R2.cg T3.1.1 f3 (fun x j q => by omega) rfl (fun _ => rfl)).tk t3 t2
  · rw [t2.g (by unfold wkt; omega), f3.g (by omega), g2.g (by omega), f1.g (by omega)]; exact e48
  · rw [t2.g (by unfold wkt; omega), f3.g (by omega), g2.g (by omega), e1, w04]
  · rw [t2.g (by unfold wkt; omega), h3, ag_s]
  · have : ((T 24 0 :: S).length : Int) = S.length + 1 := by simp
    omega
  · rw [g7]; show some (T 24 0) = _; congr 1; omega
  · have := wrT_K (T := kntT T) (v := v) (by omega) (by omega) (by unfold stk1; omega) (fun k k0 k1 => by rw [kntT_x (by omega)]; exact hst k k0 (by omega))
    exact this.1.2.1 i i0 i1
theorem leaf_r {b : Int → Int} {n s op P : Int} {W S : List Int} {T : aH} {σ : aS} (h : RX b n s 1 op P W S T σ) : SR b n s P (c12_leafRead 130 σ) σ (fun k => rlE b n (k + 1) 1 W op P T) := by
  have h' := h
  obtain ⟨hT, hR, ⟨e48, e49, e50⟩, -, hw, hc, ho, hn, h64, hs, hS, -, hst⟩ := h'
  have hL := hT.1.1
  have c0 := cnb_0 W
  have T04 : 0 ≤ T 0 4 := by omega
  have h40 := r_sign hT (c := 40) (by omega)
  have h45 := r_sign hT (c := 45) (by omega)
  have hK := hT.2.2.2.2
  have n1 : ¬ (1 : Int) = 0 := by omega
  -- the class's side
  have cl : ∀ k, rlE b n (k + 1) 1 W op P T = if kd b n P = 2 then (if 64 ≤ T 0 4 then (2, P, T) else if pNum b n 0 999 P ≠ 0 then (pNum b n 0 999 P, P, T) else rlE b n k 0 (flN W (wrT (kntT T) (vlt b n P))).1 op (nxp b n P) (flN W (wrT (kntT T) (vlt b n P))).2)
    else if 111 ≤ kd b n P ∧ kd b n P ≤ 115 then (if 64 ≤ T 0 4 then (2, P, T) else rlE b n k 0 (flN W (wrT (kntT T) (1000 + kd b n P - 111))).1 op (nxp b n P) (flN W (wrT (kntT T) (1000 + kd b n P - 111))).2)
    else if kd b n P = 45 then (if 64 ≤ T 0 4 then (2, P, T) else rlE b n k 1 (pushW W 2000) op (nxp b n P) (kntT T))
    else if kd b n P = 40 then (if 8 ≤ op then (2, P, T) else rlE b n k 1 (pushW W 40) (op + 1) (nxp b n P) T)
    else (1, P, T) := fun k => by rw [rlE_s, if_neg n1]
  have bad : ∀ {f : Int} {τ : aS}, f ≠ 0 → (∀ k, rlE b n (k + 1) 1 W op P T = (f, P, T)) → c12_leafRead 130 σ = some (0, [0], τ) → Fp wrr σ τ → FRr f P τ → SR b n s P (c12_leafRead 130 σ) σ (fun k => rlE b n (k + 1) 1 W op P T) := fun {f τ} hf hx hm hF hR => Or.inr ⟨τ, hm, hF, fun k => by
    show FE b n (rlE b n (k + 1) 1 W op P T) τ
    rw [hx k]; exact Or.inl ⟨hf, hR⟩⟩
  by_cases c40 : kd b n P = 40
  · have start : ∀ r : aR, (if aget σ 130 48 = 8 then (acall1 (c12_wrong 130 2 σ) fun v2 σ2 => (if (v2 : Int) = 0 ∨ (v2 : Int) = 1 then some (0, [v2], σ2) else none)) else (acall0 (c12_waitsFor 130 0 (aput σ 130 48 (w32 ((aget σ 130 48) + 1)))) fun σ3 => (acall0 (c12_token 130 σ3) fun σ4 => (if (1 : Int) = 0 ∨ (1 : Int) = 1 then some (0, [1], σ4) else none)))) = r → c12_leafRead 130 σ = r := by
      intro r hr
      unfold c12_leafRead
      rw [h40, if_pos c40, acall1_some, if_neg n1]
      exact hr
    have cl2 : ∀ k, rlE b n (k + 1) 1 W op P T = if 8 ≤ op then (2, P, T) else rlE b n k 1 (pushW W 40) (op + 1) (nxp b n P) T := fun k => by rw [cl k, if_neg (by omega), if_neg (by omega), if_neg (by omega), if_pos c40]
    by_cases c8 : op = 8
    · obtain ⟨τ, w1, w2, w3⟩ := c12_wrong_ok hT 2
      refine bad (f := 2) (by omega) (fun k => by rw [cl2 k, if_pos (by omega)]) (start _ ?_) w2 w3
      rw [e48, w1, acall1_some]
      exact ite_p c8 (bz01 (Or.inl rfl))
    · obtain ⟨σ1, h1⟩ : ∃ σ1, σ1 = aput σ 130 48 (op + 1) := ⟨_, rfl⟩
      have f1 : Fp (fun x j => x = 130 ∧ j = 48) σ σ1 := by rw [h1]; exact (Fp.rf _ _).put _ ⟨rfl, rfl⟩
      have f1' : Fp (wsr s) σ σ1 := f1.mono (fun x j q => by unfold wsr; omega)
      have T1 : TKr b n P σ1 := hT.sr hs.1 f1'
      have R1 : RR s W S T σ1 := hR.cg T1.1.1 f1 (fun x j q => by omega) rfl (fun _ => rfl)
      obtain ⟨σ2, w1, w2, w3⟩ := r_waits (v := 40) (k := 0) R1 rfl (by omega)
      have w2' : Fp (wsr s) σ1 σ2 := w2.mono (fun x j q => by unfold wsr; omega)
      obtain ⟨τ, t1, t2, t3⟩ := r_token (T1.sr hs.1 w2')
      refine Or.inl ⟨τ, 1, 40 :: W, op + 1, T, S, start _ ?_, ?_, ⟨t3, w3.tk t3 t2, ⟨?_, ?_, ?_⟩, Or.inr rfl, Or.inr (Or.inr ⟨rfl, hw⟩), by show (1 : Int) + cbr W = _; omega, by omega, by show T 24 0 + (0 + cnb W) = _; omega, h64, hs, by show _ = (0 : Int) + nbs W + 1 - 1; omega, fun q => absurd q (by omega), hst⟩, by omega, fun k => ?_⟩
      · rw [e48, wq (x := op + 1) (by omega) (by omega), ← h1, w1, acall0_some, t1, acall0_some]
        exact ite_n c8 (bz01 (Or.inr rfl))
      · exact (f1'.mono (fun x j q => Or.inl q)).tr ((w2'.mono (fun x j q => Or.inl q)).tr ((wkt_n t2).mono (fun x j q => Or.inr q)))
      · rw [t2.g (by unfold wkt; omega), w2.g (by omega), h1, ag_s]
      · rw [t2.g (by unfold wkt; omega), w2.g (by omega), f1.g (by omega)]; exact e49
      · rw [t2.g (by unfold wkt; omega), w2.g (by omega), f1.g (by omega)]; exact e50
      · rw [lgW_1]
        show rlE b n (k + 1) 1 W op P T = _
        rw [cl2 k, if_neg (by omega), pushW_p (by omega)]
  · by_cases c45 : kd b n P = 45
    · have start : ∀ r : aR, (acall1 (c12_isCounted 130 σ) fun v6 σ6 => (if v6 = 0 then (if (0 : Int) = 0 ∨ (0 : Int) = 1 then some (0, [0], σ6) else none) else (acall0 (c12_waitsFor 130 2 σ6) fun σ7 => (acall0 (c12_token 130 σ7) fun σ8 => (if (1 : Int) = 0 ∨ (1 : Int) = 1 then some (0, [1], σ8) else none))))) = r → c12_leafRead 130 σ = r := by
        intro r hr
        unfold c12_leafRead
        rw [h40, if_neg c40, acall1_some, if_pos rfl, h45, if_pos c45, acall1_some, if_neg n1]
        exact hr
      have cl2 : ∀ k, rlE b n (k + 1) 1 W op P T = if 64 ≤ T 0 4 then (2, P, T) else rlE b n k 1 (pushW W 2000) op (nxp b n P) (kntT T) := fun k => by rw [cl k, if_neg (by omega), if_neg (by omega), if_pos c45]
      rcases r_counted hT e49 T04 h64 with ⟨q64, σ1, k1, f1, e1⟩ | ⟨q64, τ, k1, k2, k3⟩
      · have f1' : Fp (wsr s) σ σ1 := f1.mono (fun x j q => by unfold wsr; omega)
        have T1 : TKr b n P σ1 := hT.sr hs.1 f1'
        have e24 : kntT T 24 0 = T 24 0 := kntT_x (by omega)
        have R1 : RR s W S (kntT T) σ1 := hR.cg T1.1.1 f1 (fun x j q => by omega) e24 (fun i => kntT_x (by omega))
        obtain ⟨σ2, w1, w2, w3⟩ := r_waits (v := 2000) (k := 2) R1 rfl (by omega)
        have w2' : Fp (wsr s) σ1 σ2 := w2.mono (fun x j q => by unfold wsr; omega)
        obtain ⟨τ, t1, t2, t3⟩ := r_token (T1.sr hs.1 w2')
        have e4 : kntT T 0 4 = T 0 4 + 1 := kntT_4
        refine Or.inl ⟨τ, 1, 2000 :: W, op, kntT T, S, start _ ?_, ?_, ⟨t3, w3.tk t3 t2, ⟨?_, ?_, ?_⟩, Or.inr rfl, Or.inl ⟨rfl, rfl, hw⟩, by show (0 : Int) + cbr W = _; omega, ho, by show kntT T 24 0 + (1 + cnb W) = _; omega, by omega, by omega, by show _ = (0 : Int) + nbs W + 1 - 1; omega, fun q => absurd q (by omega), fun i i0 i1 => by rw [kntT_x (by omega)]; exact hst i i0 (by omega)⟩, by omega, fun k => ?_⟩
        · rw [k1, acall1_some, if_neg n1, w1, acall0_some, t1, acall0_some]
          exact bz01 (Or.inr rfl)
        · exact (f1'.mono (fun x j q => Or.inl q)).tr ((w2'.mono (fun x j q => Or.inl q)).tr ((wkt_n t2).mono (fun x j q => Or.inr q)))
        · rw [t2.g (by unfold wkt; omega), w2.g (by omega), f1.g (by omega)]; exact e48
        · rw [t2.g (by unfold wkt; omega), w2.g (by omega), e1, e4]
        · rw [t2.g (by unfold wkt; omega), w2.g (by omega), f1.g (by omega)]; exact e50
        · rw [lgW_1]
          show rlE b n (k + 1) 1 W op P T = _
          rw [cl2 k, if_neg q64, pushW_p (by omega)]
      · refine bad (f := 2) (by omega) (fun k => by rw [cl2 k, if_pos q64]) (start _ ?_) k2 k3
        rw [k1, acall1_some]
        exact ite_p rfl (bz01 (Or.inl rfl))
    · have nm := hK.nm
      have n2 := hK.n2
      have start : ∀ r : aR, c12_leafRead_p96 (if 111 ≤ kd b n P ∧ kd b n P ≤ 115 then 1 else 0) 130 σ = r → c12_leafRead 130 σ = r := by
        intro r hr
        unfold c12_leafRead c12_leafRead_p95
        rw [h40, if_neg c40, acall1_some, if_pos rfl, h45, if_neg c45, acall1_some, if_pos rfl]
        by_cases d1 : aget σ 130 8 = 1
        · by_cases d2 : aget σ 130 9 < 11
          · rw [if_neg (show ¬ (111 ≤ kd b n P ∧ kd b n P ≤ 115) from fun q => by have := nm.1.mpr q; omega)] at hr
            exact ite_p d1 (ite_p d2 hr)
          · rw [if_pos (nm.1.mp ⟨d1, by omega⟩)] at hr
            exact ite_p d1 (ite_n d2 hr)
        · rw [if_neg (show ¬ (111 ≤ kd b n P ∧ kd b n P ≤ 115) from fun q => d1 (nm.1.mpr q).1)] at hr
          exact ite_n d1 hr
      by_cases cn : 111 ≤ kd b n P ∧ kd b n P ≤ 115
      · rw [if_pos cn] at start
        have cl2 : ∀ k, rlE b n (k + 1) 1 W op P T = if 64 ≤ T 0 4 then (2, P, T) else rlE b n k 0 (flN W (wrT (kntT T) (1000 + kd b n P - 111))).1 op (nxp b n P) (flN W (wrT (kntT T) (1000 + kd b n P - 111))).2 := fun k => by rw [cl k, if_neg (by omega), if_pos cn]
        have e9 := nm.2 cn
        rcases r_counted hT e49 T04 h64 with ⟨q64, σ1, k1, f1, e1⟩ | ⟨q64, τ, k1, k2, k3⟩
        · obtain ⟨τ, p1, p2, p3⟩ := leaf_put (k := 1) (a := kd b n P - 111) (v := 1000 + kd b n P - 111) h q64 f1 e1 (by omega) (Or.inr ⟨by omega, by omega, rfl, by omega⟩)
          refine Or.inl ⟨τ, 0, W, op, _, _, start _ ?_, p2, p3, by omega, fun k => ?_⟩
          · unfold c12_leafRead_p96 c12_leafRead_p115 c12_leafRead_p135 c12_leafRead_p154
            rw [k1, acall1_some, if_neg n1, if_neg n1, if_neg n1, if_neg n1, if_neg n1, f1.g (show ¬ ((130 : Int) = 130 ∧ (9 : Int) = 49) by omega), e9, wq (by omega) (by omega), show kd b n P - 100 - 11 = kd b n P - 111 by omega]
            exact p1
          · rw [lgW_0]
            show rlE b n (k + 1) 1 W op P T = _
            rw [cl2 k, if_neg q64]
        · refine bad (f := 2) (by omega) (fun k => by rw [cl2 k, if_pos q64]) (start _ ?_) k2 k3
          unfold c12_leafRead_p96 c12_leafRead_p115 c12_leafRead_p135
          rw [k1, acall1_some]
          exact ite_n n1 (ite_n n1 (ite_p rfl (bz01 (Or.inl rfl))))
      · rw [if_neg cn] at start
        by_cases c2 : kd b n P = 2
        · have cl2 : ∀ k, rlE b n (k + 1) 1 W op P T = if 64 ≤ T 0 4 then (2, P, T) else if pNum b n 0 999 P ≠ 0 then (pNum b n 0 999 P, P, T) else rlE b n k 0 (flN W (wrT (kntT T) (vlt b n P))).1 op (nxp b n P) (flN W (wrT (kntT T) (vlt b n P))).2 := fun k => by rw [cl k, if_pos c2]
          have k8 := n2.mpr c2
          have hv : 0 ≤ aget σ 130 9 ∧ ((vlt b n P ≤ 999 ∧ aget σ 130 9 = vlt b n P) ∨ (999 < vlt b n P ∧ 999 < aget σ 130 9)) := by
            unfold KR at hK
            rcases hK with q | q | q | q | q | q
            · omega
            · omega
            · exact q.2.2
            · omega
            · omega
            · omega
          by_cases c9 : 999 < aget σ 130 9
          · have ep : pNum b n 0 999 P = 2 := by unfold pNum; rw [if_pos c2, if_pos (by omega)]
            obtain ⟨τ, w1, w2, w3⟩ := c12_wrong_ok hT 2
            refine bad (f := 2) (by omega) (fun k => ?_) (start _ ?_) w2 w3
            · rw [cl2 k]
              by_cases q64 : 64 ≤ T 0 4
              · rw [if_pos q64]
              · rw [if_neg q64, ep, if_pos (by omega)]
            · unfold c12_leafRead_p96 c12_leafRead_p115
              rw [w1, acall1_some]
              exact ite_p rfl (ite_p k8 (ite_p rfl (ite_p c9 (bz01 (Or.inl rfl)))))
          · have ep : pNum b n 0 999 P = 0 := by unfold pNum; rw [if_pos c2, if_neg (by omega)]
            rcases r_counted hT e49 T04 h64 with ⟨q64, σ1, k1, f1, e1⟩ | ⟨q64, τ, k1, k2, k3⟩
            · obtain ⟨τ, p1, p2, p3⟩ := leaf_put (k := 0) (a := vlt b n P) (v := vlt b n P) h q64 f1 e1 (by omega) (Or.inl ⟨by omega, by omega, rfl, rfl⟩)
              refine Or.inl ⟨τ, 0, W, op, _, _, start _ ?_, p2, p3, by omega, fun k => ?_⟩
              · unfold c12_leafRead_p96 c12_leafRead_p115 c12_leafRead_p135 c12_leafRead_p154
                rw [k1, acall1_some, f1.g (show ¬ ((130 : Int) = 130 ∧ (9 : Int) = 49) by omega), show aget σ 130 9 = vlt b n P by omega]
                refine ite_p rfl (ite_p k8 (ite_p rfl (ite_n (by omega) (ite_n n1 (ite_p rfl (ite_p rfl p1))))))
              · rw [lgW_0]
                show rlE b n (k + 1) 1 W op P T = _
                rw [cl2 k, if_neg q64, if_neg (fun q => q ep)]
            · refine bad (f := 2) (by omega) (fun k => by rw [cl2 k, if_pos q64]) (start _ ?_) k2 k3
              unfold c12_leafRead_p96 c12_leafRead_p115 c12_leafRead_p135
              rw [k1, acall1_some]
              exact ite_p rfl (ite_p k8 (ite_p rfl (ite_n c9 (ite_p rfl (bz01 (Or.inl rfl))))))
        · obtain ⟨τ, w1, w2, w3⟩ := c12_wrong_ok hT 1
          refine bad (f := 1) (by omega) (fun k => by rw [cl k, if_neg c2, if_neg cn, if_neg c45, if_neg c40]) (start _ ?_) w2 w3
          unfold c12_leafRead_p96
          rw [w1, acall1_some]
          exact ite_p rfl (ite_n (fun q => c2 (n2.mp q)) (bz01 (Or.inl rfl)))
