/-! the class's half of whole's part of this name -/
theorem c10_valueOf_ok {b : Int → Int} {n p : Int} {σ : aS} (hT : TSc b n σ) (p0 : 0 ≤ p) (p1 : p < n) : c10_valueOf 2 p (tke b n p) (tkc b n p) σ = some (0, [tkv b n p], σ) := by
  have hT' := hT
  obtain ⟨hL, h5, ⟨n0, n8⟩, hb⟩ := hT'
  have he := tke_bd b p1
  have cs := tkc_cs b n p
  unfold c10_valueOf tkv
  by_cases k2 : tkc b n p = 2
  · rw [if_pos k2, if_pos k2]
    have hch : chl (b p) = false ∧ chd (b p) = true := by
      rcases cs with ⟨_, h⟩ | ⟨a, c, _⟩ | ⟨_, _, h⟩
      · omega
      · exact ⟨a, c⟩
      · have := sgk_bd (b p); omega
    have hd := tke_d p1 hch.1 hch.2
    have hal := al_I (c := 12) (B := aU4 c10_valueOf_b11) (n := tke b n p) (i := p) (vs := [2, tke b n p, 0, p]) (σ := σ)
      (fun i vs τ => p ≤ i ∧ vs = [2, tke b n p, nfd b p (i - p).toNat, i] ∧ τ = σ) (fun r => r = (47, [nfd b p (tke b n p - p).toNat], σ)) (by omega) (by omega) ⟨Int.le_refl _, by rw [Int.sub_self]; rfl, rfl⟩ ?_
    · obtain ⟨r, hr, rfl⟩ := hal
      unfold c10_valueOf_l11
      rw [hr]; rfl
    · rintro i vs τ hi ⟨i0, rfl, rfl⟩
      by_cases c : i < tke b n p
      · have hnf := nfd_bd (b := b) (p := p) (i - p).toNat (fun j hj => (hd (p + j) (by omega) (by omega)).1)
        have hi2 := hd i i0 c
        refine Or.inl ⟨c, [2, tke b n p, nfd b p (i + 1 - p).toNat, i + 1], τ, ?_, by omega, rfl, rfl⟩
        show c10_valueOf_b11 2 (tke b n p) (nfd b p (i - p).toNat) i τ = _
        unfold c10_valueOf_b11
        have e1 : w32 (nfd b p (i - p).toNat * 10) = nfd b p (i - p).toNat * 10 := wq (by omega) (by omega)
        have e2 : w32 (nfd b p (i - p).toNat * 10 + b i) = nfd b p (i - p).toNat * 10 + b i := wq (by omega) (by omega)
        have e3 : w32 (nfd b p (i - p).toNat * 10 + b i - 48) = nfd b p (i - p).toNat * 10 + b i - 48 := wq (by omega) (by omega)
        rw [r_2_0 hL, n_3 hL, hb i (by omega) (by omega), e1, e2, e3, jmin_mn, acall1_some, wq (x := i + 1) (by omega) (by omega)]
        refine ite_p c (ite_n (by omega) (ite_p (by omega) ?_))
        rw [show (i + 1 - p).toNat = (i - p).toNat + 1 by omega]
        show some (12, [2, tke b n p, _, i + 1], τ) = some (12, [2, tke b n p, mn 100000 (nfd b p (i - p).toNat * 10 + b (p + ((i - p).toNat : Nat)) - 48), i + 1], τ)
        rw [show p + (((i - p).toNat : Nat) : Int) = i by omega]
      · refine Or.inr ⟨_, ?_, Nat.ne_of_beq_eq_false rfl, rfl⟩
        rw [show i = tke b n p by omega]
        show c10_valueOf_b11 2 (tke b n p) _ (tke b n p) τ = _
        unfold c10_valueOf_b11
        exact ite_n (by omega) rfl
  · rw [if_neg k2, if_neg k2]
    by_cases k3 : tkc b n p = 3
    · rw [if_pos k3, if_pos k3]
      have hch : chl (b p) = true := by
        rcases cs with ⟨h, _⟩ | ⟨_, _, h⟩ | ⟨_, _, h⟩
        · exact h
        · omega
        · have := sgk_bd (b p); omega
      have hl := tke_l p1 hch
      have hal := al_I (c := 58) (B := aU5 c10_valueOf_b57) (n := p + 6) (i := p) (vs := [2, p, tke b n p, 0, p]) (σ := σ)
        (fun i vs τ => p ≤ i ∧ vs = [2, p, tke b n p, pcf b p (tke b n p) (i - p).toNat, i] ∧ τ = σ) (fun r => r = (0, [pcf b p (tke b n p) 6], σ)) (by omega) (by omega) ⟨Int.le_refl _, by rw [Int.sub_self]; rfl, rfl⟩ ?_
      · obtain ⟨r, hr, rfl⟩ := hal
        unfold c10_valueOf_l57
        rw [hr]; rfl
      · rintro i vs τ hi ⟨i0, rfl, rfl⟩
        by_cases c : i < p + 6
        · have hpb := pcf_bd hl (i - p).toNat
          have h5' : (32 ^ (i - p).toNat : Nat) ≤ 32 ^ 5 := Nat.pow_le_pow_right (by decide) (by omega)
          have h55 : (32 ^ 5 : Nat) = 33554432 := rfl
          have esh : ashl (pcf b p (tke b n p) (i - p).toNat) 5 = 32 * pcf b p (tke b n p) (i - p).toNat := by
            rw [ashl_p hpb.1 (by omega) (by omega) (by have : p2 5 = 32 := rfl; rw [this]; omega), show p2 5 = 32 from rfl]; omega
          have p92 : ∀ s0, 0 ≤ s0 → s0 ≤ 26 → c10_valueOf_p92 s0 (32 * pcf b p (tke b n p) (i - p).toNat) 2 p (tke b n p) i τ = some (58, [2, p, tke b n p, 32 * pcf b p (tke b n p) (i - p).toNat + s0, i + 1], τ) := fun s0 a0 a1 => by
            unfold c10_valueOf_p92
            rw [wq (by omega) (by omega), wq (x := i + 1) (by omega) (by omega)]
          have enx : pcf b p (tke b n p) (i + 1 - p).toNat = 32 * pcf b p (tke b n p) (i - p).toNat + (if i < tke b n p then b i - 96 else 0) := by
            rw [show (i + 1 - p).toNat = (i - p).toNat + 1 by omega]
            show 32 * pcf b p (tke b n p) (i - p).toNat + (if p + ((i - p).toNat : Nat) < tke b n p then b (p + ((i - p).toNat : Nat)) - 96 else 0) = _
            rw [show p + (((i - p).toNat : Nat) : Int) = i by omega]
          refine Or.inl ⟨c, [2, p, tke b n p, pcf b p (tke b n p) (i + 1 - p).toNat, i + 1], τ, ?_, by omega, rfl, rfl⟩
          rw [enx]
          show c10_valueOf_b57 2 p (tke b n p) _ i τ = _
          unfold c10_valueOf_b57
          rw [wq (x := p + 6) (by omega) (by omega), esh]
          refine ite_p c ?_
          by_cases d : i < tke b n p
          · have hi2 := hl i i0 d
            rw [if_pos d, if_pos d, r_2_0 hL, n_3 hL, hb i (by omega) (by omega), wq (x := b i - 97) (by omega) (by omega), wq (x := b i - 97 + 1) (by omega) (by omega), p92 _ (by omega) (by omega), show b i - 97 + 1 = b i - 96 by omega]
            exact ite_n (by omega) (ite_p (by omega) rfl)
          · rw [if_neg d, if_neg d]; exact p92 0 (by omega) (by omega)
        · refine Or.inr ⟨_, ?_, Nat.ne_of_beq_eq_false rfl, rfl⟩
          rw [show i = p + 6 by omega, show (p + 6 - p).toNat = 6 by omega]
          show c10_valueOf_b57 2 p (tke b n p) _ (p + 6) τ = _
          unfold c10_valueOf_b57
          rw [wq (x := p + 6) (by omega) (by omega)]
          exact ite_n (by omega) rfl
    · rw [if_neg k3, if_neg k3]
/-- where the tokens start -/
def tkp (b : Int → Int) (n : Int) : Nat → Int
  | 0 => skp b n 0
  | k + 1 => nxp b n (tkp b n k)
def TAc (b : Int → Int) (n : Int) (m : Nat) (σ : aS) : Prop := aget σ 2 6 = m ∧ (m : Int) ≤ n ∧ ∀ j : Nat, j < m → tkp b n j < n ∧ aget σ 6 j = tkp b n j ∧ aget σ 4 j = tkc b n (tkp b n j) ∧ aget σ 5 j = tkv b n (tkp b n j)
def TKc (b : Int → Int) (n P : Int) (σ : aS) : Prop := TSc b n σ ∧ ∃ m k : Nat, TAc b n m σ ∧ tkp b n m = n ∧ k ≤ m ∧ P = tkp b n k ∧ aget σ 2 7 = (if k < m then (k : Int) + 1 else m) ∧ aget σ 2 11 = kd b n P ∧ aget σ 2 12 = vlt b n P ∧ aget σ 2 8 = P
def wto (x j : Int) : Prop := x = 4 ∨ x = 5 ∨ x = 6 ∨ (x = 2 ∧ 4 ≤ j)
def wsp2 (x j : Int) : Prop := x = 2 ∧ (j = 7 ∨ j = 8 ∨ j = 11 ∨ j = 12)
theorem TSc.fp {b : Int → Int} {n : Int} {σ τ : aS} {P : Int → Int → Prop} (h : TSc b n σ) (hF : Fp P σ τ) (hP : ∀ x j, P x j → wtt x j) (h3 : ∀ j, ¬ P 3 j) (h5 : ¬ P 2 5) : TSc b n τ :=
  ⟨h.1.tt hF hP, by rw [hF.g h5]; exact h.2.1, h.2.2.1, fun j j0 j1 => by rw [hF.g (h3 j)]; exact h.2.2.2 j j0 j1⟩
theorem c10_step_raw {b : Int → Int} {n : Int} {σ : aS} (hT : TSc b n σ) {m k : Nat} (hA : TAc b n m σ) (hm : tkp b n m = n) (hk : k ≤ m) (h7 : aget σ 2 7 = k) :
    ∃ τ, c10_step 2 σ = some (0, [], τ) ∧ Fp wsp2 σ τ ∧ TKc b n (tkp b n k) τ := by
  have hT' := hT
  obtain ⟨hL, h5, ⟨n0, n8⟩, hb⟩ := hT'
  obtain ⟨h6, hmn, hv⟩ := hA
  obtain ⟨τ, hτ⟩ : ∃ τ, τ = aput (aput (aput (aput σ 2 11 (kd b n (tkp b n k))) 2 12 (vlt b n (tkp b n k))) 2 8 (tkp b n k)) 2 7 (if k < m then (k : Int) + 1 else m) := ⟨_, rfl⟩
  have hF : Fp wsp2 σ τ := by
    rw [hτ]
    exact ((((Fp.rf _ _).put _ ⟨rfl, by omega⟩).put _ ⟨rfl, by omega⟩).put _ ⟨rfl, by omega⟩).put _ ⟨rfl, by omega⟩
  have hw : ∀ x j, wsp2 x j → wtt x j := fun x j q => by unfold wsp2 at q; unfold wtt; omega
  refine ⟨τ, ?_, hF, hT.fp hF hw (fun j q => by unfold wsp2 at q; omega) (fun q => by unfold wsp2 at q; omega), m, k, ⟨by rw [hF.g (by unfold wsp2; omega)]; exact h6, hmn, fun j hj => ?_⟩, hm, hk, rfl, by rw [hτ, ag_s], by rw [hτ, ag_j (by omega), ag_j (by omega), ag_j (by omega), ag_s], by rw [hτ, ag_j (by omega), ag_j (by omega), ag_s], by rw [hτ, ag_j (by omega), ag_s]⟩
  · unfold c10_step
    rw [h7, h6, hτ]
    by_cases c : k < m
    · obtain ⟨v1, v2, v3, v4⟩ := hv k c
      refine ite_p (by omega) ?_
      have ek : kd b n (tkp b n k) = tkc b n (tkp b n k) := if_pos v1
      have ev : vlt b n (tkp b n k) = tkv b n (tkp b n k) := if_pos v1
      rw [ek, ev]
      obtain ⟨υ1, hυ1⟩ : ∃ υ1, υ1 = aput σ 2 11 (tkc b n (tkp b n k)) := ⟨_, rfl⟩
      have hL1 : LR υ1 := by rw [hυ1]; exact hL.tt ((Fp.rf (fun x j => x = 2 ∧ j = 11) σ).put _ ⟨rfl, rfl⟩) (fun x j q => by unfold wtt; omega)
      obtain ⟨υ2, hυ2⟩ : ∃ υ2, υ2 = aput υ1 2 12 (tkv b n (tkp b n k)) := ⟨_, rfl⟩
      have hL2 : LR υ2 := by rw [hυ2]; exact hL1.tt ((Fp.rf (fun x j => x = 2 ∧ j = 12) υ1).put _ ⟨rfl, rfl⟩) (fun x j q => by unfold wtt; omega)
      obtain ⟨υ3, hυ3⟩ : ∃ υ3, υ3 = aput υ2 2 8 (tkp b n k) := ⟨_, rfl⟩
      have a1 : aget υ1 2 7 = k := by rw [hυ1, ag_j (by omega)]; exact h7
      have a2 : aget υ2 2 7 = k := by rw [hυ2, ag_j (by omega)]; exact a1
      have a3 : aget υ3 2 7 = k := by rw [hυ3, ag_j (by omega)]; exact a2
      have b1 : aget υ1 5 k = tkv b n (tkp b n k) := by rw [hυ1, ag_x (by omega)]; exact v4
      have b2 : aget υ2 6 k = tkp b n k := by rw [hυ2, ag_x (by omega), hυ1, ag_x (by omega)]; exact v2
      unfold c10_step_p16
      rw [r_2_1 hL, n_4 hL, h7, v3]
      refine ite_n (by omega) (ite_n (by omega) (ite_p (by omega) ?_))
      unfold c10_step_p35
      rw [← hυ1, r_2_2 hL1, n_5 hL1, a1, b1]
      refine ite_n (by omega) (ite_n (by omega) (ite_p (by omega) ?_))
      unfold c10_step_p56
      rw [← hυ2, r_2_3 hL2, n_6 hL2, a2, b2]
      refine ite_n (by omega) (ite_n (by omega) (ite_p (by omega) ?_))
      unfold c10_step_p80
      rw [← hυ3, a3]
      refine ite_n (by omega) ?_
      unfold c10_step_p97
      rw [wq (by omega) (by omega), if_pos c]
    · have km : k = m := by omega
      refine ite_n (by omega) ?_
      have hP : tkp b n k = n := by rw [km]; exact hm
      have ek : kd b n (tkp b n k) = 0 := if_neg (by omega)
      have ev : vlt b n (tkp b n k) = 0 := if_neg (by omega)
      rw [ek, ev, hP]
      unfold c10_step_p16 c10_step_p35 c10_step_p56 c10_step_p80 c10_step_p97
      rw [if_pos rfl, if_pos rfl, if_pos rfl, if_pos rfl, ag_j (y := 2) (k := 5) (by omega), ag_j (y := 2) (k := 5) (by omega), h5, ag_j (y := 2) (k := 7) (by omega), ag_j (y := 2) (k := 7) (by omega), ag_j (y := 2) (k := 7) (by omega), h7, wq (by omega) (by omega), if_neg c, Int.add_zero, km]
  · obtain ⟨a1, a2, a3, a4⟩ := hv j hj
    exact ⟨a1, by rw [hF.g (by unfold wsp2; omega)]; exact a2, by rw [hF.g (by unfold wsp2; omega)]; exact a3, by rw [hF.g (by unfold wsp2; omega)]; exact a4⟩
theorem c10_step_ok {b : Int → Int} {n P : Int} {σ : aS} (hK : TKc b n P σ) : ∃ τ, c10_step 2 σ = some (0, [], τ) ∧ Fp wsp2 σ τ ∧ TKc b n (nxp b n P) τ := by
  obtain ⟨hT, m, k, hA, hm, hk, rfl, h7, -⟩ := hK
  by_cases c : k < m
  · rw [if_pos c] at h7
    exact c10_step_raw hT (k := k + 1) hA hm (by omega) (by rw [h7]; omega)
  · have km : k = m := by omega
    rw [if_neg c] at h7
    have e : nxp b n (tkp b n k) = tkp b n m := by
      rw [km, hm]; unfold nxp; rw [if_neg (by omega)]
    rw [e]
    exact c10_step_raw hT (k := m) hA hm (Nat.le_refl _) h7
theorem c10_open_ok {bt : Int → Int} {M n : Int} {σ : aS} (hL : LR σ) (hT : TPc bt M σ) (n0 : 0 ≤ n) (n1 : n ≤ M) :
    ∃ τ, c10_open 2 n σ = some (0, [], τ) ∧ Fp wto σ τ ∧ TKc bt n (skp bt n 0) τ ∧ aget τ 2 4 = 0 ∧ aget τ 2 9 = 0 ∧ aget τ 2 10 = -1 := by
  obtain ⟨h4, ⟨m0, m8⟩, hb⟩ := hT
  have ww : ∀ x j, wto x j → wtt x j := fun x j q => by unfold wto at q; unfold wtt; omega
  obtain ⟨σ0, hσ0⟩ : ∃ σ0, σ0 = aput (aput (aput σ 2 5 n) 2 4 0) 2 6 0 := ⟨_, rfl⟩
  have f0 : Fp wto σ σ0 := by rw [hσ0]; exact (((Fp.rf _ _).put _ (by unfold wto; omega)).put _ (by unfold wto; omega)).put _ (by unfold wto; omega)
  have hS0 : TSc bt n σ0 := ⟨hL.tt f0 ww, by rw [hσ0, ag_j (by omega), ag_j (by omega), ag_s], ⟨n0, by omega⟩, fun j j0 j1 => by rw [f0.g (by unfold wto; omega)]; exact hb j j0 (by omega)⟩
  have hal := al_I (c := 25) (B := aU2 c10_open_b24) (n := 800) (i := 0) (vs := [2, 0]) (σ := σ0)
    (fun i vs τ => 0 ≤ i ∧ ∃ (q : Int) (k : Nat), vs = [2, q] ∧ i ≤ q ∧ q ≤ n ∧ TSc bt n τ ∧ Fp wto σ τ ∧ aget τ 2 4 = 0 ∧ aget τ 2 6 = k ∧ (k : Int) ≤ q ∧ tkp bt n k = skp bt n q ∧ ∀ j : Nat, j < k → tkp bt n j < n ∧ aget τ 6 j = tkp bt n j ∧ aget τ 4 j = tkc bt n (tkp bt n j) ∧ aget τ 5 j = tkv bt n (tkp bt n j))
    (fun r => ∃ τ m, r = (146, [2], τ) ∧ TSc bt n τ ∧ Fp wto σ τ ∧ aget τ 2 4 = 0 ∧ TAc bt n m τ ∧ tkp bt n m = n) (by omega) (by omega)
    ⟨Int.le_refl _, 0, 0, rfl, Int.le_refl _, n0, hS0, f0, by rw [hσ0, ag_j (by omega), ag_s], by rw [hσ0, ag_s]; rfl, Int.le_refl _, rfl, fun j hj => by omega⟩ ?_
  · obtain ⟨r, hr, φ, m, rfl, hS, hF, e4, hA, hm⟩ := hal
    obtain ⟨υ, hυ⟩ : ∃ υ, υ = aput (aput (aput φ 2 7 0) 2 9 0) 2 10 (-1) := ⟨_, rfl⟩
    have f2 : Fp (fun x j => x = 2 ∧ (j = 7 ∨ j = 9 ∨ j = 10)) φ υ := by rw [hυ]; exact (((Fp.rf _ _).put _ ⟨rfl, by omega⟩).put _ ⟨rfl, by omega⟩).put _ ⟨rfl, by omega⟩
    have hS2 : TSc bt n υ := hS.fp f2 (fun x j q => by unfold wtt; omega) (fun j q => by omega) (fun q => by omega)
    have hA2 : TAc bt n m υ := ⟨by rw [f2.g (by omega)]; exact hA.1, hA.2.1, fun j hj => by
      obtain ⟨a1, a2, a3, a4⟩ := hA.2.2 j hj
      exact ⟨a1, by rw [f2.g (by omega)]; exact a2, by rw [f2.g (by omega)]; exact a3, by rw [f2.g (by omega)]; exact a4⟩⟩
    obtain ⟨τ, h1, hF3, hK⟩ := c10_step_raw hS2 (k := 0) hA2 hm (by omega) (by rw [hυ, ag_j (by omega), ag_j (by omega), ag_s]; rfl)
    refine ⟨τ, ?_, hF.tr ((f2.mono (fun x j q => by unfold wto; omega)).tr (hF3.mono (fun x j q => by unfold wsp2 at q; unfold wto; omega))), hK, ?_, ?_, ?_⟩
    · unfold c10_open
      have hj : jmin n (aget σ 2 4) σ = some (0, [n], σ) := by
        unfold jmin
        rw [h4]; exact if_neg (by omega)
      rw [hj, acall1_some, ← hσ0]
      unfold c10_open_l24
      rw [hr]
      show c10_open_p145 2 φ = _
      unfold c10_open_p145
      rw [← hυ, h1, acall0_some]
    · rw [hF3.g (by unfold wsp2; omega), f2.g (by omega)]; exact e4
    · rw [hF3.g (by unfold wsp2; omega), hυ, ag_j (by omega), ag_s]
    · rw [hF3.g (by unfold wsp2; omega), hυ, ag_s]
  · rintro i vs τ hi ⟨i0, q, k, rfl, iq, qn, hS, hF, e4, e6, kq, hk, hv⟩
    have hS' := hS
    obtain ⟨hLt, h5, -, hbt⟩ := hS'
    by_cases c : q < n
    · have p139 : ∀ (j : Int) (φ : aS), 0 ≤ j → j < 800 → c10_open_p139 2 j φ = some (25, [2, j + 1], φ) := fun j φ j0 j1 => by
        unfold c10_open_p139; rw [wq (by omega) (by omega)]
      have hq := hbt q (by omega) c
      by_cases bl : chb (bt q) = true
      · refine Or.inl ⟨by omega, [2, q + 1], τ, ?_, by omega, q + 1, k, rfl, by omega, by omega, hS, hF, e4, e6, by omega, by rw [hk]; exact whl_s c bl, hv⟩
        show c10_open_b24 2 q τ = _
        unfold c10_open_b24
        rw [h5, r_2_0 hLt, n_3 hLt, hq]
        refine ite_p c (ite_n (by omega) (ite_p (by omega) ?_))
        by_cases t : bt q = 10
        · exact ite_p t (p139 q τ (by omega) (by omega))
        · have t2 : bt q = 32 := by rw [chb_t] at bl; omega
          exact ite_n t (ite_n (by omega) (ite_p (by omega) (ite_p t2 (p139 q τ (by omega) (by omega)))))
      · have bl' := Bool.eq_false_iff.2 bl
        have hkq : tkp bt n k = q := by rw [hk]; exact whl_e c bl'
        have he := tke_bd bt c
        obtain ⟨υ1, hυ1⟩ : ∃ υ1, υ1 = aput τ 6 k q := ⟨_, rfl⟩
        have g1 : Fp (fun x _ => x = 6) τ υ1 := by rw [hυ1]; exact (Fp.rf _ _).put _ rfl
        have hS1 : TSc bt n υ1 := hS.fp g1 (fun x j q => by unfold wtt; omega) (fun j q => by omega) (fun q => by omega)
        have hL1 := hS1.1
        obtain ⟨υ2, hυ2⟩ : ∃ υ2, υ2 = aput υ1 4 k (tkc bt n q) := ⟨_, rfl⟩
        have g2 : Fp (fun x _ => x = 4) υ1 υ2 := by rw [hυ2]; exact (Fp.rf _ _).put _ rfl
        have hS2 : TSc bt n υ2 := hS1.fp g2 (fun x j q => by unfold wtt; omega) (fun j q => by omega) (fun q => by omega)
        have hL2 := hS2.1
        obtain ⟨υ3, hυ3⟩ : ∃ υ3, υ3 = aput υ2 5 k (tkv bt n q) := ⟨_, rfl⟩
        have g3 : Fp (fun x _ => x = 5) υ2 υ3 := by rw [hυ3]; exact (Fp.rf _ _).put _ rfl
        have hS3 : TSc bt n υ3 := hS2.fp g3 (fun x j q => by unfold wtt; omega) (fun j q => by omega) (fun q => by omega)
        have g4 : Fp (fun x j => x = 2 ∧ j = 6) υ3 (aput υ3 2 6 ((k : Int) + 1)) := (Fp.rf _ _).put _ ⟨rfl, rfl⟩
        have hS4 : TSc bt n (aput υ3 2 6 ((k : Int) + 1)) := hS3.fp g4 (fun x j q => by unfold wtt; omega) (fun j q => by omega) (fun q => by omega)
        have a1 : aget υ1 2 6 = k := by rw [g1.g (by omega)]; exact e6
        have a2 : aget υ2 2 6 = k := by rw [g2.g (by omega)]; exact a1
        have a3 : aget υ3 2 6 = k := by rw [g3.g (by omega)]; exact a2
        have a4 : aget υ2 4 k = tkc bt n q := by rw [hυ2, ag_s]
        have hFn : Fp wto σ (aput υ3 2 6 ((k : Int) + 1)) := hF.tr ((g1.mono (fun x j q => by unfold wto; omega)).tr ((g2.mono (fun x j q => by unfold wto; omega)).tr ((g3.mono (fun x j q => by unfold wto; omega)).tr (g4.mono (fun x j q => by unfold wto; omega)))))
        have hjm : ∀ φ : aS, jmax q (tke bt n q - 1) φ = some (0, [tke bt n q - 1], φ) := fun φ => by
          unfold jmax
          by_cases z : q < tke bt n q - 1
          · rw [if_pos z]
          · rw [if_neg z]; exact congrArg (fun v : Int => (some (0, [v], φ) : aR)) (by omega)
        have e1 : w32 (tke bt n q - 1 + 1) = tke bt n q := by rw [show tke bt n q - 1 + 1 = tke bt n q by omega]; exact wq (by omega) (by omega)
        have nb10 : ¬ bt q = 10 := fun z => bl (chb_t.2 (Or.inl z))
        have nb32 : ¬ bt q = 32 := fun z => bl (chb_t.2 (Or.inr z))
        refine Or.inl ⟨by omega, [2, tke bt n q], aput υ3 2 6 ((k : Int) + 1), ?_, by omega, tke bt n q, k + 1, rfl, by omega, he.2, hS4, hFn, ?_, by rw [ag_s]; omega, by omega, ?_, fun j hj => ?_⟩
        · show c10_open_b24 2 q τ = _
          unfold c10_open_b24
          rw [h5, r_2_0 hLt, n_3 hLt, hq, e6]
          refine ite_p c (ite_n (by omega) (ite_p (by omega) (ite_n nb10 (ite_n (by omega) (ite_p (by omega) (ite_n nb32 (ite_p (by omega) ?_)))))))
          rw [c10_lastOf_ok hS (by omega) c, acall1_some, hjm, acall1_some, r_2_3 hLt, n_6 hLt, e6, ← hυ1, r_2_1 hL1, e1, c10_kindOf_ok hS1 (by omega) c, acall1_some, a1, n_4 hL1, ← hυ2, r_2_2 hL2, r_2_1 hL2, n_4 hL2, a2, a4, c10_valueOf_ok hS2 (by omega) c, acall1_some, n_5 hL2, ← hυ3, a3, wq (x := (k : Int) + 1) (by omega) (by omega)]
          refine ite_n (by omega) (ite_p (by omega) (ite_n (by omega) (ite_p (by omega) (ite_n (by omega) (ite_n (by omega) (ite_p (by omega) (ite_p (by omega) ?_)))))))
          unfold c10_open_p136
          rw [p139 _ _ (by omega) (by omega), show tke bt n q - 1 + 1 = tke bt n q by omega]
        · rw [ag_j (by omega), g3.g (by omega), g2.g (by omega), g1.g (by omega)]; exact e4
        · show nxp bt n (tkp bt n k) = _
          rw [hkq]; exact if_pos c
        · rw [ag_x (by omega), ag_x (by omega), ag_x (by omega)]
          by_cases z : j = k
          · rw [z, hkq]
            exact ⟨c, by rw [g3.g (by omega), g2.g (by omega), hυ1, ag_s], by rw [g3.g (by omega)]; exact a4, by rw [hυ3, ag_s]⟩
          · obtain ⟨b1, b2, b3, b4⟩ := hv j (by omega)
            exact ⟨b1, by rw [g3.g (by omega), g2.g (by omega), hυ1, ag_j (by omega)]; exact b2, by rw [g3.g (by omega), hυ2, ag_j (by omega), g1.g (by omega)]; exact b3, by rw [hυ3, ag_j (by omega), g2.g (by omega), g1.g (by omega)]; exact b4⟩
    · have qe : q = n := by omega
      refine Or.inr ⟨(146, [2], τ), ?_, Nat.ne_of_beq_eq_false rfl, τ, k, rfl, hS, hF, e4, ⟨e6, by omega, hv⟩, by rw [hk, qe]; exact whl_n _ _⟩
      show c10_open_b24 2 q τ = _
      unfold c10_open_b24
      rw [h5]
      exact ite_n c rfl
def FTc (f P : Int) (σ : aS) : Prop := LR σ ∧ aget σ 2 9 = f ∧ f ≠ 0 ∧ aget σ 2 10 = P
def PKc (b : Int → Int) (n P : Int) (σ : aS) : Prop := TKc b n P σ ∧ aget σ 2 9 = 0 ∧ aget σ 2 10 = -1
def wtq (x j : Int) : Prop := x = 2 ∧ 7 ≤ j ∧ j ≤ 12
theorem PKc.lr {b : Int → Int} {n P : Int} {σ : aS} (h : PKc b n P σ) : LR σ := h.1.1.1
theorem PKc.kd {b : Int → Int} {n P : Int} {σ : aS} (h : PKc b n P σ) : aget σ 2 11 = kd b n P ∧ aget σ 2 12 = vlt b n P ∧ aget σ 2 8 = P := by
  obtain ⟨⟨hT, m, k, hA, hm, hk, e, h7, a, b, c⟩, -⟩ := h
  exact ⟨a, b, c⟩
theorem c10_step_p {b : Int → Int} {n P : Int} {σ : aS} (h : PKc b n P σ) : ∃ τ, c10_step 2 σ = some (0, [], τ) ∧ Fp wtq σ τ ∧ PKc b n (nxp b n P) τ := by
  obtain ⟨τ, h1, hF, hK⟩ := c10_step_ok h.1
  exact ⟨τ, h1, hF.mono (fun x j q => by unfold wsp2 at q; unfold wtq; omega), hK, by rw [hF.g (by unfold wsp2; omega)]; exact h.2.1, by rw [hF.g (by unfold wsp2; omega)]; exact h.2.2⟩
theorem c10_refuse_p {b : Int → Int} {n P : Int} {σ : aS} (h : PKc b n P σ) {f : Int} (hf : f ≠ 0) : ∃ τ, c10_refuse 2 f σ = some (0, [], τ) ∧ Fp wtq σ τ ∧ FTc f P τ := by
  have hF : Fp wtq σ (aput (aput σ 2 9 f) 2 10 P) := ((Fp.rf _ _).put _ (by unfold wtq; omega)).put _ (by unfold wtq; omega)
  refine ⟨aput (aput σ 2 9 f) 2 10 P, ?_, hF, h.lr.tt hF (fun x j q => by unfold wtq at q; unfold wtt; omega), by rw [ag_j (by omega), ag_s], hf, ag_s _ _ _ _⟩
  unfold c10_refuse
  rw [h.2.1, if_pos rfl, ag_j (by omega), h.kd.2.2]
theorem c10_refuse_f {f P g : Int} {σ : aS} (h : FTc f P σ) : c10_refuse 2 g σ = some (0, [], σ) := by
  unfold c10_refuse
  rw [h.2.1]; exact if_neg h.2.2.1
theorem c10_isSound_p {b : Int → Int} {n P : Int} {σ : aS} (h : PKc b n P σ) : c10_isSound 2 σ = some (0, [1], σ) := by
  unfold c10_isSound
  rw [h.2.1]; exact ite_p rfl (ite_p (by omega) rfl)
theorem c10_isSound_f {f P : Int} {σ : aS} (h : FTc f P σ) : c10_isSound 2 σ = some (0, [0], σ) := by
  unfold c10_isSound
  rw [h.2.1]; exact ite_n h.2.2.1 (ite_p (by omega) rfl)
theorem c10_take_f {f P w : Int} {σ : aS} (h : FTc f P σ) : c10_take 2 w σ = some (0, [0], σ) := by
  unfold c10_take
  rw [h.2.1]; exact ite_n h.2.2.1 (ite_p (by omega) rfl)
theorem c10_take_p {b : Int → Int} {n P : Int} {σ : aS} (h : PKc b n P σ) (w : Int) :
    (kd b n P = w ∧ ∃ τ, c10_take 2 w σ = some (0, [1], τ) ∧ Fp wtq σ τ ∧ PKc b n (nxp b n P) τ) ∨ (kd b n P ≠ w ∧ ∃ τ, c10_take 2 w σ = some (0, [0], τ) ∧ Fp wtq σ τ ∧ FTc 1 P τ) := by
  unfold c10_take
  rw [h.2.1, if_pos rfl, h.kd.1]
  by_cases c : kd b n P = w
  · obtain ⟨τ, h1, h2, h3⟩ := c10_step_p h
    refine Or.inl ⟨c, τ, ?_, h2, h3⟩
    rw [if_pos c, h1, acall0_some, if_pos (by omega)]
  · obtain ⟨τ, h1, h2, h3⟩ := c10_refuse_p h (f := 1) (by omega)
    refine Or.inr ⟨c, τ, ?_, h2, h3⟩
    rw [if_neg c, h1, acall0_some, if_pos (by omega)]
/-- a number's fault -/
def pNum (b : Int → Int) (n lo hi P : Int) : Int := if kd b n P = 2 then (if vlt b n P < lo ∨ hi < vlt b n P then 2 else 0) else 1
theorem c10_takeNumber_f {f P lo hi : Int} {σ : aS} (h : FTc f P σ) : c10_takeNumber 2 lo hi σ = some (0, [-1], σ) := by
  unfold c10_takeNumber
  rw [h.2.1]; exact if_neg h.2.2.1
theorem c10_takeNumber_p {b : Int → Int} {n P : Int} {σ : aS} (h : PKc b n P σ) (lo hi : Int) :
    (pNum b n lo hi P = 0 ∧ (lo ≤ vlt b n P ∧ vlt b n P ≤ hi) ∧ ∃ τ, c10_takeNumber 2 lo hi σ = some (0, [vlt b n P], τ) ∧ Fp wtq σ τ ∧ PKc b n (nxp b n P) τ) ∨ (pNum b n lo hi P ≠ 0 ∧ ∃ τ, c10_takeNumber 2 lo hi σ = some (0, [-1], τ) ∧ Fp wtq σ τ ∧ FTc (pNum b n lo hi P) P τ) := by
  unfold c10_takeNumber pNum
  rw [h.2.1, if_pos rfl, h.kd.1, h.kd.2.1]
  by_cases c : kd b n P = 2
  · rw [if_pos c, if_pos c]
    by_cases d : vlt b n P < lo
    · obtain ⟨τ, h1, h2, h3⟩ := c10_refuse_p h (f := 2) (by omega)
      rw [if_pos (Or.inl d)]
      refine Or.inr ⟨by omega, τ, ?_, h2, h3⟩
      unfold c10_takeNumber_p40
      rw [if_pos d, h1, acall0_some]
    · by_cases e : hi < vlt b n P
      · obtain ⟨τ, h1, h2, h3⟩ := c10_refuse_p h (f := 2) (by omega)
        rw [if_pos (Or.inr e)]
        refine Or.inr ⟨by omega, τ, ?_, h2, h3⟩
        unfold c10_takeNumber_p40
        rw [if_neg d, if_pos e, h1, acall0_some]
      · obtain ⟨τ, h1, h2, h3⟩ := c10_step_p h
        rw [if_neg (fun q => q.elim d e)]
        refine Or.inl ⟨rfl, ⟨by omega, by omega⟩, τ, ?_, h2, h3⟩
        rw [if_neg d, if_neg e, h1, acall0_some]
  · obtain ⟨τ, h1, h2, h3⟩ := c10_refuse_p h (f := 1) (by omega)
    rw [if_neg c, if_neg c]
    refine Or.inr ⟨by omega, τ, ?_, h2, h3⟩
    rw [h1, acall0_some]
