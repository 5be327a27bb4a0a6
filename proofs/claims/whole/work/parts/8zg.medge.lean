/-! edge: the reference -/
def exN (N : aH) (t e : Int) : aH := stv N 1 t (N 1 t + e)
def edG (T N : aH) (t s e : Int) : Bool := decide (ff (fun b => !decide (b = t) && decide (0 < gai T (exN N t e) s t b)) (T 0 2 + 1) ≤ T 0 2)
def edR (T N : aH) (t s : Int) : Int := ff (edG T N t s) 1000
theorem gai_ex {T N : aH} {t s b e : Int} (t1 : t < T 0 2) (hb : b ≠ t) : gai T (exN N t e) s t b = gai T N s t b + 27720 * e := by
  unfold gai exN
  rw [ctn_stv (by omega), ctn_stv (by omega)]
  have ea : wrA T (stv N 1 t (N 1 t + e)) s t (ctn T N t) = wrA T N s t (ctn T N t) - 27720 * e := by
    unfold wrA wor ask
    rw [if_neg (show ¬ t = T 0 2 by omega), if_neg (show ¬ t = T 0 2 by omega), stv_s, stv_x (x' := 4) (by omega), stv_x (x' := 4) (by omega), stv_x (x' := 4) (by omega)]
    omega
  have eb : wrA T (stv N 1 t (N 1 t + e)) s b (adc (ctn T N b) s) = wrA T N s b (adc (ctn T N b) s) := by
    unfold wrA wor ask
    rw [stv_j hb, stv_x (x' := 4) (by omega), stv_x (x' := 4) (by omega), stv_x (x' := 4) (by omega)]
  rw [ea, eb]; omega
theorem edV_le {g e : Int} (e0 : 0 ≤ e) : edV g ≤ e ↔ 0 < g + 27720 * e := by
  unfold edV
  by_cases c : 0 < g
  · rw [if_pos c]; omega
  · rw [if_neg c, Int.tdiv_eq_ediv_of_nonneg (by omega)]; omega
theorem edM_sp {T N : aH} {t s : Int} : ∀ n : Nat, (edM T N t s n ≤ 1000 ∧ ∀ b : Nat, b < n → (b : Int) ≠ t → edM T N t s n ≤ edV (gai T N s t b)) ∧ (edM T N t s n = 1000 ∨ ∃ b : Nat, b < n ∧ (b : Int) ≠ t ∧ edM T N t s n = edV (gai T N s t b)) := by
  intro n
  induction n with
  | zero => exact ⟨⟨Int.le_refl _, fun b hb => by omega⟩, Or.inl rfl⟩
  | succ n ih =>
    have e : edM T N t s (n + 1) = if (n : Int) = t then edM T N t s n else if edV (gai T N s t n) < edM T N t s n then edV (gai T N s t n) else edM T N t s n := rfl
    obtain ⟨⟨i0, i1⟩, i2⟩ := ih
    rw [e]
    by_cases c : (n : Int) = t
    · rw [if_pos c]
      refine ⟨⟨i0, fun b hb hbt => ?_⟩, ?_⟩
      · by_cases d : b = n
        · rw [d] at hbt; exact absurd c hbt
        · exact i1 b (by omega) hbt
      · rcases i2 with i2 | ⟨b, b1, b2, b3⟩
        · exact Or.inl i2
        · exact Or.inr ⟨b, by omega, b2, b3⟩
    · rw [if_neg c]
      by_cases d : edV (gai T N s t n) < edM T N t s n
      · rw [if_pos d]
        refine ⟨⟨by omega, fun b hb hbt => ?_⟩, Or.inr ⟨n, by omega, c, rfl⟩⟩
        by_cases q : b = n
        · rw [q]; exact Int.le_refl _
        · have := i1 b (by omega) hbt; omega
      · rw [if_neg d]
        refine ⟨⟨i0, fun b hb hbt => ?_⟩, ?_⟩
        · by_cases q : b = n
          · rw [q]; omega
          · exact i1 b (by omega) hbt
        · rcases i2 with i2 | ⟨b, b1, b2, b3⟩
          · exact Or.inl i2
          · exact Or.inr ⟨b, by omega, b2, b3⟩
theorem edG_t {T N : aH} {t s e : Int} (t1 : t < T 0 2) (e0 : 0 ≤ e) (h2 : 0 ≤ T 0 2) : edG T N t s e = true ↔ ∃ b : Nat, b < (T 0 2 + 1).toNat ∧ (b : Int) ≠ t ∧ edV (gai T N s t b) ≤ e := by
  unfold edG
  rw [decide_eq_true_iff]
  have p0 := ff_0 (fun b => !decide (b = t) && decide (0 < gai T (exN N t e) s t b)) (n := T 0 2 + 1)
  refine ⟨fun q => ?_, fun ⟨b, b1, b2, b3⟩ => ?_⟩
  · have h := ff_at (P := fun b => !decide (b = t) && decide (0 < gai T (exN N t e) s t b)) (n := T 0 2 + 1) (by omega)
    rw [Bool.and_eq_true, decide_eq_true_iff] at h
    have hne : ff (fun b => !decide (b = t) && decide (0 < gai T (exN N t e) s t b)) (T 0 2 + 1) ≠ t := fun z => by
      have := h.1
      rw [decide_eq_true z] at this
      exact absurd this (by decide)
    refine ⟨(ff (fun b => !decide (b = t) && decide (0 < gai T (exN N t e) s t b)) (T 0 2 + 1)).toNat, by omega, by rw [Int.toNat_of_nonneg p0]; exact hne, ?_⟩
    rw [Int.toNat_of_nonneg p0, edV_le e0, ← gai_ex t1 hne]
    exact h.2
  · by_cases c : ff (fun b => !decide (b = t) && decide (0 < gai T (exN N t e) s t b)) (T 0 2 + 1) ≤ T 0 2
    · exact c
    · have h := ff_no (P := fun b => !decide (b = t) && decide (0 < gai T (exN N t e) s t b)) (n := T 0 2 + 1) (k := b) (by omega) (by omega)
      rw [edV_le e0, ← gai_ex t1 b2] at b3
      have h' : (!decide ((b : Int) = t) && decide (0 < gai T (exN N t e) s t b)) = false := h
      rw [decide_eq_false b2, decide_eq_true b3] at h'
      exact absurd h' (by decide)
theorem edR_eq {T N : aH} (hB : TB T) (hN : NB T N) {t s : Int} (t0 : 0 ≤ t) (t1 : t < T 0 2) (s0 : 0 ≤ s) (s1 : s < T 0 1) : edR T N t s = edM T N t s (T 0 2 + 1).toNat := by
  have h4 := hB.2.2.1
  have hb := edM_bd (T := T) (N := N) (t := t) (s := s) (fun b b0 b1 => by have := gai_bd hB hN s0 s1 t0 (by omega) b0 b1; omega) (T 0 2 + 1).toNat (by omega)
  obtain ⟨⟨i0, i1⟩, i2⟩ := edM_sp (T := T) (N := N) (t := t) (s := s) (T 0 2 + 1).toNat
  unfold edR
  refine ff_uniq hb.1 hb.2 (fun j j0 j1 => ?_) (fun q => ?_)
  · cases w : edG T N t s j with
    | false => rfl
    | true =>
      obtain ⟨b, b1, b2, b3⟩ := (edG_t t1 j0 (by omega)).1 w
      have := i1 b b1 b2
      omega
  · rcases i2 with z | ⟨b, b1, b2, b3⟩
    · omega
    · exact (edG_t t1 hb.1 (by omega)).2 ⟨b, b1, b2, by omega⟩
theorem ed_in {T N : aH} {σ : aS} (hM : MI T σ) {t s base e : Int} (hN : NB T (exN N t e)) (hS : MN T (exN N t e) σ) (t0 : 0 ≤ t) (t1 : t < T 0 2) (s0 : 0 ≤ s) (s1 : s < T 0 1) :
    ∃ τ, aloop 88 (aU7 c12_edge_b87) aBig [130, t, s, base, e, 0, 0] σ = some (134, [130, t, s, base, e, if edG T N t s e = true then 1 else 0], τ) ∧ Fr wwor σ τ := by
  have hB := hM.2.2
  have h4 := hB.2.2.1
  have p0 := ff_0 (fun b => !decide (b = t) && decide (0 < gai T (exN N t e) s t b)) (n := T 0 2 + 1)
  have pn := ff_n (fun b => !decide (b = t) && decide (0 < gai T (exN N t e) s t b)) (n := T 0 2 + 1) (by omega)
  have pat := ff_at (P := fun b => !decide (b = t) && decide (0 < gai T (exN N t e) s t b)) (n := T 0 2 + 1)
  have pno := fun k => ff_no (P := fun b => !decide (b = t) && decide (0 < gai T (exN N t e) s t b)) (n := T 0 2 + 1) (k := k)
  have eG : edG T N t s e = decide (ff (fun b => !decide (b = t) && decide (0 < gai T (exN N t e) s t b)) (T 0 2 + 1) ≤ T 0 2) := rfl
  generalize hx : ff (fun b => !decide (b = t) && decide (0 < gai T (exN N t e) s t b)) (T 0 2 + 1) = X at p0 pn pat pno eG
  have hal := al_I (c := 88) (B := aU7 c12_edge_b87) (n := T 0 2 + 1) (i := 0) (vs := [130, t, s, base, e, 0, 0]) (σ := σ)
    (fun k vs τ => 0 ≤ k ∧ Fr wwor σ τ ∧ ((vs = [130, t, s, base, e, 0, k] ∧ k ≤ X) ∨ (vs = [130, t, s, base, e, 1, k] ∧ X < k)))
    (fun r => ∃ τ, r = (134, [130, t, s, base, e, if edG T N t s e = true then 1 else 0], τ) ∧ Fr wwor σ τ) (by omega) (by omega) ⟨Int.le_refl _, Fr.rf _ _, Or.inl ⟨rfl, p0⟩⟩ ?_
  · obtain ⟨r, hr, τ, rfl, hF⟩ := hal
    exact ⟨τ, hr, hF⟩
  · have p125 : ∀ s0' k (τ : aS), 0 ≤ k → k ≤ T 0 2 → c12_edge_p125 s0' 130 t s base e k τ = some (88, [130, t, s, base, e, s0', k + 1], τ) := fun s0' k τ k0 k1 => by
      unfold c12_edge_p125; rw [wq (by omega) (by omega)]
    rintro k vs τ hk ⟨k0, hF, ⟨rfl, hX⟩ | ⟨rfl, hX⟩⟩
    · have hM2 : MI T τ := hM.fr hF (by decide +kernel) (wdj_spec (by decide +kernel))
      have hS2 := hS.wo hF
      have h14 := hM2.2.1.1.2.2.1
      by_cases c : k < T 0 2 + 1
      · by_cases d : k = t
        · refine Or.inl ⟨c, [130, t, s, base, e, 0, k + 1], τ, ?_, by omega, hF, Or.inl ⟨rfl, ?_⟩⟩
          · show c12_edge_b87 130 t s base e 0 k τ = _
            unfold c12_edge_b87
            rw [h14]
            exact ite_n (by omega) (ite_p rfl (ite_p d (by unfold c12_edge_p124; exact p125 0 k τ k0 (by omega))))
          · by_cases q : X = k
            · have := pat (by omega)
              rw [q, Bool.and_eq_true, decide_eq_true d] at this
              exact absurd this.1 (by decide)
            · omega
        · obtain ⟨υ, hg, hF2⟩ := c12_gainOf_ok hM2 hN hS2 s0 s1 t0 (show t ≤ T 0 2 by omega) k0 (show k ≤ T 0 2 by omega)
          by_cases q : 0 < gai T (exN N t e) s t k
          · have hXk : X = k := by
              by_cases w : k < X
              · have h' : (!decide (k = t) && decide (0 < gai T (exN N t e) s t k)) = false := pno k k0 w
                rw [decide_eq_false d, decide_eq_true q] at h'
                exact absurd h' (by decide)
              · omega
            refine Or.inl ⟨c, [130, t, s, base, e, 1, k + 1], υ, ?_, by omega, hF.tr hF2, Or.inr ⟨rfl, by omega⟩⟩
            show c12_edge_b87 130 t s base e 0 k τ = _
            unfold c12_edge_b87
            rw [h14]
            exact ite_n (by omega) (ite_p rfl (ite_n d (acall1_h hg (ite_p (by rw [acmp_p]; exact q) (p125 1 k υ k0 (by omega))))))
          · refine Or.inl ⟨c, [130, t, s, base, e, 0, k + 1], υ, ?_, by omega, hF.tr hF2, Or.inl ⟨rfl, ?_⟩⟩
            · show c12_edge_b87 130 t s base e 0 k τ = _
              unfold c12_edge_b87
              rw [h14]
              exact ite_n (by omega) (ite_p rfl (ite_n d (acall1_h hg (ite_n (by rw [acmp_p]; exact q) (by unfold c12_edge_p124; exact p125 0 k υ k0 (by omega))))))
            · by_cases w : X = k
              · have := pat (by omega)
                rw [w, Bool.and_eq_true, decide_eq_true_iff] at this
                exact absurd this.2 q
              · omega
      · refine Or.inr ⟨(134, [130, t, s, base, e, if edG T N t s e = true then 1 else 0], τ), ?_, Nat.ne_of_beq_eq_false rfl, τ, rfl, hF⟩
        show c12_edge_b87 130 t s base e 0 k τ = _
        unfold c12_edge_b87
        rw [h14, eG, if_neg (show ¬ decide (X ≤ T 0 2) = true by rw [decide_eq_true_iff]; omega)]
        exact ite_p (by omega) rfl
    · have hM2 : MI T τ := hM.fr hF (by decide +kernel) (wdj_spec (by decide +kernel))
      have h14 := hM2.2.1.1.2.2.1
      refine Or.inr ⟨(134, [130, t, s, base, e, if edG T N t s e = true then 1 else 0], τ), ?_, Nat.ne_of_beq_eq_false rfl, τ, rfl, hF⟩
      show c12_edge_b87 130 t s base e 1 k τ = _
      unfold c12_edge_b87
      rw [h14, eG, if_pos (show decide (X ≤ T 0 2) = true by rw [decide_eq_true_iff]; omega)]
      by_cases c : T 0 2 < k
      · exact ite_p c rfl
      · exact ite_n c (ite_n (by omega) rfl)
def wed : List (Int × List Int) := [(156, []), (157, []), (158, []), (130, [54, 55, 56, 58])]
theorem MI.ed {T : aH} {σ τ : aS} (h : MI T σ) (hF : Fr wed σ τ) : MI T τ := h.fr hF (by decide +kernel) (wdj_spec (by decide +kernel))
theorem ed_out {T N : aH} {σ : aS} (hM : MI T σ) (hN : NB T N) (hX : NM N) (hS : MN T N σ) {t s : Int} (t0 : 0 ≤ t) (t1 : t < T 0 2) (s0 : 0 ≤ s) (s1 : s < T 0 1) :
    ∃ τ, aloop 62 (aU6 c12_edge_b61) aBig [130, t, s, N 1 t, 0, 0] σ = some (145, [130, t, N 1 t, edR T N t s], τ) ∧ Fr wed σ τ ∧ ∃ v, MN T (stv N 1 t v) τ := by
  have hB := hM.2.2
  have h4 := hB.2.2.1
  have hx := hX t t0 (by omega)
  have r0 := ff_0 (edG T N t s) (n := 1000)
  have rn := ff_n (edG T N t s) (n := 1000) (by omega)
  have rat := ff_at (P := edG T N t s) (n := 1000)
  have rno := fun k => ff_no (P := edG T N t s) (n := 1000) (k := k)
  unfold edR
  generalize ff (edG T N t s) 1000 = E at r0 rn rat rno
  have hal := al_I (c := 62) (B := aU6 c12_edge_b61) (n := 1000) (i := 0) (vs := [130, t, s, N 1 t, 0, 0]) (σ := σ)
    (fun k vs τ => 0 ≤ k ∧ Fr wed σ τ ∧ (∃ v, MN T (stv N 1 t v) τ) ∧ ((vs = [130, t, s, N 1 t, k, 0] ∧ k ≤ E) ∨ (vs = [130, t, s, N 1 t, E, 1] ∧ E < k)))
    (fun r => ∃ τ, r = (145, [130, t, N 1 t, E], τ) ∧ Fr wed σ τ ∧ ∃ v, MN T (stv N 1 t v) τ) (by omega) (by omega) ⟨Int.le_refl _, Fr.rf _ _, ⟨N 1 t, by rw [stv_id]; exact hS⟩, Or.inl ⟨rfl, r0⟩⟩ ?_
  · obtain ⟨r, hr, τ, rfl, h1, h2⟩ := hal
    exact ⟨τ, hr, h1, h2⟩
  · rintro k vs τ hk ⟨k0, hF, ⟨v, hSt⟩, ⟨rfl, hE⟩ | ⟨rfl, hE⟩⟩
    · have hM2 := hM.ed hF
      have hL := hM2.1
      by_cases c : k < 1000
      · have f1 : Fr wed τ (aput τ 156 t (N 1 t + k)) := (Fr.rf _ _).put _ rfl
        have hS1 : MN T (exN N t k) (aput τ 156 t (N 1 t + k)) := by
          have := hSt.st1 t (N 1 t + k)
          rw [stv_v] at this; exact this
        obtain ⟨υ, hl, hF2⟩ := ed_in (N := N) (base := N 1 t) (hM2.ed f1) (hN.st1 t1 (show -3000 ≤ N 1 t + k by omega) (show N 1 t + k ≤ 3000 by omega)) hS1 t0 t1 s0 s1
        have hFu : Fr wed σ υ := hF.tr (f1.tr (hF2.mono rfl))
        have hSu : MN T (exN N t k) υ := hS1.wo hF2
        have hb : ∀ f, (if edG T N t s k = true then (1 : Int) else 0) = f → aU6 c12_edge_b61 [130, t, s, N 1 t, k, 0] τ = c12_edge_p133 130 t s (N 1 t) k f υ := fun f hf => by
          show c12_edge_b61 130 t s (N 1 t) k 0 τ = _
          unfold c12_edge_b61
          rw [r_130_52 hL, n_156 hL, wq (x := N 1 t + k) (by omega) (by omega)]
          refine ite_p c (ite_p rfl (ite_n (by omega) (ite_p (by omega) ?_)))
          unfold c12_edge_l87
          rw [hl, hf]; rfl
        by_cases q : edG T N t s k = true
        · have hEk : E = k := by
            by_cases w : k < E
            · rw [rno k k0 w] at q; cases q
            · omega
          refine Or.inl ⟨c, [130, t, s, N 1 t, E, 1], υ, ?_, by omega, hFu, ⟨_, hSu⟩, Or.inr ⟨rfl, by omega⟩⟩
          rw [hb 1 (if_pos q)]
          unfold c12_edge_p133
          rw [hEk]
          exact ite_n (by omega) rfl
        · refine Or.inl ⟨c, [130, t, s, N 1 t, k + 1, 0], υ, ?_, by omega, hFu, ⟨_, hSu⟩, Or.inl ⟨rfl, ?_⟩⟩
          · rw [hb 0 (if_neg q)]
            unfold c12_edge_p133
            rw [wq (by omega) (by omega)]
            exact ite_p rfl rfl
          · by_cases w : E = k
            · have := rat (by omega)
              rw [w] at this; exact absurd this q
            · omega
      · have he : k = E := by omega
        refine Or.inr ⟨(145, [130, t, N 1 t, E], τ), ?_, Nat.ne_of_beq_eq_false rfl, τ, rfl, hF, v, hSt⟩
        show c12_edge_b61 130 t s (N 1 t) k 0 τ = _
        unfold c12_edge_b61
        rw [he]
        exact ite_n (by omega) rfl
    · refine Or.inr ⟨(145, [130, t, N 1 t, E], τ), ?_, Nat.ne_of_beq_eq_false rfl, τ, rfl, hF, v, hSt⟩
      show c12_edge_b61 130 t s (N 1 t) E 1 τ = _
      unfold c12_edge_b61
      exact ite_p (by omega) (ite_n (by omega) rfl)
def aEdge (T N : aH) (t s : Int) : Int :=
  if 0 ≤ t ∧ t < T 0 2 then (if 0 ≤ s ∧ s < T 0 1 then (if N 0 (5 * s + t) = 0 then -1 else edE T N t s) else -1) else -1
theorem c12_edge_q {T N : aH} {σ : aS} (hM : MI T σ) (hN : NB T N) (hX : NM N) (hS : MN T N σ) (t s : Int) : AnsM T N σ (c12_edge 130 t s σ) (aEdge T N t s) := by
  have hM0 := hM.t2
  have hS0 := hS.t2
  have hB := hM.2.2
  have h5 := hB.2.1
  have h4 := hB.2.2.1
  have hL := hM0.1
  unfold c12_edge aEdge
  refine AnsM.chk (c12_isTown_ok hM0 t) (fun ht => ?_) (fun _ => AnsM.k (st2_q σ) hS.t2 rfl)
  refine AnsM.chk (c12_isSort_ok hM0 s) (fun hs => ?_) (fun _ => AnsM.k (st2_q σ) hS.t2 rfl)
  rw [r_130_51 hL, n_155 hL, w5 (by omega) (by omega) (by omega) (by omega), if_neg (by omega), if_pos (by omega), hS0.1 _ _ hs.1 hs.2 ht.1 (by omega)]
  refine AnsM.ite (fun _ => AnsM.k (st2_q σ) hS0 rfl) (fun _ => ?_)
  rw [c12_isFast_ok hM0 hN hS0 ht.1, acall1_some]
  unfold edE
  refine AnsM.ite (fun hb => ?_) (fun hb => AnsM.k (st2_q σ) hS0 rfl)
  obtain ⟨τ, h1, hF, v, hSv⟩ := ed_out hM0 hN hX hS0 ht.1 ht.2 hs.1 hs.2
  have hM2 := hM0.ed hF
  rw [r_130_52 hL, n_156 hL, if_neg (by omega), if_pos (by omega), hS0.2.1 t ht.1 (by omega), ← edR_eq hB hN ht.1 ht.2 hs.1 hs.2]
  unfold c12_edge_l61
  rw [h1]
  show AnsM T N σ (c12_edge_p144 130 t (N 1 t) (edR T N t s) τ) _
  unfold c12_edge_p144
  rw [r_130_52 hM2.1, n_156 hM2.1, if_neg (by omega), if_pos (by omega)]
  have hS3 := hSv.st1 t (N 1 t)
  rw [stv_v, stv_id] at hS3
  have f3 : Fr wed τ (aput τ 156 t (N 1 t)) := (Fr.rf _ _).put _ rfl
  exact AnsM.k ((st2_q σ).tr ((hF.tr f3).mono rfl)) hS3 rfl
