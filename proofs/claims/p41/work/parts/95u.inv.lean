/-! the class's half of whole's part of this name -/
def I2 (T : aH) : Prop := ∀ g, 0 ≤ g → g < T 0 0 → 0 ≤ T 1 g ∧ T 1 g ≤ 999
def I3 (T : aH) : Prop :=
  (∀ s, 0 ≤ s → s < T 0 1 → (1 ≤ T 2 (4 * s) ∧ T 2 (4 * s) ≤ 6) ∧ (0 ≤ T 2 (4 * s + 1) ∧ T 2 (4 * s + 1) ≤ 99) ∧ (0 ≤ T 2 (4 * s + 2) ∧ T 2 (4 * s + 2) ≤ 999) ∧ (0 ≤ T 2 (4 * s + 3) ∧ T 2 (4 * s + 3) ≤ 99)) ∧
  (∀ s, T 0 1 ≤ s → s < 5 → T 2 (4 * s) = 0) ∧ szf (hsf T) = T 0 3
def I4 (T : aH) : Prop :=
  (∀ j, 0 ≤ j → j < 25 → 0 ≤ T 3 j ∧ T 3 j ≤ 99) ∧ (∀ j, 0 ≤ j → j < 25 → -20 ≤ T 4 j ∧ T 4 j ≤ 20) ∧
  (∀ j, 5 * T 0 1 ≤ j → j < 25 → T 3 j = 0 ∧ T 4 j = 0 ∧ T 20 j = 0 ∧ T 21 j = 0)
def I7 (T : aH) : Prop :=
  (∀ t, 0 ≤ t → t < 4 → (0 ≤ T 6 t ∧ T 6 t ≤ 1) ∧ (0 ≤ T 12 t ∧ T 12 t ≤ 6) ∧ (0 ≤ T 13 t ∧ T 13 t ≤ 6) ∧ (T 12 t = 0 → T 13 t = 0) ∧ (∀ y, 0 ≤ y → y < T 13 t → 0 ≤ T 14 (6 * t + y) ∧ T 14 (6 * t + y) < p2 (T 12 t)) ∧ (0 ≤ T 23 t ∧ T 23 t ≤ 1)) ∧
  (∀ t, T 0 2 ≤ t → t < 4 → T 5 t = 0 ∧ T 6 t = 0 ∧ T 12 t = 0 ∧ T 23 t = 0)
def stk1 (v : Int) : Prop := (0 ≤ v ∧ v ≤ 1004) ∨ v = 2000 ∨ v = 3042 ∨ v = 3043 ∨ v = 3045 ∨ v = 3047
def I8 (T : aH) : Prop :=
  (∀ t, 0 ≤ t → t < T 0 2 → 0 ≤ T 9 t ∧ T 9 t < T 10 t ∧ T 10 t ≤ T 24 0) ∧ (∀ k, 0 ≤ k → k < T 24 0 → stk1 (T 8 k)) ∧ T 24 0 = T 0 4
def TI (T : aH) : Prop := BTk T ∧ I2 T ∧ I3 T ∧ I4 T ∧ (0 ≤ T 0 5 ∧ T 0 5 ≤ 99) ∧ BGk T ∧ I7 T ∧ I8 T
theorem I2.cg {T U : aH} (h : I2 T) (e0 : U 0 0 = T 0 0) (e1 : ∀ i, U 1 i = T 1 i) : I2 U := fun g => by rw [e0, e1]; exact h g
theorem hsf_cg {T U : aH} (e0 : U 0 1 = T 0 1) (e1 : ∀ i, U 2 i = T 2 i) : hsf U = hsf T := by
  unfold hsf
  funext s
  rw [e0, e1]
theorem I3.cg {T U : aH} (h : I3 T) (e0 : U 0 1 = T 0 1) (e3 : U 0 3 = T 0 3) (e1 : ∀ i, U 2 i = T 2 i) : I3 U :=
  ⟨fun s => by rw [e0, e1, e1, e1, e1]; exact h.1 s, fun s => by rw [e0, e1]; exact h.2.1 s, by rw [hsf_cg e0 e1, e3]; exact h.2.2⟩
theorem I4.cg {T U : aH} (h : I4 T) (e0 : U 0 1 = T 0 1) (e3 : ∀ i, U 3 i = T 3 i) (e4 : ∀ i, U 4 i = T 4 i) (e20 : ∀ i, U 20 i = T 20 i) (e21 : ∀ i, U 21 i = T 21 i) : I4 U :=
  ⟨fun j => by rw [e3]; exact h.1 j, fun j => by rw [e4]; exact h.2.1 j, fun j => by rw [e0, e3, e4, e20, e21]; exact h.2.2 j⟩
theorem BGk.cg {T U : aH} (h : BGk T) (e0 : U 0 0 = T 0 0) (e5 : ∀ i, U 5 i = T 5 i) : BGk U := fun t => by rw [e0, e5]; exact h t
theorem I7.cg {T U : aH} (h : I7 T) (e0 : U 0 2 = T 0 2) (e : ∀ a, (a = 5 ∨ a = 6 ∨ a = 12 ∨ a = 13 ∨ a = 14 ∨ a = 23) → ∀ i, U a i = T a i) : I7 U :=
  ⟨fun t => by rw [e 6 (by omega), e 12 (by omega), e 13 (by omega), e 23 (by omega)]; simp only [e 14 (by omega)]; exact h.1 t, fun t => by rw [e0, e 5 (by omega), e 6 (by omega), e 12 (by omega), e 23 (by omega)]; exact h.2 t⟩
theorem I8.cg {T U : aH} (h : I8 T) (e0 : U 0 2 = T 0 2) (e4 : U 0 4 = T 0 4) (e : ∀ a, (a = 8 ∨ a = 9 ∨ a = 10 ∨ a = 24) → ∀ i, U a i = T a i) : I8 U :=
  ⟨fun t => by rw [e0, e 9 (by omega), e 10 (by omega), e 24 (by omega)]; exact h.1 t, fun k => by rw [e 24 (by omega), e 8 (by omega)]; exact h.2.1 k, by rw [e 24 (by omega), e4]; exact h.2.2⟩
theorem TI.bf {T : aH} (h : TI T) : BFk T := fun s s0 s1 => by
  obtain ⟨-, -, h3, -⟩ := h
  by_cases c : s < T 0 1
  · have := (h3.1 s s0 c).1; exact ⟨by omega, fun q => by omega⟩
  · have := h3.2.1 s (by omega) s1; exact ⟨by omega, fun _ => this⟩
theorem TI.iv {T : aH} (h : TI T) (h22 : 0 ≤ T 22 0 ∧ T 22 0 ≤ 800) : IVc T :=
  ⟨h.1, h.bf, h.2.2.2.2.2.1, by have := h.2.2.2.2.2.2.2.2.2; have := h.1.2.2.2.2; omega, h22⟩
theorem lnG_I {b : Int → Int} {n P : Int} {T : aH} (h : TI T) (hz : (lnG b n P T).1 = 0) : TI (lnG b n P T).2.2 := by
  unfold lnG at hz ⊢
  by_cases c : (nwF b n T 0 5 P).1 = 0
  · rw [if_neg (fun q => q c)] at hz ⊢
    by_cases d : pNum b n 0 999 (nxp b n (nxp b n P)) = 0
    · rw [if_neg (fun q => q d)]
      have hv := pNum_bd d
      have h5 := nwF_2 c
      obtain ⟨hB, h2, h3, h4, h05, hG, h7, h8⟩ := h
      obtain ⟨U, hU⟩ : ∃ U, U = stv (nwT b n T 0 P) 1 (T 0 0) (vlt b n (nxp b n (nxp b n P))) := ⟨_, rfl⟩
      have e00 : U 0 0 = T 0 0 + 1 := by rw [hU, stv_x (by omega)]; unfold nwT; rw [stv_s]
      have eg : U 1 (T 0 0) = vlt b n (nxp b n (nxp b n P)) := by rw [hU, stv_s]
      have eo : ∀ g, g ≠ T 0 0 → U 1 g = T 1 g := fun g hg => by rw [hU, stv_j hg, nwT_x (by omega) (by omega)]
      have ex : ∀ a i, a ≠ 0 → a ≠ 1 → a ≠ 11 → U a i = T a i := fun a i a0 a1 a2 => by rw [hU, stv_x a1, nwT_x a0 a2]
      have en : ∀ i, i ≠ 0 → U 0 i = T 0 i := fun i hi => by rw [hU, stv_x (by omega), nwT_0 hi]
      have hBU : BTk U := by rw [hU]; exact (hB.nw (by omega) (by omega) h5 (fun q => by omega)).set (by omega)
      show TI (stv (nwT b n T 0 P) 1 (T 0 0) (vlt b n (nxp b n (nxp b n P))))
      rw [← hU]
      refine ⟨hBU, fun g g0 g1 => ?_, h3.cg (en 1 (by omega)) (en 3 (by omega)) (fun i => ex 2 i (by omega) (by omega) (by omega)), h4.cg (en 1 (by omega)) (fun i => ex 3 i (by omega) (by omega) (by omega)) (fun i => ex 4 i (by omega) (by omega) (by omega)) (fun i => ex 20 i (by omega) (by omega) (by omega)) (fun i => ex 21 i (by omega) (by omega) (by omega)), by rw [en 5 (by omega)]; exact h05, fun t t0 t1 => ?_, h7.cg (en 2 (by omega)) (fun a ha i => ex a i (by omega) (by omega) (by omega)), h8.cg (en 2 (by omega)) (en 4 (by omega)) (fun a ha i => ex a i (by omega) (by omega) (by omega))⟩
      · by_cases e : g = T 0 0
        · rw [e, eg]; exact hv
        · rw [eo g e]; exact h2 g g0 (by omega)
      · rw [ex 5 t (by omega) (by omega) (by omega), e00, p2_s hB.1.1]
        have := hG t t0 t1
        have := p2_pos (T 0 0)
        omega
    · rw [if_pos d] at hz; exact absurd hz d
  · rw [if_pos c] at hz; exact absurd hz c
theorem lnS_I {b : Int → Int} {n P : Int} {T : aH} (h : TI T) (hz : (lnS b n P T).1 = 0) : TI (lnS b n P T).2.2 := by
  unfold lnS at hz ⊢
  by_cases c : T 0 5 = 0
  · rw [if_neg (fun q => q c)] at hz ⊢
    by_cases d : pNum b n 2 99 (nxp b n P) = 0
    · rw [if_neg (fun q => q d)]
      have hv := pNum_bd d
      obtain ⟨hB, h2, h3, h4, h05, hG, h7, h8⟩ := h
      obtain ⟨U, hU⟩ : ∃ U, U = stv T 0 5 (vlt b n (nxp b n P)) := ⟨_, rfl⟩
      have e05 : U 0 5 = vlt b n (nxp b n P) := by rw [hU, stv_s]
      have ex : ∀ a i, a ≠ 0 → U a i = T a i := fun a i a0 => by rw [hU, stv_x a0]
      have en : ∀ i, i ≠ 5 → U 0 i = T 0 i := fun i hi => by rw [hU, stv_j hi]
      show TI (stv T 0 5 (vlt b n (nxp b n P)))
      rw [← hU]
      exact ⟨hB.of (fun i i0 i5 => en i (by omega)), h2.cg (en 0 (by omega)) (fun i => ex 1 i (by omega)), h3.cg (en 1 (by omega)) (en 3 (by omega)) (fun i => ex 2 i (by omega)), h4.cg (en 1 (by omega)) (fun i => ex 3 i (by omega)) (fun i => ex 4 i (by omega)) (fun i => ex 20 i (by omega)) (fun i => ex 21 i (by omega)), by rw [e05]; omega, hG.cg (en 0 (by omega)) (fun i => ex 5 i (by omega)), h7.cg (en 2 (by omega)) (fun a ha i => ex a i (by omega)), h8.cg (en 2 (by omega)) (en 4 (by omega)) (fun a ha i => ex a i (by omega))⟩
    · rw [if_pos d] at hz; exact absurd hz d
  · rw [if_pos c] at hz; exact absurd (show (3 : Int) = 0 from hz) (by decide)
theorem odF_bd {b : Int → Int} {n w P : Int} {T : aH} (w0 : 0 ≤ w) (w3 : w < 3) (h : odF b n T w P = 0) : 0 ≤ aNamed T w (vlt b n P) ∧ aNamed T w (vlt b n P) < T 0 w := by
  refine aNamed_bd (fun q => ?_) w0 w3
  unfold odF at h
  by_cases k3 : kd b n P ≠ 3
  · rw [if_pos k3] at h; omega
  · rw [if_neg k3, if_pos q] at h; omega
theorem lnL_I {b : Int → Int} {n P : Int} {T : aH} (h : TI T) (hz : (lnL b n P T).1 = 0) : TI (lnL b n P T).2.2 := by
  unfold lnL at hz ⊢
  by_cases c : odF b n T 1 (nxp b n P) = 0
  · rw [if_neg (fun q => q c)] at hz ⊢
    by_cases d : odF b n T 1 (nxp b n (nxp b n P)) = 0
    · rw [if_neg (fun q => q d)] at hz ⊢
      have g1 := odF_bd (by omega) (by omega) c
      have g2 := odF_bd (by omega) (by omega) d
      by_cases e : T 21 (lkI b n P T) = 0
      · rw [if_neg (fun q => q e)] at hz ⊢
        by_cases f : pNum b n 0 20 (lkP b n P) = 0
        · rw [if_neg (fun q => q f)]
          have hv := pNum_bd f
          obtain ⟨hB, h2, h3, h4, h05, hG, h7, h8⟩ := h
          have s5 := hB.2.1
          have hI : 0 ≤ lkI b n P T ∧ lkI b n P T < 5 * T 0 1 := by unfold lkI; omega
          have hV : -20 ≤ lkV b n P ∧ lkV b n P ≤ 20 := by unfold lkV; split <;> omega
          generalize lkI b n P T = k at hI
          generalize lkV b n P = v at hV
          obtain ⟨U, hU⟩ : ∃ U, U = stv (stv T 21 k 1) 4 k v := ⟨_, rfl⟩
          have ex : ∀ a i, a ≠ 21 → a ≠ 4 → U a i = T a i := fun a i a0 a1 => by rw [hU, stv_x a1, stv_x a0]
          have e4 : ∀ i, i ≠ k → U 4 i = T 4 i ∧ U 21 i = T 21 i := fun i hi => by rw [hU, stv_j hi, stv_x (show (4 : Int) ≠ 21 by omega), stv_x (show (21 : Int) ≠ 4 by omega), stv_j hi]; exact ⟨rfl, rfl⟩
          have e4k : U 4 k = v := by rw [hU, stv_s]
          show TI (stv (stv T 21 k 1) 4 k v)
          rw [← hU]
          refine ⟨hB.of (fun i i0 i5 => ex 0 i (by omega) (by omega)), h2.cg (ex 0 0 (by omega) (by omega)) (fun i => ex 1 i (by omega) (by omega)), h3.cg (ex 0 1 (by omega) (by omega)) (ex 0 3 (by omega) (by omega)) (fun i => ex 2 i (by omega) (by omega)), ⟨fun j => ?_, fun j j0 j1 => ?_, fun j j0 j1 => ?_⟩, by rw [ex 0 5 (by omega) (by omega)]; exact h05, hG.cg (ex 0 0 (by omega) (by omega)) (fun i => ex 5 i (by omega) (by omega)), h7.cg (ex 0 2 (by omega) (by omega)) (fun a ha i => ex a i (by omega) (by omega)), h8.cg (ex 0 2 (by omega) (by omega)) (ex 0 4 (by omega) (by omega)) (fun a ha i => ex a i (by omega) (by omega))⟩
          · rw [ex 3 j (by omega) (by omega)]; exact h4.1 j
          · by_cases q : j = k
            · rw [q, e4k]; exact hV
            · rw [(e4 j q).1]; exact h4.2.1 j j0 j1
          · rw [ex 0 1 (by omega) (by omega)] at j0
            rw [ex 3 j (by omega) (by omega), ex 20 j (by omega) (by omega), (e4 j (by omega)).1, (e4 j (by omega)).2]
            exact h4.2.2 j j0 j1
        · rw [if_pos f] at hz; exact absurd hz f
      · rw [if_pos e] at hz; exact absurd (show (3 : Int) = 0 from hz) (by decide)
    · rw [if_pos d] at hz; exact absurd hz d
  · rw [if_pos c] at hz; exact absurd hz c
