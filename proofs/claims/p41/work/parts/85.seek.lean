/-! the class's half of whole's part of this name -/
def plB (T N : aH) (g : Int → Int) (a : Int) : Int := ff (fun b => !decide (b = a) && pwB T N g a b) (T 0 2 + 1)
def plA (T N : aH) (g : Int → Int) : Int := ff (fun a => decide (bnd T N a = 0) && cvf (ctn T N a) g && decide (plB T N g a ≤ T 0 2)) (T 0 2 + 1)
theorem plB_0 (T N : aH) (g : Int → Int) (a : Int) : 0 ≤ plB T N g a := ff_0 _
theorem plB_n {T : aH} (N : aH) (g : Int → Int) (a : Int) (h : 0 ≤ T 0 2) : plB T N g a ≤ T 0 2 + 1 := ff_n _ (by omega)
theorem plB_no {T N : aH} {g : Int → Int} {a k : Int} (h0 : 0 ≤ k) (h1 : k < plB T N g a) : (!decide (k = a) && pwB T N g a k) = false := ff_no (P := fun b => !decide (b = a) && pwB T N g a b) h0 h1
theorem plB_at {T N : aH} {g : Int → Int} {a : Int} (h : plB T N g a ≤ T 0 2) : (!decide (plB T N g a = a) && pwB T N g a (plB T N g a)) = true := ff_at (P := fun b => !decide (b = a) && pwB T N g a b) (by unfold plB at h; omega)
theorem plA_0 (T N : aH) (g : Int → Int) : 0 ≤ plA T N g := ff_0 _
theorem plA_n {T : aH} (N : aH) (g : Int → Int) (h : 0 ≤ T 0 2) : plA T N g ≤ T 0 2 + 1 := ff_n _ (by omega)
theorem plA_no {T N : aH} {g : Int → Int} {k : Int} (h0 : 0 ≤ k) (h1 : k < plA T N g) : (decide (bnd T N k = 0) && cvf (ctn T N k) g && decide (plB T N g k ≤ T 0 2)) = false := ff_no (P := fun a => decide (bnd T N a = 0) && cvf (ctn T N a) g && decide (plB T N g a ≤ T 0 2)) h0 h1
theorem plA_at {T N : aH} {g : Int → Int} (h : plA T N g ≤ T 0 2) : (decide (bnd T N (plA T N g) = 0) && cvf (ctn T N (plA T N g)) g && decide (plB T N g (plA T N g) ≤ T 0 2)) = true := ff_at (P := fun a => decide (bnd T N a = 0) && cvf (ctn T N a) g && decide (plB T N g a ≤ T 0 2)) (by unfold plA at h; omega)
theorem cvf_PA {T N : aH} {g : Int → Int} {a : Int} (hB : TB T) (hg : BF T g) (h : cvf (ctn T N a) g = true) : PA T N g a := by
  have h5 := hB.2.1
  refine ⟨fun s s0 s1 => ?_, hg.2⟩
  have h1 := cvf_iff.mp h s s0 (by omega)
  rw [ctn_in N a s0 s1] at h1
  exact ⟨(hg.1 s s0 (by omega)).1, h1⟩
theorem sp_b {pl : Int} {T N : aH} {σ : aS} (hC : CI pl T σ) (hN : NB T N) {sc : Int} (hs : SH sc) (hS : SC T N sc σ) (hR : RE N σ) {g : Int → Int} {a : Int} (a0 : 0 ≤ a) (a1 : a ≤ T 0 2) (h : PA T N g a) :
    c7_seekPlaces_l29 8 sc (pk5 g) a 0 σ = if plB T N g a ≤ T 0 2 then some (60, [8, a, plB T N g a], σ) else some (3, [8, sc, pk5 g, a + 1], σ) := by
  have hB := hC.2.2.2.2.2
  have h4 := hB.2.2.1
  have hp := hC.2.1
  have q := hC.2.2.1.1
  have hal := c4_alone_ok hC
  have n0 := plB_0 T N g a
  have n1 := plB_n N g a h4.1
  have body : ∀ b, 0 ≤ b → b ≤ T 0 2 → aU5 c7_seekPlaces_b29 [8, sc, pk5 g, a, b] σ = if (!decide (b = a) && pwB T N g a b) = true then some (60, [8, a, b], σ) else some (30, [8, sc, pk5 g, a, b + 1], σ) := by
    intro b b0 b1
    by_cases e : b = a
    · subst e
      simp (disch := omega) only [aU5, c7_seekPlaces_b29, c7_seekPlaces_p72, ↓reduceIte, acall1_some, acall0_some, q_lt, q_nlt, q_le, q_nle, q_eq, q_ne, q_01, true_or, or_true, false_or, or_false, false_and, and_false, and_self, and_true, true_and, wq, wQ, alen_aput, ag_s, ag_x, ag_j, ag_e, q, hal]
      simp
    · have hw := c7_partyWould_ok hC hN hs hS hR a0 a1 b0 b1 (fun z => e z.symm) h
      cases hpw : pwB T N g a b with
      | true =>
        rw [hpw] at hw
        simp (disch := omega) only [aU5, c7_seekPlaces_b29, ↓reduceIte, acall1_some, acall0_some, q_lt, q_nlt, q_le, q_nle, q_eq, q_ne, q_01, true_or, or_true, false_or, or_false, false_and, and_false, and_self, and_true, true_and, wq, wQ, alen_aput, ag_s, ag_x, ag_j, ag_e, q, hal, hw]
        simp [e]
      | false =>
        rw [hpw] at hw
        simp (disch := omega) only [aU5, c7_seekPlaces_b29, c7_seekPlaces_p72, ↓reduceIte, acall1_some, acall0_some, q_lt, q_nlt, q_le, q_nle, q_eq, q_ne, q_01, true_or, or_true, false_or, or_false, false_and, and_false, and_self, and_true, true_and, wq, wQ, alen_aput, ag_s, ag_x, ag_j, ag_e, q, hal, hw]
        simp
  have hl := al_0 (c := 30) (B := aU5 c7_seekPlaces_b29) (fun k => [8, sc, pk5 g, a, k]) (fun _ => σ) (n := plB T N g a) (r := if plB T N g a ≤ T 0 2 then (60, [8, a, plB T N g a], σ) else (79, [8, sc, pk5 g, a], σ)) n0 (by omega) ?_ ?_ ?_
  · unfold c7_seekPlaces_l29
    rw [hl]
    by_cases c : plB T N g a ≤ T 0 2
    · simp only [if_pos c, abind, c7_seekPlaces_d29]; rfl
    · simp (disch := omega) only [if_neg c, abind, c7_seekPlaces_d29, if_true, aU4, c7_seekPlaces_p78, wq]
  · intro k k0 k1
    rw [body k k0 (by omega), if_neg (by rw [plB_no k0 k1]; decide)]
  · by_cases c : plB T N g a ≤ T 0 2
    · rw [if_pos c, body _ n0 c, if_pos (plB_at c)]
    · rw [if_neg c]
      simp (disch := omega) only [aU5, c7_seekPlaces_b29, ↓reduceIte, acall1_some, acall0_some, q_lt, q_nlt, q_le, q_nle, q_eq, q_ne, q_01, true_or, or_true, false_or, or_false, false_and, and_false, and_self, and_true, true_and, wq, wQ, alen_aput, ag_s, ag_x, ag_j, ag_e, q, hal]
  · split <;> (intro z; cases z)
theorem c7_seekPlaces_ok {pl : Int} {T N : aH} {σ : aS} (hC : CI pl T σ) (hN : NB T N) {sc : Int} (hs : SH sc) (hS : SC T N sc σ) (hR : RE N σ) {g : Int → Int} (hg : BF T g) :
    c7_seekPlaces 8 sc (pk5 g) σ = if plA T N g ≤ T 0 2 then some (0, [1], aput (aput σ 8 3 (plA T N g)) 8 4 (plB T N g (plA T N g))) else some (0, [0], σ) := by
  have hB := hC.2.2.2.2.2
  have h4 := hB.2.2.1
  have hp := hC.2.1
  have q := hC.2.2.1.1
  have hal := c4_alone_ok hC
  have n0 := plA_0 T N g
  have n1 := plA_n N g h4.1
  have body : ∀ a, 0 ≤ a → a ≤ T 0 2 → aU4 c7_seekPlaces_b2 [8, sc, pk5 g, a] σ = if (decide (bnd T N a = 0) && cvf (ctn T N a) g && decide (plB T N g a ≤ T 0 2)) = true then some (60, [8, a, plB T N g a], σ) else some (3, [8, sc, pk5 g, a + 1], σ) := by
    intro a a0 a1
    have hcl := c7_canLeave_ok hC hN hS hg a0 a1
    by_cases c : bnd T N a = 0 ∧ cvf (ctn T N a) g = true
    · have hb := sp_b hC hN hs hS hR a0 a1 (cvf_PA hB hg c.2)
      rw [if_pos c] at hcl
      rw [c.2, decide_eq_true c.1]
      simp (disch := omega) only [aU4, c7_seekPlaces_b2, ↓reduceIte, acall1_some, acall0_some, q_lt, q_nlt, q_le, q_nle, q_eq, q_ne, q_01, true_or, or_true, false_or, or_false, false_and, and_false, and_self, and_true, true_and, wq, wQ, alen_aput, ag_s, ag_x, ag_j, ag_e, q, hal, hcl, hb]
      by_cases d : plB T N g a ≤ T 0 2
      · simp [d]
      · simp [d]
    · rw [if_neg c] at hcl
      simp (disch := omega) only [aU4, c7_seekPlaces_b2, c7_seekPlaces_p78, ↓reduceIte, acall1_some, acall0_some, q_lt, q_nlt, q_le, q_nle, q_eq, q_ne, q_01, true_or, or_true, false_or, or_false, false_and, and_false, and_self, and_true, true_and, wq, wQ, alen_aput, ag_s, ag_x, ag_j, ag_e, q, hal, hcl]
      rw [if_neg]
      intro z
      simp only [Bool.and_eq_true, decide_eq_true_iff] at z
      exact c z.1
  have hl := al_0 (c := 3) (B := aU4 c7_seekPlaces_b2) (fun k => [8, sc, pk5 g, k]) (fun _ => σ) (n := plA T N g) (r := if plA T N g ≤ T 0 2 then (60, [8, plA T N g, plB T N g (plA T N g)], σ) else (0, [0], σ)) n0 (by omega) ?_ ?_ ?_
  · unfold c7_seekPlaces c7_seekPlaces_l2
    rw [hl]
    by_cases c : plA T N g ≤ T 0 2
    · simp only [if_pos c, abind, c7_seekPlaces_d2, if_true, aU3, c7_seekPlaces_p59, ↓reduceIte, acall1_some, acall0_some, q_lt, q_nlt, q_le, q_nle, q_eq, q_ne, q_01, true_or, or_true, false_or, or_false, false_and, and_false, and_self, and_true, true_and, wq, wQ, alen_aput, ag_s, ag_x, ag_j, ag_e]
    · simp only [if_neg c, abind, c7_seekPlaces_d2]; rfl
  · intro k k0 k1
    rw [body k k0 (by omega), if_neg (by rw [plA_no k0 k1]; decide)]
  · by_cases c : plA T N g ≤ T 0 2
    · rw [if_pos c, body _ n0 c, if_pos (plA_at c)]
    · rw [if_neg c]
      simp (disch := omega) only [aU4, c7_seekPlaces_b2, ↓reduceIte, acall1_some, acall0_some, q_lt, q_nlt, q_le, q_nle, q_eq, q_ne, q_01, true_or, or_true, false_or, or_false, false_and, and_false, and_self, and_true, true_and, wq, wQ, alen_aput, ag_s, ag_x, ag_j, ag_e, q, hal]
  · split <;> (intro z; cases z)
/-- the j-th number from the greatest on is a party of so many that would go -/
def pnB (T N : aH) (z j : Int) : Bool := decide (szf (crf T (crw T - 1 - j)) = z) && decide (plA T N (crf T (crw T - 1 - j)) ≤ T 0 2)
def pnJ (T N : aH) (z : Int) : Int := ff (pnB T N z) (crw T - 1)
/-- the least size, less 1 -/
def pnZ (T N : aH) (m : Int) : Int := ff (fun z => decide (pnJ T N (z + 1) < crw T - 1)) m
/-- the first party -/
def pnG (T N : aH) (m : Int) : Int → Int := crf T (crw T - 1 - pnJ T N (pnZ T N m + 1))
def wpt (x j : Int) : Prop := x = 8 ∧ 2 ≤ j ∧ j ≤ 4
set_option maxHeartbeats 4000000 in
theorem pn_in {pl : Int} {T N : aH} {σ : aS} (hC : CI pl T σ) (hN : NB T N) {sc : Int} (hs : SH sc) (hS : SC T N sc σ) (hR : RE N σ) {m z : Int} (z0 : 1 ≤ z) (z1 : z ≤ 12) :
    ∃ τ, c7_seekParty_l18 8 sc m z (crw T - 1) σ = (if pnJ T N z < crw T - 1 then some (54, [8, pk5 (crf T (crw T - 1 - pnJ T N z))], τ) else some (3, [8, sc, m, z + 1], τ)) ∧ Fp wpt σ τ ∧
      (pnJ T N z < crw T - 1 → aget τ 8 3 = plA T N (crf T (crw T - 1 - pnJ T N z)) ∧ aget τ 8 4 = plB T N (crf T (crw T - 1 - pnJ T N z)) (plA T N (crf T (crw T - 1 - pnJ T N z)))) := by
  have hB := hC.2.2.2.2.2
  have hL := hC.1
  have hcl := crw_le hB
  have hcp := (wt_pos hB).2.2.2.2
  have n0 : 0 ≤ pnJ T N z := ff_0 _
  have n1 : pnJ T N z ≤ crw T - 1 := ff_n _ (by omega)
  have body : ∀ j, 0 ≤ j → j < crw T - 1 → ∃ τ, aU5 c7_seekParty_b18 [8, sc, m, z, crw T - 1 - j] σ = (if pnB T N z j = true then some (54, [8, pk5 (crf T (crw T - 1 - j))], τ) else some (19, [8, sc, m, z, crw T - 1 - (j + 1)], τ)) ∧
      (pnB T N z j = false → τ = σ) ∧ (pnB T N z j = true → τ = aput (aput σ 8 3 (plA T N (crf T (crw T - 1 - j)))) 8 4 (plB T N (crf T (crw T - 1 - j)) (plA T N (crf T (crw T - 1 - j))))) := by
    intro j j0 j1
    obtain ⟨hf, -⟩ := crf_BF hB (n := crw T - 1 - j) (by omega) (by omega)
    have hcn := c3_crewOfNumber_ok hC (n := crw T - 1 - j) (by omega) (by omega)
    have hsz := c11_sizeOf_ok (hf.b7 hB) σ
    unfold pnB
    by_cases e : szf (crf T (crw T - 1 - j)) = z
    · have hpl := c7_seekPlaces_ok hC hN hs hS hR hf
      by_cases d : plA T N (crf T (crw T - 1 - j)) ≤ T 0 2
      · rw [if_pos d] at hpl
        refine ⟨aput (aput σ 8 3 (plA T N (crf T (crw T - 1 - j)))) 8 4 (plB T N (crf T (crw T - 1 - j)) (plA T N (crf T (crw T - 1 - j)))), ?_, (by intro h; rw [decide_eq_true e, decide_eq_true d] at h; cases h), fun _ => rfl⟩
        rw [decide_eq_true e, decide_eq_true d]
        simp (disch := omega) only [aU5, c7_seekParty_b18, ↓reduceIte, acall1_some, acall0_some, q_lt, q_nlt, q_le, q_nle, q_eq, q_ne, q_01, true_or, or_true, false_or, or_false, false_and, and_false, and_self, and_true, true_and, wq, wQ, alen_aput, ag_s, ag_x, ag_j, ag_e, r_8_8 hL, r_9_0 hL, r_9_2 hL, r_9_3 hL, r_9_4 hL, n_10 hL, n_11 hL, n_12 hL, n_13 hL, hcn, hsz, e, hpl, Bool.and_self]
      · rw [if_neg d] at hpl
        refine ⟨σ, ?_, fun _ => rfl, (by intro h; rw [decide_eq_false d, Bool.and_false] at h; cases h)⟩
        rw [decide_eq_false d, Bool.and_false]
        simp (disch := omega) only [aU5, c7_seekParty_b18, c7_seekParty_p61, ↓reduceIte, acall1_some, acall0_some, q_lt, q_nlt, q_le, q_nle, q_eq, q_ne, q_01, true_or, or_true, false_or, or_false, false_and, and_false, and_self, and_true, true_and, wq, wQ, alen_aput, ag_s, ag_x, ag_j, ag_e, r_8_8 hL, r_9_0 hL, r_9_2 hL, r_9_3 hL, r_9_4 hL, n_10 hL, n_11 hL, n_12 hL, n_13 hL, hcn, hsz, e, hpl]
        rw [show crw T - 1 - j + -1 = crw T - 1 - (j + 1) by omega]
        simp
    · refine ⟨σ, ?_, fun _ => rfl, (by intro h; rw [decide_eq_false e] at h; cases h)⟩
      rw [decide_eq_false e, Bool.false_and]
      simp (disch := omega) only [aU5, c7_seekParty_b18, c7_seekParty_p61, ↓reduceIte, acall1_some, acall0_some, q_lt, q_nlt, q_le, q_nle, q_eq, q_ne, q_01, true_or, or_true, false_or, or_false, false_and, and_false, and_self, and_true, true_and, wq, wQ, alen_aput, ag_s, ag_x, ag_j, ag_e, r_8_8 hL, r_9_0 hL, r_9_2 hL, r_9_3 hL, r_9_4 hL, n_10 hL, n_11 hL, n_12 hL, n_13 hL, hcn, hsz]
      rw [show crw T - 1 - j + -1 = crw T - 1 - (j + 1) by omega]
      simp
  have hal := al_I (c := 19) (B := aU5 c7_seekParty_b18) (n := pnJ T N z) (i := 0) (vs := [8, sc, m, z, crw T - 1]) (σ := σ)
    (fun k vs τ => 0 ≤ k ∧ vs = [8, sc, m, z, crw T - 1 - k] ∧ τ = σ)
    (fun r => ∃ τ, r = (if pnJ T N z < crw T - 1 then (54, [8, pk5 (crf T (crw T - 1 - pnJ T N z))], τ) else (68, [8, sc, m, z], τ)) ∧ Fp wpt σ τ ∧
      (pnJ T N z < crw T - 1 → aget τ 8 3 = plA T N (crf T (crw T - 1 - pnJ T N z)) ∧ aget τ 8 4 = plB T N (crf T (crw T - 1 - pnJ T N z)) (plA T N (crf T (crw T - 1 - pnJ T N z)))))
    n0 (by omega) ⟨Int.le_refl _, by rw [Int.sub_zero], rfl⟩ (by
      rintro k vs τ hk ⟨k0, rfl, rfl⟩
      by_cases hkn : k < pnJ T N z
      · obtain ⟨υ, h1, h2, h3⟩ := body k k0 (by omega)
        have z := ff_no (P := pnB T N z) (n := crw T - 1) k0 hkn
        rw [z] at h1
        exact Or.inl ⟨hkn, _, υ, h1, by omega, rfl, h2 z⟩
      · have hke : k = pnJ T N z := by omega
        by_cases c : pnJ T N z < crw T - 1
        · obtain ⟨υ, h1, h2, h3⟩ := body k k0 (by omega)
          have y : pnB T N z k = true := by rw [hke]; exact ff_at (P := pnB T N z) (n := crw T - 1) c
          rw [y, if_pos rfl] at h1
          have h4 := h3 y
          subst h4
          refine Or.inr ⟨_, h1, Nat.ne_of_beq_eq_false rfl, _, by rw [if_pos c, ← hke], ((Fp.rf _ _).put _ ⟨rfl, by omega, by omega⟩).put _ ⟨rfl, by omega, by omega⟩, fun _ => ⟨by rw [ag_j (by omega), ag_s, ← hke], by rw [ag_s, ← hke]⟩⟩
        · refine Or.inr ⟨(68, [8, sc, m, z], τ), ?_, Nat.ne_of_beq_eq_false rfl, τ, by rw [if_neg c], Fp.rf _ _, fun h => absurd h c⟩
          simp (disch := omega) only [aU5, c7_seekParty_b18, ↓reduceIte, acall1_some, acall0_some, q_lt, q_nlt, q_le, q_nle, q_eq, q_ne, q_01, true_or, or_true, false_or, or_false, false_and, and_false, and_self, and_true, true_and, wq, wQ, alen_aput, ag_s, ag_x, ag_j, ag_e])
  obtain ⟨r, hr, τ, hQ, h1, h2⟩ := hal
  refine ⟨τ, ?_, h1, h2⟩
  unfold c7_seekParty_l18
  rw [hr, hQ]
  by_cases c : pnJ T N z < crw T - 1
  · simp only [if_pos c, abind, c7_seekParty_d18]; rfl
  · simp (disch := omega) only [if_neg c, abind, c7_seekParty_d18, if_true, aU4, c7_seekParty_p67, wq]
set_option maxHeartbeats 4000000 in
theorem c7_seekParty_ok {pl : Int} {T N : aH} {σ : aS} (hC : CI pl T σ) (hN : NB T N) {sc : Int} (hs : SH sc) (hS : SC T N sc σ) (hR : RE N σ) {m : Int} (m0 : 1 ≤ m) (m1 : m ≤ 12) :
    ∃ τ, c7_seekParty 8 sc m σ = some (0, [if pnZ T N m < m then 1 else 0], τ) ∧ Fp wpt σ τ ∧
      (pnZ T N m < m → aget τ 8 2 = pk5 (pnG T N m) ∧ aget τ 8 3 = plA T N (pnG T N m) ∧ aget τ 8 4 = plB T N (pnG T N m) (plA T N (pnG T N m))) := by
  have hsp := hs
  unfold SH at hsp
  have hB := hC.2.2.2.2.2
  have hcl := crw_le hB
  have hcp := (wt_pos hB).2.2.2.2
  have n0 : 0 ≤ pnZ T N m := ff_0 _
  have n1 : pnZ T N m ≤ m := ff_n _ (by omega)
  have hal := al_I (c := 3) (B := aU4 c7_seekParty_b2) (n := pnZ T N m) (i := 0) (vs := [8, sc, m, 1]) (σ := σ)
    (fun k vs τ => 0 ≤ k ∧ vs = [8, sc, m, k + 1] ∧ Fp wpt σ τ)
    (fun r => ∃ τ, r = (if pnZ T N m < m then (54, [8, pk5 (pnG T N m)], τ) else (0, [0], τ)) ∧ Fp wpt σ τ ∧ (pnZ T N m < m → aget τ 8 3 = plA T N (pnG T N m) ∧ aget τ 8 4 = plB T N (pnG T N m) (plA T N (pnG T N m))))
    n0 (by omega) ⟨Int.le_refl _, rfl, Fp.rf _ _⟩ (by
      rintro k vs τ hk ⟨k0, rfl, hF⟩
      have hC2 := hC.fp hF (by intro x j; unfold wpt wkc; omega)
      have hL2 := hC2.1
      have hcr2 := hC2.2.2.2.2.1.1.2.2.2.2.2
      by_cases hkm : k < m
      · have hS2 : SC T N sc τ := hS.fp hF (by intro j; unfold wpt; omega) (by intro j _; unfold wpt; omega)
        have hR2 := hR.fp hF (by unfold wpt; omega) (by unfold wpt; omega) (by unfold wpt; omega)
        obtain ⟨υ, h1, h2, h3⟩ := pn_in hC2 hN hs hS2 hR2 (m := m) (z := k + 1) (by omega) (by omega)
        by_cases hkn : k < pnZ T N m
        · have z := of_decide_eq_false (ff_no (P := fun z => decide (pnJ T N (z + 1) < crw T - 1)) (n := m) k0 hkn)
          rw [if_neg z] at h1
          refine Or.inl ⟨hkn, [8, sc, m, k + 1 + 1], υ, ?_, by omega, rfl, hF.tr h2⟩
          simp (disch := omega) only [aU4, c7_seekParty_b2, ↓reduceIte, acall1_some, acall0_some, q_lt, q_nlt, q_le, q_nle, q_eq, q_ne, q_01, true_or, or_true, false_or, or_false, false_and, and_false, and_self, and_true, true_and, wq, wQ, alen_aput, ag_s, ag_x, ag_j, ag_e, r_8_8 hL2, hcr2, h1]
        · have hke : k = pnZ T N m := by omega
          have z : pnJ T N (k + 1) < crw T - 1 := by
            have := of_decide_eq_true (ff_at (P := fun z => decide (pnJ T N (z + 1) < crw T - 1)) (n := m) (by unfold pnZ at hke; omega))
            rw [hke]; exact this
          rw [if_pos z] at h1
          refine Or.inr ⟨(54, [8, pk5 (pnG T N m)], υ), ?_, Nat.ne_of_beq_eq_false rfl, υ, by rw [if_pos (by omega)], hF.tr h2, fun _ => ?_⟩
          · unfold pnG
            rw [← hke]
            simp (disch := omega) only [aU4, c7_seekParty_b2, ↓reduceIte, acall1_some, acall0_some, q_lt, q_nlt, q_le, q_nle, q_eq, q_ne, q_01, true_or, or_true, false_or, or_false, false_and, and_false, and_self, and_true, true_and, wq, wQ, alen_aput, ag_s, ag_x, ag_j, ag_e, r_8_8 hL2, hcr2, h1]
          · have := h3 z
            unfold pnG
            rw [← hke]; exact this
      · refine Or.inr ⟨(0, [0], τ), ?_, Nat.ne_of_beq_eq_false rfl, τ, by rw [if_neg (by omega)], hF, fun h => by omega⟩
        simp (disch := omega) only [aU4, c7_seekParty_b2, ↓reduceIte, acall1_some, acall0_some, q_lt, q_nlt, q_le, q_nle, q_eq, q_ne, q_01, true_or, or_true, false_or, or_false, false_and, and_false, and_self, and_true, true_and, wq, wQ, alen_aput, ag_s, ag_x, ag_j, ag_e])
  obtain ⟨r, hr, τ, hQ, h1, h2⟩ := hal
  by_cases c : pnZ T N m < m
  · rw [if_pos c] at hQ
    refine ⟨aput τ 8 2 (pk5 (pnG T N m)), ?_, h1.put _ ⟨rfl, by omega, by omega⟩, fun h => ⟨ag_s _ _ _ _, by rw [ag_j (by omega)]; exact (h2 h).1, by rw [ag_j (by omega)]; exact (h2 h).2⟩⟩
    unfold c7_seekParty c7_seekParty_l2
    rw [hr, hQ, if_pos c]
    simp only [abind, c7_seekParty_d2, if_true, aU2, c7_seekParty_p53, ↓reduceIte, acall1_some, acall0_some, q_lt, q_nlt, q_le, q_nle, q_eq, q_ne, q_01, true_or, or_true, false_or, or_false, false_and, and_false, and_self, and_true, true_and, wq, wQ, alen_aput, ag_s, ag_x, ag_j, ag_e]
  · rw [if_neg c] at hQ
    refine ⟨τ, ?_, h1, fun h => absurd h c⟩
    unfold c7_seekParty c7_seekParty_l2
    rw [hr, hQ, if_neg c]
    rfl
