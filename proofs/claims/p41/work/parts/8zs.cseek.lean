/-! the class's half of whole's part of this name -/
theorem CSt.mk' {T : aH} {S : aH × (Int → aH) × Int × Int × aH} {σ τ : aS} (h : CSt T S σ) (hF : Fp mkf σ τ) (hV : SVI T τ) : CSt T S τ := by
  obtain ⟨pl, a, b, c, d, e, f, g⟩ := h
  have n : ∀ x j, mkf x j → x = 20 ∨ x = 21 ∨ x = 22 ∨ x = 23 ∨ (x = 8 ∧ 1 ≤ j ∧ j ≤ 4) := fun x j q => by unfold mkf at q; omega
  refine ⟨pl, a.fp hF mkf_w, ?_, c.fp hF (fun j q => ?_) (fun j _ q => ?_), ?_, e.fp hF (fun x j q w => ?_), f.fp hF (fun x j q w => ?_), hV⟩
  · rw [hF.g (fun q => by have := n _ _ q; omega)]; exact b
  · have := n _ _ q; omega
  · have := n _ _ q; omega
  · rw [hF.g (fun q => by have := n _ _ q; omega)]; exact d
  · have := n _ _ q; omega
  · have := n _ _ q; omega
theorem mkf_a {σ τ : aS} (hF : Fp mkf σ τ) : Fp wca σ τ := hF.mono (fun x j q => by unfold mkf at q; unfold wca; omega)
theorem c11_first_q {T : aH} {S : aH × (Int → aH) × Int × Int × aH} {σ : aS} (h : CSt T S σ) (hN : NB T S.1) (h40 : S.1 4 0 = -1) (w : Int) : AnsC T S σ (c11_first 1 w σ) (aFirst T S.1 w) := by
  have h' := h
  obtain ⟨pl, hC, -, hS, h89, -⟩ := h'
  have hL := hC.1
  have hR : RE S.1 σ := RE.of h89 h40
  have hf := c7_seekFirst_ok hC hN (Or.inl rfl) hS hR
  unfold c11_first aFirst
  by_cases a : w < 0
  · rw [if_pos a, if_neg (show ¬ (0 ≤ w ∧ w ≤ 2) by omega)]; exact AnsC.s h rfl
  · by_cases b : 2 < w
    · rw [if_neg a, if_pos b, if_neg (show ¬ (0 ≤ w ∧ w ≤ 2) by omega)]; exact AnsC.s h rfl
    · rw [if_neg a, if_neg b, if_pos (show 0 ≤ w ∧ w ≤ 2 by omega), r_1_2 hL, r_1_6 hL, if_neg (show ¬ (8 : Int) = 0 by omega), if_neg (show ¬ (88 : Int) = 0 by omega)]
      by_cases c : fiS T S.1 < T 0 1
      · rw [if_pos c] at hf
        obtain ⟨υ, hυ⟩ : ∃ υ, υ = aput (aput (aput σ 8 1 (fiS T S.1)) 8 3 (fiA T S.1 (fiS T S.1))) 8 4 (fiB T S.1 (fiS T S.1) (fiA T S.1 (fiS T S.1))) := ⟨_, rfl⟩
        have hF : Fp (fun x j => x = 8 ∧ 1 ≤ j ∧ j ≤ 4) σ υ := by rw [hυ]; exact (((Fp.rf _ _).put _ (by omega)).put _ (by omega)).put _ (by omega)
        rw [← hυ] at hf
        have hq : ∀ x j, (x = 8 ∧ 1 ≤ j ∧ j ≤ 4) → qcl x j := fun x j q => by unfold qcl; omega
        have hLu := (hC.fp hF (fun x j q => by unfold wkc; omega)).1
        rw [if_pos c, hf, acall1_some, if_neg (show ¬ (1 : Int) = 0 by omega), r_1_2 hLu, if_neg (show ¬ (8 : Int) = 0 by omega)]
        refine AnsC.ite (fun _ => AnsC.q h hF hq (by rw [hυ, ag_j (by omega), ag_j (by omega), ag_s])) (fun hw => ?_)
        unfold c11_foundPlace
        rw [r_1_2 hLu, if_neg (show ¬ (8 : Int) = 0 by omega)]
        by_cases d : w = 1
        · rw [if_pos d, if_pos d, acall1_some]
          exact AnsC.q h hF hq (by rw [hυ, ag_j (by omega), ag_s])
        · rw [if_neg d, if_neg d, if_neg (show ¬ (8 : Int) = 0 by omega), acall1_some]
          exact AnsC.q h hF hq (by rw [hυ, ag_s])
      · rw [if_neg c] at hf
        rw [if_neg c, hf, acall1_some, if_pos rfl]; exact AnsC.s h rfl
theorem c11_ring_q {T : aH} {S : aH × (Int → aH) × Int × Int × aH} {σ : aS} (h : CSt T S σ) (hN : NB T S.1) (h40 : S.1 4 0 = -1) (w : Int) : AnsC T S σ (c11_ring 1 w σ) (aRing T S.1 w) := by
  have h' := h
  obtain ⟨pl, hC, -, hS, h89, -⟩ := h'
  have hL := hC.1
  have hR : RE S.1 σ := RE.of h89 h40
  unfold c11_ring aRing
  by_cases a : w < 0
  · rw [if_pos a, if_neg (show ¬ (0 ≤ w ∧ w ≤ 2) by omega)]; exact AnsC.s h rfl
  · by_cases b : 2 < w
    · rw [if_neg a, if_pos b, if_neg (show ¬ (0 ≤ w ∧ w ≤ 2) by omega)]; exact AnsC.s h rfl
    · obtain ⟨τ, h1, e0, e1, e2, -, hF⟩ := c0_trace_ok hC hN (Or.inl rfl) (by omega) hS hR
      have hq : ∀ x j, wtr x j → qcl x j := fun x j q => by unfold wtr at q; unfold qcl; omega
      have hLu := (hC.fp hF (fun x j q => by unfold wtr at q; unfold wkc; omega)).1
      rw [if_neg a, if_neg b, if_pos (show 0 ≤ w ∧ w ≤ 2 by omega), r_1_3 hL, r_1_6 hL, if_neg (show ¬ (14 : Int) = 0 by omega), if_neg (show ¬ (88 : Int) = 0 by omega), h1, acall0_some, r_1_3 hLu, if_neg (show ¬ (14 : Int) = 0 by omega), if_neg (show ¬ (14 : Int) = 0 by omega), if_neg (show ¬ (14 : Int) = 0 by omega)]
      exact AnsC.ite (fun _ => AnsC.q h hF hq e0) (fun _ => AnsC.ite (fun _ => AnsC.q h hF hq e1) (fun _ => AnsC.q h hF hq e2))
theorem c11_empties_q {T : aH} {S : aH × (Int → aH) × Int × Int × aH} {σ : aS} (h : CSt T S σ) (hN : NB T S.1) (hX : NM S.1) (h40 : S.1 4 0 = -1) (t : Int) : AnsC T S σ (c11_empties 1 t σ) (aEmpties T S.1 t) := by
  have h' := h
  obtain ⟨pl, hC, -, hS, h89, -⟩ := h'
  have hL := hC.1
  have hR : RE S.1 σ := RE.of h89 h40
  unfold c11_empties aEmpties
  refine AnsC.chk (c11_isTown_ok hC t) (fun ht => ?_) (fun _ => AnsC.s h rfl)
  obtain ⟨τ, h1, hF⟩ := c0_leastEmptying_ok hC hN hX hS hR ht.1 ht.2
  rw [r_1_3 hL, r_1_6 hL, if_neg (show ¬ (14 : Int) = 0 by omega), if_neg (show ¬ (88 : Int) = 0 by omega), h1, acall1_some]
  exact AnsC.q h hF (fun x j q => by unfold wle wtr at q; unfold qcl; omega) rfl
/-- the survey made -/
theorem CSt.make {T : aH} {S : aH × (Int → aH) × Int × Int × aH} {σ : aS} (h : CSt T S σ) (hN : NB T S.1) (h40 : S.1 4 0 = -1) : ∃ τ, c9_make (aget σ 1 4) (aget σ 1 6) σ = some (0, [if npT T ≤ 3000 then 1 else 0], τ) ∧ Fp mkf σ τ ∧ CSt T S τ ∧ SVR T S.1 τ := by
  have h' := h
  obtain ⟨pl, hC, -, hS, h89, -, -, hV⟩ := h'
  obtain ⟨τ, h1, h2, h3, h4⟩ := c9_make_ok hC hN hS (RE.of h89 h40) h40 hV
  exact ⟨τ, by rw [r_1_4 hC.1, r_1_6 hC.1]; exact h1, h2, h.mk' h2 h4, h3⟩
theorem CSt.LR {T : aH} {S : aH × (Int → aH) × Int × Int × aH} {σ : aS} (h : CSt T S σ) : LR σ := by
  obtain ⟨pl, hC, -⟩ := h; exact hC.1
theorem mn_le {a : Int} (h : a ≤ 3000) : mn 3001 a = a := by unfold mn; rw [if_pos (by omega)]
theorem c11_all_q {T : aH} {S : aH × (Int → aH) × Int × Int × aH} {σ : aS} (h : CSt T S σ) (hN : NB T S.1) (h40 : S.1 4 0 = -1) (w : Int) : AnsC T S σ (c11_all 1 w σ) (aAll T S.1 w) := by
  have hL := h.LR
  unfold c11_all aAll
  have p11 : (w = 0 ∨ w = 1) → AnsC T S σ (c11_all_p11 1 w σ) (if npT T ≤ 3000 then (if w = 0 then npT T else hcT T S.1) else -2) := by
    intro hw
    obtain ⟨τ, h1, hF, h2, e0, hv⟩ := h.make hN h40
    have hLt := h2.LR
    unfold c11_all_p11
    rw [h1, r_1_4 hL, r_1_6 hL, if_neg (show ¬ (20 : Int) = 0 by omega), if_neg (show ¬ (88 : Int) = 0 by omega)]
    refine AnsC.chk rfl (fun q => ?_) (fun _ => AnsC.k (mkf_a hF) h2 rfl)
    rw [r_1_4 hLt, if_neg (show ¬ (20 : Int) = 0 by omega), if_neg (show ¬ (20 : Int) = 0 by omega)]
    exact AnsC.ite (fun _ => AnsC.k (mkf_a hF) h2 (by rw [e0, mn_le q])) (fun _ => AnsC.k (mkf_a hF) h2 (hv q).1)
  by_cases a : w = 0
  · rw [if_pos a, if_pos (show 0 ≤ w ∧ w ≤ 1 by omega)]; exact p11 (Or.inl a)
  · by_cases b : w = 1
    · rw [if_neg a, if_pos b, if_pos (show 0 ≤ w ∧ w ≤ 1 by omega)]; exact p11 (Or.inr b)
    · rw [if_neg a, if_neg b, if_neg (show ¬ (0 ≤ w ∧ w ≤ 1) by omega)]; exact AnsC.s h rfl
theorem c11_held_q {T : aH} {S : aH × (Int → aH) × Int × Int × aH} {σ : aS} (h : CSt T S σ) (hN : NB T S.1) (h40 : S.1 4 0 = -1) (K s p : Int) : AnsC T S σ (c11_held 1 K s p σ) (aHeld T S.1 K s p) := by
  have hL := h.LR
  obtain ⟨τ, h1, hF, h2, e0, hv⟩ := h.make hN h40
  have hLt := h2.LR
  unfold c11_held aHeld
  rw [h1, r_1_4 hL, r_1_6 hL, if_neg (show ¬ (20 : Int) = 0 by omega), if_neg (show ¬ (88 : Int) = 0 by omega)]
  refine AnsC.chk rfl (fun q => ?_) (fun _ => AnsC.k (mkf_a hF) h2 rfl)
  refine AnsC.ite (fun _ => AnsC.k (mkf_a hF) h2 rfl) (fun hK => ?_)
  obtain ⟨v1, -, -, v4⟩ := hv q
  have h2' := h2
  obtain ⟨pl, hC, -, hS, -⟩ := h2'
  have hp := hC.2.1
  have hB := hC.2.2.2.2.2
  have h5 := hB.2.1
  have hn1 : 1 ≤ npT T := npK_pos hB hB.2.1.1 (Int.le_refl _)
  have hcb := hcN_bd (svH T S.1) (npT T).toNat
  rw [r_1_4 hLt, if_neg (show ¬ (20 : Int) = 0 by omega), v1]
  by_cases c : K < hcT T S.1
  · rw [if_pos (show K < hcN (svH T S.1) (npT T).toNat from c)]
    refine AnsC.chk (c11_isSort_ok hC s) (fun hs => ?_) (fun _ => AnsC.k (mkf_a hF) h2 rfl)
    refine AnsC.chk (c11_isPlace_ok hC p) (fun hpp => ?_) (fun _ => AnsC.k (mkf_a hF) h2 rfl)
    have hi := hel_in (T := T) (N := S.1) (K := K) (npT T).toNat (by omega) (by omega) c
    have e21 := v4 (hel T S.1 K).toNat (by omega) (by rw [Int.toNat_of_nonneg hi.1]; exact hi.2.2.1)
    rw [hi.2.2.2, Int.toNat_of_nonneg hi.1] at e21
    have hNk := PN_NB hN hB (hel T S.1 K)
    have hf := ctn_BF hNk hB hpp.1 hpp.2
    rw [hC.2.2.1.2.2, r_1_4 hLt, r_20_6 hLt, n_21 hLt, if_neg (show ¬ pl = 0 by omega), if_neg (show ¬ (20 : Int) = 0 by omega), if_neg (show ¬ (21 : Int) = 0 by omega), if_pos (show (0 : Int) ≤ K ∧ K < 3000 by unfold hcT at c; omega), e21]
    have ecr : c4_crewAt pl (svK T S.1 (hel T S.1 K)) p τ = some (0, [pk5 (ctn T (PN T S.1 (hel T S.1 K)) p)], τ) := c4_crewAt_ok hC hNk hpp.1 hpp.2
    rw [ecr, acall1_some, c11_part_ok (hf.b7 hB) hs.1 (by omega), acall1_some, if_pos c]
    exact AnsC.k (mkf_a hF) h2 (if_pos hs)
  · rw [if_neg (show ¬ K < hcN (svH T S.1) (npT T).toNat from c), if_neg c]
    have : (if 0 ≤ s ∧ s < T 0 1 then (if 0 ≤ p ∧ p ≤ T 0 2 then (-1 : Int) else -1) else -1) = -1 := by
      split
      · split <;> rfl
      · rfl
    rw [this]
    exact AnsC.k (mkf_a hF) h2 rfl
theorem c11_lost_q {T : aH} {S : aH × (Int → aH) × Int × Int × aH} {σ : aS} (h : CSt T S σ) (hN : NB T S.1) (h40 : S.1 4 0 = -1) (w : Int) : AnsC T S σ (c11_lost 1 w σ) (aLost T S.1 w) := by
  have hL := h.LR
  unfold c11_lost aLost
  by_cases a : w < 0
  · rw [if_pos a, if_neg (show ¬ (0 ≤ w ∧ w ≤ 2) by omega)]; exact AnsC.s h rfl
  · by_cases b : 2 < w
    · rw [if_neg a, if_pos b, if_neg (show ¬ (0 ≤ w ∧ w ≤ 2) by omega)]; exact AnsC.s h rfl
    · obtain ⟨τ, h1, hF, h2, e0, hv⟩ := h.make hN h40
      have hLt := h2.LR
      have hB : TB T := by obtain ⟨pl, hC, -⟩ := h; exact hC.2.2.2.2.2
      have hn1 : 1 ≤ npT T := npK_pos hB hB.2.1.1 (Int.le_refl _)
      rw [if_neg a, if_neg b, if_pos (show 0 ≤ w ∧ w ≤ 2 by omega), h1, r_1_4 hL, r_1_6 hL, if_neg (show ¬ (20 : Int) = 0 by omega), if_neg (show ¬ (88 : Int) = 0 by omega)]
      refine AnsC.chk rfl (fun q => ?_) (fun _ => AnsC.k (mkf_a hF) h2 rfl)
      obtain ⟨v1, v2, v3, -⟩ := hv q
      have v2 := (v2 (by omega)).2
      have hb := hcN_bd (svH T S.1) (npT T).toNat
      have b1 := svA_bd hN hB (bsN (svA T S.1) (npT T).toNat)
      have b2 := ghN_bd (A := svA T S.1) (H := svH T S.1) (b := 210000000000000) (by omega) (svA_bd hN hB) (npT T).toNat
      rw [r_1_4 hLt, v1, v2]
      simp only [if_neg (show ¬ (20 : Int) = 0 by omega)]
      refine AnsC.ite (fun _ => AnsC.k (mkf_a hF) h2 rfl) (fun _ => ?_)
      by_cases z : hcN (svH T S.1) (npT T).toNat = 0
      · rw [if_pos z, if_pos (show hcT T S.1 = 0 from z)]; exact AnsC.k (mkf_a hF) h2 rfl
      · obtain ⟨g1, g2⟩ := v3 (by omega)
        rw [if_neg z, if_neg (show ¬ hcT T S.1 = 0 from z), g1, g2]
        exact AnsC.ite (fun _ => AnsC.k (mkf_a hF) h2 (wQ (by omega) (by omega))) (fun _ => AnsC.k (mkf_a hF) h2 (wQ (by omega) (by omega)))
theorem c11_party_q {T : aH} {S : aH × (Int → aH) × Int × Int × aH} {σ : aS} (h : CSt T S σ) (hN : NB T S.1) (h40 : S.1 4 0 = -1) (m w : Int) : AnsC T S σ (c11_party 1 m w σ) (aParty T S.1 m w) := by
  have h' := h
  obtain ⟨pl, hC, -, hS, h89, -⟩ := h'
  have hL := hC.1
  have hB := hC.2.2.2.2.2
  have hR : RE S.1 σ := RE.of h89 h40
  unfold c11_party aParty
  by_cases a : 1 ≤ m ∧ m ≤ 12
  · rw [if_pos a, if_neg (show ¬ m < 1 by omega), if_neg (show ¬ 12 < m by omega)]
    by_cases b : 0 ≤ w ∧ w ≤ 2
    · rw [if_pos b, if_neg (show ¬ w < 0 by omega), if_neg (show ¬ 2 < w by omega)]
      obtain ⟨τ, h1, hF, h2⟩ := c7_seekParty_ok hC hN (Or.inl rfl) hS hR a.1 a.2
      have hq : ∀ x j, wpt x j → qcl x j := fun x j q => by unfold wpt at q; unfold qcl; omega
      have hLt := (hC.fp hF (fun x j q => by unfold wpt at q; unfold wkc; omega)).1
      rw [r_1_2 hL, r_1_6 hL, if_neg (show ¬ (8 : Int) = 0 by omega), if_neg (show ¬ (88 : Int) = 0 by omega)]
      refine AnsC.chk h1 (fun hz => ?_) (fun _ => AnsC.q h hF hq rfl)
      obtain ⟨e2, e3, e4⟩ := h2 hz
      have hg : BF T (pnG T S.1 m) := by
        have z0 := ff_0 (fun z => decide (pnJ T S.1 (z + 1) < crw T - 1)) (n := m)
        have zat := ff_at (P := fun z => decide (pnJ T S.1 (z + 1) < crw T - 1)) (n := m) hz
        have j0 := ff_0 (pnB T S.1 (pnZ T S.1 m + 1)) (n := crw T - 1)
        have j1 : pnJ T S.1 (pnZ T S.1 m + 1) < crw T - 1 := of_decide_eq_true zat
        have j0' : 0 ≤ pnJ T S.1 (pnZ T S.1 m + 1) := j0
        exact (crf_BF hB (by omega) (by omega)).1
      rw [r_1_2 hLt, if_neg (show ¬ (8 : Int) = 0 by omega)]
      refine AnsC.ite (fun _ => ?_) (fun hw => ?_)
      · rw [e2, c11_partyOfCrew_ok (hg.b7 hB), acall1_some]; exact AnsC.q h hF hq rfl
      · unfold c11_foundPlace
        rw [r_1_2 hLt, if_neg (show ¬ (8 : Int) = 0 by omega)]
        by_cases d : w = 1
        · rw [if_pos d, if_pos d, acall1_some]; exact AnsC.q h hF hq e3
        · rw [if_neg d, if_neg d, if_neg (show ¬ (8 : Int) = 0 by omega), acall1_some]; exact AnsC.q h hF hq e4
    · rw [if_neg b]
      by_cases d : w < 0
      · rw [if_pos d]; exact AnsC.s h rfl
      · rw [if_neg d, if_pos (show 2 < w by omega)]; exact AnsC.s h rfl
  · rw [if_neg a]
    by_cases d : m < 1
    · rw [if_pos d]; exact AnsC.s h rfl
    · rw [if_neg d, if_pos (show 12 < m by omega)]; exact AnsC.s h rfl
theorem c11_split_q {T : aH} {S : aH × (Int → aH) × Int × Int × aH} {σ : aS} (h : CSt T S σ) (hN : NB T S.1) (h40 : S.1 4 0 = -1) (t u w : Int) : AnsC T S σ (c11_split 1 t u w σ) (aSplit T S.1 t u w) := by
  have h' := h
  obtain ⟨pl, hC, -, hS, h89, -⟩ := h'
  have hL := hC.1
  have hp := hC.2.1
  have hB := hC.2.2.2.2.2
  have hR : RE S.1 σ := RE.of h89 h40
  unfold c11_split aSplit
  refine AnsC.chk (c11_isTown_ok hC t) (fun ht => ?_) (fun _ => AnsC.s h rfl)
  refine AnsC.chk (c11_isTown_ok hC u) (fun hu => ?_) (fun _ => AnsC.s h rfl)
  refine AnsC.ite (fun _ => AnsC.s h rfl) (fun htu => ?_)
  have hf := ctn_BF hN hB hu.1 (show u ≤ T 0 2 by omega)
  have hz := pk5_z (hf.b7 hB)
  have hsz := hf.sz hB
  rw [c11_crew hC hN hS hu.1 (by omega), hC.2.2.1.2.2, r_1_6 hL, if_neg (show ¬ pl = 0 by omega), if_neg (show ¬ (88 : Int) = 0 by omega), acall1_some]
  by_cases a : 0 ≤ w ∧ w ≤ 1
  · rw [if_pos a, if_neg (show ¬ w < 0 by omega), if_neg (show ¬ 1 < w by omega)]
    by_cases z : 0 < szf (ctn T S.1 u)
    · rw [if_pos z, if_neg (show ¬ pk5 (ctn T S.1 u) = 0 from fun q => by have := hz.1 q; omega)]; exact AnsC.s h rfl
    · obtain ⟨τ, h1, hF, e7, e2⟩ := c7_seekSplit_ok hC hN (Or.inl rfl) hS hR ht.1 ht.2 hu.1 hu.2
      have hq : ∀ x j, wsp x j → qcl x j := fun x j q => by unfold wsp at q; unfold qcl; omega
      have hLt := (hC.fp hF (fun x j q => by unfold wsp at q; unfold wkc; omega)).1
      have hb := spN_bd hB hN ht.1 (show t ≤ T 0 2 by omega) hu.1 (show u ≤ T 0 2 by omega) (crw T).toNat (by have := (wt_pos hB).2.2.2.2; omega)
      have hcp := (wt_pos hB).2.2.2.2
      have hg := (crf_BF hB (n := (spN T S.1 t u (crw T).toNat).2) hb.2.1 (by omega)).1
      rw [if_neg z, if_pos (show pk5 (ctn T S.1 u) = 0 from hz.2 (by omega)), r_1_2 hL, r_1_6 hL, if_neg (show ¬ (8 : Int) = 0 by omega), if_neg (show ¬ (88 : Int) = 0 by omega), h1, acall0_some, r_1_2 hLt, if_neg (show ¬ (8 : Int) = 0 by omega), if_neg (show ¬ (8 : Int) = 0 by omega)]
      refine AnsC.ite (fun _ => ?_) (fun hw => AnsC.q h hF hq e7)
      rw [e2, c11_partyOfCrew_ok (hg.b7 hB), acall1_some]; exact AnsC.q h hF hq rfl
  · have e : (if 0 < szf (ctn T S.1 u) then MINL else if 0 ≤ w ∧ w ≤ 1 then (if w = 0 then pty (crf T (spN T S.1 t u (crw T).toNat).2) else (spN T S.1 t u (crw T).toNat).1) else MINL) = MINL := by
      rw [if_neg a]; split <;> rfl
    rw [e]
    by_cases d : w < 0
    · rw [if_pos d]; exact AnsC.s h rfl
    · rw [if_neg d, if_pos (show 1 < w by omega)]; exact AnsC.s h rfl
