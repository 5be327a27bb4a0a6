/-! the class's half of whole's part of this name -/
theorem dq_ds {p : Int} (p0 : 0 ≤ p) {n : Int} (n0 : 0 ≤ n) (n5 : n ≤ 5) : dqN p n.toNat = 0 ↔ (dqN p 5 = 0 ∧ ∀ s, n ≤ s → s < 5 → dqN p s.toNat % 7 = 0) := by
  have e1 : dqN p 1 = p / 7 := rfl
  have e2 : dqN p 2 = dqN p 1 / 7 := rfl
  have e3 : dqN p 3 = dqN p 2 / 7 := rfl
  have e4 : dqN p 4 = dqN p 3 / 7 := rfl
  have e5 : dqN p 5 = dqN p 4 / 7 := rfl
  have e0 : dqN p 0 = p := rfl
  have key : ∀ s : Int, 0 ≤ s → s < 5 → (s = 0 → dqN p s.toNat = dqN p 0) ∧ (s = 1 → dqN p s.toNat = dqN p 1) ∧ (s = 2 → dqN p s.toNat = dqN p 2) ∧ (s = 3 → dqN p s.toNat = dqN p 3) ∧ (s = 4 → dqN p s.toNat = dqN p 4) := fun s _ _ =>
    ⟨fun e => by rw [e]; rfl, fun e => by rw [e]; rfl, fun e => by rw [e]; rfl, fun e => by rw [e]; rfl, fun e => by rw [e]; rfl⟩
  rcases (show n = 0 ∨ n = 1 ∨ n = 2 ∨ n = 3 ∨ n = 4 ∨ n = 5 by omega) with rfl | rfl | rfl | rfl | rfl | rfl
  · show dqN p 0 = 0 ↔ _
    refine ⟨fun h => ⟨by omega, fun s s0 s5 => ?_⟩, fun ⟨a, b⟩ => ?_⟩
    · have := key s s0 s5; rcases cs5 s0 s5 with q | q | q | q | q <;> omega
    · have b0 : dqN p 0 % 7 = 0 := b 0 (by omega) (by omega)
      have b1 : dqN p 1 % 7 = 0 := b 1 (by omega) (by omega)
      have b2 : dqN p 2 % 7 = 0 := b 2 (by omega) (by omega)
      have b3 : dqN p 3 % 7 = 0 := b 3 (by omega) (by omega)
      have b4 : dqN p 4 % 7 = 0 := b 4 (by omega) (by omega)
      omega
  · show dqN p 1 = 0 ↔ _
    refine ⟨fun h => ⟨by omega, fun s s0 s5 => ?_⟩, fun ⟨a, b⟩ => ?_⟩
    · have := key s (by omega) s5; rcases cs5 (show 0 ≤ s by omega) s5 with q | q | q | q | q <;> omega
    · have b1 : dqN p 1 % 7 = 0 := b 1 (by omega) (by omega)
      have b2 : dqN p 2 % 7 = 0 := b 2 (by omega) (by omega)
      have b3 : dqN p 3 % 7 = 0 := b 3 (by omega) (by omega)
      have b4 : dqN p 4 % 7 = 0 := b 4 (by omega) (by omega)
      omega
  · show dqN p 2 = 0 ↔ _
    refine ⟨fun h => ⟨by omega, fun s s0 s5 => ?_⟩, fun ⟨a, b⟩ => ?_⟩
    · have := key s (by omega) s5; rcases cs5 (show 0 ≤ s by omega) s5 with q | q | q | q | q <;> omega
    · have b2 : dqN p 2 % 7 = 0 := b 2 (by omega) (by omega)
      have b3 : dqN p 3 % 7 = 0 := b 3 (by omega) (by omega)
      have b4 : dqN p 4 % 7 = 0 := b 4 (by omega) (by omega)
      omega
  · show dqN p 3 = 0 ↔ _
    refine ⟨fun h => ⟨by omega, fun s s0 s5 => ?_⟩, fun ⟨a, b⟩ => ?_⟩
    · have := key s (by omega) s5; rcases cs5 (show 0 ≤ s by omega) s5 with q | q | q | q | q <;> omega
    · have b3 : dqN p 3 % 7 = 0 := b 3 (by omega) (by omega)
      have b4 : dqN p 4 % 7 = 0 := b 4 (by omega) (by omega)
      omega
  · show dqN p 4 = 0 ↔ _
    refine ⟨fun h => ⟨by omega, fun s s0 s5 => ?_⟩, fun ⟨a, b⟩ => ?_⟩
    · have := key s (by omega) s5; rcases cs5 (show 0 ≤ s by omega) s5 with q | q | q | q | q <;> omega
    · have b4 : dqN p 4 % 7 = 0 := b 4 (by omega) (by omega)
      omega
  · exact ⟨fun h => ⟨h, fun s s0 s5 => by omega⟩, fun ⟨a, _⟩ => a⟩
theorem dg7_bd {p s : Int} : 0 ≤ dg7 p s ∧ dg7 p s ≤ 6 := by
  unfold dg7
  by_cases c : 0 ≤ s ∧ s < 5
  · rw [if_pos c]; omega
  · rw [if_neg c]; omega
theorem c11_crewOfParty_ok {pl : Int} {T : aH} {σ : aS} (hC : CI pl T σ) {p : Int} (p1 : p ≤ 2147483647) :
    c11_crewOfParty 1 p σ = some (0, [if 0 < p ∧ dqN p (T 0 1).toNat = 0 then pk5 (dg7 p) else -1], σ) := by
  obtain ⟨hL, hp, hq, hT, -, hB⟩ := hC
  have h5 := hB.2.1
  unfold c11_crewOfParty
  by_cases p0 : 0 < p
  · have hbd := dqN_bd (show 0 ≤ p by omega) p1
    have hs5 : sI (fun s => dg7 p s * p2 (3 * s)) 5 = pk5 (dg7 p) := pk5_sI _
    have hsb : ∀ k, 0 ≤ k → k ≤ 5 → 0 ≤ sI (fun s => dg7 p s * p2 (3 * s)) k ∧ sI (fun s => dg7 p s * p2 (3 * s)) k ≤ 24576 * k := fun k k0 k5 => by
      have := sI_bd (f := fun s => dg7 p s * p2 (3 * s)) (a := 0) (b := 24576) k0 (fun j j0 j1 => by
        have d := dg7_bd (p := p) (s := j)
        rcases cs5 j0 (show j < 5 by omega) with e | e | e | e | e <;> rw [e] at d ⊢
        · rw [p2_30]; omega
        · rw [p2_31]; omega
        · rw [p2_32]; omega
        · rw [p2_33]; omega
        · rw [p2_34]; omega)
      omega
    have hal := al_I (c := 14) (B := aU4 c11_crewOfParty_b13) (n := T 0 1) (i := 0) (vs := [1, p, 0, 0]) (σ := σ)
      (fun k vs τ => 0 ≤ k ∧ τ = σ ∧ vs = [1, dqN p k.toNat, sI (fun s => dg7 p s * p2 (3 * s)) k, k])
      (fun r => r = (52, [dqN p (T 0 1).toNat, sI (fun s => dg7 p s * p2 (3 * s)) (T 0 1)], σ)) (by omega) (by omega) ⟨Int.le_refl _, rfl, rfl⟩ ?_
    · obtain ⟨r, hr, rfl⟩ := hal
      refine ite_p p0 ?_
      unfold c11_crewOfParty_l13
      rw [hr]
      show c11_crewOfParty_p51 (dqN p (T 0 1).toNat) (sI (fun s => dg7 p s * p2 (3 * s)) (T 0 1)) σ = _
      unfold c11_crewOfParty_p51
      by_cases z : dqN p (T 0 1).toNat = 0
      · have hd := ((dq_ds (show 0 ≤ p by omega) h5.1 h5.2).1 z).2
        have e : sI (fun s => dg7 p s * p2 (3 * s)) (T 0 1) = pk5 (dg7 p) := by
          rw [← hs5]
          refine (sI_ext h5.1 h5.2 (fun k _ _ => rfl) (fun k k0 k1 => ?_)).symm
          have : dg7 p k = 0 := by unfold dg7; rw [if_pos ⟨by omega, k1⟩]; exact hd k k0 k1
          rw [this, Int.zero_mul]
        rw [if_pos z, if_pos (show 0 < p ∧ dqN p (T 0 1).toNat = 0 from ⟨p0, z⟩), e]
      · rw [if_neg z, if_neg (show ¬ (0 < p ∧ dqN p (T 0 1).toNat = 0) from fun q => z q.2)]
    · rintro k vs τ hk ⟨k0, rfl, rfl⟩
      by_cases c : k < T 0 1
      · have hb := hbd k.toNat
        have sb := hsb k k0 (by omega)
        have sb2 := hsb (k + 1) (by omega) (by omega)
        have edg : dg7 p k = dqN p k.toNat % 7 := if_pos ⟨k0, by omega⟩
        have eq1 : dqN p (k + 1).toNat = dqN p k.toNat / 7 := by rw [show (k + 1).toNat = k.toNat + 1 by omega]; rfl
        have et : Int.tmod (dqN p k.toNat) 7 = dg7 p k := by rw [edg]; exact Int.tmod_eq_emod_of_nonneg hb.1
        have ed : w32 (Int.tdiv (dqN p k.toNat) 7) = dqN p (k + 1).toNat := by
          rw [Int.tdiv_eq_ediv_of_nonneg hb.1, eq1]; exact wq (by omega) (by omega)
        have es : sI (fun s => dg7 p s * p2 (3 * s)) (k + 1) = sI (fun s => dg7 p s * p2 (3 * s)) k + dg7 p k * p2 (3 * k) := sI_s k0
        have ew : w32 (dg7 p k * p2 (3 * k)) = dg7 p k * p2 (3 * k) := wq (by omega) (by omega)
        refine Or.inl ⟨c, [1, dqN p (k + 1).toNat, sI (fun s => dg7 p s * p2 (3 * s)) (k + 1), k + 1], τ, ?_, by omega, rfl, rfl⟩
        show c11_crewOfParty_b13 1 (dqN p k.toNat) (sI (fun s => dg7 p s * p2 (3 * s)) k) k τ = _
        unfold c11_crewOfParty_b13
        rw [hq.2.2, rp_0 hL hp, np_1 hL hp, hT.1.2.1, c11_one_ok τ k0 (by omega), acall1_some, et, ed, ew, ← es, wq (by omega) (by omega), wq (x := k + 1) (by omega) (by omega)]
        exact ite_n (by omega) (ite_n (by omega) (ite_p (by omega) (ite_p c (ite_n (by omega) (ite_n (by omega) rfl)))))
      · have hke : k = T 0 1 := by omega
        subst hke
        refine Or.inr ⟨_, ?_, Nat.ne_of_beq_eq_false rfl, rfl⟩
        show c11_crewOfParty_b13 1 (dqN p (T 0 1).toNat) (sI (fun s => dg7 p s * p2 (3 * s)) (T 0 1)) (T 0 1) τ = _
        unfold c11_crewOfParty_b13
        rw [hq.2.2, rp_0 hL hp, np_1 hL hp, hT.1.2.1]
        exact ite_n (by omega) (ite_n (by omega) (ite_p (by omega) (ite_n (by omega) rfl)))
  · rw [if_neg p0, if_neg (show ¬ (0 < p ∧ dqN p (T 0 1).toNat = 0) from fun q => p0 q.1)]
theorem wdB_c {T N : aH} {p a : Int} (hB : TB T) (p0 : 0 < p) : wdB T N p a = true ↔ dqN p (T 0 1).toNat = 0 ∧ cvf (ctn T N a) (dg7 p) = true := by
  have h5 := hB.2.1
  have hd := dq_ds (show 0 ≤ p by omega) h5.1 h5.2
  unfold wdB
  rw [Bool.and_eq_true, decide_eq_true_iff]
  refine ⟨fun ⟨⟨_, a⟩, b⟩ => ⟨hd.2 ⟨a, fun s s0 s5 => ?_⟩, b⟩, fun ⟨a, b⟩ => ⟨⟨p0, (hd.1 a).1⟩, b⟩⟩
  have := (cvf_iff.1 b) s (by omega) s5
  rw [show ctn T N _ s = 0 from if_neg (by omega)] at this
  have e : dg7 p s = dqN p s.toNat % 7 := if_pos ⟨by omega, s5⟩
  omega
theorem c11_would_q {T : aH} {S : aH × (Int → aH) × Int × Int × aH} {σ : aS} (h : CSt T S σ) (hN : NB T S.1) (h40 : S.1 4 0 = -1) {p : Int} (p1 : p ≤ 2147483647) (a b : Int) : AnsC T S σ (c11_would 1 p a b σ) (aWould T S.1 p a b) := by
  have h' := h
  obtain ⟨pl, hC, -, hS, h89, -⟩ := h'
  have hL := hC.1
  have hp := hC.2.1
  have hB := hC.2.2.2.2.2
  have hR : RE S.1 σ := RE.of h89 h40
  have hk := pk5_bd (f := dg7 p) (fun s _ _ => by have := dg7_bd (p := p) (s := s); omega)
  unfold c11_would aWould
  rw [c11_crewOfParty_ok hC p1, acall1_some]
  by_cases c : 0 < p ∧ dqN p (T 0 1).toNat = 0
  · rw [if_pos c, if_neg (show ¬ pk5 (dg7 p) = -1 by omega)]
    refine AnsC.chk (c11_isPlace_ok hC a) (fun ha => ?_) (fun _ => AnsC.s h rfl)
    refine AnsC.chk (c11_isPlace_ok hC b) (fun hb => ?_) (fun _ => AnsC.s h rfl)
    refine AnsC.ite (fun _ => AnsC.s h rfl) (fun hab => ?_)
    have hf := ctn_BF hN hB ha.1 ha.2
    have hw := wdB_c (N := S.1) (a := a) hB c.1
    rw [c11_crew hC hN hS ha.1 ha.2, hC.2.2.1.2.2, r_1_6 hL, if_neg (show ¬ pl = 0 by omega), if_neg (show ¬ (88 : Int) = 0 by omega), acall1_some, c11_covers_ok (hf.b7 hB) (fun s _ _ => by have := dg7_bd (p := p) (s := s); omega), acall1_some]
    by_cases q : cvf (ctn T S.1 a) (dg7 p) = true
    · have hwd := hw.2 ⟨c.2, q⟩
      rw [if_pos q, if_pos hwd, if_neg (show ¬ (1 : Int) = 0 by omega), r_1_2 hL, r_1_6 hL, if_neg (show ¬ (8 : Int) = 0 by omega), if_neg (show ¬ (88 : Int) = 0 by omega), c7_partyWould_ok hC hN (Or.inl rfl) hS hR ha.1 ha.2 hb.1 hb.2 hab (wdB_PA hB hwd), acall1_some]
      unfold c11_would_p74 c11_asBit
      by_cases z : pwB T S.1 (dg7 p) a b = true
      · rw [if_pos z, if_neg (show ¬ (1 : Int) = 0 by omega), acall1_some]; exact AnsC.s h rfl
      · rw [if_neg z, if_pos rfl, acall1_some]; exact AnsC.s h rfl
    · rw [if_neg q, if_neg (show ¬ wdB T S.1 p a = true from fun z => q (hw.1 z).2), if_pos rfl]
      exact AnsC.s h rfl
  · rw [if_neg c, if_pos rfl]
    have e : (if 0 ≤ a ∧ a ≤ T 0 2 then (if 0 ≤ b ∧ b ≤ T 0 2 then (if a = b then (-1 : Int) else if wdB T S.1 p a = true then (if pwB T S.1 (dg7 p) a b = true then 1 else 0) else -1) else -1) else -1) = -1 := by
      have nw : ¬ wdB T S.1 p a = true := fun z => by
        by_cases p0 : 0 < p
        · exact c ⟨p0, ((wdB_c hB p0).1 z).1⟩
        · unfold wdB at z
          rw [Bool.and_eq_true, decide_eq_true_iff] at z
          exact p0 z.1.1
      rw [if_neg nw]
      split
      · split
        · split <;> rfl
        · rfl
      · rfl
    rw [e]; exact AnsC.s h rfl
theorem CSt.rec {T : aH} {S : aH × (Int → aH) × Int × Int × aH} {σ : aS} (h : CSt T S σ) : ∃ τ, c2_record (aget σ 1 5) (aget σ 1 6) σ = some (0, [], τ) ∧ Fp (fun x j => (28 ≤ x ∧ x ≤ 87 ∧ (x % 2 = 0 → 1 ≤ j)) ∨ (x = 24 ∧ 3 ≤ j ∧ j ≤ 4)) σ τ ∧ CSt T (psS S S.1) τ := by
  obtain ⟨pl, a, b, c, d, e, f, g⟩ := h
  obtain ⟨τ, h1, hF, h2⟩ := c2_record_ok a.1 c e
  refine ⟨τ, by rw [r_1_5 a.1, r_1_6 a.1]; exact h1, hF, pl, a.fh hF (fun x j q => by unfold hsf'; omega), ?_, c.fp hF (fun j q => by omega) (fun j _ q => by omega), ?_, h2, ⟨?_, f.2.1, fun w => (f.2.2 w).fp hF (fun j q => by omega) (fun j _ q => by omega)⟩, g.fp hF (fun x j q w => by omega)⟩
  · rw [hF.g (by omega)]; exact b
  · rw [hF.g (by omega)]; exact d
  · rw [hF.g (by omega)]; exact f.1
theorem rec_a {σ τ : aS} (hF : Fp (fun x j => (28 ≤ x ∧ x ≤ 87 ∧ (x % 2 = 0 → 1 ≤ j)) ∨ (x = 24 ∧ 3 ≤ j ∧ j ≤ 4)) σ τ) : Fp wca σ τ := hF.mono (fun x j q => by unfold wca; omega)
/-- the scene now changed -/
def chc (x j : Int) : Prop := (x = 88 ∧ 1 ≤ j) ∨ x = 89 ∨ (x = 8 ∧ 1 ≤ j ∧ j ≤ 4) ∨ (x = 14 ∧ j = 7)
theorem CSt.ch {T : aH} {S : aH × (Int → aH) × Int × Int × aH} {N : aH} {σ τ : aS} (h : CSt T S σ) {P : Int → Int → Prop} (hF : Fp P σ τ) (hP : ∀ x j, P x j → chc x j) (hS : SC T N 88 τ) : CSt T (N, S.2) τ := by
  obtain ⟨pl, a, b, c, d, e, f, g⟩ := h
  have n : ∀ x j, P x j → (x = 88 ∧ 1 ≤ j) ∨ x = 89 ∨ (x = 8 ∧ 1 ≤ j ∧ j ≤ 4) ∨ (x = 14 ∧ j = 7) := hP
  refine ⟨pl, a.fp hF (fun x j q => by have := n x j q; unfold wkc; omega), ?_, hS, ?_, e.fp hF (fun x j q w => by have := n x j q; omega), f.fp hF (fun x j q w => by have := n x j q; omega), g.fp hF (fun x j q w => by have := n x j q; omega)⟩
  · rw [hF.g (fun q => by have := n _ _ q; omega)]; exact b
  · rw [hF.g (fun q => by have := n _ _ q; omega)]; exact d
theorem chc_a {σ τ : aS} {P : Int → Int → Prop} (hF : Fp P σ τ) (hP : ∀ x j, P x j → chc x j) : Fp wca σ τ := hF.mono (fun x j q => by have := hP x j q; unfold chc at this; unfold wca; omega)
theorem CSt.e {T : aH} {S : aH × (Int → aH) × Int × Int × aH} {σ : aS} (h : CSt T S σ) : ∃ pl, CI pl T σ ∧ SC T S.1 88 σ ∧ aget σ 8 9 = -1 := by
  obtain ⟨pl, a, b, c, d, -⟩ := h
  exact ⟨pl, a, c, d⟩
theorem c11_go_q {T : aH} {S : aH × (Int → aH) × Int × Int × aH} {σ : aS} (h : CSt T S σ) (hN : NB T S.1) (s a b : Int) : AnsC T (sGo T S s a b) σ (c11_go 1 s a b σ) (if mgoB T S.1 s a b = true then 1 else 0) := by
  obtain ⟨pl, hC, hS, h89⟩ := h.e
  have hL := hC.1
  have hp := hC.2.1
  have hB := hC.2.2.2.2.2
  have h5 := hB.2.1
  unfold c11_go sGo
  rw [c11_canGo_ok hC hN hS, acall1_some]
  by_cases q : mgoB T S.1 s a b = true
  · obtain ⟨⟨hs, ha, hb⟩, hab, hz⟩ := mgoB_t.1 q
    obtain ⟨τ, h1, hF1, hS1⟩ := h.rec
    obtain ⟨pl', hC1, hSc1, -⟩ := hS1.e
    have hSc1 : SC T S.1 88 τ := hSc1
    have hL1 := hC1.1
    have hp1 := hC1.2.1
    have e3 : p2 (3 * s) = pk5 (on1 s) := by
      have := pk5_mon (s := s) 1 hs.1 (by omega)
      rw [Int.one_mul] at this
      rw [this]
      congr 1
    have hsh := c4_shifted_ok hC1 hN (f := on1 s) ha.1 ha.2 hb.1 hb.2 hab (on1_le hz (fun k k0 k1 => hN.1 k a k0 k1 ha.1 ha.2)) (on1_z hs.1 hs.2)
    rw [if_pos q, if_pos q, if_neg (show ¬ (1 : Int) = 0 by omega), h1, acall0_some, r_1_5 hL, r_1_6 hL, r_1_6 hL1, hC1.2.2.1.2.2, c11_one_ok τ hs.1 (by omega), acall1_some, e3, hSc1.1, hsh, acall1_some, if_neg (show ¬ (24 : Int) = 0 by omega), if_neg (show ¬ (88 : Int) = 0 by omega), if_neg (show ¬ (88 : Int) = 0 by omega), if_neg (show ¬ pl' = 0 by omega), if_neg (show ¬ (88 : Int) = 0 by omega), if_pos (show (1 : Int) = 0 ∨ (1 : Int) = 1 by omega)]
    have hF2 : Fp (fun x j => x = 88 ∧ j = 1) τ (aput τ 88 1 (pkP T (mvN S.1 (on1 s) a b))) := (Fp.rf _ _).put _ ⟨rfl, rfl⟩
    exact AnsC.k ((rec_a hF1).tr (chc_a hF2 (fun x j w => by unfold chc; omega))) (hS1.ch hF2 (fun x j w => by unfold chc; omega) (mv_SC hSc1 (Or.inl rfl))) rfl
  · rw [if_neg q, if_neg q, if_pos rfl, if_pos (show (0 : Int) = 0 ∨ (0 : Int) = 1 by omega)]
    exact AnsC.s h rfl
theorem c11_extra_q {T : aH} {S : aH × (Int → aH) × Int × Int × aH} {σ : aS} (h : CSt T S σ) (t e : Int) : AnsC T (sExtra T S t e) σ (c11_extra 1 t e σ) (if exB T S.1 t e = true then 1 else 0) := by
  obtain ⟨pl, hC, hS, h89⟩ := h.e
  have hL := hC.1
  have h4 := hC.2.2.2.2.2.2.2.1
  have no : ¬ ((0 ≤ t ∧ t < T 0 2) ∧ (-999 ≤ e ∧ e ≤ 999) ∧ S.1 1 t ≠ e) → AnsC T (sExtra T S t e) σ (some (0, [0], σ)) (if exB T S.1 t e = true then 1 else 0) := fun q => by
    unfold sExtra
    rw [if_neg (fun z => q (exB_t.1 z)), if_neg (fun z => q (exB_t.1 z))]; exact AnsC.s h rfl
  unfold c11_extra
  rw [c11_isTown_ok hC, acall1_some]
  by_cases c1 : 0 ≤ t ∧ t < T 0 2
  · rw [if_pos c1, if_neg (show ¬ (1 : Int) = 0 by omega)]
    by_cases c2 : e < -999
    · rw [if_pos c2, if_pos (show (0 : Int) = 0 ∨ (0 : Int) = 1 by omega)]; exact no (fun q => by omega)
    · by_cases c2' : 999 < e
      · rw [if_neg c2, if_pos c2', if_pos (show (0 : Int) = 0 ∨ (0 : Int) = 1 by omega)]; exact no (fun q => by omega)
      · rw [if_neg c2, if_neg c2', r_1_6 hL, rs_0 hL (sc := 88) (Or.inl rfl), ns_1 hL (sc := 88) (Or.inl rfl), if_neg (show ¬ (88 : Int) = 0 by omega), if_neg (show ¬ (88 : Int) + 1 = 0 by omega), if_pos (show (0 : Int) ≤ t ∧ t < 4 by omega), hS.2.1 t c1.1 (by omega)]
        by_cases c3 : S.1 1 t = e
        · rw [if_pos c3, if_pos (show (0 : Int) = 0 ∨ (0 : Int) = 1 by omega)]; exact no (fun q => q.2.2 c3)
        · obtain ⟨τ, h1, hF1, hS1⟩ := h.rec
          obtain ⟨pl', hC1, hSc1, -⟩ := hS1.e
          have hSc1 : SC T S.1 88 τ := hSc1
          have hL1 := hC1.1
          have q := exB_t.2 ⟨c1, (show -999 ≤ e ∧ e ≤ 999 by omega), c3⟩
          rw [r_1_6 hL] at h1
          unfold sExtra
          rw [if_neg c3, h1, acall0_some, r_1_5 hL, r_1_6 hL1, rs_0 hL1 (sc := 88) (Or.inl rfl), ns_1 hL1 (sc := 88) (Or.inl rfl), if_neg (show ¬ (24 : Int) = 0 by omega), if_neg (show ¬ (88 : Int) = 0 by omega), if_neg (show ¬ (88 : Int) = 0 by omega), if_neg (show ¬ (88 : Int) + 1 = 0 by omega), if_pos (show (0 : Int) ≤ t ∧ t < 4 by omega), if_pos (show (1 : Int) = 0 ∨ (1 : Int) = 1 by omega), if_pos q, if_pos q]
          have hF2 : Fp (fun x j => x = 89 ∧ j = t) τ (aput τ (88 + 1) t e) := (Fp.rf _ _).put _ ⟨rfl, rfl⟩
          exact AnsC.k ((rec_a hF1).tr (chc_a hF2 (fun x j w => by unfold chc; omega))) (hS1.ch hF2 (fun x j w => by unfold chc; omega) (hSc1.st1 (Or.inl rfl))) rfl
  · rw [if_neg c1, if_pos rfl, if_pos (show (0 : Int) = 0 ∨ (0 : Int) = 1 by omega)]; exact no (fun q => c1 q.1)
