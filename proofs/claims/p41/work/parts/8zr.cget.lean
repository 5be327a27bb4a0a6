/-! the class's half of whole's part of this name -/
def CSt (T : aH) (S : aH × (Int → aH) × Int × Int × aH) (σ : aS) : Prop :=
  ∃ pl, CI pl T σ ∧ aget σ 1 8 = 200 - pl ∧ SC T S.1 88 σ ∧ aget σ 8 9 = -1 ∧ HC T S.2.1 S.2.2.1 σ ∧ IC T S.2.2.2.1 S.2.2.2.2 σ ∧ SVI T σ
def wca (x _j : Int) : Prop := 8 ≤ x ∧ x ≤ 129
def AnsC (T : aH) (S : aH × (Int → aH) × Int × Int × aH) (σ : aS) (r : aR) (v : Int) : Prop := ∃ τ, r = some (0, [v], τ) ∧ Fp wca σ τ ∧ CSt T S τ
theorem AnsC.k {T : aH} {S : aH × (Int → aH) × Int × Int × aH} {σ τ : aS} {v w : Int} (hF : Fp wca σ τ) (hS : CSt T S τ) (e : w = v) : AnsC T S σ (some (0, [w], τ)) v := ⟨τ, by rw [e], hF, hS⟩
theorem AnsC.s {T : aH} {S : aH × (Int → aH) × Int × Int × aH} {σ : aS} {v w : Int} (hS : CSt T S σ) (e : w = v) : AnsC T S σ (some (0, [w], σ)) v := AnsC.k (Fp.rf _ _) hS e
theorem AnsC.ite {T : aH} {S : aH × (Int → aH) × Int × Int × aH} {σ : aS} {c : Prop} [Decidable c] {A B : aR} {v w : Int} (h1 : c → AnsC T S σ A v) (h2 : ¬ c → AnsC T S σ B w) : AnsC T S σ (if c then A else B) (if c then v else w) := by
  by_cases q : c
  · rw [if_pos q, if_pos q]; exact h1 q
  · rw [if_neg q, if_neg q]; exact h2 q
theorem AnsC.chk {T : aH} {S : aH × (Int → aH) × Int × Int × aH} {σ τ : aS} {c : Prop} [Decidable c] {r : aR} {A B : aS → aR} {v w : Int} (h : r = some (0, [if c then 1 else 0], τ)) (h1 : c → AnsC T S σ (B τ) v) (h2 : ¬ c → AnsC T S σ (A τ) w) :
    AnsC T S σ (acall1 r fun v1 σ1 => if v1 = 0 then A σ1 else B σ1) (if c then v else w) := by
  rw [h, acall1_some]
  by_cases q : c
  · rw [if_pos q, if_pos q]; exact h1 q
  · rw [if_neg q, if_neg q]; exact h2 q
theorem RE.of {N : aH} {σ : aS} (h : aget σ 8 9 = -1) (h4 : N 4 0 = -1) : RE N σ := ⟨by rw [h, h4], fun q => absurd h4 q⟩
/-- cells that the state doesn't hang on, the survey aside -/
def qcl (x j : Int) : Prop := ((x = 16 ∨ x = 18) ∧ 1 ≤ j) ∨ x = 17 ∨ x = 19 ∨ x = 15 ∨ (x = 8 ∧ 1 ≤ j ∧ j ≤ 7) ∨ (x = 14 ∧ (j ≤ 2 ∨ j = 7))
theorem SVI.fp {T : aH} {σ τ : aS} {P : Int → Int → Prop} (h : SVI T σ) (hF : Fp P σ τ) (hP : ∀ x j, P x j → ¬ (20 ≤ x ∧ x ≤ 23)) : SVI T τ := by
  have g : ∀ x j, 20 ≤ x ∧ x ≤ 23 → aget τ x j = aget σ x j := fun x j hx => hF.g (fun q => hP x j q hx)
  intro q
  rw [g 20 9 (by omega)] at q
  obtain ⟨M, a, b, c, d, e, f⟩ := h q
  refine ⟨M, a, b, fun t t0 t1 => by rw [g 23 t (by omega)]; exact c t t0 t1, by rw [g 22 2 (by omega)]; exact d, by rw [g 20 0 (by omega)]; exact e, fun q3 => ?_⟩
  obtain ⟨f1, f2, f3, f4⟩ := f q3
  exact ⟨by rw [g 20 1 (by omega)]; exact f1, fun w => by rw [g 20 2 (by omega), g 20 3 (by omega)]; exact f2 w, fun w => by rw [g 20 4 (by omega), g 20 5 (by omega)]; exact f3 w, fun j j0 j1 => by rw [g 21 _ (by omega)]; exact f4 j j0 j1⟩
theorem HC.fp {T : aH} {Hs : Int → aH} {n : Int} {σ τ : aS} {P : Int → Int → Prop} (h : HC T Hs n σ) (hF : Fp P σ τ) (hP : ∀ x j, P x j → ¬ (24 ≤ x ∧ x ≤ 87)) : HC T Hs n τ := by
  have g : ∀ x j, 24 ≤ x ∧ x ≤ 87 → aget τ x j = aget σ x j := fun x j hx => hF.g (fun q => hP x j q hx)
  obtain ⟨a, b, c, d⟩ := h
  refine ⟨by rw [g 24 3 (by omega)]; exact a, b, by rw [g 24 4 (by omega)]; exact c, fun i i0 i1 => ?_⟩
  rw [g 24 4 (by omega)]
  refine (d i i0 i1).fp hF (fun j q => hP _ _ q ?_) (fun j _ q => hP _ _ q ?_) <;> (unfold hps; omega)
theorem IC.fp {T : aH} {im : Int} {IM : aH} {σ τ : aS} {P : Int → Int → Prop} (h : IC T im IM σ) (hF : Fp P σ τ) (hP : ∀ x j, P x j → ¬ (24 ≤ x ∧ x ≤ 87)) : IC T im IM τ :=
  ⟨by rw [hF.g (fun q => hP _ _ q (by omega))]; exact h.1, h.2.1, fun w => (h.2.2 w).fp hF (fun j q => hP _ _ q (by omega)) (fun j _ q => hP _ _ q (by omega))⟩
theorem CSt.fp {T : aH} {S : aH × (Int → aH) × Int × Int × aH} {σ τ : aS} {P : Int → Int → Prop} (h : CSt T S σ) (hF : Fp P σ τ) (hP : ∀ x j, P x j → qcl x j) : CSt T S τ := by
  obtain ⟨pl, a, b, c, d, e, f, g⟩ := h
  have n : ∀ x j, ¬ qcl x j → ¬ P x j := fun x j q w => q (hP x j w)
  refine ⟨pl, a.fp hF (fun x j q => ?_), ?_, c.fp hF (fun j => n _ _ ?_) (fun j _ => n _ _ ?_), ?_, e.fp hF (fun x j q w => ?_), f.fp hF (fun x j q w => ?_), g.fp hF (fun x j q w => ?_)⟩
  · have := hP x j q; unfold qcl at this; unfold wkc; omega
  · rw [hF.g (n _ _ (by unfold qcl; omega))]; exact b
  · unfold qcl; omega
  · unfold qcl; omega
  · rw [hF.g (n _ _ (by unfold qcl; omega))]; exact d
  · have := hP x j q; unfold qcl at this; omega
  · have := hP x j q; unfold qcl at this; omega
  · have := hP x j q; unfold qcl at this; omega
theorem qcl_a {σ τ : aS} {P : Int → Int → Prop} (hF : Fp P σ τ) (hP : ∀ x j, P x j → qcl x j) : Fp wca σ τ := hF.mono (fun x j q => by have := hP x j q; unfold qcl at this; unfold wca; omega)
theorem AnsC.q {T : aH} {S : aH × (Int → aH) × Int × Int × aH} {σ τ : aS} {P : Int → Int → Prop} {v w : Int} (h : CSt T S σ) (hF : Fp P σ τ) (hP : ∀ x j, P x j → qcl x j) (e : w = v) : AnsC T S σ (some (0, [w], τ)) v := AnsC.k (qcl_a hF hP) (h.fp hF hP) e
/-- the same with a state that the worker's own row was written in -/
theorem CSt.fw {T : aH} {S : aH × (Int → aH) × Int × Int × aH} {σ τ : aS} {pl : Int} (h : CSt T S σ) (h7 : aget σ 1 7 = pl) (hF : Fp (fwr pl 1728) σ τ) : CSt T S τ := by
  obtain ⟨pl', a, b, c, d, e, f, g⟩ := h
  have ep : pl' = pl := by rw [← h7]; exact a.2.2.1.2.2.symm
  subst ep
  have hp := a.2.1
  have nw : ∀ x j, fwr pl' 1728 x j → 10 ≤ x ∧ x ≤ 12 ∨ 98 ≤ x := fun x j q => by unfold fwr at q; omega
  refine ⟨pl', a.fw hF (fun x j q => Or.inr q), ?_, c.fp hF (fun j q => ?_) (fun j _ q => ?_), ?_, e.fp hF (fun x j q w => ?_), f.fp hF (fun x j q w => ?_), g.fp hF (fun x j q w => ?_)⟩
  · rw [hF.g (fun q => by have := nw _ _ q; omega)]; exact b
  · have := nw _ _ q; omega
  · have := nw _ _ q; omega
  · rw [hF.g (fun q => by have := nw _ _ q; omega)]; exact d
  · have := nw _ _ q; omega
  · have := nw _ _ q; omega
  · have := nw _ _ q; omega
theorem CSt.f18 {T : aH} {S : aH × (Int → aH) × Int × Int × aH} {σ τ : aS} {pl : Int} (h : CSt T S σ) (h7 : aget σ 1 7 = pl) (hF : Fp (fun x _ => x = pl + 18) σ τ) : CSt T S τ := by
  obtain ⟨pl', a, b, c, d, e, f, g⟩ := h
  have ep : pl' = pl := by rw [← h7]; exact a.2.2.1.2.2.symm
  subst ep
  have hp := a.2.1
  have hq := a.cq.f18 hF
  refine ⟨pl', ⟨hq.1, hp, ?_, hq.2.2.1, a.2.2.2.2.1.co (fun x j hx => hF.g (fun q => by omega)), a.2.2.2.2.2⟩, ?_, c.fp hF (fun j q => by omega) (fun j _ q => by omega), ?_, e.fp hF (fun x j q w => by omega), f.fp hF (fun x j q w => by omega), g.fp hF (fun x j q w => by omega)⟩
  · rw [hF.g (by omega), hF.g (by omega), hF.g (by omega)]; exact a.2.2.1
  · rw [hF.g (by omega)]; exact b
  · rw [hF.g (by omega)]; exact d
theorem c11_isSort_ok {pl : Int} {T : aH} {σ : aS} (hC : CI pl T σ) (s : Int) : c11_isSort 1 s σ = some (0, [if 0 ≤ s ∧ s < T 0 1 then 1 else 0], σ) := by
  obtain ⟨hL, hp, hq, hT, -, -⟩ := hC
  unfold c11_isSort
  rw [hq.2.2, rp_0 hL hp, np_1 hL hp, hT.1.2.1]
  by_cases c : 0 ≤ s ∧ s < T 0 1
  · rw [if_pos c]; exact ite_n (by omega) (ite_n (by omega) (ite_n (by omega) (ite_p (by omega) (ite_p c.2 (ite_p (by omega) rfl)))))
  · rw [if_neg c]
    by_cases a : s < 0
    · exact ite_p a (ite_p (by omega) rfl)
    · exact ite_n a (ite_n (by omega) (ite_n (by omega) (ite_p (by omega) (ite_n (by omega) (ite_p (by omega) rfl)))))
theorem c11_isTown_ok {pl : Int} {T : aH} {σ : aS} (hC : CI pl T σ) (s : Int) : c11_isTown 1 s σ = some (0, [if 0 ≤ s ∧ s < T 0 2 then 1 else 0], σ) := by
  obtain ⟨hL, hp, hq, hT, -, -⟩ := hC
  unfold c11_isTown
  rw [hq.2.2, rp_0 hL hp, np_1 hL hp, hT.1.2.2.1]
  by_cases c : 0 ≤ s ∧ s < T 0 2
  · rw [if_pos c]; exact ite_n (by omega) (ite_n (by omega) (ite_n (by omega) (ite_p (by omega) (ite_p c.2 (ite_p (by omega) rfl)))))
  · rw [if_neg c]
    by_cases a : s < 0
    · exact ite_p a (ite_p (by omega) rfl)
    · exact ite_n a (ite_n (by omega) (ite_n (by omega) (ite_p (by omega) (ite_n (by omega) (ite_p (by omega) rfl)))))
theorem c11_isPlace_ok {pl : Int} {T : aH} {σ : aS} (hC : CI pl T σ) (s : Int) : c11_isPlace 1 s σ = some (0, [if 0 ≤ s ∧ s ≤ T 0 2 then 1 else 0], σ) := by
  obtain ⟨hL, hp, hq, hT, -, -⟩ := hC
  unfold c11_isPlace
  rw [hq.2.2, rp_0 hL hp, np_1 hL hp, hT.1.2.2.1]
  by_cases c : 0 ≤ s ∧ s ≤ T 0 2
  · rw [if_pos c]; exact ite_n (by omega) (ite_n (by omega) (ite_n (by omega) (ite_p (by omega) (ite_n (by omega) (ite_p (by omega) rfl)))))
  · rw [if_neg c]
    by_cases a : s < 0
    · exact ite_p a (ite_p (by omega) rfl)
    · exact ite_n a (ite_n (by omega) (ite_n (by omega) (ite_p (by omega) (ite_p (by omega) (ite_p (by omega) rfl)))))
theorem w5' {s j : Int} (s0 : 0 ≤ s) (s1 : s ≤ 9) (j0 : 0 ≤ j) (j1 : j ≤ 9) : w32 ((w32 (s * 5)) + j) = 5 * s + j := by
  have e : w32 (s * 5) = 5 * s := by rw [Int.mul_comm]; exact wq (by omega) (by omega)
  rw [e]; exact wq (by omega) (by omega)
theorem c11_crew {pl : Int} {T : aH} {S : aH × (Int → aH) × Int × Int × aH} {σ : aS} (hC : CI pl T σ) (hN : NB T S.1) (hS : SC T S.1 88 σ) {p : Int} (p0 : 0 ≤ p) (p1 : p ≤ T 0 2) : c4_crewAt (aget σ 1 7) (aget σ (aget σ 1 6) 1) p σ = some (0, [pk5 (ctn T S.1 p)], σ) := by
  rw [hC.2.2.1.2.2, r_1_6 hC.1, hS.1]; exact c4_crewAt_ok hC hN p0 p1
theorem c11_at_q {T : aH} {S : aH × (Int → aH) × Int × Int × aH} {σ : aS} (h : CSt T S σ) (hN : NB T S.1) (s p : Int) : AnsC T S σ (c11_at 1 s p σ) (aAt T S.1 s p) := by
  have h' := h
  obtain ⟨pl, hC, -, hS, -⟩ := h'
  have hp := hC.2.1
  have hB := hC.2.2.2.2.2
  have h5 := hB.2.1
  unfold c11_at aAt
  refine AnsC.chk (c11_isSort_ok hC s) (fun hs => ?_) (fun _ => AnsC.s h rfl)
  refine AnsC.chk (c11_isPlace_ok hC p) (fun ho => ?_) (fun _ => AnsC.s h rfl)
  rw [c11_crew hC hN hS ho.1 ho.2, hC.2.2.1.2.2, r_1_6 hC.1, if_neg (show ¬ pl = 0 by omega), if_neg (show ¬ (88 : Int) = 0 by omega), acall1_some, c11_part_ok ((ctn_BF hN hB ho.1 ho.2).b7 hB) hs.1 (by omega), acall1_some]
  exact AnsC.s h (if_pos hs)
theorem c11_town_q {T : aH} {S : aH × (Int → aH) × Int × Int × aH} {σ : aS} (h : CSt T S σ) (hN : NB T S.1) (t w : Int) : AnsC T S σ (c11_town 1 t w σ) (aTown T S.1 t w) := by
  have h' := h
  obtain ⟨pl, hC, -, hS, -⟩ := h'
  have hC' := hC
  obtain ⟨hL, hp, hq, hT, -, hB⟩ := hC'
  have h4 := hB.2.2.1
  unfold c11_town aTown
  refine AnsC.chk (c11_isTown_ok hC t) (fun ht => ?_) (fun _ => AnsC.s h rfl)
  have hf := ctn_BF hN hB ht.1 (show t ≤ T 0 2 by omega)
  obtain ⟨c1, c2, -⟩ := hT.2.2.2.2.2.1 t ht.1 ht.2
  have hb := bnI_bit hN hB ht.1 (show t ≤ T 0 2 by omega)
  rw [c11_crew hC hN hS ht.1 (by omega), acall1_some, hq.2.2, r_1_6 hL, r_1_2 hL, rp_5 hL hp, np_6 hL hp, rs_0 hL (sc := 88) (Or.inl rfl), ns_1 hL (sc := 88) (Or.inl rfl), hS.2.2.1, if_neg (show ¬ pl = 0 by omega), if_neg (show ¬ (88 : Int) = 0 by omega)]
  refine AnsC.ite (fun _ => ?_) (fun _ => AnsC.ite (fun _ => ?_) (fun _ => AnsC.ite (fun _ => ?_) (fun _ => AnsC.ite (fun _ => ?_) (fun _ => AnsC.ite (fun _ => ?_) (fun _ => AnsC.ite (fun _ => ?_) (fun _ => ?_))))))
  · rw [if_neg (show ¬ pl = 0 by omega), if_neg (show ¬ pl + 6 = 0 by omega), if_pos (show (0 : Int) ≤ t ∧ t < 4 by omega)]; exact AnsC.s h c1
  · rw [c7_givenIn_ok hC hf ht.1 ht.2, acall1_some, if_neg (show ¬ (8 : Int) = 0 by omega)]; exact AnsC.s h rfl
  · rw [if_neg (show ¬ pl = 0 by omega), bI_shr hT.2.2.2.2.2.2.1.1 (by have := hT.2.2.2.2.2.2.1.2; omega) ht.1 (by omega)]; exact AnsC.s h c2
  · rw [if_neg (show ¬ (88 : Int) = 0 by omega), bI_shr hb.2.1 (by omega) ht.1 (by omega), hb.1]; exact AnsC.s h (if_pos ht.2)
  · rw [if_neg (show ¬ (88 : Int) = 0 by omega), if_neg (show ¬ (88 : Int) + 1 = 0 by omega), if_pos (show (0 : Int) ≤ t ∧ t < 4 by omega)]; exact AnsC.s h (hS.2.1 t ht.1 (by omega))
  · rw [c11_sizeOf_ok (hf.b7 hB), acall1_some]; exact AnsC.s h rfl
  · exact AnsC.s h rfl
theorem c11_worth_q {T : aH} {S : aH × (Int → aH) × Int × Int × aH} {σ : aS} (h : CSt T S σ) (hN : NB T S.1) (h40 : S.1 4 0 = -1) (s p c : Int) : AnsC T S σ (c11_worth 1 s p c σ) (aWorth T S.1 s p c) := by
  have h' := h
  obtain ⟨pl, hC, -, hS, h89, -⟩ := h'
  have hp := hC.2.1
  have hB := hC.2.2.2.2.2
  have h5 := hB.2.1
  have hL := hC.1
  have hR : RE S.1 σ := RE.of h89 h40
  unfold c11_worth aWorth
  refine AnsC.chk (c11_isSort_ok hC s) (fun hs => ?_) (fun _ => AnsC.s h rfl)
  refine AnsC.chk (c11_isPlace_ok hC p) (fun ho => ?_) (fun _ => AnsC.s h rfl)
  have hf := ctn_BF hN hB ho.1 ho.2
  have ec : ctn T S.1 p s = S.1 0 (5 * s + p) := if_pos hs
  rw [c11_crew hC hN hS ho.1 ho.2, hC.2.2.1.2.2, r_1_6 hL, if_neg (show ¬ pl = 0 by omega), if_neg (show ¬ (88 : Int) = 0 by omega), acall1_some]
  refine AnsC.ite (fun _ => ?_) (fun _ => ?_)
  · rw [c11_part_ok (hf.b7 hB) hs.1 (by omega), acall1_some, ec]
    refine AnsC.ite (fun _ => AnsC.s h rfl) (fun _ => ?_)
    rw [r_1_2 hL, r_1_6 hL, c7_worthIn_ok hC hN (Or.inl rfl) hS hR hf ho.1 ho.2 hs.1 hs.2, acall1_some, if_neg (show ¬ (8 : Int) = 0 by omega), if_neg (show ¬ (88 : Int) = 0 by omega)]
    exact AnsC.s h rfl
  · obtain ⟨τ, h1, hF⟩ := c7_worthOfOneMore_ok hC hN (Or.inl rfl) hS hR hf ho.1 ho.2 hs.1 hs.2
    rw [r_1_2 hL, r_1_6 hL, h1, acall1_some, if_neg (show ¬ (8 : Int) = 0 by omega), if_neg (show ¬ (88 : Int) = 0 by omega)]
    exact AnsC.k (hF.mono (fun x j q => by unfold fwr at q; unfold wca; omega)) (h.fw hC.2.2.1.2.2 hF) rfl
theorem c11_asked_q {T : aH} {S : aH × (Int → aH) × Int × Int × aH} {σ : aS} (h : CSt T S σ) (hN : NB T S.1) (h40 : S.1 4 0 = -1) (s t : Int) : AnsC T S σ (c11_asked 1 s t σ) (aAsked T S.1 s t) := by
  have h' := h
  obtain ⟨pl, hC, -, hS, h89, -⟩ := h'
  have hp := hC.2.1
  have hB := hC.2.2.2.2.2
  have h5 := hB.2.1
  have hL := hC.1
  have hR : RE S.1 σ := RE.of h89 h40
  unfold c11_asked aAsked
  refine AnsC.chk (c11_isSort_ok hC s) (fun hs => ?_) (fun _ => AnsC.s h rfl)
  refine AnsC.chk (c11_isTown_ok hC t) (fun ht => ?_) (fun _ => AnsC.s h rfl)
  have hf := ctn_BF hN hB ht.1 (show t ≤ T 0 2 by omega)
  have ec : ctn T S.1 t s = S.1 0 (5 * s + t) := if_pos hs
  rw [c11_crew hC hN hS ht.1 (by omega), hC.2.2.1.2.2, r_1_6 hL, if_neg (show ¬ pl = 0 by omega), if_neg (show ¬ (88 : Int) = 0 by omega), acall1_some, c11_part_ok (hf.b7 hB) hs.1 (by omega), acall1_some, ec]
  refine AnsC.ite (fun _ => AnsC.s h rfl) (fun _ => ?_)
  rw [r_1_2 hL, r_1_6 hL, c7_askedIn_ok hC hN (Or.inl rfl) hS hR hf ht.1 ht.2 hs.1 hs.2, acall1_some, if_neg (show ¬ (8 : Int) = 0 by omega), if_neg (show ¬ (88 : Int) = 0 by omega)]
  exact AnsC.s h rfl
theorem c11_canGo_ok {pl : Int} {T : aH} {S : aH × (Int → aH) × Int × Int × aH} {σ : aS} (hC : CI pl T σ) (hN : NB T S.1) (hS : SC T S.1 88 σ) (s a b : Int) : c11_canGo 1 s a b σ = some (0, [if mgoB T S.1 s a b = true then 1 else 0], σ) := by
  have hp := hC.2.1
  have hB := hC.2.2.2.2.2
  have h5 := hB.2.1
  have hL := hC.1
  have no : ¬ mgo T S.1 s a b → (some (0, [0], σ) : aR) = some (0, [if mgoB T S.1 s a b = true then 1 else 0], σ) := fun h => by rw [if_neg (fun q => h (mgoB_t.1 q))]
  unfold c11_canGo
  refine acall1_h (c11_isSort_ok hC s) ?_
  by_cases hs : 0 ≤ s ∧ s < T 0 1
  · rw [if_pos hs, if_neg (show ¬ (1 : Int) = 0 by omega)]
    refine acall1_h (c11_isPlace_ok hC a) ?_
    by_cases ha : 0 ≤ a ∧ a ≤ T 0 2
    · rw [if_pos ha, if_neg (show ¬ (1 : Int) = 0 by omega)]
      refine acall1_h (c11_isPlace_ok hC b) ?_
      by_cases hb : 0 ≤ b ∧ b ≤ T 0 2
      · rw [if_pos hb, if_neg (show ¬ (1 : Int) = 0 by omega)]
        by_cases e : a = b
        · exact ite_p e (ite_p (by omega) (no (fun q => q.2.1 e)))
        · have hf := ctn_BF hN hB ha.1 ha.2
          have ec : ctn T S.1 a s = S.1 0 (5 * s + a) := if_pos hs
          rw [if_neg e, c11_crew hC hN hS ha.1 ha.2, hC.2.2.1.2.2, r_1_6 hL, if_neg (show ¬ pl = 0 by omega), if_neg (show ¬ (88 : Int) = 0 by omega), acall1_some, c11_part_ok (hf.b7 hB) hs.1 (by omega), acall1_some, ec]
          by_cases z : 0 < S.1 0 (5 * s + a)
          · rw [if_pos z, if_pos (show mgoB T S.1 s a b = true from mgoB_t.2 ⟨⟨hs, ha, hb⟩, e, z⟩)]; rfl
          · exact ite_n z (ite_p (by omega) (no (fun q => z q.2.2)))
      · rw [if_neg hb, if_pos rfl]
        exact ite_p (by omega) (no (fun q => hb q.1.2.2))
    · rw [if_neg ha, if_pos rfl]
      exact ite_p (by omega) (no (fun q => ha q.1.2.1))
  · rw [if_neg hs, if_pos rfl]
    exact ite_p (by omega) (no (fun q => hs q.1.1))
theorem c11_gain_q {T : aH} {S : aH × (Int → aH) × Int × Int × aH} {σ : aS} (h : CSt T S σ) (hN : NB T S.1) (h40 : S.1 4 0 = -1) (s a b : Int) : AnsC T S σ (c11_gain 1 s a b σ) (aGain T S.1 s a b) := by
  have h' := h
  obtain ⟨pl, hC, -, hS, h89, -⟩ := h'
  have hL := hC.1
  have hR : RE S.1 σ := RE.of h89 h40
  unfold c11_gain aGain
  refine AnsC.chk (c11_canGo_ok hC hN hS s a b) (fun hq => ?_) (fun _ => AnsC.s h rfl)
  obtain ⟨⟨hs, ha, hb⟩, hab, hz⟩ := mgoB_t.1 hq
  rw [r_1_2 hL, r_1_6 hL, c7_gainOf_ok hC hN (Or.inl rfl) hS hR hs.1 hs.2 ha.1 ha.2 hb.1 hb.2 hab hz, acall1_some, if_neg (show ¬ (8 : Int) = 0 by omega), if_neg (show ¬ (88 : Int) = 0 by omega)]
  exact AnsC.s h rfl
theorem c11_total_q {T : aH} {S : aH × (Int → aH) × Int × Int × aH} {σ : aS} (h : CSt T S σ) (hN : NB T S.1) (h40 : S.1 4 0 = -1) : AnsC T S σ (c11_total 1 σ) (tot T S.1) := by
  have h' := h
  obtain ⟨pl, hC, -, hS, h89, -⟩ := h'
  have hL := hC.1
  have hR : RE S.1 σ := RE.of h89 h40
  unfold c11_total
  rw [r_1_2 hL, r_1_6 hL, c7_totalOf_ok hC hN (Or.inl rfl) hS hR, acall1_some, if_neg (show ¬ (8 : Int) = 0 by omega), if_neg (show ¬ (88 : Int) = 0 by omega)]
  exact AnsC.s h rfl
theorem c11_met_q {T : aH} {S : aH × (Int → aH) × Int × Int × aH} {σ : aS} (h : CSt T S σ) (hN : NB T S.1) (h40 : S.1 4 0 = -1) (t : Int) : AnsC T S σ (c11_met 1 t σ) (aMet T S.1 t) := by
  have h' := h
  obtain ⟨pl, hC, -, hS, h89, -⟩ := h'
  have hL := hC.1
  have hR : RE S.1 σ := RE.of h89 h40
  unfold c11_met aMet
  refine AnsC.chk (c11_isTown_ok hC t) (fun ht => ?_) (fun _ => AnsC.s h rfl)
  rw [r_1_2 hL, r_1_6 hL, c7_isMet_ok hC hN (Or.inl rfl) hS hR ht.1 ht.2, acall1_some, if_neg (show ¬ (8 : Int) = 0 by omega), if_neg (show ¬ (88 : Int) = 0 by omega)]
  unfold c11_asBit
  by_cases q : metB T S.1 t = true
  · rw [if_pos q, if_neg (show ¬ (1 : Int) = 0 by omega), acall1_some]; exact AnsC.s h rfl
  · rw [if_neg q, if_pos rfl, acall1_some]; exact AnsC.s h rfl
theorem c11_tied_q {T : aH} {S : aH × (Int → aH) × Int × Int × aH} {σ : aS} (h : CSt T S σ) : AnsC T S σ (c11_tied 1 σ) (S.1 3 0) := by
  have h' := h
  obtain ⟨pl, hC, -, hS, -⟩ := h'
  unfold c11_tied
  rw [r_1_6 hC.1, if_neg (show ¬ (88 : Int) = 0 by omega)]
  exact AnsC.s h hS.2.2.2.1
theorem c11_edge_q {T : aH} {S : aH × (Int → aH) × Int × Int × aH} {σ : aS} (h : CSt T S σ) (hN : NB T S.1) (h40 : S.1 4 0 = -1) (t s : Int) : AnsC T S σ (c11_edge 1 t s σ) (aEdge T S.1 t s) := by
  have h' := h
  obtain ⟨pl, hC, -, hS, h89, -⟩ := h'
  have hp := hC.2.1
  have hB := hC.2.2.2.2.2
  have h5 := hB.2.1
  have hL := hC.1
  have hR : RE S.1 σ := RE.of h89 h40
  unfold c11_edge aEdge
  refine AnsC.chk (c11_isTown_ok hC t) (fun ht => ?_) (fun _ => AnsC.s h rfl)
  refine AnsC.chk (c11_isSort_ok hC s) (fun hs => ?_) (fun _ => AnsC.s h rfl)
  have hf := ctn_BF hN hB ht.1 (show t ≤ T 0 2 by omega)
  have ec : ctn T S.1 t s = S.1 0 (5 * s + t) := if_pos hs
  have h7 := hN.1 s t hs.1 hs.2 ht.1 (show t ≤ T 0 2 by omega)
  rw [c11_crew hC hN hS ht.1 (by omega), hC.2.2.1.2.2, r_1_6 hL, if_neg (show ¬ pl = 0 by omega), if_neg (show ¬ (88 : Int) = 0 by omega), acall1_some, c11_part_ok (hf.b7 hB) hs.1 (by omega), acall1_some, ec]
  refine AnsC.ite (fun _ => AnsC.s h rfl) (fun hz => ?_)
  rw [r_1_2 hL, r_1_6 hL, c7_edgeOf_ok hC hN (Or.inl rfl) hS hR hs.1 hs.2 ht.1 ht.2 (by omega), acall1_some, if_neg (show ¬ (8 : Int) = 0 by omega), if_neg (show ¬ (88 : Int) = 0 by omega)]
  exact AnsC.s h rfl
theorem c11_out_q {T : aH} {S : aH × (Int → aH) × Int × Int × aH} {σ : aS} (h : CSt T S σ) (t x y : Int) : ∃ v, oOut T t x y v ∧ AnsC T S σ (c11_out 1 t x y σ) v := by
  have h' := h
  obtain ⟨pl, hC, -⟩ := h'
  have hp := hC.2.1
  have hB := hC.2.2.2.2.2
  have hL := hC.1
  have h17 := hC.2.2.1.2.2
  unfold oOut c11_out
  rw [c11_isTown_ok hC t, acall1_some]
  by_cases c1 : 0 ≤ t ∧ t < T 0 2
  · have g := hB.gr c1.1 c1.2
    rw [if_pos c1, if_neg (show ¬ (1 : Int) = 0 by omega), h17, rp_7 hL hp, if_neg (show ¬ pl = 0 by omega), if_neg (show ¬ pl + 14 = 0 by omega), c1_hasPlace_ok hC.cq c1.1 c1.2 x y, acall1_some]
    simp only [if_pos c1]
    by_cases hi : 0 ≤ x ∧ x < T 12 t ∧ 0 ≤ y ∧ y < T 13 t
    · have hin : inn (T 12 t) (T 13 t) x y := hi
      rw [if_pos hi, if_neg (show ¬ (1 : Int) = 0 by omega), h17, rp_7 hL hp, if_neg (show ¬ pl = 0 by omega), if_neg (show ¬ pl + 14 = 0 by omega), c1_isTaken_ok hC.cq c1.1 c1.2 hin, acall1_some]
      simp only [if_neg (show ¬ T 12 t = 0 by omega), if_pos (show 0 ≤ x ∧ x ≤ T 12 t - 1 by omega), if_pos (show 0 ≤ y ∧ y ≤ T 13 t - 1 by omega)]
      by_cases z : tkw T t x y = 0
      · rw [if_pos z]
        simp only [if_pos z]
        exact ⟨-2, rfl, AnsC.s h rfl⟩
      · rw [if_neg z]
        simp only [if_neg z]
        obtain ⟨l, τ, h1, hF, hl⟩ := c1_leastMoved_ok hC.cq c1.1 c1.2 hin
        refine ⟨l, hl, ?_⟩
        rw [h17, rp_7 hL hp, if_neg (show ¬ pl = 0 by omega), if_neg (show ¬ pl + 14 = 0 by omega), h1, acall1_some]
        exact AnsC.k (hF.mono (fun x j q => by unfold wca; omega)) (h.f18 h17 hF) rfl
    · rw [if_neg hi, if_pos rfl]
      refine ⟨-1, ?_, AnsC.s h rfl⟩
      by_cases a : T 12 t = 0
      · rw [if_pos a]
      · rw [if_neg a]
        by_cases b : 0 ≤ x ∧ x ≤ T 12 t - 1
        · rw [if_pos b, if_neg (show ¬ (0 ≤ y ∧ y ≤ T 13 t - 1) by omega)]
        · rw [if_neg b]
  · rw [if_neg c1, if_pos rfl]
    simp only [if_neg c1]
    exact ⟨-1, rfl, AnsC.s h rfl⟩
