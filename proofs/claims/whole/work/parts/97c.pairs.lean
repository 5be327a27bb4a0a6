/-! bytes, texts, faults, figures: side by side -/
/-- both answer one; the state goes on -/
def BO (l : Int) (σ : aS) (m1 : aR) (m2 : aS → aR) : Prop := ∃ τ υ v, m1 = some (0, [v], τ) ∧ m2 τ = some (0, [v], υ) ∧ GI l υ ∧ υ.2.2 = σ.2.2
theorem bo {T : aH} {S S' : aSS} {l : Int} {σ : aS} {r1 : aR} {r2 : aS → aR} {v : Int} (hM : MSt T S σ) (hP : TP2 σ) (h1 : AnsC T S' σ r1 v) (h2 : ∀ τ, MSt T S τ → AnsR T S' τ (r2 τ) v) (hS : SG T l S') : BO l σ r1 r2 := by
  obtain ⟨τ, υ, a, b, c, d⟩ := both (k := l) hM hP h1 h2 hS
  exact ⟨τ, υ, v, a, b, c, d⟩
theorem MSt.frs {T : aH} {S : aSS} {σ τ : aS} {l : List (Int × List Int)} (h : MSt T S σ) (hF : Fr l σ τ) (h1 : wR l = true) (h2 : ∀ x j, wm mco x j = true → wm l x j = false) (h3 : ∀ x j, wm mns x j = true → wm l x j = false) (h4 : ∀ x j, wm [(165, []), (130, [83])] x j = true → wm l x j = false) (h5 : ∀ x j, wm [(166, []), (130, [85])] x j = true → wm l x j = false) : MSt T S τ :=
  ⟨h.1.fr hF h1 h2, h.2.1.fr hF h3, h.2.2.1.fr h.1.2.2 hF h4, h.2.2.2.fr h.1.2.2 hF h5⟩
theorem wfd_n {x j : Int} (h : ¬ x = 131 ∧ ¬ (x = 130 ∧ (j = 1 ∨ j = 2))) : wm wfd x j = false := by
  cases hw : wm wfd x j with
  | false => rfl
  | true =>
    exfalso
    unfold wm wfd at hw
    simp at hw
    omega
theorem feed_bo {k : Int} {σ : aS} (hG : GI k σ) (a b c d e : Int) : BO (k + 1) σ (c11_feed 1 a b c d e σ) (fun τ => c12_feed 130 a b c d e τ) := by
  obtain ⟨T, S, hC, hM, hS, ⟨bt, m, tc, tr⟩, hw, f, p, fc, fr⟩ := hG
  obtain ⟨τ, e1, f1, t1⟩ := c11_feed_ok (cst_lr hC) tc a b c d e
  have C1 : CSt T S τ := hC.tt f1 (fun x j q => by unfold wtp at q; unfold wtt; omega)
  have g1 : ∀ x j, ¬ (x = 3 ∨ (x = 2 ∧ j = 4)) → aget τ x j = aget σ x j := fun x j q => f1.g q
  have M1 : MSt T S τ := hM.lo f1 (fun x j q => by unfold wtp at q; omega) (cst_lr C1)
  have r1 : TPr bt m τ := ⟨by rw [g1 _ _ (by omega)]; exact tr.1, tr.2.1, fun j j0 j1 => by rw [g1 _ _ (by omega)]; exact tr.2.2 j j0 j1⟩
  obtain ⟨υ, e2, f2, t2⟩ := c12_feed_ok (cst_lr C1) r1 a b c d e
  have M2 : MSt T S υ := M1.frs f2 (by decide +kernel) (wdj_spec (by decide +kernel)) (wdj_spec (by decide +kernel)) (wdj_spec (by decide +kernel)) (wdj_spec (by decide +kernel))
  have g2 : ∀ x j, ¬ x = 131 ∧ ¬ (x = 130 ∧ (j = 1 ∨ j = 2)) → aget υ x j = aget τ x j := fun x j q => f2.g (wfd_n q)
  have fp2 : Fp (fun x _ => 130 ≤ x) τ υ := ⟨f2.1, f2.2.1, fun x j q => g2 x j (by omega)⟩
  refine ⟨τ, υ, _, e1, e2, ⟨T, S, cst_hi C1 fp2 (fun x j q => q) M2.1.1, M2, hS.up (by omega), ⟨_, _, ⟨?_, t1.2.1, fun j j0 j1 => ?_⟩, t2⟩, fun j j0 j1 => ?_, f, p, ⟨?_, ?_⟩, ?_, ?_⟩, by rw [f2.2.1, f1.2.1]⟩
  · rw [g2 _ _ (by omega)]; exact t1.1
  · rw [g2 _ _ (by omega)]; exact t1.2.2 j j0 j1
  · rw [g2 _ _ (by omega), g1 _ _ (by omega)]; exact hw j j0 j1
  · rw [g2 _ _ (by omega), g1 _ _ (by omega)]; exact fc.1
  · rw [g2 _ _ (by omega), g1 _ _ (by omega)]; exact fc.2
  · rw [g2 _ _ (by omega), g1 _ _ (by omega)]; exact fr.1
  · rw [g2 _ _ (by omega), g1 _ _ (by omega)]; exact fr.2
/-- the reference forgets what was thrown -/
theorem GI.t2 {k : Int} {σ : aS} (h : GI k σ) (v : Int) : GI k (aput σ 130 2 v) := by
  obtain ⟨T, S, hC, hM, hS, hP⟩ := h
  have hF : Fp (fun x j => x = 130 ∧ j = 2) σ (aput σ 130 2 v) := (Fp.rf _ _).put _ ⟨rfl, rfl⟩
  have M2 : MSt T S (aput σ 130 2 v) := hM.rr (hF.mono (fun x j q => Or.inr (by omega)))
  exact ⟨T, S, cst_hi hC hF (fun x j q => by omega) M2.1.1, M2, hS, hP.co (fun x j q => hF.g (by omega))⟩
theorem GI.up {k l : Int} {σ : aS} (h : GI k σ) (hl : k ≤ l) : GI l σ := by
  obtain ⟨T, S, hC, hM, hS, hP⟩ := h
  exact ⟨T, S, hC, hM, hS.up hl, hP⟩
theorem GI.cn {k : Int} {a : aK} {b : aH} {c c' : Nat × Nat} (h : GI k (a, b, c)) : GI k (a, b, c') := by
  obtain ⟨T, S, hC, hM, hS, hP⟩ := h
  exact ⟨T, S, hC.cn, hM.cn, hS, hP⟩
theorem text_bo {k : Int} {σ : aS} (k0 : 0 ≤ k) (hG : GI k σ) (n : Int) : BO (k + 1) σ (c11_text 1 n σ) (fun τ => c12_text 130 n τ) := by
  have hG' := hG
  obtain ⟨T, S, hC, hM, hS, ⟨bt, m, tc, tr⟩, hw, f, p, fc, fr⟩ := hG
  by_cases hl : n < 0 ∨ m < n
  · exact ⟨σ, _, -2, txt_out hC tc hl, mtxt_out tr hl, (hG'.t2 0).up (by omega), rfl⟩
  · obtain ⟨U0, hZ, hcase⟩ := c11_text_ok hC tc (show 0 ≤ n by omega) (show n ≤ m by omega)
    -- the reference's side, from where the class has answered
    have other : ∀ τ, Fp wlo σ τ → LR τ → MSt T S τ ∧ WDr τ ∧ TPr bt m τ := fun τ hF hL => by
      have g : ∀ x j, 130 ≤ x → aget τ x j = aget σ x j := fun x j q => hF.g (fun w => by unfold wlo at w; omega)
      exact ⟨hM.lo hF (fun x j q => q) hL, fun j j0 j1 => by rw [g _ _ (by omega)]; exact hw j j0 j1, by rw [g _ _ (by omega)]; exact tr.1, tr.2.1, fun j j0 j1 => by rw [g _ _ (by omega)]; exact tr.2.2 j j0 j1⟩
    rcases hcase with ⟨z, τ, e1, f1, c1, t1, fc1⟩ | ⟨z, hI, τ, e1, f1, c1, t1, fc1⟩
    · obtain ⟨M1, w1, r1⟩ := other τ f1 (cst_lr c1)
      rcases c12_text_ok M1 hS.1.2.1 w1 r1 (show 0 ≤ n by omega) (show n ≤ m by omega) hZ with ⟨-, υ, e2, f2, m2, t2, fr2⟩ | ⟨z2, -⟩
      · have g2 : ∀ x j, ¬ (130 ≤ x ∧ x ≤ 166 ∧ x ≠ 131 ∧ x ≠ 132) → aget υ x j = aget τ x j := fun x j q => f2.g q
        refine ⟨τ, υ, -1, e1, e2, ⟨T, S, cst_hi c1 f2 (fun x j q => q.1) m2.1.1, m2, hS.up (by omega), ⟨bt, 0, ⟨by rw [g2 _ _ (by omega)]; exact t1.1, t1.2.1, fun j j0 j1 => by omega⟩, t2⟩, fun j j0 j1 => by rw [g2 _ _ (by omega)]; exact w1 j j0 j1, _, _, ⟨by rw [g2 _ _ (by omega)]; exact fc1.1, by rw [g2 _ _ (by omega)]; exact fc1.2⟩, fr2⟩, by rw [f2.2.1, f1.2.1]⟩
      · exact absurd z2 z
    · have L1 : LR τ := cst_lr (c1 _ ⟨fun _ _ _ => rfl, fun _ _ _ => rfl, fun _ _ _ _ _ _ => rfl, fun _ _ _ _ _ _ => ⟨rfl, rfl⟩, fun _ _ _ => ⟨rfl, rfl, rfl, rfl, rfl, rfl⟩, fun _ _ _ => rfl, fun _ _ _ _ _ _ => rfl, fun _ _ _ _ _ _ => rfl⟩)
      obtain ⟨M1, w1, r1⟩ := other τ f1 L1
      rcases c12_text_ok M1 hS.1.2.1 w1 r1 (show 0 ≤ n by omega) (show n ≤ m by omega) hZ with ⟨z2, -⟩ | ⟨-, υ, V, e2, f2, hV, m2, t2, fr2⟩
      · exact absurd z z2
      · have g2 : ∀ x j, ¬ (130 ≤ x ∧ x ≤ 166 ∧ x ≠ 131 ∧ x ≠ 132) → aget υ x j = aget τ x j := fun x j q => f2.g q
        have h23 : ∀ t, 0 ≤ t → t < 4 → 0 ≤ (txX bt n U0).2.2 23 t ∧ (txX bt n U0).2.2 23 t ≤ 1 := fun t t0 t4 => (hI.2.2.2.2.2.2.1.1 t t0 t4).2.2.2.2.2
        refine ⟨τ, υ, _, e1, e2, ⟨V, _, cst_hi (c1 V hV) f2 (fun x j q => q.1) m2.1.1, m2, ⟨nwN_EN (by omega) m2.1.2.2 h23, ⟨Int.le_refl _, by show (0 : Int) ≤ 30; omega⟩, fun i i0 i1 => absurd (show i < 0 from i1) (by omega), Or.inl rfl, fun q => absurd (show (0 : Int) = 1 from q) (by omega)⟩, ⟨bt, 0, ⟨by rw [g2 _ _ (by omega)]; exact t1.1, t1.2.1, fun j j0 j1 => by omega⟩, t2⟩, fun j j0 j1 => by rw [g2 _ _ (by omega)]; exact w1 j j0 j1, _, _, ⟨by rw [g2 _ _ (by omega)]; exact fc1.1, by rw [g2 _ _ (by omega)]; exact fc1.2⟩, fr2⟩, by rw [f2.2.1, f1.2.1]⟩
theorem fault_bo {k : Int} {σ : aS} (hG : GI k σ) (w : Int) : BO (k + 1) σ (c11_fault 1 w σ) (fun τ => c12_fault 130 w τ) := by
  have hG' := hG
  obtain ⟨T, S, hC, hM, hS, -, -, f, p, fc, fr⟩ := hG
  have hv : ∃ v, c11_fault 1 w σ = some (0, [v], σ) ∧ c12_fault 130 w σ = some (0, [v], aput σ 130 2 0) := by
    unfold c11_fault c12_fault
    rw [ag_j (show (4 : Int) ≠ 2 by omega), ag_j (show (5 : Int) ≠ 2 by omega), fc.1, fc.2, fr.1, fr.2]
    by_cases c : w = 0
    · rw [if_pos c, if_pos c]; exact ⟨_, rfl, rfl⟩
    · rw [if_neg c, if_neg c]
      by_cases d : w = 1
      · rw [if_pos d, if_pos d]; exact ⟨_, rfl, rfl⟩
      · rw [if_neg d, if_neg d]; exact ⟨_, rfl, rfl⟩
  obtain ⟨v, e1, e2⟩ := hv
  exact ⟨σ, _, v, e1, e2, (hG'.t2 0).up (by omega), rfl⟩
/-- figures of a sort: what the law makes of an answer or a throw, and the reference's -/
theorem look_bo {k : Int} {σ : aS} (hG : GI k σ) (s w : Int) (s1 : s ≤ 2147483647) (w1 : w ≤ 2147483647) :
    ∃ τ υ v x, flook 1 s w 167 σ = some (0, [v], τ) ∧ c12_look 130 s w τ = some (0, [x], υ) ∧ aget υ 130 2 = v ∧ (v = 0 → aget υ 167 0 = x) ∧ LR υ ∧ GI (k + 1) υ ∧ υ.2.2.1 ≤ σ.2.2.1 + 1 ∧ υ.2.2.2 ≤ σ.2.2.2 + 6 := by
  have hG' := hG
  obtain ⟨T, S, hC, hM, hS, hP⟩ := hG
  have hL := cst_lr hC
  have hb := hM.1.2.2.2.1
  obtain ⟨pl, hCI, -⟩ := id hC
  have hp := hCI.2.1
  have e7 : aget σ 1 7 = pl := hCI.2.2.1.2.2
  have hT := hCI.2.2.2.1
  have e1 : aget σ (pl + 1) 1 = T 0 1 := hT.1.2.1
  have n1 : ¬ (1 : Int) = 0 := by omega
  -- a throw: cells more that nothing names
  have thr : ∀ v : Int, (v = 1 ∨ v = 2) → flook 1 s w 167 σ = some (0, [v], aexn σ 1 6) → (∀ τ : aS, MI T τ → c12_look 130 s w τ = some (0, [0], aput (aput τ 130 2 0) 130 2 v)) →
      ∃ τ υ v x, flook 1 s w 167 σ = some (0, [v], τ) ∧ c12_look 130 s w τ = some (0, [x], υ) ∧ aget υ 130 2 = v ∧ (v = 0 → aget υ 167 0 = x) ∧ LR υ ∧ GI (k + 1) υ ∧ υ.2.2.1 ≤ σ.2.2.1 + 1 ∧ υ.2.2.2 ≤ σ.2.2.2 + 6 := by
    intro v hv hf hm
    have G1 : GI k (aexn σ 1 6) := GI.cn (a := σ.1) (b := σ.2.1) (c := σ.2.2) hG'
    have M1 : MSt T S (aexn σ 1 6) := MSt.cn (a := σ.1) (b := σ.2.1) (c := σ.2.2) hM
    have G2 : GI (k + 1) (aput (aput (aexn σ 1 6) 130 2 0) 130 2 v) := ((G1.t2 0).t2 v).up (by omega)
    exact ⟨_, _, v, 0, hf, hm _ M1.1, ag_s _ _ _ _, fun q => by omega, G2.lr, G2, Nat.le_refl _, Nat.le_refl _⟩
  have ms : ∀ τ : aS, MI T τ → ¬ (0 ≤ s ∧ s < T 0 1) → c12_look 130 s w τ = some (0, [0], aput (aput τ 130 2 0) 130 2 1) := fun τ hτ hn => by
    have h2 : MI T (aput τ 130 2 0) := hτ.t2
    unfold c12_look
    rw [c12_isSort_ok h2 s, acall1_some, if_neg hn, if_pos rfl]
    rfl
  have m2 : ∀ τ : aS, MI T τ → (0 ≤ s ∧ s < T 0 1) → ¬ (0 ≤ w ∧ w ≤ 3) → c12_look 130 s w τ = some (0, [0], aput (aput τ 130 2 0) 130 2 2) := fun τ hτ hn hw => by
    have h2 : MI T (aput τ 130 2 0) := hτ.t2
    unfold c12_look
    rw [c12_isSort_ok h2 s, acall1_some, if_pos hn, if_neg n1, c12_isIn_ok, acall1_some, if_neg hw, if_pos rfl]
    rfl
  by_cases c1 : s < 0
  · exact thr 1 (Or.inl rfl) (by unfold flook; exact if_pos c1) (fun τ hτ => ms τ hτ (by omega))
  · have start : ∀ r : aR, (if s < T 0 1 then (if w < 0 then some (0, [2], aexn σ 1 6) else if w < 4 then (if aget σ pl 2 = 0 then none else if (0 : Int) ≤ w32 ((w32 (s * 4)) + w) ∧ w32 ((w32 (s * 4)) + w) < alen σ (aget σ pl 2) then (if 0 < alen σ 167 then some (0, [0], aput σ 167 0 (aget σ (aget σ pl 2) (w32 ((w32 (s * 4)) + w)))) else none) else none) else some (0, [2], aexn σ 1 6)) else some (0, [1], aexn σ 1 6)) = r → flook 1 s w 167 σ = r := by
      intro r hr
      unfold flook
      rw [e7, rp_0 hL hp, np_1 hL hp, e1]
      exact ite_n c1 (ite_n (by omega) (ite_n (by omega) (ite_p (by omega) hr)))
    by_cases c2 : s < T 0 1
    · by_cases c3 : w < 0
      · exact thr 2 (Or.inr rfl) (start _ (ite_p c2 (ite_p c3 rfl))) (fun τ hτ => m2 τ hτ ⟨by omega, c2⟩ (by omega))
      · by_cases c4 : w < 4
        · have hq := hT.2.2.1 s w (by omega) c2 (by omega) c4
          have ei : w32 ((w32 (s * 4)) + w) = 4 * s + w := by rw [wq (x := s * 4) (by omega) (by omega), wq (by omega) (by omega)]; omega
          have ei2 : w32 ((w32 (4 * s)) + w) = 4 * s + w := by rw [wq (x := 4 * s) (by omega) (by omega), wq (by omega) (by omega)]
          obtain ⟨τ, ht⟩ : ∃ τ, τ = aput σ 167 0 (T 2 (4 * s + w)) := ⟨_, rfl⟩
          have hF : Fp (fun x j => x = 167 ∧ j = 0) σ τ := by rw [ht]; exact (Fp.rf _ _).put _ ⟨rfl, rfl⟩
          have hFr : Fr [(167, [])] σ τ := hF.fr (fun x j q => by rw [q.1]; rfl)
          have M1 : MSt T S τ := hM.frs hFr (by decide +kernel) (wdj_spec (by decide +kernel)) (wdj_spec (by decide +kernel)) (wdj_spec (by decide +kernel)) (wdj_spec (by decide +kernel))
          have G1 : GI k τ := ⟨T, S, cst_hi hC hF (fun x j q => by omega) M1.1.1, M1, hS, hP.co (fun x j q => hF.g (by omega))⟩
          have h2 : MI T (aput τ 130 2 0) := M1.1.t2
          refine ⟨τ, aput τ 130 2 0, 0, T 2 (4 * s + w), start _ ?_, ?_, ag_s _ _ _ _, fun _ => ?_, (G1.t2 0).lr, (G1.t2 0).up (by omega), ?_, ?_⟩
          · rw [rp_2 hL hp, np_3 hL hp, ei, hq, n_167 hL, ← ht]
            exact ite_p c2 (ite_n c3 (ite_p c4 (ite_n (by omega) (ite_p (by omega) (ite_p (by omega) rfl)))))
          · unfold c12_look
            rw [c12_isSort_ok h2 s, acall1_some, if_pos (show 0 ≤ s ∧ s < T 0 1 by omega), if_neg n1, c12_isIn_ok, acall1_some, if_pos (show 0 ≤ w ∧ w ≤ 3 by omega), if_neg n1, r_130_27 h2.1, n_136 h2.1, ei2, h2.2.1.2.2.1 _ (by omega) (by omega)]
            exact ite_n (by omega) (ite_p (by omega) rfl)
          · rw [ag_x (by omega), ht, ag_s]
          · rw [ht]; exact Nat.le_succ _
          · rw [ht]; exact Nat.le_add_right _ _
        · exact thr 2 (Or.inr rfl) (start _ (ite_p c2 (ite_n c3 (ite_n c4 rfl)))) (fun τ hτ => m2 τ hτ ⟨by omega, c2⟩ (by omega))
    · exact thr 1 (Or.inl rfl) (start _ (ite_n c2 rfl)) (fun τ hτ => ms τ hτ (by omega))
