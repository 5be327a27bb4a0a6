/-! class and reference side by side -/
theorem CSt.cn {T : aH} {S : aSS} {a : aK} {b : aH} {c c' : Nat × Nat} (h : CSt T S (a, b, c)) : CSt T S (a, b, c') := h
theorem MSt.cn {T : aH} {S : aSS} {a : aK} {b : aH} {c c' : Nat × Nat} (h : MSt T S (a, b, c)) : MSt T S (a, b, c') := h
theorem MSt.lo {T : aH} {S : aSS} {σ τ : aS} {P : Int → Int → Prop} (h : MSt T S σ) (hF : Fp P σ τ) (hP : ∀ x j, P x j → x < 130) (hL : LR τ) : MSt T S τ := by
  obtain ⟨⟨-, hT, hB⟩, hN, hU, hI⟩ := h
  have g : ∀ x j, 130 ≤ x → aget τ x j = aget σ x j := fun x j q => hF.g (fun w => by have := hP x j w; omega)
  refine ⟨⟨hL, ⟨⟨?_, ?_, ?_, ?_, ?_, ?_⟩, ?_, ?_, ?_, ?_, ?_, ?_, ?_, ?_, ?_⟩, hB⟩, ⟨?_, ?_, ?_, ?_, ?_, ?_, ?_⟩, ⟨?_, hU.2.1, ?_⟩, ?_, hI.2.1, ?_⟩
  · rw [g 130 12 (by omega)]; exact hT.1.1
  · rw [g 130 13 (by omega)]; exact hT.1.2.1
  · rw [g 130 14 (by omega)]; exact hT.1.2.2.1
  · rw [g 130 15 (by omega)]; exact hT.1.2.2.2.1
  · rw [g 130 17 (by omega)]; exact hT.1.2.2.2.2.1
  · rw [g 130 16 (by omega)]; exact hT.1.2.2.2.2.2
  · intro k h0 h1; rw [g 134 k (by omega)]; exact hT.2.1 k h0 h1
  · intro k h0 h1; rw [g 136 k (by omega)]; exact hT.2.2.1 k h0 h1
  · intro k h0 h1; rw [g 137 k (by omega)]; exact hT.2.2.2.1 k h0 h1
  · intro k h0 h1; rw [g 139 k (by omega)]; exact hT.2.2.2.2.1 k h0 h1
  · intro k h0 h1; rw [g 142 k (by omega), g 143 k (by omega), g 145 k (by omega), g 146 k (by omega), g 147 k (by omega), g 148 k (by omega)]; exact hT.2.2.2.2.2.1 k h0 h1
  · intro k h0 h1; rw [g 149 k (by omega)]; exact hT.2.2.2.2.2.2.1 k h0 h1
  · intro k h0 h1; rw [g 133 k (by omega), g 135 k (by omega)]; exact hT.2.2.2.2.2.2.2.1 k h0 h1
  · intro k h0 h1; rw [g 141 k (by omega)]; exact hT.2.2.2.2.2.2.2.2.1 k h0 h1
  · intro t t0 t1
    exact rok_t (hT.2.2.2.2.2.2.2.2.2 t t0 t1) rfl rfl (fun k ka kb => ⟨rfl, g 150 k (by omega), g 151 k (by omega), g 152 k (by omega)⟩)
  · intro s p a b c d; rw [g 155 _ (by omega)]; exact hN.1 s p a b c d
  · intro t a b; rw [g 156 _ (by omega)]; exact hN.2.1 t a b
  · intro t a b; rw [g 144 _ (by omega)]; exact hN.2.2.1 t a b
  · rw [g 130 80 (by omega)]; exact hN.2.2.2.1
  · rw [g 130 81 (by omega)]; exact hN.2.2.2.2.1
  · rw [g 130 59 (by omega)]; exact hN.2.2.2.2.2.1
  · rw [g 130 60 (by omega), g 130 61 (by omega)]; exact hN.2.2.2.2.2.2
  · rw [g 130 83 (by omega)]; exact hU.1
  · intro i i0 i1; exact (hU.2.2 i i0 i1).co hB (fun j _ _ => g 165 _ (by omega))
  · rw [g 130 85 (by omega)]; exact hI.1
  · intro q; exact (hI.2.2 q).co hB (fun j _ _ => g 166 _ (by omega))
theorem cst_hi {T : aH} {S : aSS} {σ τ : aS} {P : Int → Int → Prop} (h : CSt T S σ) (hF : Fp P σ τ) (hP : ∀ x j, P x j → 130 ≤ x) (hL : LR τ) : CSt T S τ := by
  obtain ⟨pl, a, b, c, d, e, f, g⟩ := h
  have hp := a.2.1
  have n : ∀ x j, P x j → 130 ≤ x := hP
  have hT : CT pl T τ := a.2.2.2.1.cp hp (fun x j hx => hF.g (fun q => by have := n x j q; omega))
  have hlg : LG T τ := a.2.2.2.2.1.co (fun x j hx => hF.g (fun q => by have := n x j q; omega))
  refine ⟨pl, ⟨hL, hp, ⟨?_, ?_, ?_⟩, hT, hlg, a.2.2.2.2.2⟩, ?_, c.fp hF (fun j q => ?_) (fun j _ q => ?_), ?_, e.fp hF (fun x j q w => ?_), f.fp hF (fun x j q w => ?_), g.fp hF (fun x j q w => ?_)⟩
  · rw [hF.g (fun q => by have := n _ _ q; omega)]; exact a.2.2.1.1
  · rw [hF.g (fun q => by have := n _ _ q; omega)]; exact a.2.2.1.2.1
  · rw [hF.g (fun q => by have := n _ _ q; omega)]; exact a.2.2.1.2.2
  · rw [hF.g (fun q => by have := n _ _ q; omega)]; exact b
  · have := n _ _ q; omega
  · have := n _ _ q; omega
  · rw [hF.g (fun q => by have := n _ _ q; omega)]; exact d
  · have := n _ _ q; omega
  · have := n _ _ q; omega
  · have := n _ _ q; omega
/-- the tapes, the words, the faults -/
def TP2 (σ : aS) : Prop := (∃ bt m, TPc bt m σ ∧ TPr bt m σ) ∧ WDr σ ∧ ∃ f p, FCc f p σ ∧ FCr f p σ
theorem TP2.co {σ τ : aS} (h : TP2 σ) (g : ∀ x j, (x = 2 ∧ j = 4) ∨ x = 3 ∨ x = 131 ∨ x = 132 ∨ (x = 130 ∧ (j = 1 ∨ j = 4 ∨ j = 5)) ∨ (x = 1 ∧ (j = 9 ∨ j = 10)) → aget τ x j = aget σ x j) : TP2 τ := by
  obtain ⟨⟨bt, m, hc, hr⟩, hw, f, p, fc, fr⟩ := h
  refine ⟨⟨bt, m, ⟨by rw [g 2 4 (by omega)]; exact hc.1, hc.2.1, fun j j0 j1 => by rw [g 3 j (by omega)]; exact hc.2.2 j j0 j1⟩, ⟨by rw [g 130 1 (by omega)]; exact hr.1, hr.2.1, fun j j0 j1 => by rw [g 131 j (by omega)]; exact hr.2.2 j j0 j1⟩⟩, fun j j0 j1 => by rw [g 132 j (by omega)]; exact hw j j0 j1, f, p, ⟨by rw [g 1 9 (by omega)]; exact fc.1, by rw [g 1 10 (by omega)]; exact fc.2⟩, by rw [g 130 4 (by omega)]; exact fr.1, by rw [g 130 5 (by omega)]; exact fr.2⟩
def GI (k : Int) (σ : aS) : Prop := ∃ T S, CSt T S σ ∧ MSt T S σ ∧ SG T k S ∧ TP2 σ
theorem GI.lr {k : Int} {σ : aS} (h : GI k σ) : LR σ := by
  obtain ⟨T, S, -, hM, -⟩ := h
  exact hM.1.1
theorem cst_lr {T : aH} {S : aSS} {σ : aS} (h : CSt T S σ) : LR σ := by obtain ⟨pl, a, -⟩ := h; exact a.1
theorem wma_n {x j : Int} (h : x < 130 ∨ x = 131 ∨ x = 132 ∨ (x = 130 ∧ (j = 1 ∨ j = 4 ∨ j = 5))) : wm wma x j = false := by
  cases hw : wm wma x j with
  | false => rfl
  | true =>
    exfalso
    unfold wm wma at hw
    simp at hw
    omega
/-- both answer one; the state goes on -/
theorem both {T : aH} {S S' : aSS} {k l : Int} {σ : aS} {r1 : aR} {r2 : aS → aR} {v : Int} (hM : MSt T S σ) (hP : TP2 σ) (h1 : AnsC T S' σ r1 v) (h2 : ∀ τ, MSt T S τ → AnsR T S' τ (r2 τ) v) (hS : SG T l S') :
    ∃ τ υ, r1 = some (0, [v], τ) ∧ r2 τ = some (0, [v], υ) ∧ GI l υ ∧ υ.2.2 = σ.2.2 := by
  obtain ⟨τ, e1, f1, c1⟩ := h1
  have M1 : MSt T S τ := hM.lo f1 (fun x j q => by unfold wca at q; omega) (cst_lr c1)
  obtain ⟨υ, e2, f2, m2⟩ := h2 τ M1
  have g2 : ∀ x j, x < 130 ∨ x = 131 ∨ x = 132 ∨ (x = 130 ∧ (j = 1 ∨ j = 4 ∨ j = 5)) → aget υ x j = aget τ x j := fun x j q => f2.g (wma_n q)
  have fp2 : Fp (fun x _ => 130 ≤ x) τ υ := ⟨f2.1, f2.2.1, fun x j q => g2 x j (by omega)⟩
  refine ⟨τ, υ, e1, e2, ⟨T, S', cst_hi c1 fp2 (fun x j q => q) m2.1.1, m2, hS, hP.co (fun x j q => ?_)⟩, by rw [f2.2.1, f1.2.1]⟩
  rw [g2 x j (by omega), f1.g (by unfold wca; omega)]
