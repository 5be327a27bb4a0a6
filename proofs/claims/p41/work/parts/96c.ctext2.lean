/-! the class's half of whole's part of this name -/
def txX (bt : Int → Int) (L : Int) (T : aH) : Int × Int × aH := txt bt L 800 (skp bt L 0) T
def wtx (pl x j : Int) : Prop := wtt x j ∨ wrp pl x j
theorem wtx_kR {pl : Int} (hp : pl = 90 ∨ pl = 110) : ∀ q ∈ kR, ¬ wtx pl q.1 q.2.1 := fun q hq w => w.elim (wtt_kR q hq) (wrp_kR hp q hq)
theorem c5_reads_ok {pl : Int} (hp : pl = 90 ∨ pl = 110) {bt : Int → Int} {m L : Int} {σ : aS} (hL : LR σ) (hT : TPc bt m σ) (l0 : 0 ≤ L) (l1 : L ≤ m) :
    ∃ T0 τ, TZ T0 ∧ c5_reads 7 L pl σ = some (0, [if (txX bt L T0).1 = 0 then 1 else 0], τ) ∧ Fp (wtx pl) σ τ ∧ LR τ ∧ OKc pl bt L (txX bt L T0) τ ∧ ((txX bt L T0).1 = 0 → TI (txX bt L T0).2.2 ∧ 0 ≤ (txX bt L T0).2.2 22 0 ∧ (txX bt L T0).2.2 22 0 ≤ 800) ∧ aget τ 2 4 = 0 := by
  have f1 : Fp (fun x j => x = 7 ∧ j = 1) σ (aput σ 7 1 pl) := (Fp.rf _ _).put _ ⟨rfl, rfl⟩
  obtain ⟨σ1, h1⟩ : ∃ σ1, σ1 = aput σ 7 1 pl := ⟨_, rfl⟩
  rw [← h1] at f1
  have L1 : LR σ1 := hL.tt f1 (fun x j q => by unfold wtt; omega)
  have e71 : aget σ1 7 1 = pl := by rw [h1, ag_s]
  obtain ⟨σ2, w1, -, L2, hZ, w2⟩ := c4_wipe_ok hp L1
  have hm := hT.2.1
  have t2 : TPc bt m σ2 := by
    refine ⟨?_, hm, fun j j0 j1 => ?_⟩
    · rw [w2.g (by unfold wrp; omega), f1.g (by omega)]; exact hT.1
    · rw [w2.g (by unfold wrp; omega), f1.g (by omega)]; exact hT.2.2 j j0 j1
  obtain ⟨σ3, o1, o2, o3, o4, o9, o10⟩ := c10_open_ok L2 t2 l0 l1
  have wo : ∀ x j, wto x j → x < 7 := fun x j q => by unfold wto at q; omega
  have L3 := o3.1.1
  have e73 : aget σ3 7 1 = pl := by rw [o2.g (fun q => by have := wo _ _ q; omega), w2.g (by unfold wrp; omega)]; exact e71
  have hPL : PLc pl (wT0 pl σ2) σ3 := (wT0_PL hp hZ).fp o2 (fun x j q => by have := wo _ _ q; omega)
  obtain ⟨hI, h22⟩ := wT0_I hZ
  have hs := skp_bd bt (n := L) (p := 0) l0
  have hRC : RC pl bt L (skp bt L 0) (wT0 pl σ2) σ3 := ⟨⟨o3, o9, o10⟩, e73, hPL⟩
  obtain ⟨τ, r1, r2, r3, r4⟩ := reads_loop hRC hI h22 hs.1 hs.2 (by omega)
  have g24 : aget τ 2 4 = 0 := by rw [r2.g (by unfold wrd wtq wrp; omega)]; exact o4
  have Lt : LR τ := L3.rd hp r2 (fun _ _ q => q)
  refine ⟨wT0 pl σ2, τ, wT0_Z hZ, ?_, ?_, Lt, r3, r4, g24⟩
  · unfold c5_reads
    rw [← h1, e71, if_neg (show ¬ pl = 0 by omega), w1, acall0_some, r_7_0 L2, if_neg (show ¬ (2 : Int) = 0 by omega), o1, acall0_some, r1]
    rfl
  · have a1 : Fp (wtx pl) σ σ1 := f1.mono (fun x j q => Or.inl (by unfold wtt; omega))
    have a2 : Fp (wtx pl) σ1 σ2 := w2.mono (fun x j q => Or.inr q)
    have a3 : Fp (wtx pl) σ2 σ3 := o2.mono (fun x j q => Or.inl (by unfold wto at q; unfold wtt; omega))
    have a4 : Fp (wtx pl) σ3 τ := r2.mono (fun x j q => q.elim (fun u => Or.inl (by unfold wtq at u; unfold wtt; omega)) Or.inr)
    exact a1.tr (a2.tr (a3.tr a4))
/-- the cells where the whole is set anew -/
def wnw (x j : Int) : Prop := (x = 1 ∧ 7 ≤ j) ∨ (x = 8 ∧ j = 0) ∨ (x = 20 ∧ j = 9) ∨ (x = 24 ∧ 2 ≤ j ∧ j ≤ 3) ∨ (x = 88 ∧ 1 ≤ j) ∨ x = 89
theorem wnw_kR : ∀ q ∈ kR, ¬ wnw q.1 q.2.1 := by
  have h : (kR.all fun q => !(decide ((q.1 = 1 ∧ 7 ≤ q.2.1) ∨ (q.1 = 8 ∧ q.2.1 = 0) ∨ (q.1 = 20 ∧ q.2.1 = 9) ∨ (q.1 = 24 ∧ 2 ≤ q.2.1 ∧ q.2.1 ≤ 3) ∨ (q.1 = 88 ∧ 1 ≤ q.2.1) ∨ q.1 = 89))) = true := by decide +kernel
  intro q hq hw
  have h1 := List.all_eq_true.mp h q hq
  have h2 := decide_eq_true (p := (q.1 = 1 ∧ 7 ≤ q.2.1) ∨ (q.1 = 8 ∧ q.2.1 = 0) ∨ (q.1 = 20 ∧ q.2.1 = 9) ∨ (q.1 = 24 ∧ 2 ≤ q.2.1 ∧ q.2.1 ≤ 3) ∨ (q.1 = 88 ∧ 1 ≤ q.2.1) ∨ q.1 = 89) hw
  rw [h2] at h1; cases h1
theorem LR.nw {σ τ : aS} {P : Int → Int → Prop} (h : LR σ) (hF : Fp P σ τ) (hP : ∀ x j, P x j → wnw x j) : LR τ := (hF.mono hP).LR wnw_kR h
theorem CT.cp {pl : Int} {T : aH} {σ τ : aS} (hp : pl = 90 ∨ pl = 110) (hT : CT pl T σ) (g : ∀ x j, pl ≤ x ∧ x ≤ pl + 19 → aget τ x j = aget σ x j) : CT pl T τ := by
  refine ⟨⟨?_, ?_, ?_, ?_, ?_, ?_⟩, ?_, ?_, ?_, ?_, ?_, ?_, ?_, ?_, ?_, ?_⟩
  · rw [g _ _ (by omega)]; exact hT.1.1
  · rw [g _ _ (by omega)]; exact hT.1.2.1
  · rw [g _ _ (by omega)]; exact hT.1.2.2.1
  · rw [g _ _ (by omega)]; exact hT.1.2.2.2.1
  · rw [g _ _ (by omega)]; exact hT.1.2.2.2.2.1
  · rw [g _ _ (by omega)]; exact hT.1.2.2.2.2.2
  · intro k a b; rw [g _ _ (by omega)]; exact hT.2.1 k a b
  · intro s w a b c d; rw [g _ _ (by omega)]; exact hT.2.2.1 s w a b c d
  · intro s w a b c d; rw [g _ _ (by omega)]; exact hT.2.2.2.1 s w a b c d
  · intro s w a b c d; rw [g _ _ (by omega)]; exact hT.2.2.2.2.1 s w a b c d
  · intro t a b
    rw [g (pl + 6) t (by omega), g pl 10 (by omega), g (pl + 10) t (by omega), g (pl + 11) t (by omega), g (pl + 15) t (by omega), g (pl + 16) t (by omega)]
    exact hT.2.2.2.2.2.1 t a b
  · rw [g pl 10 (by omega)]; exact hT.2.2.2.2.2.2.1
  · rw [g pl 15 (by omega)]; exact hT.2.2.2.2.2.2.2.1
  · intro t k a b c d; rw [g _ _ (by omega)]; exact hT.2.2.2.2.2.2.2.2.1 t k a b c d
  · intro t k a b c d; rw [g _ _ (by omega)]; exact hT.2.2.2.2.2.2.2.2.2.1 t k a b c d
  · intro t k a b c d; rw [g _ _ (by omega)]; exact hT.2.2.2.2.2.2.2.2.2.2 t k a b c d
/-- the fault's cells of the class -/
def FCc (f p : Int) (σ : aS) : Prop := aget σ 1 9 = f ∧ aget σ 1 10 = p
theorem cst_fc {T : aH} {S : aH × (Int → aH) × Int × Int × aH} {σ τ : aS} (h : CSt T S σ) {pl : Int} (h7 : aget σ 1 7 = pl) {P : Int → Int → Prop} (hF : Fp P σ τ) (hP : ∀ x j, P x j → wtx (200 - pl) x j ∨ (x = 1 ∧ (j = 9 ∨ j = 10))) (hL : LR τ) : CSt T S τ := by
  obtain ⟨pl', a, b, c, d, e, f, g⟩ := h
  have ep : pl' = pl := by rw [← h7]; exact a.2.2.1.2.2.symm
  subst ep
  have hp := a.2.1
  have n : ∀ x j, P x j → (2 ≤ x ∧ x ≤ 7) ∨ (200 - pl' ≤ x ∧ x ≤ 200 - pl' + 19) ∨ (x = 1 ∧ (j = 9 ∨ j = 10)) := fun x j q => by
    rcases hP x j q with (u | u) | u
    · unfold wtt at u; omega
    · unfold wrp at u; omega
    · omega
  have hT : CT pl' T τ := a.2.2.2.1.cp hp (fun x j hx => hF.g (fun q => by have := n x j q; omega))
  have hlg : LG T τ := a.2.2.2.2.1.co (fun x j hx => hF.g (fun q => by have := n x j q; omega))
  refine ⟨pl', ⟨hL, hp, ⟨?_, ?_, ?_⟩, hT, hlg, a.2.2.2.2.2⟩, ?_, c.fp hF (fun j q => ?_) (fun j _ q => ?_), ?_, e.fp hF (fun x j q w => ?_), f.fp hF (fun x j q w => ?_), g.fp hF (fun x j q w => ?_)⟩
  · rw [hF.g (fun q => by have := n _ _ q; omega)]; exact a.2.2.1.1
  · rw [hF.g (fun q => by have := n _ _ q; omega)]; exact a.2.2.1.2.1
  · rw [hF.g (fun q => by have := n _ _ q; omega)]; exact a.2.2.1.2.2
  · rw [hF.g (fun q => by have := n _ _ q; omega)]; exact b
  · have := n _ _ q; omega
  · have := n _ _ q; omega
  · rw [hF.g (fun q => by have := n _ _ q; omega)]; exact d
  · have := n _ _ q; omega
  · have := n _ _ q; omega
  · have := n _ _ q; omega
