/-! reform: the reference -/
theorem MN.rf0 {T N : aH} {σ : aS} (hS : MN T N σ) (t : Int) : MN T (rfN N t (aget σ 130 60) (aget σ 130 61)) (aput σ 130 59 t) := by
  refine ⟨fun s p a b c d => ?_, fun u a b => ?_, fun u a b => ?_, ?_, ?_, ?_, fun _ => ⟨?_, ?_⟩⟩
  · rw [ag_x (by omega), rfN_x _ _ _ _ (by omega)]; exact hS.1 s p a b c d
  · rw [ag_x (by omega), rfN_x _ _ _ _ (by omega)]; exact hS.2.1 u a b
  · rw [ag_x (by omega), rfN_x _ _ _ _ (by omega)]; exact hS.2.2.1 u a b
  · rw [ag_j (by omega), rfN_x _ _ _ _ (by omega)]; exact hS.2.2.2.1
  · rw [ag_j (by omega), rfN_x _ _ _ _ (by omega)]; exact hS.2.2.2.2.1
  · rw [ag_s, rfN_0]
  · rw [ag_j (by omega), rfN_1]
  · rw [ag_j (by omega), rfN_2]
theorem MN.rf1 {T N : aH} {σ : aS} {t a b : Int} (hS : MN T (rfN N t a b) σ) (x y : Int) : MN T (rfN N t x y) (aput (aput σ 130 60 x) 130 61 y) := by
  refine ⟨fun s p a b c d => ?_, fun u a b => ?_, fun u a b => ?_, ?_, ?_, ?_, fun _ => ⟨?_, ?_⟩⟩
  · rw [ag_x (by omega), ag_x (by omega), rfN_x _ _ _ _ (by omega)]; have := hS.1 s p a b c d; rw [rfN_x _ _ _ _ (by omega)] at this; exact this
  · rw [ag_x (by omega), ag_x (by omega), rfN_x _ _ _ _ (by omega)]; have := hS.2.1 u a b; rw [rfN_x _ _ _ _ (by omega)] at this; exact this
  · rw [ag_x (by omega), ag_x (by omega), rfN_x _ _ _ _ (by omega)]; have := hS.2.2.1 u a b; rw [rfN_x _ _ _ _ (by omega)] at this; exact this
  · rw [ag_j (by omega), ag_j (by omega), rfN_x _ _ _ _ (by omega)]; have := hS.2.2.2.1; rw [rfN_x _ _ _ _ (by omega)] at this; exact this
  · rw [ag_j (by omega), ag_j (by omega), rfN_x _ _ _ _ (by omega)]; have := hS.2.2.2.2.1; rw [rfN_x _ _ _ _ (by omega)] at this; exact this
  · rw [ag_j (by omega), ag_j (by omega), rfN_0]; have := hS.2.2.2.2.2.1; rw [rfN_0] at this; exact this
  · rw [ag_j (by omega), ag_s, rfN_1]
  · rw [ag_s, rfN_2]
theorem MN.rf2 {T N : aH} {σ : aS} {t a b : Int} (hS : MN T (rfN N t a b) σ) (h4 : N 4 0 = -1) : MN T N (aput σ 130 59 (-1)) := by
  refine ⟨fun s p a b c d => ?_, fun u a b => ?_, fun u a b => ?_, ?_, ?_, ?_, fun q => absurd h4 q⟩
  · rw [ag_x (by omega)]; have := hS.1 s p a b c d; rw [rfN_x _ _ _ _ (by omega)] at this; exact this
  · rw [ag_x (by omega)]; have := hS.2.1 u a b; rw [rfN_x _ _ _ _ (by omega)] at this; exact this
  · rw [ag_x (by omega)]; have := hS.2.2.1 u a b; rw [rfN_x _ _ _ _ (by omega)] at this; exact this
  · rw [ag_j (by omega)]; have := hS.2.2.2.1; rw [rfN_x _ _ _ _ (by omega)] at this; exact this
  · rw [ag_j (by omega)]; have := hS.2.2.2.2.1; rw [rfN_x _ _ _ _ (by omega)] at this; exact this
  · rw [ag_s]; exact h4.symm
def wrq : List (Int × List Int) := [(157, []), (158, []), (130, [54, 55, 56, 58, 60, 61, 62, 63, 64])]
theorem MI.rq {T : aH} {σ τ : aS} (h : MI T σ) (hF : Fr wrq σ τ) : MI T τ := h.fr hF (by decide +kernel) (wdj_spec (by decide +kernel))
theorem rq_in {T N : aH} {σ : aS} (hM : MI T σ) (hN : NB T N) {t A B w x a b : Int} (t0 : 0 ≤ t) (t1 : t < T 0 2) (b0 : 0 ≤ B) (b1 : B ≤ 30) (x0 : 0 ≤ x) (x1 : x ≤ 30) (hS : MN T (rfN N t a b) σ) :
    ∃ τ, aloop 71 (aU8 c12_reform_b70) aBig [130, t, A, B, w, 0, x, 0] σ = some (122, [130, t, A, B, w, if rfY T N t B x ≤ B then 1 else 0, x], τ) ∧ Fr wrq σ τ ∧ (∃ a b, MN T (rfN N t a b) τ) ∧
      (rfY T N t B x ≤ B → aget τ 130 60 = x ∧ aget τ 130 61 = rfY T N t B x) := by
  have hB := hM.2.2
  have h4 := hB.2.2.1
  have r0 := rfY_0 T N t B x
  have rn := rfY_n T N t x b0
  have rat := @rfY_at T N t B x
  have rno := @rfY_no T N t B x
  generalize rfY T N t B x = E at r0 rn rat rno
  have hal := al_I (c := 71) (B := aU8 c12_reform_b70) (n := B + 1) (i := 0) (vs := [130, t, A, B, w, 0, x, 0]) (σ := σ)
    (fun k vs τ => 0 ≤ k ∧ Fr wrq σ τ ∧ (∃ a b, MN T (rfN N t a b) τ) ∧ ((vs = [130, t, A, B, w, 0, x, k] ∧ k ≤ E) ∨ (vs = [130, t, A, B, w, 1, x, k] ∧ E < k ∧ aget τ 130 60 = x ∧ aget τ 130 61 = E)))
    (fun r => ∃ τ, r = (122, [130, t, A, B, w, if E ≤ B then 1 else 0, x], τ) ∧ Fr wrq σ τ ∧ (∃ a b, MN T (rfN N t a b) τ) ∧ (E ≤ B → aget τ 130 60 = x ∧ aget τ 130 61 = E)) (by omega) (by omega) ⟨Int.le_refl _, Fr.rf _ _, ⟨a, b, hS⟩, Or.inl ⟨rfl, r0⟩⟩ ?_
  · obtain ⟨r, hr, τ, rfl, h1, h2, h3⟩ := hal
    exact ⟨τ, hr, h1, h2, h3⟩
  · rintro k vs τ hk ⟨k0, hF, ⟨a, b, hSt⟩, ⟨rfl, hE⟩ | ⟨rfl, hE, e60, e61⟩⟩
    · have hM2 := hM.rq hF
      by_cases c : k < B + 1
      · have f1 : Fr wrq τ (aput (aput τ 130 60 x) 130 61 k) := ((Fr.rf _ _).put _ rfl).put _ rfl
        have hS1 := hSt.rf1 x k
        have hM3 := hM2.rq f1
        have hN1 : NB T (rfN N t x k) := hN.rf (by omega) (by omega) x0 x1 k0 (by omega)
        obtain ⟨υ, hm, hF2⟩ := c12_isMet_ok hM3 hN1 hS1 t0 t1
        have hS2 := hS1.wo hF2
        have hM4 := hM3.rq (hF2.mono rfl)
        have f2 : Fr wrq τ υ := f1.tr (hF2.mono rfl)
        have p113 : ∀ (f : Int) (φ : aS), c12_reform_p113 f 130 t A B w x k φ = some (71, [130, t, A, B, w, f, x, k + 1], φ) := fun f φ => by
          unfold c12_reform_p113; rw [wq (by omega) (by omega)]
        have st : ∀ (r : aR), (if metB T (rfN N t x k) t = true then (acall1 (c12_findFirst 130 υ) fun v2 σ2 => (if v2 = 0 then c12_reform_p113 1 130 t A B w x k σ2 else c12_reform_p112 130 t A B w x k σ2)) else c12_reform_p112 130 t A B w x k υ) = r → aU8 c12_reform_b70 [130, t, A, B, w, 0, x, k] τ = r := by
          intro r hr
          show c12_reform_b70 130 t A B w 0 x k τ = r
          unfold c12_reform_b70
          refine ite_n (by omega) (ite_p rfl (acall1_h hm ?_))
          rw [← hr]
          by_cases q : metB T (rfN N t x k) t = true
          · rw [if_pos q, if_pos q]; exact ite_n (by omega) rfl
          · rw [if_neg q, if_neg q]; exact ite_p rfl rfl
        have g60 : ∀ φ, Fr wff (aput (aput τ 130 60 x) 130 61 k) φ → aget φ 130 60 = x ∧ aget φ 130 61 = k := fun φ h => ⟨by rw [h.g rfl, ag_j (by omega), ag_s], by rw [h.g rfl, ag_s]⟩
        have no : rfC T N t x k = false → k + 1 ≤ E := fun q => by
          by_cases w : E = k
          · have := rat (by omega)
            rw [w, q] at this; cases this
          · omega
        by_cases q : metB T (rfN N t x k) t = true
        · obtain ⟨φ, hf, hF3, -⟩ := ff1 hM4 hN1 hS2
          have hS3 : MN T (rfN N t x k) φ := hS2.ff hF3
          have f3 : Fr wrq τ φ := f2.tr (hF3.mono rfl)
          by_cases z : fiS T (rfN N t x k) < T 0 1
          · rw [if_pos z] at hf
            refine Or.inl ⟨c, [130, t, A, B, w, 0, x, k + 1], φ, ?_, by omega, hF.tr f3, ⟨x, k, hS3⟩, Or.inl ⟨rfl, no (by unfold rfC; rw [decide_eq_true z]; simp)⟩⟩
            refine st _ ?_
            rw [if_pos q]
            exact acall1_h hf (ite_n (by omega) (by unfold c12_reform_p112; exact p113 0 φ))
          · rw [if_neg z] at hf
            have hC : rfC T N t x k = true := by unfold rfC; rw [q, decide_eq_false z]; rfl
            have hEk : E = k := by
              by_cases w : k < E
              · rw [rno k0 w] at hC; cases hC
              · omega
            obtain ⟨g1, g2⟩ := g60 φ ((hF2.mono rfl).tr hF3)
            refine Or.inl ⟨c, [130, t, A, B, w, 1, x, k + 1], φ, ?_, by omega, hF.tr f3, ⟨x, k, hS3⟩, Or.inr ⟨rfl, by omega, g1, by rw [g2, hEk]⟩⟩
            refine st _ ?_
            rw [if_pos q]
            exact acall1_h hf (ite_p rfl (p113 1 φ))
        · refine Or.inl ⟨c, [130, t, A, B, w, 0, x, k + 1], υ, ?_, by omega, hF.tr f2, ⟨x, k, hS2⟩, Or.inl ⟨rfl, no (by unfold rfC; rw [Bool.eq_false_iff.2 q]; rfl)⟩⟩
          refine st _ ?_
          rw [if_neg q]
          unfold c12_reform_p112
          exact p113 0 υ
      · have he : ¬ E ≤ B := by omega
        refine Or.inr ⟨(122, [130, t, A, B, w, if E ≤ B then 1 else 0, x], τ), ?_, Nat.ne_of_beq_eq_false rfl, τ, rfl, hF, ⟨a, b, hSt⟩, fun q => absurd q he⟩
        rw [if_neg he]
        show c12_reform_b70 130 t A B w 0 x k τ = _
        unfold c12_reform_b70
        exact ite_p (by omega) rfl
    · have he : E ≤ B := by omega
      refine Or.inr ⟨(122, [130, t, A, B, w, if E ≤ B then 1 else 0, x], τ), ?_, Nat.ne_of_beq_eq_false rfl, τ, rfl, hF, ⟨a, b, hSt⟩, fun _ => ⟨e60, e61⟩⟩
      rw [if_pos he]
      show c12_reform_b70 130 t A B w 1 x k τ = _
      unfold c12_reform_b70
      by_cases d : B < k
      · exact ite_p d rfl
      · exact ite_n d (ite_n (by omega) rfl)
theorem rq_out {T N : aH} {σ : aS} (hM : MI T σ) (hN : NB T N) {t A B w a b : Int} (t0 : 0 ≤ t) (t1 : t < T 0 2) (a0 : 0 ≤ A) (a1 : A ≤ 30) (b0 : 0 ≤ B) (b1 : B ≤ 30) (hS : MN T (rfN N t a b) σ) :
    ∃ τ, aloop 57 (aU7 c12_reform_b56) aBig [130, t, A, B, w, 0, 0] σ = some (128, [130, w, if rfX T N t A B ≤ A then 1 else 0], τ) ∧ Fr wrq σ τ ∧ (∃ a b, MN T (rfN N t a b) τ) ∧
      (rfX T N t A B ≤ A → aget τ 130 60 = rfX T N t A B ∧ aget τ 130 61 = rfY T N t B (rfX T N t A B)) := by
  have r0 := rfX_0 T N t A B
  have rn := rfX_n T N t B a0
  have rat := @rfX_at T N t A B
  have rno := @rfX_no T N t A B
  generalize rfX T N t A B = E at r0 rn rat rno
  have hal := al_I (c := 57) (B := aU7 c12_reform_b56) (n := A + 1) (i := 0) (vs := [130, t, A, B, w, 0, 0]) (σ := σ)
    (fun k vs τ => 0 ≤ k ∧ Fr wrq σ τ ∧ (∃ a b, MN T (rfN N t a b) τ) ∧ ((vs = [130, t, A, B, w, 0, k] ∧ k ≤ E) ∨ (vs = [130, t, A, B, w, 1, k] ∧ E < k ∧ aget τ 130 60 = E ∧ aget τ 130 61 = rfY T N t B E)))
    (fun r => ∃ τ, r = (128, [130, w, if E ≤ A then 1 else 0], τ) ∧ Fr wrq σ τ ∧ (∃ a b, MN T (rfN N t a b) τ) ∧ (E ≤ A → aget τ 130 60 = E ∧ aget τ 130 61 = rfY T N t B E)) (by omega) (by omega) ⟨Int.le_refl _, Fr.rf _ _, ⟨a, b, hS⟩, Or.inl ⟨rfl, r0⟩⟩ ?_
  · obtain ⟨r, hr, τ, rfl, h1, h2, h3⟩ := hal
    exact ⟨τ, hr, h1, h2, h3⟩
  · rintro k vs τ hk ⟨k0, hF, ⟨a, b, hSt⟩, ⟨rfl, hE⟩ | ⟨rfl, hE, e60, e61⟩⟩
    · by_cases c : k < A + 1
      · obtain ⟨υ, hl, hF2, hS2, h6⟩ := rq_in (A := A) (w := w) (hM.rq hF) hN t0 t1 b0 b1 k0 (show k ≤ 30 by omega) hSt
        have st : ∀ f, (if rfY T N t B k ≤ B then (1 : Int) else 0) = f → aU7 c12_reform_b56 [130, t, A, B, w, 0, k] τ = some (57, [130, t, A, B, w, f, k + 1], υ) := fun f hf => by
          show c12_reform_b56 130 t A B w 0 k τ = _
          unfold c12_reform_b56
          refine ite_n (by omega) (ite_p rfl ?_)
          unfold c12_reform_l70
          rw [hl, hf]
          show c12_reform_p121 130 t A B w f k υ = _
          unfold c12_reform_p121
          rw [wq (by omega) (by omega)]
        by_cases q : rfY T N t B k ≤ B
        · have hEk : E = k := by
            by_cases w : k < E
            · exact absurd q (rno k0 w)
            · omega
          obtain ⟨g1, g2⟩ := h6 q
          exact Or.inl ⟨c, _, υ, st 1 (if_pos q), by omega, hF.tr hF2, hS2, Or.inr ⟨rfl, by omega, by rw [g1, hEk], by rw [g2, hEk]⟩⟩
        · refine Or.inl ⟨c, _, υ, st 0 (if_neg q), by omega, hF.tr hF2, hS2, Or.inl ⟨rfl, ?_⟩⟩
          by_cases w : E = k
          · have := rat (by omega)
            rw [w] at this; exact absurd this q
          · omega
      · have he : ¬ E ≤ A := by omega
        refine Or.inr ⟨(128, [130, w, if E ≤ A then 1 else 0], τ), ?_, Nat.ne_of_beq_eq_false rfl, τ, rfl, hF, ⟨a, b, hSt⟩, fun q => absurd q he⟩
        rw [if_neg he]
        show c12_reform_b56 130 t A B w 0 k τ = _
        unfold c12_reform_b56
        exact ite_p (by omega) rfl
    · have he : E ≤ A := by omega
      refine Or.inr ⟨(128, [130, w, if E ≤ A then 1 else 0], τ), ?_, Nat.ne_of_beq_eq_false rfl, τ, rfl, hF, ⟨a, b, hSt⟩, fun _ => ⟨e60, e61⟩⟩
      rw [if_pos he]
      show c12_reform_b56 130 t A B w 1 k τ = _
      unfold c12_reform_b56
      by_cases d : A < k
      · exact ite_p d rfl
      · exact ite_n d (ite_n (by omega) rfl)
def aReform (T N : aH) (t A B w : Int) : Int :=
  if 0 ≤ t ∧ t < T 0 2 then (if 0 ≤ A ∧ A ≤ 30 then (if 0 ≤ B ∧ B ≤ 30 then (if 0 ≤ w ∧ w ≤ 1 then (if rfX T N t A B ≤ A then (if w = 0 then rfX T N t A B else rfY T N t B (rfX T N t A B)) else -2) else -1) else -1) else -1) else -1
theorem c12_reform_q {T N : aH} {σ : aS} (hM : MI T σ) (hN : NB T N) (h40 : N 4 0 = -1) (hS : MN T N σ) (t A B w : Int) : AnsM T N σ (c12_reform 130 t A B w σ) (aReform T N t A B w) := by
  have hM0 := hM.t2
  have hS0 := hS.t2
  unfold c12_reform aReform
  refine AnsM.chk (c12_isTown_ok hM0 t) (fun ht => ?_) (fun _ => AnsM.k (st2_q σ) hS.t2 rfl)
  refine AnsM.chk (c12_isIn_ok A 0 30 _) (fun hA => ?_) (fun _ => AnsM.k (st2_q σ) hS.t2 rfl)
  refine AnsM.chk (c12_isIn_ok B 0 30 _) (fun hb => ?_) (fun _ => AnsM.k (st2_q σ) hS.t2 rfl)
  refine AnsM.chk (c12_isIn_ok w 0 1 _) (fun hw => ?_) (fun _ => AnsM.k (st2_q σ) hS.t2 rfl)
  have hSt := hS0.rf0 t
  have f1 : Fr [(130, [59])] (st2 σ) (aput (st2 σ) 130 59 t) := (Fr.rf _ _).put _ rfl
  have hM1 : MI T (aput (st2 σ) 130 59 t) := hM0.fr f1 (by decide +kernel) (wdj_spec (by decide +kernel))
  obtain ⟨τ, h1, hF, ⟨a, b, h2⟩, h3⟩ := rq_out (w := w) hM1 hN ht.1 ht.2 hA.1 hA.2 hb.1 hb.2 hSt
  have hS3 := h2.rf2 h40
  have f3 : Fr [(130, [59])] τ (aput τ 130 59 (-1)) := (Fr.rf _ _).put _ rfl
  have hq : Fr wmq σ (aput τ 130 59 (-1)) := (st2_q σ).tr ((f1.mono rfl).tr ((hF.mono rfl).tr (f3.mono rfl)))
  show AnsM T N σ (c12_reform_l56 130 t A B w 0 0 (aput (st2 σ) 130 59 t)) _
  unfold c12_reform_l56
  rw [h1]
  show AnsM T N σ (c12_reform_p127 130 w (if rfX T N t A B ≤ A then 1 else 0) τ) _
  unfold c12_reform_p127
  by_cases c : rfX T N t A B ≤ A
  · obtain ⟨g1, g2⟩ := h3 c
    rw [if_pos c, if_pos c, if_neg (by omega)]
    exact AnsM.ite (fun _ => AnsM.k hq hS3 (by rw [ag_j (by omega)]; exact g1)) (fun _ => AnsM.k hq hS3 (by rw [ag_j (by omega)]; exact g2))
  · rw [if_neg c, if_neg c, if_pos rfl]
    exact AnsM.k hq hS3 rfl
