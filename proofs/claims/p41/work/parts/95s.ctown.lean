/-! the class's half of whole's part of this name -/
def vtP (b : Int → Int) (n key P : Int) : Int := if kd b n P = key then nxp b n P else P
def vtT (b : Int → Int) (n key a t P : Int) (T : aH) : aH := if kd b n P = key then stv T a t 1 else T
def twE (b : Int → Int) (n t P : Int) (T : aH) : Int × Int × aH := if kd b n P = 108 then lnE b n t (nxp b n P) T else (1, P, T)
def twB (b : Int → Int) (n t P : Int) (T : aH) : Int × Int × aH := twE b n t (vtP b n 107 P) (vtT b n 107 23 t P T)
def twV (b : Int → Int) (n t P : Int) (T : aH) : Int × Int × aH := twB b n t (vtP b n 106 P) (vtT b n 106 6 t P T)
def lnT (b : Int → Int) (n P : Int) (T : aH) : Int × Int × aH :=
  if (nwF b n T 2 4 P).1 ≠ 0 then ((nwF b n T 2 4 P).1, (nwF b n T 2 4 P).2, T) else
  if (lnIs b n (T 0 2) 800 (nxp b n (nxp b n P)) (nwT b n T 2 P)).1 ≠ 0 then lnIs b n (T 0 2) 800 (nxp b n (nxp b n P)) (nwT b n T 2 P) else
  twV b n (T 0 2) (lnIs b n (T 0 2) 800 (nxp b n (nxp b n P)) (nwT b n T 2 P)).2.1 (lnIs b n (T 0 2) 800 (nxp b n (nxp b n P)) (nwT b n T 2 P)).2.2
theorem lnI_x {b : Int → Int} {n t P : Int} {T : aH} {a i : Int} (h : a ≠ 5) : (lnI b n t P T).2.2 a i = T a i := by
  unfold lnI
  repeat' split
  all_goals first
    | rfl
    | exact stv_x h _
theorem lnIs_x {b : Int → Int} {n t : Int} {a i : Int} (h : a ≠ 5) : ∀ (k : Nat) (P : Int) (T : aH), (lnIs b n t k P T).2.2 a i = T a i := by
  intro k
  induction k with
  | zero => intro P T; rfl
  | succ k ih =>
    intro P T
    show (if kd b n P = 105 then (if (lnI b n t P T).1 ≠ 0 then lnI b n t P T else lnIs b n t k (lnI b n t P T).2.1 (lnI b n t P T).2.2) else (0, P, T)).2.2 a i = T a i
    split
    · split
      · exact lnI_x h
      · rw [ih, lnI_x h]
    · rfl
theorem readTown_p143_ok {pl : Int} {b : Int → Int} {n P : Int} {T : aH} {σ : aS} (h : RC pl b n P T σ) (hB : BTk T) (h24 : 0 ≤ T 24 0 ∧ T 24 0 ≤ 64) {t : Int} (t0 : 0 ≤ t) (t1 : t < 4) : ∃ τ, c5_readTown_p143 7 t σ = some (0, [], τ) ∧ Fp (wrd pl) σ τ ∧ OKc pl b n (twE b n t P T) τ := by
  have hp := h.2.2.1
  unfold c5_readTown_p143 twE
  rw [r_7_0 h.lr, if_neg (show ¬ (2 : Int) = 0 by omega)]
  rcases c10_take_p h.1 108 with ⟨c, σ1, e1, e2, e3⟩ | ⟨c, σ1, e1, e2, e3⟩
  · have hR1 := h.tq e2 e3
    obtain ⟨τ, f1, f2, f3⟩ := c6_readRule_ok hR1 hB h24 t0 t1
    rw [if_pos c, e1, acall1_some, if_neg (show ¬ (1 : Int) = 0 by omega), hR1.2.1, rp_6 hR1.lr hp, r_7_0 hR1.lr, f1, acall0_some]
    exact ⟨τ, ite_n (by omega) (ite_n (by omega) (ite_n (by omega) rfl)), (wtq_d e2).tr f2, f3⟩
  · rw [if_neg c, e1, acall1_some, if_pos rfl]
    exact ⟨σ1, rfl, wtq_d e2, Or.inr ⟨by show (1 : Int) ≠ 0; omega, e3, by rw [e2.g (by unfold wtq; omega)]; exact h.2.1⟩⟩
theorem BTk.set {T : aH} (h : BTk T) {a i v : Int} (ha : a ≠ 0) : BTk (stv T a i v) := h.of (fun j _ _ => stv_x (by omega) _)
theorem readTown_p99_ok {pl : Int} {b : Int → Int} {n P : Int} {T : aH} {σ : aS} (h : RC pl b n P T σ) (hB : BTk T) (h24 : 0 ≤ T 24 0 ∧ T 24 0 ≤ 64) {t : Int} (t0 : 0 ≤ t) (t1 : t < 4) : ∃ τ, c5_readTown_p99 7 t σ = some (0, [], τ) ∧ Fp (wrd pl) σ τ ∧ OKc pl b n (twB b n t P T) τ := by
  have hp := h.2.2.1
  unfold c5_readTown_p99 twB vtP vtT
  rw [r_7_0 h.lr, if_neg (show ¬ (2 : Int) = 0 by omega), c10_isSound_p h.1, acall1_some, if_neg (show ¬ (1 : Int) = 0 by omega), r_7_0 h.lr, if_neg (show ¬ (2 : Int) = 0 by omega), h.1.kd.1]
  by_cases c : kd b n P = 107
  · rw [if_pos c, if_pos c, if_pos c, h.2.1, if_neg (show ¬ pl = 0 by omega)]
    obtain ⟨hR2, hF2⟩ := h.set (w := 11) (a := 23) (m := 4) (k := t) (Or.inr (Or.inr (Or.inr ⟨rfl, rfl, rfl⟩))) t0 t1
    obtain ⟨σ2, hσ2⟩ : ∃ σ2, σ2 = aput σ pl 11 (aor (aget σ pl 11) (ashl 1 t)) := ⟨_, rfl⟩
    rw [← hσ2] at hR2 hF2 ⊢
    obtain ⟨σ3, e1, e2, e3⟩ := c10_step_p hR2.1
    obtain ⟨τ, f1, f2, f3⟩ := readTown_p143_ok (hR2.tq e2 e3) (hB.set (by omega)) (by rw [stv_x (by omega)]; exact h24) t0 t1
    refine ⟨τ, ?_, hF2.tr ((wtq_d e2).tr f2), f3⟩
    rw [r_7_0 hR2.lr, e1, acall0_some, f1]
    exact ite_n (by omega) rfl
  · rw [if_neg c, if_neg c, if_neg c]
    exact readTown_p143_ok h hB h24 t0 t1
theorem readTown_p55_ok {pl : Int} {b : Int → Int} {n P : Int} {T : aH} {σ : aS} (h : RC pl b n P T σ) (hB : BTk T) (h24 : 0 ≤ T 24 0 ∧ T 24 0 ≤ 64) {t : Int} (t0 : 0 ≤ t) (t1 : t < 4) : ∃ τ, c5_readTown_p55 7 t σ = some (0, [], τ) ∧ Fp (wrd pl) σ τ ∧ OKc pl b n (twV b n t P T) τ := by
  have hp := h.2.2.1
  unfold c5_readTown_p55 twV vtP vtT
  rw [r_7_0 h.lr, if_neg (show ¬ (2 : Int) = 0 by omega), c10_isSound_p h.1, acall1_some, if_neg (show ¬ (1 : Int) = 0 by omega), r_7_0 h.lr, if_neg (show ¬ (2 : Int) = 0 by omega), h.1.kd.1]
  by_cases c : kd b n P = 106
  · rw [if_pos c, if_pos c, if_pos c, h.2.1, if_neg (show ¬ pl = 0 by omega)]
    obtain ⟨hR2, hF2⟩ := h.set (w := 10) (a := 6) (m := 4) (k := t) (Or.inr (Or.inr (Or.inl ⟨rfl, rfl, rfl⟩))) t0 t1
    obtain ⟨σ2, hσ2⟩ : ∃ σ2, σ2 = aput σ pl 10 (aor (aget σ pl 10) (ashl 1 t)) := ⟨_, rfl⟩
    rw [← hσ2] at hR2 hF2 ⊢
    obtain ⟨σ3, e1, e2, e3⟩ := c10_step_p hR2.1
    obtain ⟨τ, f1, f2, f3⟩ := readTown_p99_ok (hR2.tq e2 e3) (hB.set (by omega)) (by rw [stv_x (by omega)]; exact h24) t0 t1
    refine ⟨τ, ?_, hF2.tr ((wtq_d e2).tr f2), f3⟩
    rw [r_7_0 hR2.lr, e1, acall0_some, f1]
    exact ite_n (by omega) rfl
  · rw [if_neg c, if_neg c, if_neg c]
    exact readTown_p99_ok h hB h24 t0 t1
theorem readTown_p55_f {f P t : Int} {σ : aS} (h : FTc f P σ) : c5_readTown_p55 7 t σ = some (0, [], σ) := by
  unfold c5_readTown_p55 c5_readTown_p99 c5_readTown_p143
  rw [r_7_0 h.1, if_neg (show ¬ (2 : Int) = 0 by omega), c10_isSound_f h, acall1_some, if_pos rfl, r_7_0 h.1, if_neg (show ¬ (2 : Int) = 0 by omega), c10_isSound_f h, acall1_some, if_pos rfl, r_7_0 h.1, if_neg (show ¬ (2 : Int) = 0 by omega), c10_take_f h, acall1_some, if_pos rfl]
theorem c5_readTown_ok {pl : Int} {b : Int → Int} {n P : Int} {T : aH} {σ : aS} (h : RC pl b n P T σ) (hB : BTk T) (hG : BGk T) (h24 : 0 ≤ T 24 0 ∧ T 24 0 ≤ 64) : ∃ τ, c5_readTown 7 σ = some (0, [], τ) ∧ Fp (wrd pl) σ τ ∧ OKc pl b n (lnT b n P T) τ := by
  have hp := h.2.2.1
  have hL := h.lr
  have h4 := hB.2.2.1
  unfold c5_readTown lnT
  rcases c5_newOne_ok h hB (w := 2) (most := 4) (by omega) (by omega) (by omega) (fun q => by omega) with ⟨z, σ1, h1, hF1, hR1⟩ | ⟨z, σ1, h1, hF1, e1, hX1⟩
  · have ht := nwF_2 z
    have hB1 : BTk (nwT b n T 2 P) := hB.nw (by omega) (by omega) (by omega) (fun _ => ht)
    have hG1 : BGk (nwT b n T 2 P) := fun u u0 u1 => by rw [nwT_x (by omega) (by omega), nwT_0 (by omega)]; exact hG u u0 u1
    obtain ⟨σ2, e1, e2, e3⟩ := gifts_loop h4.1 ht hR1 hB1 hG1
    rw [if_neg (show ¬ (nwF b n T 2 4 P).1 ≠ 0 from fun q => q z), h1, acall1_some, if_neg (show ¬ T 0 2 = -1 by omega)]
    unfold c5_readTown_l15
    rw [e1]
    have hx : ∀ a i, a ≠ 5 → (lnIs b n (T 0 2) 800 (nxp b n (nxp b n P)) (nwT b n T 2 P)).2.2 a i = nwT b n T 2 P a i := fun a i ha => lnIs_x ha _ _ _
    generalize lnIs b n (T 0 2) 800 (nxp b n (nxp b n P)) (nwT b n T 2 P) = X at e3 hx
    rcases e3 with ⟨z2, hR2⟩ | ⟨z2, hX2, e71⟩
    · rw [if_neg (show ¬ X.1 ≠ 0 from fun q => q z2)]
      obtain ⟨τ, f1, f2, f3⟩ := readTown_p55_ok hR2 (hB1.of (fun i _ _ => hx 0 i (by omega))) (by rw [hx 24 0 (by omega), nwT_x (by omega) (by omega)]; exact h24) h4.1 ht
      refine ⟨τ, ?_, hF1.tr (e2.tr f2), f3⟩
      show c5_readTown_p55 7 (T 0 2) σ2 = _
      exact f1
    · rw [if_pos z2]
      refine ⟨σ2, ?_, hF1.tr e2, Or.inr ⟨z2, hX2, e71⟩⟩
      show c5_readTown_p55 7 (T 0 2) σ2 = _
      exact readTown_p55_f hX2
  · rw [if_pos z, h1, acall1_some, if_pos rfl]
    exact ⟨σ1, rfl, hF1, Or.inr ⟨z, hX1, e1⟩⟩
