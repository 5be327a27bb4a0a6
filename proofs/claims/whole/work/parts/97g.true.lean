/-! the law answers 1 -/
theorem inj3 {σ τ : aS} {m : aR} (h : m = some (0, [], σ)) (h2 : m = some (0, [], τ)) : σ = τ := by
  rw [h] at h2
  cases h2
  rfl
theorem st_ex : ∃ σ1 σ2, c11_init 1 (anew aS0 21 11) = some (0, [], σ1) ∧ σ1.1.length = 129 ∧ c12_init 130 (anew σ1 22 87) = some (0, [], σ2) ∧ σ2.1.length = 166 ∧ ck1 (anew σ2 3 1) = true ∧ ck2 (anew σ2 3 1) = true ∧ ck3 (anew σ2 3 1) = true ∧ ck4 (anew σ2 3 1) = true ∧ ck5 (anew σ2 3 1) = true ∧ ck6 (anew σ2 3 1) = true := by
  have key : ∀ f : aS → Bool, stc f = true → ∃ σ1 σ2, c11_init 1 (anew aS0 21 11) = some (0, [], σ1) ∧ σ1.1.length = 129 ∧ c12_init 130 (anew σ1 22 87) = some (0, [], σ2) ∧ σ2.1.length = 166 ∧ f (anew σ2 3 1) = true := by
    intro f h
    unfold stc at h
    split at h
    · rename_i σ1 e1
      rw [Bool.and_eq_true, decide_eq_true_eq] at h
      obtain ⟨h1, h2⟩ := h
      split at h2
      · rename_i σ2 e2
        rw [Bool.and_eq_true, decide_eq_true_eq] at h2
        exact ⟨σ1, σ2, e1, h1, e2, h2.1, h2.2⟩
      · cases h2
    · cases h
  obtain ⟨σ1, σ2, e1, l1, e2, l2, h1⟩ := key ck1 st_1
  have un : ∀ f : aS → Bool, stc f = true → f (anew σ2 3 1) = true := by
    intro f h
    obtain ⟨a1, a2, d1, -, d2, -, hf⟩ := key f h
    have q1 := inj3 e1 d1
    subst q1
    have q2 := inj3 e2 d2
    subst q2
    exact hf
  exact ⟨σ1, σ2, e1, l1, e2, l2, h1, un ck2 st_2, un ck3 st_3, un ck4 st_4, un ck5 st_5, un ck6 st_6⟩
def X0t : aH := fun _ _ => 0
def N0t : aH := fun x j => if x = 4 ∧ j = 0 then -1 else 0
theorem X0_TB : TB X0t := by
  have hh : hsf X0t = fun _ => 0 := by funext s; unfold hsf X0t; split <;> rfl
  refine ⟨⟨Int.le_refl _, by show (0 : Int) ≤ 5; omega⟩, ⟨Int.le_refl _, by show (0 : Int) ≤ 5; omega⟩, ⟨Int.le_refl _, by show (0 : Int) ≤ 4; omega⟩, ⟨Int.le_refl _, by show (0 : Int) ≤ 99; omega⟩, fun g g0 g1 => absurd (show g < 0 from g1) (by omega), fun s s0 s1 => absurd (show s < 0 from s1) (by omega), by rw [hh]; decide, fun s g s0 s1 => absurd (show s < 0 from s1) (by omega), fun s o s0 s1 => absurd (show s < 0 from s1) (by omega), fun t t0 t1 => absurd (show t < 0 from t1) (by omega)⟩
theorem N0_NB : NB X0t N0t := by
  refine ⟨fun s p s0 s1 => absurd (show s < 0 from s1) (by omega), fun s s0 s1 => absurd (show s < 0 from s1) (by omega), fun t _ _ => by show (-3000 : Int) ≤ 0 ∧ (0 : Int) ≤ 3000; omega, fun t _ _ => rfl, fun t t0 t1 => absurd (show t < 0 from t1) (by omega), by show (0 : Int) ≤ 0 ∧ (0 : Int) ≤ 12; omega, by show (0 : Int) ≤ 0 ∧ (0 : Int) ≤ 130000; omega, by show (-1 : Int) ≤ -1 ∧ (-1 : Int) ≤ 3; omega, by show (0 : Int) ≤ 0 ∧ (0 : Int) ≤ 30; omega, by show (0 : Int) ≤ 0 ∧ (0 : Int) ≤ 30; omega⟩
theorem GI_0 {σ : aS} (h1 : ck1 σ = true) (h2 : ck2 σ = true) (h3 : ck3 σ = true) (h4 : ck4 σ = true) (h5 : ck5 σ = true) : GI 0 σ := by
  unfold ck1 at h1
  rw [Bool.and_eq_true, decide_eq_true_eq] at h1
  have hL : LR σ := ⟨h1.1, fun q hq => of_decide_eq_true (List.all_eq_true.mp h1.2 q hq)⟩
  unfold ck2 at h2
  have v : ∀ (x j w : Int) (i : Nat), vs0[i]? = some (x, j, w) → aget σ x j = w := fun x j w i hi => of_decide_eq_true (List.all_eq_true.mp h2 (x, j, w) (List.mem_of_getElem? hi))
  unfold ck3 at h3
  simp only [Bool.and_eq_true] at h3
  obtain ⟨⟨z91, z89⟩, z156⟩ := h3
  unfold ck4 at h4
  simp only [Bool.and_eq_true] at h4
  obtain ⟨⟨⟨⟨⟨⟨⟨⟨⟨⟨⟨⟨a133, a134⟩, a135⟩, a136⟩, a137⟩, a139⟩, a141⟩, a142⟩, a143⟩, a145⟩, a146⟩, a147⟩, a149⟩ := h4
  have hh : hsf X0t = fun _ => 0 := by funext s; unfold hsf X0t; split <;> rfl
  have hw : wt0 X0t = 1 ∧ wt1 X0t = 1 ∧ wt2 X0t = 1 ∧ wt3 X0t = 1 ∧ crw X0t = 1 := by
    unfold crw wt0 wt1 wt2 wt3
    rw [hh]
    exact ⟨rfl, rfl, rfl, rfl, rfl⟩
  have hpk : pk5 (hsf X0t) = 0 := by rw [hh]; rfl
  have hB := X0_TB
  have hCT : CT 90 X0t σ := by
    refine ⟨⟨zr_ok z91 (j := 0) (by omega) (by omega), zr_ok z91 (j := 1) (by omega) (by omega), zr_ok z91 (j := 2) (by omega) (by omega), v 90 14 0 4 rfl, v 97 1 0 5 rfl, v 90 12 0 6 rfl⟩, fun g g0 g1 => absurd (show g < 0 from g1) (by omega), fun s w s0 s1 => absurd (show s < 0 from s1) (by omega), fun s g s0 s1 => absurd (show s < 0 from s1) (by omega), fun s o s0 s1 => absurd (show s < 0 from s1) (by omega), fun t t0 t1 => absurd (show t < 0 from t1) (by omega), by rw [v 90 10 0 7 rfl]; omega, by rw [v 90 15 0 8 rfl, hpk], fun t k t0 t1 => absurd (show t < 0 from t1) (by omega), fun k i _ _ i0 i1 => absurd (show i < 0 from i1) (by omega), fun t y t0 t1 => absurd (show t < 0 from t1) (by omega)⟩
  have hLG : LG X0t σ := by
    obtain ⟨w0, w1, w2, w3, wc⟩ := hw
    refine ⟨⟨by rw [w0]; exact v 13 0 1 9 rfl, by rw [w1]; exact v 13 1 1 10 rfl, by rw [w2]; exact v 13 2 1 11 rfl, by rw [w3]; exact v 13 3 1 12 rfl, v 13 4 1 13 rfl, by rw [wc]; exact v 9 1 1 14 rfl⟩, fun t f t0 t1 => absurd (show t < 0 from t1) (by omega)⟩
  have hpp : pkP X0t N0t = 0 := by
    unfold pkP pkT
    rw [if_neg (show ¬ (0 : Int) < X0t 0 2 by show ¬ (0 : Int) < 0; omega), if_neg (show ¬ (1 : Int) < X0t 0 2 by show ¬ (1 : Int) < 0; omega), if_neg (show ¬ (2 : Int) < X0t 0 2 by show ¬ (2 : Int) < 0; omega), if_neg (show ¬ (3 : Int) < X0t 0 2 by show ¬ (3 : Int) < 0; omega)]
    rfl
  have hbn : bnI X0t N0t = 0 := rfl
  refine ⟨X0t, (N0t, fun _ => N0t, 0, 0, N0t), ⟨90, ⟨hL, Or.inl rfl, ⟨v 8 0 90 0 rfl, v 9 5 90 1 rfl, v 1 7 90 2 rfl⟩, hCT, hLG, hB⟩, v 1 8 110 3 rfl, ⟨by rw [hpp]; exact v 88 1 0 15 rfl, fun t t0 t1 => zr_ok z89 t0 t1, by rw [hbn]; exact v 88 2 0 16 rfl, v 88 3 0 17 rfl, v 88 4 0 18 rfl⟩, v 8 9 (-1) 19 rfl, ⟨v 24 3 0 20 rfl, ⟨Int.le_refl _, by show (0 : Int) ≤ 30; omega⟩, by rw [v 24 4 0 21 rfl]; omega, fun i i0 i1 => absurd (show i < 0 from i1) (by omega)⟩, ⟨v 24 2 0 22 rfl, Or.inl rfl, fun q => absurd (show (0 : Int) = 1 from q) (by omega)⟩, fun q => absurd (v 20 9 0 23 rfl) q⟩,
    ⟨⟨hL, ⟨⟨v 130 12 0 24 rfl, v 130 13 0 25 rfl, v 130 14 0 26 rfl, v 130 15 0 27 rfl, v 130 17 0 29 rfl, v 130 16 0 28 rfl⟩, fun g g0 g1 => zr_ok a134 g0 g1, fun j j0 j1 => zr_ok a136 j0 j1, fun j j0 j1 => zr_ok a137 j0 j1, fun j j0 j1 => zr_ok a139 j0 j1, fun t t0 t1 => ⟨zr_ok a142 t0 t1, zr_ok a143 t0 t1, zr_ok a145 t0 t1, zr_ok a146 t0 t1, zr_ok a147 t0 t1, fun q => absurd (show (0 : Int) < 0 from q) (by omega)⟩, fun j j0 j1 => zr_ok a149 j0 j1, fun k k0 k1 => ⟨zr_ok a133 k0 k1, zr_ok a135 k0 k1⟩, fun k k0 k1 => zr_ok a141 k0 k1, fun t t0 t1 => absurd (show t < 0 from t1) (by omega)⟩, hB⟩,
      ⟨fun s p s0 s1 => absurd (show s < 0 from s1) (by omega), fun t t0 t1 => zr_ok z156 t0 t1, fun t t0 t1 => absurd (show t < 0 from t1) (by omega), v 130 80 0 30 rfl, v 130 81 0 31 rfl, v 130 59 (-1) 32 rfl, fun q => absurd (show N0t 4 0 = -1 from rfl) q⟩,
      ⟨v 130 83 0 33 rfl, ⟨Int.le_refl _, by show (0 : Int) ≤ 30; omega⟩, fun i i0 i1 => absurd (show i < 0 from i1) (by omega)⟩, v 130 85 0 34 rfl, Or.inl rfl, fun q => absurd (show (0 : Int) = 1 from q) (by omega)⟩,
    ⟨⟨N0_NB, rfl, fun t _ _ => by show (-999 : Int) ≤ 0 ∧ (0 : Int) ≤ 999; omega, by show (0 : Int) ≤ 240 * 0; omega⟩, ⟨Int.le_refl _, by show (0 : Int) ≤ 30; omega⟩, fun i i0 i1 => absurd (show i < 0 from i1) (by omega), Or.inl rfl, fun q => absurd (show (0 : Int) = 1 from q) (by omega)⟩,
    ⟨fun _ => 0, 0, ⟨v 2 4 0 35 rfl, ⟨Int.le_refl _, by omega⟩, fun j j0 j1 => by omega⟩, v 130 1 0 36 rfl, ⟨Int.le_refl _, by omega⟩, fun j j0 j1 => by omega⟩, fun j j0 j1 => ?_, 0, -1, ⟨v 1 9 0 37 rfl, v 1 10 (-1) 38 rfl⟩, v 130 4 0 39 rfl, v 130 5 (-1) 40 rfl⟩
  unfold ck5 at h5
  obtain ⟨k, rfl⟩ := Int.eq_ofNat_of_zero_le j0
  exact of_decide_eq_true (List.all_eq_true.mp h5 k (List.mem_range.mpr (by omega)))
theorem law_true {L : Nat} (hL : L ≤ 3072) (xs : Nat → Int32) : ∃ σ' : aS, law ((L : Int), fun j => (xs j.toNat).toInt) 0 ([], fun _ _ => 0, 0, 0) = some (0, [1], σ') ∧ σ'.2.2.1 ≤ 601024 ∧ σ'.2.2.2 ≤ 7293034 := by
  obtain ⟨σ1, σ2, e1, l1, e2, l2, h1, h2, h3, h4, h5, h6⟩ := st_ex
  have hG := GI_0 h1 h2 h3 h4 h5
  unfold ck6 at h6
  rw [Bool.and_eq_true, decide_eq_true_eq, decide_eq_true_eq] at h6
  obtain ⟨X, hX⟩ : ∃ X : aX, X = ((L : Int), fun j => (xs j.toNat).toInt) := ⟨_, rfl⟩
  have X1 : X.1 = L := by rw [hX]
  have Xb : ∀ j, -2147483648 ≤ X.2 j ∧ X.2 j ≤ 2147483647 := fun j => by
    rw [hX]
    have a := Int32.le_toInt (xs j.toNat)
    have b := Int32.toInt_lt (xs j.toNat)
    show -2147483648 ≤ (xs j.toNat).toInt ∧ (xs j.toNat).toInt ≤ 2147483647
    omega
  rw [← hX]
  obtain ⟨σ0, h0⟩ : ∃ σ0, σ0 = anew σ2 3 1 := ⟨_, rfl⟩
  rw [← h0] at hG h6
  have hal := al_I (c := 24) (B := aU5 (law_b23 X)) (n := 512) (i := 0) (vs := [0, 1, 130, 167, 0]) (σ := σ0)
    (fun k vs τ => 0 ≤ k ∧ vs = [0, 1, 130, 167, 6 * k] ∧ GI k τ ∧ (τ.2.2.1 : Int) ≤ σ0.2.2.1 + k ∧ (τ.2.2.2 : Int) ≤ σ0.2.2.2 + 6 * k)
    (fun r => ∃ τ, r = (0, [1], τ) ∧ (τ.2.2.1 : Int) ≤ σ0.2.2.1 + 512 ∧ (τ.2.2.2 : Int) ≤ σ0.2.2.2 + 3072) (by omega) (by omega) ⟨Int.le_refl _, rfl, hG, by omega, by omega⟩ ?_
  · obtain ⟨r, hr, τ, rfl, c1, c2⟩ := hal
    refine ⟨τ, ?_, by omega, by omega⟩
    unfold law
    show acall0 (c11_init 1 (anew aS0 21 11)) _ = _
    rw [e1, acall0_some]
    have t1 : atop σ1 = 130 := by unfold atop; rw [l1]; rfl
    have t2 : atop σ2 = 167 := by unfold atop; rw [l2]; rfl
    rw [t1, e2, acall0_some, t2]
    refine ite_p (by omega) ?_
    unfold law_l23
    show abind (aloop 24 (aU5 (law_b23 X)) aBig [0, 1, 130, 167, 0] (anew σ2 3 1)) (law_d23 X) = _
    rw [← h0, hr]
    rfl
  · rintro k vs τ hk ⟨k0, rfl, hGk, c1, c2⟩
    by_cases c : 6 * k + 6 ≤ X.1
    · left
      obtain ⟨υ, g1, g2, g3, g4⟩ := law_step (l0 := 0) (i := 6 * k) (k := k) (by omega) Xb (by omega) c k0 (by omega) hGk
      refine ⟨by omega, [0, 1, 130, 167, 6 * (k + 1)], υ, ?_, by omega, rfl, g2, by omega, by omega⟩
      show law_b23 X 0 1 130 167 (6 * k) τ = _
      rw [g1, show 6 * k + 6 = 6 * (k + 1) by omega]
    · refine Or.inr ⟨(0, [1], τ), ?_, Nat.ne_of_beq_eq_false rfl, τ, rfl, by omega, by omega⟩
      show law_b23 X 0 1 130 167 (6 * k) τ = _
      unfold law_b23
      refine ite_p ?_ (bz01 (Or.inr rfl))
      rw [wq (by omega) (by omega)]
      omega
