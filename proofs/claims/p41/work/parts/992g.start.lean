/-! the start: the class made -/
def aS0 : aS := ([], fun _ _ => 0, 0, 0)
def zr (σ : aS) (x : Int) (n : Nat) : Bool := (List.range n).all fun j => decide (aget σ x (j : Int) = 0)
theorem zr_ok {σ : aS} {x : Int} {n : Nat} (h : zr σ x n = true) {j : Int} (j0 : 0 ≤ j) (j1 : j < n) : aget σ x j = 0 := by
  obtain ⟨k, rfl⟩ := Int.eq_ofNat_of_zero_le j0
  exact of_decide_eq_true (List.all_eq_true.mp h k (List.mem_range.mpr (by omega)))
def vs0 : List (Int × Int × Int) := [(8, 0, 90), (9, 5, 90), (1, 7, 90), (1, 8, 110), (90, 14, 0), (97, 1, 0), (90, 12, 0), (90, 10, 0), (90, 15, 0), (13, 0, 1), (13, 1, 1), (13, 2, 1), (13, 3, 1), (13, 4, 1), (9, 1, 1), (88, 1, 0), (88, 2, 0), (88, 3, 0), (88, 4, 0), (8, 9, -1), (24, 3, 0), (24, 4, 0), (24, 2, 0), (20, 9, 0), (2, 4, 0)]
def ck1 (σ : aS) : Bool := decide (σ.1 = kK) && (kR.all fun q => decide (aget σ q.1 q.2.1 = q.2.2))
def ck2 (σ : aS) : Bool := vs0.all fun q => decide (aget σ q.1 q.2.1 = q.2.2)
def ck3 (σ : aS) : Bool := zr σ 91 3 && zr σ 89 4
def ck6 (σ : aS) : Bool := decide (σ.2.2.1 ≤ 599000) && decide (σ.2.2.2 ≤ 7239000)
def stc (f : aS → Bool) : Bool := match c11_init 1 (anew aS0 21 11) with
  | some (0, [], σ1) => f σ1
  | _ => false
theorem st_1 : stc ck1 = true := by decide +kernel
theorem st_2 : stc ck2 = true := by decide +kernel
theorem st_3 : stc ck3 = true := by decide +kernel
theorem st_6 : stc ck6 = true := by decide +kernel
theorem inj3 {σ τ : aS} {m : aR} (h : m = some (0, [], σ)) (h2 : m = some (0, [], τ)) : σ = τ := by
  rw [h] at h2
  cases h2
  rfl
theorem st_ex : ∃ σ1, c11_init 1 (anew aS0 21 11) = some (0, [], σ1) ∧ ck1 σ1 = true ∧ ck2 σ1 = true ∧ ck3 σ1 = true ∧ ck6 σ1 = true := by
  have key : ∀ f : aS → Bool, stc f = true → ∃ σ1, c11_init 1 (anew aS0 21 11) = some (0, [], σ1) ∧ f σ1 = true := by
    intro f h
    unfold stc at h
    split at h
    · rename_i σ1 e1
      exact ⟨σ1, e1, h⟩
    · cases h
  obtain ⟨σ1, e1, h1⟩ := key ck1 st_1
  have un : ∀ f : aS → Bool, stc f = true → f σ1 = true := by
    intro f h
    obtain ⟨a1, d1, hf⟩ := key f h
    have q1 := inj3 e1 d1
    subst q1
    exact hf
  exact ⟨σ1, e1, h1, un ck2 st_2, un ck3 st_3, un ck6 st_6⟩
def X0t : aH := fun _ _ => 0
def N0t : aH := fun x j => if x = 4 ∧ j = 0 then -1 else 0
theorem X0_TB : TB X0t := by
  have hh : hsf X0t = fun _ => 0 := by funext s; unfold hsf X0t; split <;> rfl
  refine ⟨⟨Int.le_refl _, by show (0 : Int) ≤ 5; omega⟩, ⟨Int.le_refl _, by show (0 : Int) ≤ 5; omega⟩, ⟨Int.le_refl _, by show (0 : Int) ≤ 4; omega⟩, ⟨Int.le_refl _, by show (0 : Int) ≤ 99; omega⟩, fun g g0 g1 => absurd (show g < 0 from g1) (by omega), fun s s0 s1 => absurd (show s < 0 from s1) (by omega), by rw [hh]; decide, fun s g s0 s1 => absurd (show s < 0 from s1) (by omega), fun s o s0 s1 => absurd (show s < 0 from s1) (by omega), fun t t0 t1 => absurd (show t < 0 from t1) (by omega)⟩
theorem OBJ_0 {σ : aS} (h1 : ck1 σ = true) (h2 : ck2 σ = true) (h3 : ck3 σ = true) : OBJ σ := by
  unfold ck1 at h1
  rw [Bool.and_eq_true, decide_eq_true_eq] at h1
  have hL : LR σ := ⟨h1.1, fun q hq => of_decide_eq_true (List.all_eq_true.mp h1.2 q hq)⟩
  unfold ck2 at h2
  have v : ∀ (x j w : Int) (i : Nat), vs0[i]? = some (x, j, w) → aget σ x j = w := fun x j w i hi => of_decide_eq_true (List.all_eq_true.mp h2 (x, j, w) (List.mem_of_getElem? hi))
  unfold ck3 at h3
  simp only [Bool.and_eq_true] at h3
  obtain ⟨z91, z89⟩ := h3
  have hh : hsf X0t = fun _ => 0 := by funext s; unfold hsf X0t; split <;> rfl
  have hw : wt0 X0t = 1 ∧ wt1 X0t = 1 ∧ wt2 X0t = 1 ∧ wt3 X0t = 1 ∧ crw X0t = 1 := by
    unfold crw wt0 wt1 wt2 wt3
    rw [hh]
    exact ⟨rfl, rfl, rfl, rfl, rfl⟩
  have hpk : pk5 (hsf X0t) = 0 := by rw [hh]; rfl
  have hB := X0_TB
  have hCT : CT 90 X0t σ := by
    refine ⟨⟨zr_ok z91 (j := 0) (by omega) (by omega), zr_ok z91 (j := 1) (by omega) (by omega), zr_ok z91 (j := 2) (by omega) (by omega), v 90 14 0 4 rfl, v 97 1 0 5 rfl, v 90 12 0 6 rfl⟩, fun g g0 g1 => absurd (show g < 0 from g1) (by omega), fun s w s0 s1 => absurd (show s < 0 from s1) (by omega), fun s g s0 s1 => absurd (show s < 0 from s1) (by omega), fun s o s0 s1 => absurd (show s < 0 from s1) (by omega), fun t t0 t1 => absurd (show t < 0 from t1) (by omega), by rw [v 90 10 0 7 rfl]; omega, by rw [v 90 15 0 8 rfl, hpk], fun t k t0 t1 => absurd (show t < 0 from t1) (by omega), fun k i _ _ i0 i1 => absurd (show i < 0 from i1) (by omega), fun t y t0 t1 => absurd (show t < 0 from t1) (by omega)⟩
  have hLG : LG X0t σ := by
    obtain ⟨w0, w1, w2, w3, wc⟩ := hw
    refine ⟨⟨by rw [w0]; exact v 13 0 1 9 rfl, by rw [w1]; exact v 13 1 1 10 rfl, by rw [w2]; exact v 13 2 1 11 rfl, by rw [w3]; exact v 13 3 1 12 rfl, v 13 4 1 13 rfl, by rw [wc]; exact v 9 1 1 14 rfl⟩, fun t f t0 t1 => absurd (show t < 0 from t1) (by omega)⟩
  have hpp : pkP X0t N0t = 0 := by
    unfold pkP pkT
    rw [if_neg (show ¬ (0 : Int) < X0t 0 2 by show ¬ (0 : Int) < 0; omega), if_neg (show ¬ (1 : Int) < X0t 0 2 by show ¬ (1 : Int) < 0; omega), if_neg (show ¬ (2 : Int) < X0t 0 2 by show ¬ (2 : Int) < 0; omega), if_neg (show ¬ (3 : Int) < X0t 0 2 by show ¬ (3 : Int) < 0; omega)]
    rfl
  have hbn : bnI X0t N0t = 0 := rfl
  refine ⟨⟨X0t, (N0t, fun _ => N0t, 0, 0, N0t), 90, ⟨hL, Or.inl rfl, ⟨v 8 0 90 0 rfl, v 9 5 90 1 rfl, v 1 7 90 2 rfl⟩, hCT, hLG, hB⟩, v 1 8 110 3 rfl, ⟨by rw [hpp]; exact v 88 1 0 15 rfl, fun t t0 t1 => zr_ok z89 t0 t1, by rw [hbn]; exact v 88 2 0 16 rfl, v 88 3 0 17 rfl, v 88 4 0 18 rfl⟩, v 8 9 (-1) 19 rfl, ⟨v 24 3 0 20 rfl, ⟨Int.le_refl _, by show (0 : Int) ≤ 30; omega⟩, by rw [v 24 4 0 21 rfl]; omega, fun i i0 i1 => absurd (show i < 0 from i1) (by omega)⟩, ⟨v 24 2 0 22 rfl, Or.inl rfl, fun q => absurd (show (0 : Int) = 1 from q) (by omega)⟩, fun q => absurd (v 20 9 0 23 rfl) q⟩, fun _ => 0, ⟨v 2 4 0 24 rfl, ⟨Int.le_refl _, by omega⟩, fun j j0 j1 => by omega⟩⟩
theorem law_0 : ∃ σ1, law 0 aS0 = some (10, [1, 0, 1], σ1) ∧ OBJ σ1 ∧ σ1.1[0]? = some (21, 11) ∧ σ1.2.2.1 + 40 * 7 ≤ 600000 ∧ σ1.2.2.2 + 9000 * 7 ≤ 7302250 := by
  obtain ⟨σ1, e1, h1, h2, h3, h6⟩ := st_ex
  refine ⟨σ1, ?_, OBJ_0 h1 h2 h3, ?_, ?_⟩
  · show acall0 (c11_init 1 (anew aS0 21 11)) (fun σ1 => some (10, [1, 0, 1], σ1)) = _
    rw [e1]; rfl
  · unfold ck1 at h1
    rw [Bool.and_eq_true, decide_eq_true_eq] at h1
    rw [h1.1]; rfl
  · unfold ck6 at h6
    rw [Bool.and_eq_true, decide_eq_true_eq, decide_eq_true_eq] at h6
    omega
