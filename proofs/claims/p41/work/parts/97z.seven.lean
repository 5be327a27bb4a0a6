/-! a ground refused; a ground of five by five -/
def A7 (T : aH) : Prop := (T 0 2 = 1 ∧ T 12 0 = 5 ∧ T 13 0 = 5) ∧ (T 14 0 = 31 ∧ T 14 1 = 17 ∧ T 14 2 = 21 ∧ T 14 3 = 17 ∧ T 14 4 = 31)
theorem bIF : ∀ x : Fin 5, bI 31 (x.val : Int) = 1 ∧ bI 17 (x.val : Int) = (if x.val = 0 ∨ x.val = 4 then 1 else 0) ∧ bI 21 (x.val : Int) = (if x.val = 0 ∨ x.val = 2 ∨ x.val = 4 then 1 else 0) := by decide +kernel
def rim (x y : Int) : Prop := x = 0 ∨ x = 4 ∨ y = 0 ∨ y = 4
section SEVEN
variable {T : aH}
theorem A7.tk (h : A7 T) {x y : Int} (x0 : 0 ≤ x) (x5 : x < 5) (y0 : 0 ≤ y) (y5 : y < 5) : (rim x y → tkw T 0 x y = 1) ∧ (x = 2 ∧ y = 2 → tkw T 0 x y = 1) ∧ (¬ rim x y → ¬ (x = 2 ∧ y = 2) → tkw T 0 x y = 0) := by
  obtain ⟨-, t0, t1, t2, t3, t4⟩ := h
  obtain ⟨a, rfl⟩ := Int.eq_ofNat_of_zero_le x0
  obtain ⟨b1, b2, b3⟩ := bIF ⟨a, by omega⟩
  simp only at b1 b2 b3
  unfold tkw rim
  rcases (show y = 0 ∨ y = 1 ∨ y = 2 ∨ y = 3 ∨ y = 4 by omega) with q | q | q | q | q <;> rw [q]
  · rw [show 6 * (0 : Int) + 0 = 0 by omega, t0, b1]
    exact ⟨fun _ => rfl, fun _ => rfl, fun z => absurd (Or.inr (Or.inr (Or.inl rfl))) z⟩
  · rw [show 6 * (0 : Int) + 1 = 1 by omega, t1, b2]
    refine ⟨fun z => if_pos (by omega), fun z => by omega, fun z _ => if_neg (by omega)⟩
  · rw [show 6 * (0 : Int) + 2 = 2 by omega, t2, b3]
    refine ⟨fun z => if_pos (by omega), fun z => if_pos (by omega), fun z z2 => if_neg (by omega)⟩
  · rw [show 6 * (0 : Int) + 3 = 3 by omega, t3, b2]
    refine ⟨fun z => if_pos (by omega), fun z => by omega, fun z _ => if_neg (by omega)⟩
  · rw [show 6 * (0 : Int) + 4 = 4 by omega, t4, b1]
    exact ⟨fun _ => rfl, fun _ => rfl, fun z => absurd (Or.inr (Or.inr (Or.inr rfl))) z⟩
theorem bdr_rim {x y : Int} : bdr 5 5 x y ↔ (0 ≤ x ∧ x < 5 ∧ 0 ≤ y ∧ y < 5) ∧ rim x y := by
  unfold bdr inn rim; omega
theorem A7.rim1 (h : A7 T) : ∀ (r : Nat) (x y : Int), bdr 5 5 x y → 1 ≤ gJ 5 5 (tkw T 0) 2 2 r x y := by
  intro r
  induction r with
  | zero =>
    intro x y hb
    rw [bdr_rim] at hb
    unfold rim at hb
    show 1 ≤ (if x = 2 ∧ y = 2 then (0 : Int) else 1000)
    rw [if_neg (by omega)]; omega
  | succ r ih =>
    intro x y hb
    have i := ih x y hb
    have w1 : tkw T 0 x y = 1 := by
      rw [bdr_rim] at hb
      exact (h.tk hb.1.1 hb.1.2.1 hb.1.2.2.1 hb.1.2.2.2).1 hb.2
    have g0 : 0 ≤ gnr 5 5 (gJ 5 5 (tkw T 0) 2 2 r) x y := by
      obtain ⟨u, v, -, e⟩ := gnr_at (W := 5) (H := 5) (gJ 5 5 (tkw T 0) 2 2 r) x y
      rw [e]
      unfold gat
      split
      · exact (gJ_bd (tkw_ok T 0) 2 2 r u v).1
      · omega
    show 1 ≤ mn (gJ 5 5 (tkw T 0) 2 2 r x y) (gnr 5 5 (gJ 5 5 (tkw T 0) 2 2 r) x y + tkw T 0 x y)
    rcases mn_o (gJ 5 5 (tkw T 0) 2 2 r x y) (gnr 5 5 (gJ 5 5 (tkw T 0) 2 2 r) x y + tkw T 0 x y) with q | q <;> rw [q] <;> omega
theorem A7.mid (h : A7 T) : gD 5 5 (tkw T 0) 2 2 2 0 ≤ 1 := by
  have w1 : tkw T 0 2 1 = 0 := (h.tk (x := 2) (y := 1) (by omega) (by omega) (by omega) (by omega)).2.2 (by unfold rim; omega) (by omega)
  have w0 : tkw T 0 2 0 = 1 := (h.tk (x := 2) (y := 0) (by omega) (by omega) (by omega) (by omega)).1 (by unfold rim; omega)
  have a0 : gJ 5 5 (tkw T 0) 2 2 0 2 2 = 0 := rfl
  have a1 := gJ_adj (W := 5) (H := 5) (w := tkw T 0) 2 2 0 (x := 2) (y := 1) (u := 2) (v := 2) (by unfold adj; omega) (by unfold inn; omega)
  have a2 := gJ_adj (W := 5) (H := 5) (w := tkw T 0) 2 2 1 (x := 2) (y := 0) (u := 2) (v := 1) (by unfold adj; omega) (by unfold inn; omega)
  have dn : ∀ k : Nat, gJ 5 5 (tkw T 0) 2 2 (2 + k) 2 0 ≤ gJ 5 5 (tkw T 0) 2 2 2 2 0 := by
    intro k
    induction k with
    | zero => exact Int.le_refl _
    | succ k ih => exact Int.le_trans (gJ_dn 5 5 (tkw T 0) 2 2 (2 + k) 2 0) ih
  have d := dn 34
  rw [show (2 + 34 : Nat) = 36 from rfl] at d
  rw [show (0 + 1 : Nat) = 1 from rfl] at a1
  rw [show (1 + 1 : Nat) = 2 from rfl] at a2
  unfold gD
  omega
theorem A7.out (h : A7 T) {x y v : Int} (x0 : 0 ≤ x) (x5 : x < 5) (y0 : 0 ≤ y) (y5 : y < 5) (ho : oOut T 0 x y v) : (rim x y → v = 0) ∧ (x = 2 ∧ y = 2 → v = 1) ∧ (¬ rim x y → ¬ (x = 2 ∧ y = 2) → v = -2) := by
  obtain ⟨k1, k2, k3⟩ := h.tk x0 x5 y0 y5
  unfold oOut at ho
  obtain ⟨⟨h02, h12, h13⟩, -⟩ := id h
  rw [h02, if_pos (by omega), h12, if_neg (by omega), if_pos (by omega), h13, if_pos (by omega)] at ho
  refine ⟨fun q => ?_, fun q => ?_, fun q r => ?_⟩
  · rw [k1 q, if_neg (by omega)] at ho
    obtain ⟨-, b, c⟩ := ho
    have s := b x y (bdr_rim.mpr ⟨⟨x0, x5, y0, y5⟩, q⟩)
    rw [gD_s (tkw_ok T 0)] at s
    rcases c with c | ⟨u, w, -, c⟩
    · omega
    · have := (gJ_bd (W := 5) (H := 5) (tkw_ok T 0) x y 36 u w).1
      unfold gD at c
      omega
  · rw [k2 q, if_neg (by omega)] at ho
    obtain ⟨rfl, rfl⟩ := q
    obtain ⟨-, b, c⟩ := ho
    have s := b 2 0 (bdr_rim.mpr ⟨by omega, by unfold rim; omega⟩)
    have m := h.mid
    rcases c with c | ⟨u, w, hb, c⟩
    · omega
    · have := h.rim1 36 u w hb
      unfold gD at c m s
      omega
  · rw [k3 q r, if_pos rfl] at ho
    exact ho
theorem A7.no (h : A7 T) {v : Int} : (oOut T 0 5 0 v → v = -1) ∧ (oOut T 0 0 5 v → v = -1) := by
  obtain ⟨⟨h02, h12, h13⟩, -⟩ := h
  unfold oOut
  rw [h02, h12, h13]
  exact ⟨id, id⟩
end SEVEN
section L7
variable {T : aH} {S : aSS} {σ : aS} {p : Int}
theorem seg1341 (hS : CSt T S σ) (hF : FCc 3 p σ) : Gd 1355 [1] σ (law_p1341 (-1) 1 σ) := by
  unfold law_p1341 c11_fault
  rw [if_pos rfl, if_pos rfl, acall1_some, hF.1, if_pos rfl]
  exact Gd.e hS
theorem b1378 (hA : A7 T) (hS : CSt T S σ) {x y : Int} (x0 : 0 ≤ x) (x5 : x < 5) (y0 : 0 ≤ y) (y5 : y < 5) : ∃ τ, law_b1378 1 x y σ = some (1379, [1, x, y + 1], τ) ∧ Fp wca σ τ ∧ CSt T S τ := by
  obtain ⟨v, ho, τ, hr, hF, hC⟩ := c11_out_q hS 0 x y
  obtain ⟨o1, o2, o3⟩ := hA.out x0 x5 y0 y5 ho
  refine ⟨τ, ?_, hF, hC⟩
  have ey := wq (x := y + 1) (by omega) (by omega)
  have rimE : rim x y → law_p1406 1 x y σ = some (1379, [1, x, y + 1], τ) := by
    intro q
    have := o1 q
    subst this
    unfold law_p1406 law_p1411
    rw [hr, acall1_some, if_neg (by omega)]
    unfold law_p1449
    rw [if_pos rfl, ey]
  unfold law_b1378
  rw [if_pos y5]
  by_cases c1 : x = 0
  · rw [if_pos c1]; exact rimE (Or.inl c1)
  rw [if_neg c1]
  by_cases c2 : y = 0
  · rw [if_pos c2]; exact rimE (Or.inr (Or.inr (Or.inl c2)))
  rw [if_neg c2]
  by_cases c3 : x = 4
  · rw [if_pos c3]; exact rimE (Or.inr (Or.inl c3))
  rw [if_neg c3]
  by_cases c4 : y = 4
  · rw [if_pos c4]; exact rimE (Or.inr (Or.inr (Or.inr c4)))
  rw [if_neg c4]
  have nr : ¬ rim x y := by unfold rim; omega
  unfold law_p1411
  rw [hr, acall1_some, if_pos rfl]
  by_cases d1 : x = 2
  · rw [if_pos d1]
    by_cases d2 : y = 2
    · have := o2 ⟨d1, d2⟩
      rw [if_pos d2]
      unfold law_p1449
      rw [if_pos this, ey]
    · have := o3 nr (by omega)
      rw [if_neg d2]
      unfold law_p1447 law_p1449
      rw [if_pos this, ey]
  · have := o3 nr (by omega)
    rw [if_neg d1]
    unfold law_p1447 law_p1449
    rw [if_pos this, ey]
theorem b1369 (hA : A7 T) (hS : CSt T S σ) {x : Int} (x0 : 0 ≤ x) (x5 : x < 5) : ∃ τ, law_b1369 1 x σ = some (1370, [1, x + 1], τ) ∧ Fp wca σ τ ∧ CSt T S τ := by
  have hal := al_I (c := 1379) (B := aU3 law_b1378) (n := 5) (i := 0) (vs := [1, x, 0]) (σ := σ)
    (fun k vs τ => (0 ≤ k ∧ k ≤ 5) ∧ vs = [1, x, k] ∧ Fp wca σ τ ∧ CSt T S τ)
    (fun r => ∃ τ, r = (1461, [1, x], τ) ∧ Fp wca σ τ ∧ CSt T S τ) (by omega) (by omega) ⟨by omega, rfl, Fp.rf _ _, hS⟩ ?_
  · obtain ⟨r, hr, τ, rfl, hF, hC⟩ := hal
    refine ⟨τ, ?_, hF, hC⟩
    unfold law_b1369
    rw [if_pos x5]
    unfold law_l1378
    rw [hr]
    show some (1370, [1, w32 (x + 1)], τ) = _
    rw [wq (x := x + 1) (by omega) (by omega)]
  · rintro k vs τ hk ⟨⟨k0, kn⟩, rfl, hF, hC⟩
    by_cases q : k < 5
    · obtain ⟨υ, e, hF2, hC2⟩ := b1378 hA hC x0 x5 k0 q
      exact Or.inl ⟨by omega, [1, x, k + 1], υ, e, ⟨by omega, by omega⟩, rfl, hF.tr hF2, hC2⟩
    · refine Or.inr ⟨(1461, [1, x], τ), ?_, Nat.ne_of_beq_eq_false rfl, τ, rfl, hF, hC⟩
      show law_b1378 1 x k τ = _
      unfold law_b1378
      exact if_neg q
theorem seg1360 (hA : A7 T) (hS : CSt T S σ) : Gd 0 [1] σ (law_p1360 2 1 σ) := by
  have hal := al_I (c := 1370) (B := aU2 law_b1369) (n := 5) (i := 0) (vs := [1, 0]) (σ := σ)
    (fun k vs τ => (0 ≤ k ∧ k ≤ 5) ∧ vs = [1, k] ∧ Fp wca σ τ ∧ CSt T S τ)
    (fun r => ∃ τ, r = (1467, [1], τ) ∧ Fp wca σ τ ∧ CSt T S τ) (by omega) (by omega) ⟨by omega, rfl, Fp.rf _ _, hS⟩ ?_
  · obtain ⟨r, hr, τ, rfl, hF, hC⟩ := hal
    unfold law_p1360
    rw [if_pos rfl]
    unfold law_l1369
    rw [hr]
    refine Gd.tr hF ?_
    show Gd 0 [1] τ (law_p1466 1 τ)
    obtain ⟨v, ho, h1⟩ := c11_out_q hC 0 5 0
    unfold law_p1466
    refine h1.g (x := -1) (hA.no.1 ho) (fun τ1 c1 => Gd.p rfl ?_)
    obtain ⟨v, ho, h2⟩ := c11_out_q c1 0 0 5
    refine h2.g (x := -1) (hA.no.2 ho) (fun τ2 c2 => Gd.p rfl (Gd.p (Or.inr rfl) (Gd.e c2)))
  · rintro k vs τ hk ⟨⟨k0, kn⟩, rfl, hF, hC⟩
    by_cases q : k < 5
    · obtain ⟨υ, e, hF2, hC2⟩ := b1369 hA hC k0 q
      exact Or.inl ⟨by omega, [1, k + 1], υ, e, ⟨by omega, by omega⟩, rfl, hF.tr hF2, hC2⟩
    · refine Or.inr ⟨(1467, [1], τ), ?_, Nat.ne_of_beq_eq_false rfl, τ, rfl, hF, hC⟩
      show law_b1369 1 k τ = _
      unfold law_b1369
      exact if_neg q
end L7
