/-! the class's half of whole's part of this name -/
theorem lnI_p {b : Int → Int} {n t P : Int} {T : aH} (p0 : 0 ≤ P) (p1 : P ≤ n) (hz : (lnI b n t P T).1 = 0) : (P ≤ (lnI b n t P T).2.1 ∧ (lnI b n t P T).2.1 ≤ n) ∧ ∀ a i, (a ≠ 5 ∨ i ≠ t) → (lnI b n t P T).2.2 a i = T a i := by
  have h1 := nxp_p (b := b) p0 p1
  have h2 := nxp_p (b := b) (show 0 ≤ nxp b n P by omega) h1.2
  unfold lnI at hz ⊢
  by_cases c : odF b n T 0 (nxp b n P) = 0
  · rw [if_neg (fun q => q c)] at hz ⊢
    by_cases d : bI (T 5 t) (aNamed T 0 (vlt b n (nxp b n P))) = 0
    · rw [if_neg (fun q => q d)]
      refine ⟨by show P ≤ nxp b n (nxp b n P) ∧ nxp b n (nxp b n P) ≤ n; omega, fun a i h => ?_⟩
      show stv T 5 t _ a i = T a i
      by_cases q : a = 5
      · rw [q, stv_j (by omega)]
      · exact stv_x q _
    · rw [if_pos d] at hz; exact absurd (show (3 : Int) = 0 from hz) (by decide)
  · rw [if_pos c] at hz; exact absurd hz c
theorem lnIs_I {b : Int → Int} {n t : Int} (t0 : 0 ≤ t) (t1 : t < 4) : ∀ (k : Nat) (P : Int) (T : aH), BTk T → BGk T → 0 ≤ P → P ≤ n → (lnIs b n t k P T).1 = 0 →
    BTk (lnIs b n t k P T).2.2 ∧ BGk (lnIs b n t k P T).2.2 ∧ (P ≤ (lnIs b n t k P T).2.1 ∧ (lnIs b n t k P T).2.1 ≤ n) ∧ ∀ a i, (a ≠ 5 ∨ i ≠ t) → (lnIs b n t k P T).2.2 a i = T a i := by
  intro k
  induction k with
  | zero => intro P T hB hG p0 p1 _; exact ⟨hB, hG, ⟨Int.le_refl _, p1⟩, fun _ _ _ => rfl⟩
  | succ k ih =>
    intro P T hB hG p0 p1 hz
    have eu : lnIs b n t (k + 1) P T = if kd b n P = 105 then (if (lnI b n t P T).1 ≠ 0 then lnI b n t P T else lnIs b n t k (lnI b n t P T).2.1 (lnI b n t P T).2.2) else (0, P, T) := rfl
    rw [eu] at hz ⊢
    by_cases c : kd b n P = 105
    · rw [if_pos c] at hz ⊢
      by_cases d : (lnI b n t P T).1 = 0
      · rw [if_neg (fun q => q d)] at hz ⊢
        obtain ⟨h1, h2⟩ := lnI_B hB hG t0 t1 d
        obtain ⟨h3, h4⟩ := lnI_p p0 p1 d
        obtain ⟨a1, a2, a3, a4⟩ := ih (lnI b n t P T).2.1 (lnI b n t P T).2.2 h1 h2 (by omega) h3.2 hz
        exact ⟨a1, a2, by omega, fun a i h => by rw [a4 a i h, h4 a i h]⟩
      · rw [if_pos d] at hz; exact absurd hz d
    · rw [if_neg c]; exact ⟨hB, hG, ⟨Int.le_refl _, p1⟩, fun _ _ _ => rfl⟩
theorem vtP_p {b : Int → Int} {n key P : Int} (p0 : 0 ≤ P) (p1 : P ≤ n) : P ≤ vtP b n key P ∧ vtP b n key P ≤ n := by
  unfold vtP
  have := nxp_p (b := b) p0 p1
  split <;> omega
/-- what stands in a town's line behind its gifts changes -/
theorem vtT_x {b : Int → Int} {n key a t P : Int} {T : aH} {x i : Int} (h : x ≠ a ∨ i ≠ t) : vtT b n key a t P T x i = T x i := by
  unfold vtT
  split
  · by_cases q : x = a
    · rw [q, stv_j (by omega)]
    · exact stv_x q _
  · rfl
theorem vtT_s {b : Int → Int} {n key a t P : Int} {T : aH} (h : 0 ≤ T a t ∧ T a t ≤ 1) : 0 ≤ vtT b n key a t P T a t ∧ vtT b n key a t P T a t ≤ 1 := by
  unfold vtT
  split
  · rw [stv_s]; omega
  · exact h
theorem lnE_I {b : Int → Int} {n t P : Int} {T : aH} (p0 : 1 ≤ P) (p1 : P ≤ n) (hn : n ≤ 800) (h24 : 0 ≤ T 24 0) (h4 : T 24 0 = T 0 4) (h64 : T 0 4 ≤ 64) (hk : ∀ k, 0 ≤ k → k < T 24 0 → stk1 (T 8 k)) (hz : (lnE b n t P T).1 = 0) :
    (lnE b n t P T).2.2 24 0 = (lnE b n t P T).2.2 0 4 ∧ (lnE b n t P T).2.2 0 4 ≤ 64 ∧ (lnE b n t P T).2.2 9 t = T 24 0 ∧ T 24 0 < (lnE b n t P T).2.2 10 t ∧ (lnE b n t P T).2.2 10 t = (lnE b n t P T).2.2 24 0 ∧ (∀ k, 0 ≤ k → k < (lnE b n t P T).2.2 24 0 → stk1 ((lnE b n t P T).2.2 8 k)) ∧
    (∀ a i, a ≠ 8 → a ≠ 24 → (a ≠ 0 ∨ i ≠ 4) → (a ≠ 9 ∨ i ≠ t) → (a ≠ 10 ∨ i ≠ t) → (lnE b n t P T).2.2 a i = T a i) ∧ (P ≤ (lnE b n t P T).2.1 ∧ (lnE b n t P T).2.1 ≤ n) := by
  unfold lnE at hz ⊢
  have ex : ∀ a i, (a ≠ 9 ∨ i ≠ t) → stv T 9 t (T 24 0) a i = T a i := fun a i h => by
    by_cases q : a = 9
    · rw [q, stv_j (by omega)]
    · exact stv_x q _
  have hI : RIv (T 24 0) 1 [] 0 (stv T 9 t (T 24 0)) := by
    refine ⟨Or.inr rfl, trivial, rfl, by omega, ?_, ?_, ?_, fun k k0 k1 => ?_, fun q => by omega⟩
    · rw [ex 24 0 (by omega), ex 0 4 (by omega)]; show T 24 0 + 0 = T 0 4; omega
    · rw [ex 0 4 (by omega)]; exact h64
    · rw [ex 24 0 (by omega)]; omega
    · rw [ex 24 0 (by omega)] at k1
      rw [ex 8 k (by omega)]; exact hk k k0 k1
  have hr := rlE_I (b := b) (n := n) 800 1 [] 0 P _ hI (by omega) p1 (by omega)
  generalize rlE b n 800 1 [] 0 P (stv T 9 t (T 24 0)) = X at hz hr
  by_cases c : X.1 = 0
  · obtain ⟨a1, a2, a3, a4, a5, a6⟩ := hr c
    rw [if_neg (fun q => q c)]
    have ey : ∀ a i, (a ≠ 10 ∨ i ≠ t) → stv X.2.2 10 t (X.2.2 24 0) a i = X.2.2 a i := fun a i h => by
      by_cases q : a = 10
      · rw [q, stv_j (by omega)]
      · exact stv_x q _
    show stv X.2.2 10 t (X.2.2 24 0) 24 0 = stv X.2.2 10 t (X.2.2 24 0) 0 4 ∧ stv X.2.2 10 t (X.2.2 24 0) 0 4 ≤ 64 ∧ stv X.2.2 10 t (X.2.2 24 0) 9 t = T 24 0 ∧ T 24 0 < stv X.2.2 10 t (X.2.2 24 0) 10 t ∧ stv X.2.2 10 t (X.2.2 24 0) 10 t = stv X.2.2 10 t (X.2.2 24 0) 24 0 ∧ (∀ k, 0 ≤ k → k < stv X.2.2 10 t (X.2.2 24 0) 24 0 → stk1 (stv X.2.2 10 t (X.2.2 24 0) 8 k)) ∧ (∀ a i, a ≠ 8 → a ≠ 24 → (a ≠ 0 ∨ i ≠ 4) → (a ≠ 9 ∨ i ≠ t) → (a ≠ 10 ∨ i ≠ t) → stv X.2.2 10 t (X.2.2 24 0) a i = T a i) ∧ (P ≤ X.2.1 ∧ X.2.1 ≤ n)
    rw [ey 24 0 (by omega), ey 0 4 (by omega), ey 9 t (by omega), stv_s]
    refine ⟨a1, a2, ?_, a3, rfl, fun k k0 k1 => by rw [ey 8 k (by omega)]; exact a4 k k0 k1, fun a i n8 n24 n04 n9 n10 => by rw [ey a i n10, a5 a i n8 n24 n04, ex a i n9], a6⟩
    rw [a5 9 t (by omega) (by omega) (by omega), stv_s]
  · rw [if_pos c] at hz; exact absurd hz c
theorem twE_z {b : Int → Int} {n t P : Int} {T : aH} (h : (twE b n t P T).1 = 0) : kd b n P = 108 ∧ twE b n t P T = lnE b n t (nxp b n P) T := by
  unfold twE at h ⊢
  by_cases c : kd b n P = 108
  · exact ⟨c, if_pos c⟩
  · rw [if_neg c] at h; exact absurd (show (1 : Int) = 0 from h) (by decide)
theorem lnT_I {b : Int → Int} {n P : Int} {T : aH} (h : TI T) (p0 : 0 ≤ P) (p1 : P ≤ n) (hn : n ≤ 800) (hz : (lnT b n P T).1 = 0) : TI (lnT b n P T).2.2 ∧ (P ≤ (lnT b n P T).2.1 ∧ (lnT b n P T).2.1 ≤ n) ∧ (lnT b n P T).2.2 22 0 = T 22 0 := by
  unfold lnT at hz ⊢
  by_cases z : (nwF b n T 2 4 P).1 = 0
  · rw [if_neg (fun q => q z)] at hz ⊢
    obtain ⟨hB, h2, h3, h4, h05, hG, h7, h8⟩ := h
    have h824 := h8.2.2
    have ht4 := nwF_2 z
    have ht0 := hB.2.2.1.1
    have q1 := nxp_p (b := b) p0 p1
    have q2 := nxp_p (b := b) (show 0 ≤ nxp b n P by omega) q1.2
    have hB1 : BTk (nwT b n T 2 P) := hB.nw (by omega) (by omega) (by omega) (fun _ => ht4)
    have hG1 : BGk (nwT b n T 2 P) := fun u u0 u1 => by rw [nwT_x (by omega) (by omega), nwT_0 (by omega)]; exact hG u u0 u1
    have hI := lnIs_I (b := b) ht0 ht4 800 (nxp b n (nxp b n P)) (nwT b n T 2 P) hB1 hG1 (by omega) q2.2
    generalize lnIs b n (T 0 2) 800 (nxp b n (nxp b n P)) (nwT b n T 2 P) = X at hz hI
    have e02 : nwT b n T 2 P 0 2 = T 0 2 + 1 := by unfold nwT; rw [stv_s]
    by_cases c : X.1 = 0
    · rw [if_neg (fun q => q c)] at hz ⊢
      obtain ⟨a1, a2, a3, a4⟩ := hI c
      unfold twV twB at hz ⊢
      have v1 := vtP_p (b := b) (key := 106) (show 0 ≤ X.2.1 by omega) a3.2
      have v2 := vtP_p (b := b) (key := 107) (show 0 ≤ vtP b n 106 X.2.1 by omega) v1.2
      obtain ⟨k1, k2⟩ := twE_z hz
      rw [k2] at hz ⊢
      have k3 := nxp_bd b (kd_lt (show kd b n (vtP b n 107 (vtP b n 106 X.2.1)) ≠ 0 by omega))
      -- ahead of the rule
      have ex : ∀ x i, (x ≠ 5 ∨ i ≠ T 0 2) → (x ≠ 6 ∨ i ≠ T 0 2) → (x ≠ 23 ∨ i ≠ T 0 2) → x ≠ 11 → (x ≠ 0 ∨ i ≠ 2) → vtT b n 107 23 (T 0 2) (vtP b n 106 X.2.1) (vtT b n 106 6 (T 0 2) X.2.1 X.2.2) x i = T x i := fun x i n5 n6 n23 n11 n0 => by
        rw [vtT_x n23, vtT_x n6, a4 x i n5]
        by_cases q : x = 0
        · rw [q, nwT_0 (by omega)]
        · exact nwT_x q n11
      have f02 : vtT b n 107 23 (T 0 2) (vtP b n 106 X.2.1) (vtT b n 106 6 (T 0 2) X.2.1 X.2.2) 0 2 = T 0 2 + 1 := by
        rw [vtT_x (by omega), vtT_x (by omega), a4 0 2 (by omega), e02]
      have f5 : ∀ i, vtT b n 107 23 (T 0 2) (vtP b n 106 X.2.1) (vtT b n 106 6 (T 0 2) X.2.1 X.2.2) 5 i = X.2.2 5 i := fun i => by
        rw [vtT_x (by omega), vtT_x (by omega)]
      have old := h7.1 (T 0 2) ht0 ht4
      have f6 : 0 ≤ vtT b n 107 23 (T 0 2) (vtP b n 106 X.2.1) (vtT b n 106 6 (T 0 2) X.2.1 X.2.2) 6 (T 0 2) ∧ vtT b n 107 23 (T 0 2) (vtP b n 106 X.2.1) (vtT b n 106 6 (T 0 2) X.2.1 X.2.2) 6 (T 0 2) ≤ 1 := by
        rw [vtT_x (by omega)]
        exact vtT_s (by rw [a4 6 _ (by omega), nwT_x (by omega) (by omega)]; exact old.1)
      have f23 : 0 ≤ vtT b n 107 23 (T 0 2) (vtP b n 106 X.2.1) (vtT b n 106 6 (T 0 2) X.2.1 X.2.2) 23 (T 0 2) ∧ vtT b n 107 23 (T 0 2) (vtP b n 106 X.2.1) (vtT b n 106 6 (T 0 2) X.2.1 X.2.2) 23 (T 0 2) ≤ 1 :=
        vtT_s (by rw [vtT_x (by omega), a4 23 _ (by omega), nwT_x (by omega) (by omega)]; exact old.2.2.2.2.2)
      have b4 := hB.2.2.2.2
      have eX0 : X.2.2 0 0 = T 0 0 := by rw [a4 0 0 (by omega), nwT_0 (by omega)]
      generalize vtT b n 107 23 (T 0 2) (vtP b n 106 X.2.1) (vtT b n 106 6 (T 0 2) X.2.1 X.2.2) = U at hz ex f02 f5 f6 f23 ⊢
      generalize vtP b n 107 (vtP b n 106 X.2.1) = Q at k3 v2 hz ⊢
      have g24 := ex 24 0 (by omega) (by omega) (by omega) (by omega) (by omega)
      have g04 := ex 0 4 (by omega) (by omega) (by omega) (by omega) (by omega)
      obtain ⟨r1, r2, r3, r4, r5, r6, r7, r8⟩ := lnE_I (b := b) (t := T 0 2) (T := U) (show 1 ≤ nxp b n Q by omega) k3.2 hn (by rw [g24]; omega) (by rw [g24, g04]; exact h8.2.2) (by rw [g04]; omega) (fun k k0 k1 => by rw [ex 8 k (by omega) (by omega) (by omega) (by omega) (by omega)]; exact h8.2.1 k k0 (by omega)) hz
      generalize lnE b n (T 0 2) (nxp b n Q) U = Y at r1 r2 r3 r4 r5 r6 r7 r8
      have ey : ∀ x i, x ≠ 8 → x ≠ 24 → (x ≠ 0 ∨ (i ≠ 4 ∧ i ≠ 2)) → ((x ≠ 9 ∧ x ≠ 10 ∧ x ≠ 5 ∧ x ≠ 6 ∧ x ≠ 23) ∨ i ≠ T 0 2) → x ≠ 11 → Y.2.2 x i = T x i := fun x i n8 n24 n0 n9 n11 => by
        rw [r7 x i n8 n24 (by omega) (by omega) (by omega), ex x i (by omega) (by omega) (by omega) n11 (by omega)]
      have y02 : Y.2.2 0 2 = T 0 2 + 1 := by rw [r7 0 2 (by omega) (by omega) (by omega) (by omega) (by omega), f02]
      have e0 : ∀ i, i ≠ 4 → i ≠ 2 → Y.2.2 0 i = T 0 i := fun i h4 h2 => ey 0 i (by omega) (by omega) (by omega) (by omega) (by omega)
      refine ⟨⟨⟨by rw [e0 0 (by omega) (by omega)]; exact hB.1, by rw [e0 1 (by omega) (by omega)]; exact hB.2.1, by rw [y02]; omega, by rw [e0 3 (by omega) (by omega)]; exact hB.2.2.2.1, ?_⟩, h2.cg (e0 0 (by omega) (by omega)) (fun i => ey 1 i (by omega) (by omega) (by omega) (by omega) (by omega)), h3.cg (e0 1 (by omega) (by omega)) (e0 3 (by omega) (by omega)) (fun i => ey 2 i (by omega) (by omega) (by omega) (by omega) (by omega)), h4.cg (e0 1 (by omega) (by omega)) (fun i => ey 3 i (by omega) (by omega) (by omega) (by omega) (by omega)) (fun i => ey 4 i (by omega) (by omega) (by omega) (by omega) (by omega)) (fun i => ey 20 i (by omega) (by omega) (by omega) (by omega) (by omega)) (fun i => ey 21 i (by omega) (by omega) (by omega) (by omega) (by omega)), by rw [e0 5 (by omega) (by omega)]; exact h05, fun u u0 u1 => ?_, ⟨fun u u0 u1 => ?_, fun u u0 u1 => ?_⟩, ⟨fun u u0 u1 => ?_, r6, r1⟩⟩, ⟨by omega, r8.2⟩, ey 22 0 (by omega) (by omega) (by omega) (by omega) (by omega)⟩
      · have := r4; have := r5; have := r1; omega
      · rw [e0 0 (by omega) (by omega), r7 5 u (by omega) (by omega) (by omega) (by omega) (by omega), f5 u, ← eX0]
        exact a2 u u0 u1
      · have hu := h7.1 u u0 u1
        rw [ey 12 u (by omega) (by omega) (by omega) (by omega) (by omega), ey 13 u (by omega) (by omega) (by omega) (by omega) (by omega)]
        have e14 : ∀ y, Y.2.2 14 (6 * u + y) = T 14 (6 * u + y) := fun y => ey 14 _ (by omega) (by omega) (by omega) (by omega) (by omega)
        simp only [e14]
        by_cases q : u = T 0 2
        · rw [r7 6 u (by omega) (by omega) (by omega) (by omega) (by omega), r7 23 u (by omega) (by omega) (by omega) (by omega) (by omega), q]
          rw [q] at hu
          exact ⟨f6, hu.2.1, hu.2.2.1, hu.2.2.2.1, hu.2.2.2.2.1, f23⟩
        · rw [ey 6 u (by omega) (by omega) (by omega) (by omega) (by omega), ey 23 u (by omega) (by omega) (by omega) (by omega) (by omega)]
          exact hu
      · rw [y02] at u0
        rw [ey 5 u (by omega) (by omega) (by omega) (by omega) (by omega), ey 6 u (by omega) (by omega) (by omega) (by omega) (by omega), ey 12 u (by omega) (by omega) (by omega) (by omega) (by omega), ey 23 u (by omega) (by omega) (by omega) (by omega) (by omega)]
        exact h7.2 u (by omega) u1
      · rw [y02] at u1
        by_cases q : u = T 0 2
        · rw [q, r3]; omega
        · rw [ey 9 u (by omega) (by omega) (by omega) (by omega) (by omega), ey 10 u (by omega) (by omega) (by omega) (by omega) (by omega)]
          have := h8.1 u u0 (by omega)
          omega
    · rw [if_pos c] at hz; exact absurd hz c
  · rw [if_pos z] at hz; exact absurd hz z
