/-! the class's half of whole's part of this name -/
/-- wants: only of the sort s -/
theorem lnW_I {b : Int → Int} {n s P : Int} {T : aH} (hB : BTk T) (h : I4 T) (s0 : 0 ≤ s) (s1 : s < T 0 1) (hz : (lnW b n s P T).1 = 0) : I4 (lnW b n s P T).2.2 ∧ ∀ a i, a ≠ 20 → a ≠ 3 → (lnW b n s P T).2.2 a i = T a i := by
  unfold lnW at hz ⊢
  by_cases c : odF b n T 0 (nxp b n P) = 0
  · rw [if_neg (fun q => q c)] at hz ⊢
    have g1 := odF_bd (by omega) (by omega) c
    have g5 := hB.1.2
    have s5 := hB.2.1.2
    generalize aNamed T 0 (vlt b n (nxp b n P)) = g at g1 hz ⊢
    by_cases e : T 20 (5 * s + g) = 0
    · rw [if_neg (fun q => q e)] at hz ⊢
      by_cases f : pNum b n 0 99 (nxp b n (nxp b n P)) = 0
      · rw [if_neg (fun q => q f)]
        have hv := pNum_bd f
        generalize vlt b n (nxp b n (nxp b n P)) = v at hv
        obtain ⟨U, hU⟩ : ∃ U, U = stv (stv T 20 (5 * s + g) 1) 3 (5 * s + g) v := ⟨_, rfl⟩
        have ex : ∀ a i, a ≠ 20 → a ≠ 3 → U a i = T a i := fun a i a0 a1 => by rw [hU, stv_x a1, stv_x a0]
        have e4 : ∀ i, i ≠ 5 * s + g → U 3 i = T 3 i ∧ U 20 i = T 20 i := fun i hi => by rw [hU, stv_j hi, stv_x (show (3 : Int) ≠ 20 by omega), stv_x (show (20 : Int) ≠ 3 by omega), stv_j hi]; exact ⟨rfl, rfl⟩
        have e4k : U 3 (5 * s + g) = v := by rw [hU, stv_s]
        show I4 (stv (stv T 20 (5 * s + g) 1) 3 (5 * s + g) v) ∧ ∀ a i, a ≠ 20 → a ≠ 3 → stv (stv T 20 (5 * s + g) 1) 3 (5 * s + g) v a i = T a i
        rw [← hU]
        refine ⟨⟨fun j j0 j1 => ?_, fun j => ?_, fun j j0 j1 => ?_⟩, ex⟩
        · by_cases q : j = 5 * s + g
          · rw [q, e4k]; exact hv
          · rw [(e4 j q).1]; exact h.1 j j0 j1
        · rw [ex 4 j (by omega) (by omega)]; exact h.2.1 j
        · rw [ex 0 1 (by omega) (by omega)] at j0
          rw [ex 4 j (by omega) (by omega), ex 21 j (by omega) (by omega), (e4 j (by omega)).1, (e4 j (by omega)).2]
          exact h.2.2 j j0 j1
      · rw [if_pos f] at hz; exact absurd hz f
    · rw [if_pos e] at hz; exact absurd (show (3 : Int) = 0 from hz) (by decide)
  · rw [if_pos c] at hz; exact absurd hz c
theorem lnWs_I {b : Int → Int} {n s : Int} (s0 : 0 ≤ s) : ∀ (k : Nat) (P : Int) (T : aH), BTk T → I4 T → s < T 0 1 → (lnWs b n s k P T).1 = 0 → I4 (lnWs b n s k P T).2.2 ∧ ∀ a i, a ≠ 20 → a ≠ 3 → (lnWs b n s k P T).2.2 a i = T a i := by
  intro k
  induction k with
  | zero => intro P T _ h _ _; exact ⟨h, fun _ _ _ _ => rfl⟩
  | succ k ih =>
    intro P T hB h s1 hz
    have eu : lnWs b n s (k + 1) P T = if kd b n P = 102 then (if (lnW b n s P T).1 ≠ 0 then lnW b n s P T else lnWs b n s k (lnW b n s P T).2.1 (lnW b n s P T).2.2) else (0, P, T) := rfl
    rw [eu] at hz ⊢
    by_cases c : kd b n P = 102
    · rw [if_pos c] at hz ⊢
      by_cases d : (lnW b n s P T).1 = 0
      · rw [if_neg (fun q => q d)] at hz ⊢
        obtain ⟨i4, ix⟩ := lnW_I hB h s0 s1 d
        obtain ⟨j4, jx⟩ := ih (lnW b n s P T).2.1 (lnW b n s P T).2.2 (hB.of (fun i _ _ => ix 0 i (by omega) (by omega))) i4 (by rw [ix 0 1 (by omega) (by omega)]; exact s1) hz
        exact ⟨j4, fun a i a0 a1 => by rw [jx a i a0 a1, ix a i a0 a1]⟩
      · rw [if_pos d] at hz; exact absurd hz d
    · rw [if_neg c]; exact ⟨h, fun _ _ _ _ => rfl⟩
theorem szf_add {f : Int → Int} {s m : Int} (s0 : 0 ≤ s) (s1 : s < 5) : szf (fun j => if j = s then f j + m else f j) = szf f + m := by
  rcases (show s = 0 ∨ s = 1 ∨ s = 2 ∨ s = 3 ∨ s = 4 by omega) with rfl | rfl | rfl | rfl | rfl <;> (unfold szf; simp only [Int.reduceEq, ↓reduceIte]; omega)
theorem hsf_nw {b : Int → Int} {n P : Int} {T : aH} (h : T 2 (4 * T 0 1) = 0) (h0 : 0 ≤ T 0 1) : hsf (nwT b n T 1 P) = hsf T := by
  funext s
  unfold hsf
  rw [nwT_1, nwT_x (by omega) (by omega)]
  by_cases q : s = T 0 1
  · rw [q, if_pos (by omega), if_neg (by omega)]; exact h
  · by_cases q2 : 0 ≤ s ∧ s < T 0 1
    · rw [if_pos (by omega), if_pos q2]
    · rw [if_neg (by omega), if_neg q2]
theorem fltT_I {b : Int → Int} {n P : Int} {T : aH} (h : TI T) (hz : (fltQ b n P T).1 = 0) : TI (fltT b n P T) := by
  obtain ⟨z, v1, v2, v3, v4, -⟩ := fltQ_z hz
  have hBf := fltT_B h.1 hz
  have hs := nwF_2 z
  have m6 := mn6 (x := T 0 3)
  obtain ⟨hB, h2, h3, h4, h05, hG, h7, h8⟩ := h
  have hs0 := hB.2.1.1
  have z2 := h3.2.1 (T 0 1) (Int.le_refl _) hs
  have ex : ∀ a i, a ≠ 0 → a ≠ 2 → a ≠ 11 → fltT b n P T a i = T a i := fun a i a0 a2 a11 => by
    unfold fltT addT
    rw [stv_x a2, stv_x a2, stv_x a2, stv_x a0, stv_x a2, nwT_x a0 a11]
  have e0 : ∀ i, i ≠ 1 → i ≠ 3 → fltT b n P T 0 i = T 0 i := fun i h1 h3 => by
    unfold fltT
    rw [stv_x (by omega), stv_x (by omega), stv_x (by omega), addT_0 h3, nwT_0 h1]
  have e1 : fltT b n P T 0 1 = T 0 1 + 1 := by
    unfold fltT
    rw [stv_x (by omega), stv_x (by omega), stv_x (by omega), addT_0 (by omega), nwT_1]
  have e3 : fltT b n P T 0 3 = T 0 3 + vlt b n (nxp b n (nxp b n P)) := by
    unfold fltT
    rw [stv_x (by omega), stv_x (by omega), stv_x (by omega), addT_3, nwT_0 (by omega)]
  have c0 : fltT b n P T 2 (4 * T 0 1) = vlt b n (nxp b n (nxp b n P)) := by
    unfold fltT addT
    rw [stv_j (by omega), stv_j (by omega), stv_j (by omega), stv_x (by omega), stv_s]
  have c1 : fltT b n P T 2 (4 * T 0 1 + 1) = vlt b n (nxp b n (nxp b n (nxp b n P))) := by
    unfold fltT
    rw [stv_j (by omega), stv_j (by omega), stv_s]
  have c2 : fltT b n P T 2 (4 * T 0 1 + 2) = vlt b n (nxp b n (nxp b n (nxp b n (nxp b n P)))) := by
    unfold fltT
    rw [stv_j (by omega), stv_s]
  have c3 : fltT b n P T 2 (4 * T 0 1 + 3) = vlt b n (nxp b n (nxp b n (nxp b n (nxp b n (nxp b n P))))) := by
    unfold fltT
    rw [stv_s]
  have co : ∀ i, ¬ (4 * T 0 1 ≤ i ∧ i ≤ 4 * T 0 1 + 3) → fltT b n P T 2 i = T 2 i := fun i hi => by
    unfold fltT addT
    rw [stv_j (by omega), stv_j (by omega), stv_j (by omega), stv_x (by omega), stv_j (by omega), nwT_x (by omega) (by omega)]
  refine ⟨hBf, h2.cg (e0 0 (by omega) (by omega)) (fun i => ex 1 i (by omega) (by omega) (by omega)), ⟨fun s s0 s1 => ?_, fun s s0 s1 => ?_, ?_⟩, ⟨fun j => ?_, fun j => ?_, fun j j0 j1 => ?_⟩, ?_, hG.cg (e0 0 (by omega) (by omega)) (fun i => ex 5 i (by omega) (by omega) (by omega)), h7.cg (e0 2 (by omega) (by omega)) (fun a ha i => ex a i (by omega) (by omega) (by omega)), h8.cg (e0 2 (by omega) (by omega)) (e0 4 (by omega) (by omega)) (fun a ha i => ex a i (by omega) (by omega) (by omega))⟩
  · rw [e1] at s1
    by_cases q : s = T 0 1
    · rw [q, c0, c1, c2, c3]; omega
    · rw [co _ (by omega), co _ (by omega), co _ (by omega), co _ (by omega)]; exact h3.1 s s0 (by omega)
  · rw [e1] at s0
    rw [co _ (by omega)]; exact h3.2.1 s (by omega) s1
  · rw [e3]
    have u1 : nwT b n T 1 P 2 (4 * T 0 1) = 0 := by rw [nwT_x (by omega) (by omega)]; exact z2
    have e : hsf (fltT b n P T) = fun j => if j = T 0 1 then hsf T j + vlt b n (nxp b n (nxp b n P)) else hsf T j := by
      unfold fltT
      rw [hsf_fig (by omega), hsf_fig (by omega), hsf_fig (by omega), hsf_add hs0 (by rw [nwT_1]; omega) u1, hsf_nw z2 hs0]
    rw [e, szf_add hs0 hs, h3.2.2]
  · rw [ex 3 j (by omega) (by omega) (by omega)]; exact h4.1 j
  · rw [ex 4 j (by omega) (by omega) (by omega)]; exact h4.2.1 j
  · rw [e1] at j0
    rw [ex 3 j (by omega) (by omega) (by omega), ex 4 j (by omega) (by omega) (by omega), ex 20 j (by omega) (by omega) (by omega), ex 21 j (by omega) (by omega) (by omega)]
    exact h4.2.2 j (by omega) j1
  · rw [e0 5 (by omega) (by omega)]; exact h05
theorem fltT_1 {b : Int → Int} {n P : Int} {T : aH} : fltT b n P T 0 1 = T 0 1 + 1 := by
  unfold fltT
  rw [stv_x (by omega), stv_x (by omega), stv_x (by omega), addT_0 (by omega), nwT_1]
theorem lnF_I {b : Int → Int} {n P : Int} {T : aH} (h : TI T) (hz : (lnF b n P T).1 = 0) : TI (lnF b n P T).2.2 := by
  unfold lnF at hz ⊢
  by_cases c : (fltQ b n P T).1 = 0
  · rw [if_neg (fun q => q c)] at hz ⊢
    have h1 := fltT_I h c
    obtain ⟨i4, ix⟩ := lnWs_I h.1.2.1.1 800 (fltQ b n P T).2 (fltT b n P T) h1.1 h1.2.2.2.1 (by rw [fltT_1]; omega) hz
    have e := fun a (i : Int) (h20 : a ≠ 20) (h3 : a ≠ 3) => ix a i h20 h3
    obtain ⟨hB, h2, h3, h4, h05, hG, h7, h8⟩ := h1
    exact ⟨hB.of (fun i _ _ => e 0 i (by omega) (by omega)), h2.cg (e 0 0 (by omega) (by omega)) (fun i => e 1 i (by omega) (by omega)), h3.cg (e 0 1 (by omega) (by omega)) (e 0 3 (by omega) (by omega)) (fun i => e 2 i (by omega) (by omega)), i4, by rw [e 0 5 (by omega) (by omega)]; exact h05, hG.cg (e 0 0 (by omega) (by omega)) (fun i => e 5 i (by omega) (by omega)), h7.cg (e 0 2 (by omega) (by omega)) (fun a ha i => e a i (by omega) (by omega)), h8.cg (e 0 2 (by omega) (by omega)) (e 0 4 (by omega) (by omega)) (fun a ha i => e a i (by omega) (by omega))⟩
  · rw [if_pos c] at hz; exact absurd hz c
/-- a ground's rows -/
theorem lnRs_I {b : Int → Int} {n t w : Int} (t0 : 0 ≤ t) (t1 : t < 4) (w1 : 1 ≤ w) : ∀ (k : Nat) (i P : Int) (T : aH), 0 ≤ i → i ≤ 6 → I7 T → T 12 t = w → T 13 t = i → t < T 0 2 → (lnRs b n t w k i P T).1 = 0 → I7 (lnRs b n t w k i P T).2.2 ∧ ∀ a j, a ≠ 13 → a ≠ 14 → (lnRs b n t w k i P T).2.2 a j = T a j := by
  intro k
  induction k with
  | zero => intro i P T _ _ h _ _ _ _; exact ⟨h, fun _ _ _ _ => rfl⟩
  | succ k ih =>
    intro i P T i0 i6 h e12 e13 tl hz
    have eu : lnRs b n t w (k + 1) i P T = if kd b n P = 2 then (if i = 6 then (2, P, T) else if pNum b n 0 (p2 w - 1) P ≠ 0 then (pNum b n 0 (p2 w - 1) P, P, T) else lnRs b n t w k (i + 1) (nxp b n P) (stv (stv T 14 (6 * t + i) (vlt b n P)) 13 t (i + 1))) else (0, P, T) := rfl
    rw [eu] at hz ⊢
    by_cases c : kd b n P = 2
    · rw [if_pos c] at hz ⊢
      by_cases d : i = 6
      · rw [if_pos d] at hz; exact absurd (show (2 : Int) = 0 from hz) (by decide)
      · rw [if_neg d] at hz ⊢
        by_cases f : pNum b n 0 (p2 w - 1) P = 0
        · rw [if_neg (fun q => q f)] at hz ⊢
          have hv := pNum_bd f
          have ex : ∀ a j, a ≠ 13 → a ≠ 14 → stv (stv T 14 (6 * t + i) (vlt b n P)) 13 t (i + 1) a j = T a j := fun a j a0 a1 => by rw [stv_x a0, stv_x a1]
          have hI7 : I7 (stv (stv T 14 (6 * t + i) (vlt b n P)) 13 t (i + 1)) := by
            refine ⟨fun u u0 u1 => ?_, fun u u0 u1 => ?_⟩
            · have hu := h.1 u u0 u1
              rw [ex 6 u (by omega) (by omega), ex 12 u (by omega) (by omega), ex 23 u (by omega) (by omega)]
              by_cases q : u = t
              · rw [q, stv_s]
                rw [q, e13] at hu
                refine ⟨hu.1, hu.2.1, by omega, fun q => by omega, fun y y0 y1 => ?_, hu.2.2.2.2.2⟩
                rw [stv_x (show (14 : Int) ≠ 13 by omega)]
                by_cases qy : y = i
                · rw [qy, stv_s, e12]; omega
                · rw [stv_j (by omega)]; exact hu.2.2.2.2.1 y y0 (by omega)
              · rw [stv_j q, stv_x (show (13 : Int) ≠ 14 by omega)]
                refine ⟨hu.1, hu.2.1, hu.2.2.1, hu.2.2.2.1, fun y y0 y1 => ?_, hu.2.2.2.2.2⟩
                have := hu.2.2.1
                rw [stv_x (show (14 : Int) ≠ 13 by omega), stv_j (by omega)]; exact hu.2.2.2.2.1 y y0 y1
            · rw [ex 0 2 (by omega) (by omega)] at u0
              rw [ex 5 u (by omega) (by omega), ex 6 u (by omega) (by omega), ex 12 u (by omega) (by omega), ex 23 u (by omega) (by omega)]
              exact h.2 u u0 u1
          obtain ⟨j7, jx⟩ := ih (i + 1) (nxp b n P) (stv (stv T 14 (6 * t + i) (vlt b n P)) 13 t (i + 1)) (by omega) (by omega) hI7 (by rw [ex 12 t (by omega) (by omega)]; exact e12) (stv_s _ _ _ _) (by rw [ex 0 2 (by omega) (by omega)]; exact tl) hz
          exact ⟨j7, fun a j a0 a1 => by rw [jx a j a0 a1, ex a j a0 a1]⟩
        · rw [if_pos f] at hz; exact absurd hz f
    · rw [if_neg c]; exact ⟨h, fun _ _ _ _ => rfl⟩
theorem lnD_I {b : Int → Int} {n P : Int} {T : aH} (h : TI T) (hz : (lnD b n P T).1 = 0) : TI (lnD b n P T).2.2 := by
  unfold lnD at hz ⊢
  by_cases c : odF b n T 2 (nxp b n P) = 0
  · rw [if_neg (fun q => q c)] at hz ⊢
    have g1 := odF_bd (by omega) (by omega) c
    generalize aNamed T 2 (vlt b n (nxp b n P)) = t at g1 hz ⊢
    by_cases d : 0 < T 12 t
    · rw [if_pos d] at hz; exact absurd (show (3 : Int) = 0 from hz) (by decide)
    · rw [if_neg d] at hz ⊢
      by_cases f : pNum b n 1 6 (nxp b n (nxp b n P)) = 0
      · rw [if_neg (fun q => q f)] at hz ⊢
        have hv := pNum_bd f
        generalize vlt b n (nxp b n (nxp b n P)) = w at hv hz ⊢
        obtain ⟨hB, h2, h3, h4, h05, hG, h7, h8⟩ := h
        have t4 := hB.2.2.1.2
        have ht := h7.1 t g1.1 (by omega)
        have e13 : T 13 t = 0 := ht.2.2.2.1 (by omega)
        have ex : ∀ a j, a ≠ 12 → stv T 12 t w a j = T a j := fun a j a0 => stv_x a0 _
        have hI7 : I7 (stv T 12 t w) := by
          refine ⟨fun u u0 u1 => ?_, fun u u0 u1 => ?_⟩
          · have hu := h7.1 u u0 u1
            rw [ex 6 u (by omega), ex 13 u (by omega), ex 23 u (by omega)]
            simp only [ex 14 _ (show (14 : Int) ≠ 12 by omega)]
            by_cases q : u = t
            · rw [q, stv_s]
              rw [q] at hu
              exact ⟨hu.1, by omega, hu.2.2.1, fun w => by omega, fun y y0 y1 => by omega, hu.2.2.2.2.2⟩
            · rw [stv_j q]; exact hu
          · rw [ex 0 2 (by omega)] at u0
            rw [ex 5 u (by omega), ex 6 u (by omega), ex 23 u (by omega), stv_j (by omega)]
            exact h7.2 u u0 u1
        obtain ⟨j7, jx⟩ := lnRs_I g1.1 (show t < 4 by omega) hv.1 7 0 (nxp b n (nxp b n (nxp b n P))) (stv T 12 t w) (by omega) (by omega) hI7 (stv_s _ _ _ _) (by rw [ex 13 t (by omega)]; exact e13) (by rw [ex 0 2 (by omega)]; exact g1.2) hz
        have e : ∀ a i, a ≠ 12 → a ≠ 13 → a ≠ 14 → (lnRs b n t w 7 0 (nxp b n (nxp b n (nxp b n P))) (stv T 12 t w)).2.2 a i = T a i := fun a i a0 a1 a2 => by rw [jx a i a1 a2, ex a i a0]
        exact ⟨hB.of (fun i _ _ => e 0 i (by omega) (by omega) (by omega)), h2.cg (e 0 0 (by omega) (by omega) (by omega)) (fun i => e 1 i (by omega) (by omega) (by omega)), h3.cg (e 0 1 (by omega) (by omega) (by omega)) (e 0 3 (by omega) (by omega) (by omega)) (fun i => e 2 i (by omega) (by omega) (by omega)), h4.cg (e 0 1 (by omega) (by omega) (by omega)) (fun i => e 3 i (by omega) (by omega) (by omega)) (fun i => e 4 i (by omega) (by omega) (by omega)) (fun i => e 20 i (by omega) (by omega) (by omega)) (fun i => e 21 i (by omega) (by omega) (by omega)), by rw [e 0 5 (by omega) (by omega) (by omega)]; exact h05, hG.cg (e 0 0 (by omega) (by omega) (by omega)) (fun i => e 5 i (by omega) (by omega) (by omega)), j7, h8.cg (e 0 2 (by omega) (by omega) (by omega)) (e 0 4 (by omega) (by omega) (by omega)) (fun a ha i => e a i (by omega) (by omega) (by omega))⟩
      · rw [if_pos f] at hz; exact absurd hz f
  · rw [if_pos c] at hz; exact absurd hz c
