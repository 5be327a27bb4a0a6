/-! the class's half of whole's part of this name -/
def AG (U T : aH) : Prop :=
  (∀ k, 0 ≤ k → k < 6 → T 0 k = U 0 k) ∧ (∀ g, 0 ≤ g → g < U 0 0 → T 1 g = U 1 g) ∧ (∀ s w, 0 ≤ s → s < U 0 1 → 0 ≤ w → w < 4 → T 2 (4 * s + w) = U 2 (4 * s + w)) ∧
  (∀ s g, 0 ≤ s → s < U 0 1 → 0 ≤ g → g < 5 → T 3 (5 * s + g) = U 3 (5 * s + g) ∧ T 4 (5 * s + g) = U 4 (5 * s + g)) ∧
  (∀ t, 0 ≤ t → t < U 0 2 → T 5 t = U 5 t ∧ T 6 t = U 6 t ∧ T 9 t = U 9 t ∧ T 10 t = U 10 t ∧ T 12 t = U 12 t ∧ T 13 t = U 13 t) ∧
  (∀ k, 0 ≤ k → k < U 24 0 → T 8 k = U 8 k) ∧ (∀ k i, 0 ≤ k → k < 3 → 0 ≤ i → i < U 0 k → T 11 (5 * k + i) = U 11 (5 * k + i)) ∧ (∀ t y, 0 ≤ t → t < U 0 2 → 0 ≤ y → y < U 13 t → T 14 (6 * t + y) = U 14 (6 * t + y))
theorem AG.w4 {U T : aH} (h : AG U T) {s : Int} (s0 : 0 ≤ s) (s1 : s < U 0 1) : T 2 (4 * s) = U 2 (4 * s) := by
  have := h.2.2.1 s 0 s0 s1 (by omega) (by omega)
  rw [Int.add_zero] at this; exact this
theorem AG.hs {U T : aH} (h : AG U T) : hsf T = hsf U := by
  funext s
  unfold hsf
  rw [h.1 1 (by omega) (by omega)]
  by_cases c : 0 ≤ s ∧ s < U 0 1
  · rw [if_pos c, if_pos c, h.w4 c.1 c.2]
  · rw [if_neg c, if_neg c]
theorem AG.tb {U T : aH} (h : AG U T) (hI : TI U) : TB T := by
  obtain ⟨hB, h2, h3, h4, h05, hG, h7, h8⟩ := hI
  have e := h.1
  have hB' := hB
  obtain ⟨b0, b1, b2, b3, b4⟩ := hB
  have k0 := e 0 (by omega) (by omega)
  have k1 := e 1 (by omega) (by omega)
  have k2 := e 2 (by omega) (by omega)
  refine ⟨by rw [k0]; exact b0, by rw [k1]; exact b1, by rw [k2]; exact b2, by rw [e 5 (by omega) (by omega)]; exact h05, fun g g0 g1 => ?_, fun s s0 s1 => ?_, ?_, fun s g s0 s1 g0 g1 => ?_, fun s g s0 s1 g0 g1 => ?_, fun t t0 t1 => ?_⟩
  · rw [k0] at g1; rw [h.2.1 g g0 g1]; exact h2 g g0 g1
  · rw [k1] at s1
    rw [h.w4 s0 s1, h.2.2.1 s 1 s0 s1 (by omega) (by omega), h.2.2.1 s 2 s0 s1 (by omega) (by omega), h.2.2.1 s 3 s0 s1 (by omega) (by omega)]
    exact h3.1 s s0 s1
  · rw [h.hs, h3.2.2]; exact b3.2
  · rw [k1] at s1; rw [k0] at g1
    rw [(h.2.2.2.1 s g s0 s1 g0 (by omega)).1]; exact h4.1 _ (by omega) (by omega)
  · rw [k1] at s1 g1
    rw [(h.2.2.2.1 s g s0 s1 g0 (by omega)).2]; exact h4.2.1 _ (by omega) (by omega)
  · rw [k2] at t1
    obtain ⟨e5, e6, e9, e10, e12, e13⟩ := h.2.2.2.2.1 t t0 t1
    have ht := h7.1 t t0 (by omega)
    have h8t := h8.1 t t0 t1
    have h824 := h8.2.2
    rw [e5, e6, e9, e10, e12, e13, k0]
    refine ⟨hG t t0 (by omega), ht.1, by omega, ht.2.1, ht.2.2.1, fun k ka kb => ?_, fun y y0 y1 => ?_⟩
    · rw [h.2.2.2.2.2.1 k (by omega) (by omega)]
      exact h8.2.1 k (by omega) (by omega)
    · rw [h.2.2.2.2.2.2.2 t y t0 t1 y0 y1]; exact ht.2.2.2.2.1 y y0 y1
theorem AG.ct {U T : aH} (h : AG U T) (hI : TI U) {pl : Int} {σ : aS} (hP : PLc pl U σ) : CT pl T σ := by
  obtain ⟨hB, h2, h3, h4, h05, hG, h7, h8⟩ := hI
  obtain ⟨hp, hM, w8, w9, w10, w11, h15⟩ := hP
  have e := h.1
  obtain ⟨b0, b1, b2, b3, b4⟩ := hB
  have k0 := e 0 (by omega) (by omega)
  have k1 := e 1 (by omega) (by omega)
  have k2 := e 2 (by omega) (by omega)
  refine ⟨⟨by rw [k0]; exact hM 1 0 0 0 rfl, by rw [k1]; exact hM 1 1 0 1 rfl, by rw [k2]; exact hM 1 2 0 2 rfl, ?_, by rw [e 4 (by omega) (by omega)]; exact hM 7 1 0 4 rfl, ?_⟩, fun g g0 g1 => ?_, fun s w s0 s1 w0 w1 => ?_, fun s g s0 s1 g0 g1 => ?_, fun s g s0 s1 g0 g1 => ?_, fun t t0 t1 => ?_, ?_, by rw [h15, h.hs], fun t k t0 t1 ka kb => ?_, fun k i i0 i3 ia ib => ?_, fun t y t0 t1 y0 y1 => ?_⟩
  · rw [e 3 (by omega) (by omega)]; have := hM 0 14 0 3 rfl; rw [Int.add_zero] at this; exact this
  · rw [e 5 (by omega) (by omega)]; have := hM 0 12 0 5 rfl; rw [Int.add_zero] at this; exact this
  · rw [k0] at g1; rw [h.2.1 g g0 g1]; exact hM 2 g 1 g (ctm_2 g0 (by omega))
  · rw [k1] at s1; rw [h.2.2.1 s w s0 s1 w0 w1]; exact hM 3 _ 2 _ (ctm_3 (by omega) (by omega))
  · rw [k1] at s1; rw [k0] at g1; rw [(h.2.2.2.1 s g s0 s1 g0 (by omega)).1]; exact hM 4 _ 3 _ (ctm_4 (by omega) (by omega))
  · rw [k1] at s1 g1; rw [(h.2.2.2.1 s g s0 s1 g0 (by omega)).2]; exact hM 5 _ 4 _ (ctm_5 (by omega) (by omega))
  · rw [k2] at t1
    obtain ⟨e5, e6, e9, e10, e12, e13⟩ := h.2.2.2.2.1 t t0 t1
    rw [e5, e6, e9, e10, e12, e13]
    exact ⟨hM 6 t 5 t (ctm_6 t0 (by omega)), w10.2 t t0 (by omega), hM 10 t 9 t (ctm_k.2.1 t0 (by omega)), hM 11 t 10 t (ctm_k.2.2 t0 (by omega)), hM 15 t 12 t (ctm_gr.1 t0 (by omega)), hM 16 t 13 t (ctm_gr.2.1 t0 (by omega))⟩
  · exact w10.1
  · rw [k2] at t1
    obtain ⟨-, -, e9, e10, -, -⟩ := h.2.2.2.2.1 t t0 t1
    have h8t := h8.1 t t0 t1
    have h824 := h8.2.2
    rw [e9] at ka
    rw [e10] at kb
    rw [h.2.2.2.2.2.1 k (by omega) (by omega)]
    exact hM 9 k 8 k (ctm_k.1 (by omega) (by omega))
  · rw [e k (by omega) (by omega)] at ib
    have : U 0 k ≤ 5 := by rcases (show k = 0 ∨ k = 1 ∨ k = 2 by omega) with q | q | q <;> rw [q] <;> omega
    rw [h.2.2.2.2.2.2.1 k i i0 i3 ia ib]
    exact hM 19 _ 11 _ (ctm_19 (by omega) (by omega))
  · rw [k2] at t1
    have ht := h7.1 t t0 (by omega)
    rw [(h.2.2.2.2.1 t t0 t1).2.2.2.2.2] at y1
    rw [h.2.2.2.2.2.2.2 t y t0 t1 y0 y1]
    exact hM 17 _ 14 _ (ctm_gr.2.2 (by omega) (by omega))
/-- all alone, bound as told -/
def nwN (T U : aH) : aH := PN0 T (fun x j => if x = 2 then U 23 j else if x = 4 then (if j = 0 then -1 else 0) else 0)
theorem nwN_x {T U : aH} {x j : Int} (h : x ≠ 0) : nwN T U x j = if x = 2 then U 23 j else if x = 4 then (if j = 0 then -1 else 0) else 0 := PN0_x _ _ h j
theorem nwN_NB {T U : aH} (hB : TB T) (h4 : T 0 2 ≤ 4) (h23 : ∀ t, 0 ≤ t → t < 4 → 0 ≤ U 23 t ∧ U 23 t ≤ 1) : NB T (nwN T U) := by
  refine ⟨fun s p a b c d => by unfold nwN; rw [PN0_0 _ _ c (by omega)]; exact alv_nn hB a b p, fun s a b => ?_, fun t t0 t1 => ?_, fun t t0 t1 => ?_, fun t t0 t1 => ?_, ?_, ?_, ?_, ?_, ?_⟩
  · rw [← alv_s hB s]
    exact sI_congr (fun k k0 k1 => by unfold nwN; exact PN0_0 _ _ k0 (by omega))
  · rw [nwN_x (by omega), if_neg (by omega), if_neg (by omega)]; omega
  · rw [nwN_x (by omega), if_neg (by omega), if_neg (by omega)]
  · rw [nwN_x (by omega), if_pos rfl]; exact h23 t t0 (by omega)
  · rw [nwN_x (by omega), if_neg (by omega), if_neg (by omega)]; omega
  · rw [nwN_x (by omega), if_neg (by omega), if_neg (by omega)]; omega
  · rw [nwN_x (by omega), if_neg (by omega), if_pos rfl, if_pos rfl]; omega
  · rw [nwN_x (by omega), if_neg (by omega), if_pos rfl, if_neg (by omega)]; omega
  · rw [nwN_x (by omega), if_neg (by omega), if_pos rfl, if_neg (by omega)]; omega
theorem bw_sum {x n : Int} {f : Int → Int} (x0 : 0 ≤ x) (x1 : x < 16) (n0 : 0 ≤ n) (n4 : n ≤ 4) (h : ∀ j, 0 ≤ j → j < 4 → bI x j = f j) (hz : ∀ j, n ≤ j → j < 4 → f j = 0) : sI (fun t => f t * p2 t) n = x := by
  have e := bI_5 x0 (by omega : x < 32)
  have e4 : bI x 4 = 0 := bI_hi (n := 4) x0 (by rw [p2_4]; exact x1) (by omega) (by omega)
  have a0 := h 0 (by omega) (by omega)
  have a1 := h 1 (by omega) (by omega)
  have a2 := h 2 (by omega) (by omega)
  have a3 := h 3 (by omega) (by omega)
  have ext : sI (fun t => f t * p2 t) 4 = sI (fun t => f t * p2 t) n := sI_ext n0 n4 (fun k _ _ => rfl) (fun k k0 k1 => by show f k * p2 k = 0; rw [hz k k0 k1, Int.zero_mul])
  rw [← ext]
  have s4 : sI (fun t => f t * p2 t) 4 = sI (fun t => f t * p2 t) 0 + f 0 * p2 0 + f 1 * p2 1 + f 2 * p2 2 + f 3 * p2 3 := by
    rw [show (4 : Int) = 0 + 1 + 1 + 1 + 1 from rfl, sI_s (by omega), sI_s (by omega), sI_s (by omega), sI_s (by omega)]; rfl
  rw [s4, sI_0, p2_0, p2_1, p2_2, p2_3]
  omega
