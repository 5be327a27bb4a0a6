/-! out: the reference put together -/
def oOut (T : aH) (t x y v : Int) : Prop :=
  if 0 ≤ t ∧ t < T 0 2 then (if T 12 t = 0 then v = -1 else if 0 ≤ x ∧ x ≤ T 12 t - 1 then (if 0 ≤ y ∧ y ≤ T 13 t - 1 then (if tkw T t x y = 0 then v = -2 else isL (T 12 t) (T 13 t) (gD (T 12 t) (T 13 t) (tkw T t) x y) v) else v = -1) else v = -1) else v = -1
theorem oOut_u {T : aH} {t x y a b : Int} (ha : oOut T t x y a) (hb : oOut T t x y b) : a = b := by
  unfold oOut at ha hb
  by_cases c1 : 0 ≤ t ∧ t < T 0 2
  · rw [if_pos c1] at ha hb
    by_cases c2 : T 12 t = 0
    · rw [if_pos c2] at ha hb; rw [ha, hb]
    · rw [if_neg c2] at ha hb
      by_cases c3 : 0 ≤ x ∧ x ≤ T 12 t - 1
      · rw [if_pos c3] at ha hb
        by_cases c4 : 0 ≤ y ∧ y ≤ T 13 t - 1
        · rw [if_pos c4] at ha hb
          by_cases c5 : tkw T t x y = 0
          · rw [if_pos c5] at ha hb; rw [ha, hb]
          · rw [if_neg c5] at ha hb; exact isL_u ha hb
        · rw [if_neg c4] at ha hb; rw [ha, hb]
      · rw [if_neg c3] at ha hb; rw [ha, hb]
  · rw [if_neg c1] at ha hb; rw [ha, hb]
theorem out_fill {σ : aS} (hL : LR σ) (t x y : Int) : c12_out_l72 130 t x y 0 σ = c12_out_p95 130 t x y (apf σ 164 (fun _ => 1000) 36) := by
  have hl := al_0 (c := 73) (B := aU5 c12_out_b72) (fun k => [130, t, x, y, k]) (fun k => apf σ 164 (fun _ => 1000) k) (n := 36) (r := (96, [130, t, x, y], apf σ 164 (fun _ => 1000) 36)) (by omega) (by omega) ?_ ?_ (Nat.ne_of_beq_eq_false rfl)
  · unfold c12_out_l72
    simp only [apf_0] at hl
    rw [hl]; rfl
  · intro k k0 k1
    have e := apf_s (σ := σ) (x := 164) (f := fun _ => 1000) k0
    show c12_out_b72 130 t x y k (apf σ 164 (fun _ => 1000) k) = _
    unfold c12_out_b72
    rw [apf_x (y := 130) (by omega), r_130_79 hL, apf_n, n_164 hL, e, wq (by omega) (by omega)]
    exact ite_p k1 (ite_n (by omega) (ite_p (by omega) rfl))
  · show c12_out_b72 130 t x y 36 _ = _
    unfold c12_out_b72
    exact ite_n (by omega) rfl
theorem out_GM {T : aH} {t sx sy : Int} {σ : aS} (hW : T 12 t ≤ 6) (hH : T 13 t ≤ 6) (hs : inn (T 12 t) (T 13 t) sx sy) :
    GM (T 12 t) (T 13 t) (tkw T t) sx sy (aput (apf σ 164 (fun _ => 1000) 36) 164 (6 * sy + sx) 0) := by
  have hi := hs
  unfold inn at hi
  have v0 : ∀ j, 0 ≤ j → j < 36 → aget (aput (apf σ 164 (fun _ => 1000) 36) 164 (6 * sy + sx) 0) 164 j = if j = 6 * sy + sx then 0 else 1000 := fun j j0 j1 => by
    by_cases e : j = 6 * sy + sx
    · rw [if_pos e, e, ag_s]
    · rw [if_neg e, ag_j e, apf_i j0 j1]
  have fs : fv (aput (apf σ 164 (fun _ => 1000) 36) 164 (6 * sy + sx) 0) sx sy = 0 := ag_s _ _ _ _
  refine ⟨fun j j0 j1 => ?_, fs, fun x y hxy => ?_, fun x y x0 x1 y0 y1 hn => ?_⟩
  · rw [v0 j j0 j1]; split <;> omega
  · have hxy2 := hxy
    unfold inn at hxy2
    show _ ≤ aget _ 164 (6 * y + x)
    rw [v0 _ (by omega) (by omega)]
    by_cases e : 6 * y + x = 6 * sy + sx
    · rw [if_pos e, show x = sx by omega, show y = sy by omega]
      exact Int.le_of_eq (gD_s (tkw_ok T t) sx sy)
    · rw [if_neg e]
      exact (gJ_bd (tkw_ok T t) sx sy 36 x y).2
  · show aget _ 164 (6 * y + x) = 1000
    rw [v0 _ (by omega) (by omega)]
    refine if_neg (fun e => hn ?_)
    rw [show x = sx by omega, show y = sy by omega]; exact hs
theorem c12_out_q {T N : aH} {σ : aS} (hM : MI T σ) (hS : MN T N σ) (t x y : Int) : ∃ v, oOut T t x y v ∧ AnsM T N σ (c12_out 130 t x y σ) v := by
  have hM0 := hM.t2
  have hS0 := hS.t2
  have hL := hM0.1
  have hB := hM.2.2
  have h4 := hB.2.2.1
  have no : ∀ v : Int, AnsM T N σ (some (0, [v], st2 σ)) v := fun v => AnsM.k (st2_q σ) hS0 rfl
  unfold oOut c12_out
  rw [show aput σ 130 2 0 = st2 σ from rfl, c12_isTown_ok hM0 t, acall1_some]
  by_cases c1 : 0 ≤ t ∧ t < T 0 2
  · simp only [if_pos c1]
    have g := hB.gr c1.1 c1.2
    obtain ⟨m1, m2, -⟩ := mr_gr hM0 c1.1 c1.2
    rw [if_neg (show ¬ (1 : Int) = 0 by omega)]
    show ∃ v, _ ∧ AnsM T N σ (if aget (st2 σ) 130 38 = 0 then none else _) v
    rw [r_130_38 hL, n_147 hL, if_neg (show ¬ (147 : Int) = 0 by omega), if_pos (show (0 : Int) ≤ t ∧ t < 8 by omega), m1]
    by_cases c2 : T 12 t = 0
    · simp only [if_pos c2]; exact ⟨-1, rfl, no _⟩
    · simp only [if_neg c2]
      rw [wq (by omega) (by omega), c12_isIn_ok, acall1_some, if_neg (show ¬ (147 : Int) = 0 by omega), if_pos (show (0 : Int) ≤ t ∧ t < 8 by omega)]
      by_cases c3 : 0 ≤ x ∧ x ≤ T 12 t - 1
      · simp only [if_pos c3]
        show ∃ v, _ ∧ AnsM T N σ (if (1 : Int) = 0 then _ else if aget (st2 σ) 130 39 = 0 then none else _) v
        rw [if_neg (show ¬ (1 : Int) = 0 by omega), r_130_39 hL, n_148 hL, if_neg (show ¬ (148 : Int) = 0 by omega), if_pos (show (0 : Int) ≤ t ∧ t < 8 by omega), m2 (by omega), wq (by omega) (by omega), c12_isIn_ok, acall1_some]
        by_cases c4 : 0 ≤ y ∧ y ≤ T 13 t - 1
        · simp only [if_pos c4]
          have hi : inn (T 12 t) (T 13 t) x y := by unfold inn; omega
          rw [if_neg (show ¬ (1 : Int) = 0 by omega)]
          show ∃ v, _ ∧ AnsM T N σ (acall1 (c12_lies 130 t x y (st2 σ)) _) v
          rw [c12_lies_ok hM0 c1.1 c1.2 hi, acall1_some]
          by_cases c5 : tkw T t x y = 0
          · simp only [if_pos c5]; exact ⟨-2, rfl, no _⟩
          · simp only [if_neg c5]
            have hF1 : Fr wfar (st2 σ) (apf (st2 σ) 164 (fun _ => 1000) 36) := (Fr.rf _ _).apf (x := 164) _ 36 (fun _ => rfl)
            have hF2 : Fr wfar (st2 σ) (aput (apf (st2 σ) 164 (fun _ => 1000) 36) 164 (6 * y + x) 0) := hF1.put _ rfl
            have hM1 := hM0.far hF1
            have hM2 := hM0.far hF2
            have hG := out_GM (T := T) (t := t) (σ := st2 σ) g.1.2 g.2.1.2 hi
            obtain ⟨τ, h3, hF3, hD⟩ := mo_rounds hM2 c1.1 c1.2 hi hG
            have hM3 := hM2.far hF3
            obtain ⟨l, h6, hl⟩ := mo_min hM3 c1.1 c1.2 (by omega) hD
            have e6 : w32 (6 * y) = 6 * y := wq (by omega) (by omega)
            have e7 : w32 (6 * y + x) = 6 * y + x := wq (by omega) (by omega)
            have hFq : Fr wfar (st2 σ) τ := hF2.tr hF3
            refine ⟨l, hl, τ, ?_, (st2_q σ).tr (hFq.mono rfl), hS0.fr hFq (wdj_spec (by decide +kernel))⟩
            rw [out_fill hL]
            unfold c12_out_p95
            rw [r_130_79 hM1.1, n_164 hM1.1, e6, e7]
            refine ite_n (by omega) (ite_p (by omega) ?_)
            unfold c12_out_l110
            rw [h3]
            show c12_out_p269 130 t τ = _
            unfold c12_out_p269 c12_out_l277
            rw [h6]; rfl
        · simp only [if_neg c4]; exact ⟨-1, rfl, no _⟩
      · simp only [if_neg c3]; exact ⟨-1, rfl, no _⟩
  · simp only [if_neg c1]; exact ⟨-1, rfl, no _⟩
