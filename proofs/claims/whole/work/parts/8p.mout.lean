/-! the way out of a ground: the reference -/
theorem c12_isIn_ok (v a b : Int) (σ : aS) : c12_isIn v a b σ = some (0, [if a ≤ v ∧ v ≤ b then 1 else 0], σ) := by
  unfold c12_isIn
  by_cases c : v < a
  · rw [if_pos c, if_neg (show ¬ (a ≤ v ∧ v ≤ b) by omega), if_pos (by omega)]
  · rw [if_neg c]
    by_cases d : b < v
    · rw [if_pos d, if_neg (show ¬ (a ≤ v ∧ v ≤ b) by omega), if_pos (by omega)]
    · rw [if_neg d, if_pos (show a ≤ v ∧ v ≤ b by omega), if_pos (by omega)]
def wfar : List (Int × List Int) := [(164, [])]
theorem MI.far {T : aH} {σ τ : aS} (h : MI T σ) (hF : Fr wfar σ τ) : MI T τ := h.fr hF (by decide +kernel) (wdj_spec (by decide +kernel))
def fv (τ : aS) (x y : Int) : Int := aget τ 164 (6 * y + x)
def sm36 (τ : aS) : Int := sI (fun j => aget τ 164 j) 36
/-- what is true of the reference's places all the time -/
def GM (W H : Int) (w : Int → Int → Int) (sx sy : Int) (τ : aS) : Prop := (∀ j, 0 ≤ j → j < 36 → 0 ≤ aget τ 164 j ∧ aget τ 164 j ≤ 1000) ∧ fv τ sx sy = 0 ∧ (∀ x y, inn W H x y → gD W H w sx sy x y ≤ fv τ x y) ∧
  ∀ x y, 0 ≤ x → x < 6 → 0 ≤ y → y < 6 → ¬ inn W H x y → fv τ x y = 1000
theorem fv_put {σ : aS} {x y u v c : Int} (x0 : 0 ≤ x) (x6 : x < 6) (u0 : 0 ≤ u) (u6 : u < 6) : fv (aput σ 164 (6 * y + x) c) u v = if u = x ∧ v = y then c else fv σ u v := by
  unfold fv
  rw [ag_if]
  by_cases q : u = x ∧ v = y
  · rw [if_pos q, if_pos ⟨rfl, by rw [q.1, q.2]⟩]
  · rw [if_neg q, if_neg (fun e => q (by omega))]
theorem sm36_put {σ : aS} {j c : Int} (j0 : 0 ≤ j) (j1 : j < 36) : sm36 (aput σ 164 j c) = sm36 σ + (c - aget σ 164 j) := by
  unfold sm36
  rw [← sI_upd (fun k => aget σ 164 k) (c := c - aget σ 164 j) j0 j1]
  exact sI_congr (fun k _ _ => by
    rw [ag_if]
    by_cases q : k = j
    · rw [if_pos ⟨rfl, q⟩, if_pos q, q]; omega
    · rw [if_neg (fun e => q e.2), if_neg q]; omega)
theorem sm36_bd {W H : Int} {w : Int → Int → Int} {sx sy : Int} {τ : aS} (h : GM W H w sx sy τ) : 0 ≤ sm36 τ ∧ sm36 τ ≤ 36000 := by
  have := sI_bd (f := fun j => aget τ 164 j) (a := 0) (b := 1000) (n := 36) (by omega) (fun k k0 k1 => h.1 k k0 k1)
  unfold sm36; omega
theorem mr_gr {T : aH} {σ : aS} (hM : MI T σ) {t : Int} (t0 : 0 ≤ t) (t1 : t < T 0 2) : aget σ 147 t = T 12 t ∧ (0 < T 12 t → aget σ 148 t = T 13 t) ∧ ∀ y, 0 ≤ y → y < 6 → aget σ 149 (6 * t + y) = T 14 (6 * t + y) := by
  have h4 := hM.2.2.2.2.1
  have e := hM.2.1.2.2.2.2.2.1 t t0 (by omega)
  exact ⟨e.2.2.2.2.1, e.2.2.2.2.2, fun y y0 y1 => hM.2.1.2.2.2.2.2.2.1 _ (by omega) (by omega)⟩
theorem c12_lies_ok {T : aH} {σ : aS} (hM : MI T σ) {t : Int} (t0 : 0 ≤ t) (t1 : t < T 0 2) {x y : Int} (hi : inn (T 12 t) (T 13 t) x y) : c12_lies 130 t x y σ = some (0, [tkw T t x y], σ) := by
  have hL := hM.1
  have hB := hM.2.2
  have h4 := hB.2.2.1
  have g := hB.gr t0 t1
  have mr := mr_gr hM t0 t1
  unfold inn at hi
  have er := mr.2.2 y (by omega) (by omega)
  have gy := g.2.2 y (by omega) (by omega)
  have ho := c12_isOf_ok (x := T 14 (6 * t + y)) (k := x) gy.1 (by omega) (by omega) (by omega) σ
  have h01 := bI_01 (T 14 (6 * t + y)) x
  unfold c12_lies
  rw [r_130_40 hL, n_149 hL, wq (x := 6 * t) (by omega) (by omega), wq (x := 6 * t + y) (by omega) (by omega), er]
  exact ite_n (by omega) (ite_p (by omega) (acall1_h ho (ite_p (by omega) rfl)))
theorem c12_steps_ok {T : aH} {σ : aS} (hM : MI T σ) {t : Int} (t0 : 0 ≤ t) (t1 : t < T 0 2) {sx sy : Int} (hs : inn (T 12 t) (T 13 t) sx sy) (hG : GM (T 12 t) (T 13 t) (tkw T t) sx sy σ) {u v : Int} (hu : inn (T 12 t) (T 13 t) u v) {x y : Int} (had : adj x y u v) :
    ∃ b τ, c12_steps 130 t (6 * v + u) x y σ = some (0, [b], τ) ∧ (b = 0 ∨ b = 1) ∧ Fr wfar σ τ ∧ GM (T 12 t) (T 13 t) (tkw T t) sx sy τ ∧ (b = 0 → τ = σ ∧ (inn (T 12 t) (T 13 t) x y → fv σ x y ≤ fv σ u v + tkw T t x y)) ∧ (b = 1 → sm36 τ < sm36 σ) := by
  have hL := hM.1
  have hB := hM.2.2
  have h4 := hB.2.2.1
  have g := hB.gr t0 t1
  have mr := mr_gr hM t0 t1
  have hu2 := hu
  have hs2 := hs
  unfold inn at hu2 hs2
  have i1 := c12_isIn_ok x 0 (T 12 t - 1) σ
  have i2 := c12_isIn_ok y 0 (T 13 t - 1) σ
  have fuv := hG.1 (6 * v + u) (by omega) (by omega)
  have fuv' : 0 ≤ fv σ u v ∧ fv σ u v ≤ 1000 := fuv
  have pre : ∀ r : aR, ((inn (T 12 t) (T 13 t) x y → (if tkw T t x y = 0 then c12_steps_p57 0 (fv σ u v) 130 x y σ else c12_steps_p57 1 (fv σ u v) 130 x y σ) = r) ∧ (¬ inn (T 12 t) (T 13 t) x y → some (0, [0], σ) = r)) → c12_steps 130 t (6 * v + u) x y σ = r := by
    intro r h
    unfold c12_steps
    rw [r_130_38 hL, n_147 hL, mr.1, wq (x := T 12 t - 1) (by omega) (by omega)]
    refine ite_n (by omega) (ite_p (by omega) (acall1_h i1 ?_))
    by_cases c : 0 ≤ x ∧ x ≤ T 12 t - 1
    · rw [if_pos c]
      refine ite_n (by omega) ?_
      rw [r_130_39 hL, n_148 hL, mr.2.1 (by omega), wq (x := T 13 t - 1) (by omega) (by omega)]
      refine ite_n (by omega) (ite_p (by omega) (acall1_h i2 ?_))
      by_cases d : 0 ≤ y ∧ y ≤ T 13 t - 1
      · rw [if_pos d]
        have hi : inn (T 12 t) (T 13 t) x y := ⟨c.1, by omega, d.1, by omega⟩
        refine ite_n (by omega) ?_
        rw [r_130_79 hL, n_164 hL]
        exact ite_n (by omega) (ite_p (by omega) (acall1_h (c12_lies_ok hM t0 t1 hi) (h.1 hi)))
      · rw [if_neg d]
        exact ite_p rfl (ite_p (by omega) (h.2 (by unfold inn; omega)))
    · rw [if_neg c]
      exact ite_p rfl (ite_p (by omega) (h.2 (by unfold inn; omega)))
  by_cases hi : inn (T 12 t) (T 13 t) x y
  · have hi2 := hi
    unfold inn at hi2
    have w01 := tkw_ok T t x y
    have fxy := hG.1 (6 * y + x) (by omega) (by omega)
    have p57 : ∀ k, (k = 0 ∨ k = 1) → c12_steps_p57 k (fv σ u v) 130 x y σ = if fv σ u v + k < fv σ x y then some (0, [1], aput σ 164 (6 * y + x) (fv σ u v + k)) else some (0, [0], σ) := fun k hk => by
      unfold c12_steps_p57
      rw [r_130_79 hL, n_164 hL, wq (x := 6 * y) (by omega) (by omega), wq (x := 6 * y + x) (by omega) (by omega), wq (x := fv σ u v + k) (by omega) (by omega)]
      refine ite_n (by omega) (ite_p (by omega) ?_)
      show (if fv σ u v + k < fv σ x y then _ else _) = _
      by_cases c : fv σ u v + k < fv σ x y
      · rw [if_pos c, if_pos c]
        exact ite_n (by omega) (ite_p (by omega) (ite_p (by omega) rfl))
      · rw [if_neg c, if_neg c]
        exact ite_p (by omega) rfl
    have run : c12_steps 130 t (6 * v + u) x y σ = if fv σ u v + tkw T t x y < fv σ x y then some (0, [1], aput σ 164 (6 * y + x) (fv σ u v + tkw T t x y)) else some (0, [0], σ) := by
      refine pre _ ⟨fun _ => ?_, fun q => absurd hi q⟩
      by_cases z : tkw T t x y = 0
      · rw [if_pos z, z]; exact p57 0 (Or.inl rfl)
      · rw [if_neg z, show tkw T t x y = 1 by omega]; exact p57 1 (Or.inr rfl)
    by_cases c : fv σ u v + tkw T t x y < fv σ x y
    · rw [if_pos c] at run
      have hx1 : fv σ x y ≤ 1000 := fxy.2
      refine ⟨1, _, run, Or.inr rfl, (Fr.rf wfar σ).put _ rfl, ⟨fun j j0 j1 => ?_, ?_, fun a b hab => ?_, fun a b a0 a6 b0 b6 hab => ?_⟩, fun q => absurd q (by omega), fun _ => ?_⟩
      · rw [ag_if]; split
        · omega
        · exact hG.1 j j0 j1
      · rw [fv_put (by omega) (by omega) (by omega) (by omega)]; split
        · rename_i q
          have : fv σ x y = 0 := by rw [← q.1, ← q.2]; exact hG.2.1
          omega
        · exact hG.2.1
      · have hab2 := hab
        unfold inn at hab2
        rw [fv_put (by omega) (by omega) (by omega) (by omega)]; split
        · rename_i q
          rw [q.1, q.2]
          have a1 := hG.2.2.1 u v hu
          have a2 := gD_fx (tkw_ok T t) g.1.2 g.2.1.2 hs had hu
          omega
        · exact hG.2.2.1 a b hab
      · rw [fv_put (by omega) (by omega) (by omega) (by omega)]; split
        · rename_i q
          rw [q.1, q.2] at hab; exact absurd hi hab
        · exact hG.2.2.2 a b a0 a6 b0 b6 hab
      · rw [sm36_put (by omega) (by omega)]
        show sm36 σ + (fv σ u v + tkw T t x y - fv σ x y) < sm36 σ
        omega
    · rw [if_neg c] at run
      exact ⟨0, σ, run, Or.inl rfl, Fr.rf _ _, hG, fun _ => ⟨rfl, fun _ => by omega⟩, fun q => absurd q (by omega)⟩
  · exact ⟨0, σ, pre _ ⟨fun q => absurd q hi, fun _ => rfl⟩, Or.inl rfl, Fr.rf _ _, hG, fun _ => ⟨rfl, fun q => absurd q hi⟩, fun q => absurd q (by omega)⟩
