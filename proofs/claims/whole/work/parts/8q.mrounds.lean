/-! rounds and the least: the reference -/
theorem adj_bs {u v : Int} : adj (u - 1) v u v ∧ adj (u + 1) v u v ∧ adj u (v - 1) u v ∧ adj u (v + 1) u v := by unfold adj; omega
/-- one place's four steps -/
theorem mo_cell {T : aH} {σ : aS} (hM : MI T σ) {t : Int} (t0 : 0 ≤ t) (t1 : t < T 0 2) {sx sy : Int} (hs : inn (T 12 t) (T 13 t) sx sy) (hG : GM (T 12 t) (T 13 t) (tkw T t) sx sy σ) {k b : Int} (k0 : 0 ≤ k) (k1 : k < 36) (hb : b = 0 ∨ b = 1) :
    ∃ f τ, aU4 c12_out_b121 [130, t, b, k] σ = some (122, [130, t, f, k + 1], τ) ∧ (f = 0 ∨ f = 1) ∧ Fr wfar σ τ ∧ GM (T 12 t) (T 13 t) (tkw T t) sx sy τ ∧ sm36 τ ≤ sm36 σ ∧
      (f = 0 → b = 0 ∧ τ = σ ∧ ∀ x y, inn (T 12 t) (T 13 t) x y → inn (T 12 t) (T 13 t) (k % 6) (k / 6) → adj x y (k % 6) (k / 6) → fv σ x y ≤ fv σ (k % 6) (k / 6) + tkw T t x y) ∧ (b = 0 → f = 1 → sm36 τ < sm36 σ) := by
  have hL := hM.1
  have hB := hM.2.2
  have h4 := hB.2.2.1
  have g := hB.gr t0 t1
  have ek : 6 * (k / 6) + k % 6 = k := by omega
  have p260 : ∀ f τ, c12_out_p260 130 t f k τ = some (122, [130, t, f, k + 1], τ) := fun f τ => by
    unfold c12_out_p260; rw [wq (by omega) (by omega)]
  by_cases c : aget σ 164 k = 1000
  · refine ⟨b, σ, ?_, hb, Fr.rf _ _, hG, Int.le_refl _, fun q => ⟨q, rfl, fun x y hxy hk had => ?_⟩, fun q1 q2 => by omega⟩
    · show c12_out_b121 130 t b k σ = _
      unfold c12_out_b121
      rw [r_130_79 hL, n_164 hL]
      exact ite_p k1 (ite_n (by omega) (ite_p (by omega) (ite_p c (p260 b σ))))
    · have e : fv σ (k % 6) (k / 6) = 1000 := by unfold fv; rw [ek]; exact c
      have w01 := tkw_ok T t x y
      unfold inn at hxy
      have := (hG.1 (6 * y + x) (by omega) (by omega)).2
      have : fv σ x y ≤ 1000 := this
      omega
  · have hu : inn (T 12 t) (T 13 t) (k % 6) (k / 6) := by
      by_cases q : inn (T 12 t) (T 13 t) (k % 6) (k / 6)
      · exact q
      · have := hG.2.2.2 (k % 6) (k / 6) (by omega) (by omega) (by omega) (by omega) q
        unfold fv at this
        rw [ek] at this; exact absurd this c
    obtain ⟨a1, a2, a3, a4⟩ := adj_bs (u := k % 6) (v := k / 6)
    obtain ⟨b1, τ1, s1, o1, f1, G1, z1, m1⟩ := c12_steps_ok hM t0 t1 hs hG hu a1
    obtain ⟨b2, τ2, s2, o2, f2, G2, z2, m2⟩ := c12_steps_ok (hM.far f1) t0 t1 hs G1 hu a2
    obtain ⟨b3, τ3, s3, o3, f3, G3, z3, m3⟩ := c12_steps_ok ((hM.far f1).far f2) t0 t1 hs G2 hu a3
    obtain ⟨b4, τ4, s4, o4, f4, G4, z4, m4⟩ := c12_steps_ok (((hM.far f1).far f2).far f3) t0 t1 hs G3 hu a4
    rw [ek] at s1 s2 s3 s4
    have d1 : sm36 τ1 ≤ sm36 σ := by rcases o1 with q | q; rw [(z1 q).1]; exact Int.le_refl _; exact Int.le_of_lt (m1 q)
    have d2 : sm36 τ2 ≤ sm36 τ1 := by rcases o2 with q | q; rw [(z2 q).1]; exact Int.le_refl _; exact Int.le_of_lt (m2 q)
    have d3 : sm36 τ3 ≤ sm36 τ2 := by rcases o3 with q | q; rw [(z3 q).1]; exact Int.le_refl _; exact Int.le_of_lt (m3 q)
    have d4 : sm36 τ4 ≤ sm36 τ3 := by rcases o4 with q | q; rw [(z4 q).1]; exact Int.le_refl _; exact Int.le_of_lt (m4 q)
    have tm : Int.tmod k 6 = k % 6 := Int.tmod_eq_emod_of_nonneg k0
    have td : Int.tdiv k 6 = k / 6 := Int.tdiv_eq_ediv_of_nonneg k0
    have pre : ∀ r : aR, (if b = 0 then (if b1 = 0 then (if b2 = 0 then (if b3 = 0 then (if b4 = 0 then c12_out_p258 0 130 t k τ4 else c12_out_p253 130 t k τ4) else c12_out_p253 130 t k τ4) else c12_out_p253 130 t k τ4) else c12_out_p253 130 t k τ4) else c12_out_p253 130 t k τ4) = r → aU4 c12_out_b121 [130, t, b, k] σ = r := by
      intro r h
      show c12_out_b121 130 t b k σ = r
      unfold c12_out_b121
      rw [r_130_79 hL, n_164 hL, tm, td, wq (x := k % 6 - 1) (by omega) (by omega), wq (x := k / 6) (by omega) (by omega), wq (x := k % 6 + 1) (by omega) (by omega), wq (x := k / 6 - 1) (by omega) (by omega), wq (x := k / 6 + 1) (by omega) (by omega)]
      exact ite_p k1 (ite_n (by omega) (ite_p (by omega) (ite_n c (ite_n (by omega) (ite_n (by omega) (acall1_h s1 (ite_n (by omega) (ite_n (by omega) (acall1_h s2 (ite_n (by omega) (ite_n (by omega) (acall1_h s3 (ite_n (by omega) (ite_n (by omega) (acall1_h s4 h)))))))))))))))
    have p1 : c12_out_p253 130 t k τ4 = some (122, [130, t, 1, k + 1], τ4) := by unfold c12_out_p253 c12_out_p258; exact p260 1 τ4
    have p0 : c12_out_p258 0 130 t k τ4 = some (122, [130, t, 0, k + 1], τ4) := by unfold c12_out_p258; exact p260 0 τ4
    have hF : Fr wfar σ τ4 := ((f1.tr f2).tr f3).tr f4
    by_cases q0 : b = 0
    · by_cases q1 : b1 = 0
      · obtain ⟨rfl, e1⟩ := z1 q1
        by_cases q2 : b2 = 0
        · obtain ⟨rfl, e2⟩ := z2 q2
          by_cases q3 : b3 = 0
          · obtain ⟨rfl, e3⟩ := z3 q3
            by_cases q4 : b4 = 0
            · obtain ⟨rfl, e4⟩ := z4 q4
              refine ⟨0, τ4, pre _ (by rw [if_pos q0, if_pos q1, if_pos q2, if_pos q3, if_pos q4]; exact p0), Or.inl rfl, hF, G4, Int.le_refl _, fun _ => ⟨q0, rfl, fun x y hxy hk had => ?_⟩, fun _ q => absurd q (by omega)⟩
              unfold adj at had
              rcases (show (x = k % 6 - 1 ∧ y = k / 6) ∨ (x = k % 6 + 1 ∧ y = k / 6) ∨ (x = k % 6 ∧ y = k / 6 - 1) ∨ (x = k % 6 ∧ y = k / 6 + 1) by omega) with ⟨rfl, rfl⟩ | ⟨rfl, rfl⟩ | ⟨rfl, rfl⟩ | ⟨rfl, rfl⟩
              · exact e1 hxy
              · exact e2 hxy
              · exact e3 hxy
              · exact e4 hxy
            · exact ⟨1, τ4, pre _ (by rw [if_pos q0, if_pos q1, if_pos q2, if_pos q3, if_neg q4]; exact p1), Or.inr rfl, hF, G4, by omega, fun q => absurd q (by omega), fun _ _ => by have := m4 (by omega); omega⟩
          · exact ⟨1, τ4, pre _ (by rw [if_pos q0, if_pos q1, if_pos q2, if_neg q3]; exact p1), Or.inr rfl, hF, G4, by omega, fun q => absurd q (by omega), fun _ _ => by have := m3 (by omega); omega⟩
        · exact ⟨1, τ4, pre _ (by rw [if_pos q0, if_pos q1, if_neg q2]; exact p1), Or.inr rfl, hF, G4, by omega, fun q => absurd q (by omega), fun _ _ => by have := m2 (by omega); omega⟩
      · exact ⟨1, τ4, pre _ (by rw [if_pos q0, if_neg q1]; exact p1), Or.inr rfl, hF, G4, by omega, fun q => absurd q (by omega), fun _ _ => by have := m1 (by omega); omega⟩
    · exact ⟨1, τ4, pre _ (by rw [if_neg q0]; exact p1), Or.inr rfl, hF, G4, by omega, fun q => absurd q (by omega), fun q => absurd q q0⟩
theorem mo_round {T : aH} {σ : aS} (hM : MI T σ) {t : Int} (t0 : 0 ≤ t) (t1 : t < T 0 2) {sx sy : Int} (hs : inn (T 12 t) (T 13 t) sx sy) (hG : GM (T 12 t) (T 13 t) (tkw T t) sx sy σ) :
    ∃ f τ, c12_out_l121 130 t 0 0 σ = some (111, [130, t, f], τ) ∧ (f = 0 ∨ f = 1) ∧ Fr wfar σ τ ∧ GM (T 12 t) (T 13 t) (tkw T t) sx sy τ ∧
      (f = 0 → ∀ x y u v, inn (T 12 t) (T 13 t) x y → inn (T 12 t) (T 13 t) u v → adj x y u v → fv τ x y ≤ fv τ u v + tkw T t x y) ∧ (f = 1 → sm36 τ < sm36 σ) := by
  have hB := hM.2.2
  have g := hB.gr t0 t1
  have hal := al_I (c := 122) (B := aU4 c12_out_b121) (n := 36) (i := 0) (vs := [130, t, 0, 0]) (σ := σ)
    (fun k vs τ => 0 ≤ k ∧ ∃ f, vs = [130, t, f, k] ∧ (f = 0 ∨ f = 1) ∧ Fr wfar σ τ ∧ GM (T 12 t) (T 13 t) (tkw T t) sx sy τ ∧
      (f = 0 → τ = σ ∧ ∀ l, 0 ≤ l → l < k → ∀ x y, inn (T 12 t) (T 13 t) x y → inn (T 12 t) (T 13 t) (l % 6) (l / 6) → adj x y (l % 6) (l / 6) → fv σ x y ≤ fv σ (l % 6) (l / 6) + tkw T t x y) ∧ (f = 1 → sm36 τ < sm36 σ))
    (fun r => ∃ f τ, r = (267, [130, t, f], τ) ∧ (f = 0 ∨ f = 1) ∧ Fr wfar σ τ ∧ GM (T 12 t) (T 13 t) (tkw T t) sx sy τ ∧
      (f = 0 → ∀ x y u v, inn (T 12 t) (T 13 t) x y → inn (T 12 t) (T 13 t) u v → adj x y u v → fv τ x y ≤ fv τ u v + tkw T t x y) ∧ (f = 1 → sm36 τ < sm36 σ))
    (by omega) (by omega) ⟨Int.le_refl _, 0, rfl, Or.inl rfl, Fr.rf _ _, hG, fun _ => ⟨rfl, fun l l0 l1 => by omega⟩, fun q => absurd q (by omega)⟩ ?_
  · obtain ⟨r, hr, f, τ, rfl, h⟩ := hal
    refine ⟨f, τ, ?_, h⟩
    unfold c12_out_l121
    rw [hr]; rfl
  · rintro k vs τ k1 ⟨k0, f, rfl, hf, hF, hGt, hz, hm⟩
    by_cases c : k < 36
    · obtain ⟨f', υ, h1, h2, h3, h5, h6, h7, h8⟩ := mo_cell (hM.far hF) t0 t1 hs hGt k0 c hf
      refine Or.inl ⟨c, _, _, h1, by omega, f', rfl, h2, hF.tr h3, h5, fun q => ?_, fun q => ?_⟩
      · obtain ⟨q1, q2, q3⟩ := h7 q
        obtain ⟨r1, r2⟩ := hz q1
        subst q2
        subst r1
        refine ⟨rfl, fun l l0 l1 x y hxy hl had => ?_⟩
        by_cases e : l = k
        · subst e; exact q3 x y hxy hl had
        · exact r2 l l0 (by omega) x y hxy hl had
      · by_cases e : f = 0
        · have := h8 e q
          rw [(hz e).1] at this; exact this
        · have := hm (by omega)
          omega
    · have hk : k = 36 := by omega
      subst hk
      refine Or.inr ⟨(267, [130, t, f], τ), ?_, Nat.ne_of_beq_eq_false rfl, f, τ, rfl, hf, hF, hGt, fun q x y u v hxy huv had => ?_, hm⟩
      · show c12_out_b121 130 t f 36 τ = _
        unfold c12_out_b121
        exact ite_n (by omega) rfl
      · obtain ⟨r1, r2⟩ := hz q
        subst r1
        have hu2 := huv
        unfold inn at hu2
        have h := r2 (6 * v + u) (by omega) (by omega) x y hxy
        rw [(cde (y := v) hu2.1 (by omega)).1, (cde (y := v) hu2.1 (by omega)).2] at h
        exact h huv had
theorem mo_rounds {T : aH} {σ : aS} (hM : MI T σ) {t : Int} (t0 : 0 ≤ t) (t1 : t < T 0 2) {sx sy : Int} (hs : inn (T 12 t) (T 13 t) sx sy) (hG : GM (T 12 t) (T 13 t) (tkw T t) sx sy σ) :
    ∃ τ, aloop 111 (aU3 c12_out_b110) aBig [130, t, 1] σ = some (270, [130, t], τ) ∧ Fr wfar σ τ ∧ ∀ x y, inn (T 12 t) (T 13 t) x y → fv τ x y = gD (T 12 t) (T 13 t) (tkw T t) sx sy x y := by
  have hB := hM.2.2
  have g := hB.gr t0 t1
  have s0 := sm36_bd hG
  have hal := al_I (c := 111) (B := aU3 c12_out_b110) (n := 36002) (i := 0) (vs := [130, t, 1]) (σ := σ)
    (fun k vs τ => 0 ≤ k ∧ ∃ f, vs = [130, t, f] ∧ (f = 0 ∨ f = 1) ∧ Fr wfar σ τ ∧ GM (T 12 t) (T 13 t) (tkw T t) sx sy τ ∧
      (f = 0 → ∀ x y u v, inn (T 12 t) (T 13 t) x y → inn (T 12 t) (T 13 t) u v → adj x y u v → fv τ x y ≤ fv τ u v + tkw T t x y) ∧ (f = 1 → sm36 τ ≤ 36000 - k))
    (fun r => ∃ τ, r = (270, [130, t], τ) ∧ Fr wfar σ τ ∧ ∀ x y, inn (T 12 t) (T 13 t) x y → fv τ x y = gD (T 12 t) (T 13 t) (tkw T t) sx sy x y)
    (by omega) (by omega) ⟨Int.le_refl _, 1, rfl, Or.inr rfl, Fr.rf _ _, hG, fun q => absurd q (by omega), fun _ => by omega⟩ ?_
  · obtain ⟨r, hr, τ, rfl, h1, h2⟩ := hal
    exact ⟨τ, hr, h1, h2⟩
  · rintro k vs τ k1 ⟨k0, f, rfl, hf, hF, hGt, hz, hm⟩
    by_cases c : f = 0
    · refine Or.inr ⟨(270, [130, t], τ), ?_, Nat.ne_of_beq_eq_false rfl, τ, rfl, hF, fun x y hxy => ?_⟩
      · show c12_out_b110 130 t f τ = _
        unfold c12_out_b110
        exact ite_p c rfl
      · have a := fx_le (tkw_ok T t) (sx := sx) (sy := sy) (m := fv τ) (fun _ => by rw [hGt.2.1]; exact Int.le_refl _) (fun x y h => by unfold inn at h; exact (hGt.1 (6 * y + x) (by omega) (by omega)).2) (fun x y u v h1 h2 h3 => hz c x y u v h1 h2 h3) 36 x y hxy
        have b := hGt.2.2.1 x y hxy
        unfold gD at b ⊢
        omega
    · have f1 : f = 1 := by omega
      have sb := sm36_bd hGt
      have hk := hm f1
      obtain ⟨f', υ, h1, h2, h3, h5, h6, h7⟩ := mo_round (hM.far hF) t0 t1 hs hGt
      refine Or.inl ⟨by omega, _, _, ?_, by omega, f', rfl, h2, hF.tr h3, h5, h6, fun q => by have := h7 q; omega⟩
      show c12_out_b110 130 t f τ = _
      unfold c12_out_b110
      exact ite_n c h1
def isQ (W H : Int) (D : Int → Int → Int) (k l : Int) : Prop := l ≤ 1000 ∧ (∀ u v, bdr W H u v → 6 * v + u < k → l ≤ D u v) ∧ (l = 1000 ∨ ∃ u v, bdr W H u v ∧ l = D u v)
theorem mo_min {T : aH} {σ : aS} (hM : MI T σ) {t : Int} (t0 : 0 ≤ t) (t1 : t < T 0 2) (hw : 0 < T 12 t) {D : Int → Int → Int} (hD : ∀ u v, inn (T 12 t) (T 13 t) u v → fv σ u v = D u v) :
    ∃ l, aloop 278 (aU4 c12_out_b277) aBig [130, t, 1000, 0] σ = some (0, [l], σ) ∧ isL (T 12 t) (T 13 t) D l := by
  have hB := hM.2.2
  have hL := hM.1
  have h4 := hB.2.2.1
  have g := hB.gr t0 t1
  have mr := mr_gr hM t0 t1
  have hal := al_I (c := 278) (B := aU4 c12_out_b277) (n := 36) (i := 0) (vs := [130, t, 1000, 0]) (σ := σ)
    (fun k vs τ => 0 ≤ k ∧ τ = σ ∧ ∃ l, vs = [130, t, l, k] ∧ isQ (T 12 t) (T 13 t) D k l)
    (fun r => ∃ l, r = (0, [l], σ) ∧ isL (T 12 t) (T 13 t) D l)
    (by omega) (by omega) ⟨Int.le_refl _, rfl, 1000, rfl, Int.le_refl _, fun u v huv hlt => by have := huv.1; unfold inn at this; omega, Or.inl rfl⟩ ?_
  · obtain ⟨r, hr, l, rfl, hI⟩ := hal
    exact ⟨l, hr, hI⟩
  · rintro k vs τ k1 ⟨k0, rfl, l, rfl, hI⟩
    by_cases c : k < 36
    · have tm : Int.tmod k 6 = k % 6 := Int.tmod_eq_emod_of_nonneg k0
      have td : Int.tdiv k 6 = k / 6 := Int.tdiv_eq_ediv_of_nonneg k0
      have ek : 6 * (k / 6) + k % 6 = k := by omega
      have p389 : ∀ l, c12_out_p389 130 t l k τ = some (278, [130, t, l, k + 1], τ) := fun l => by
        unfold c12_out_p389; rw [wq (by omega) (by omega)]
      have p360 : c12_out_p360 130 t l k τ = some (278, [130, t, l, k + 1], τ) := by
        unfold c12_out_p360 c12_out_p361
        exact ite_p rfl (p389 l)
      have p356 : c12_out_p356 130 t l k τ = some (278, [130, t, if aget τ 164 k < l then aget τ 164 k else l, k + 1], τ) := by
        unfold c12_out_p356 c12_out_p361
        rw [r_130_79 hL, n_164 hL]
        refine ite_n (by omega) (ite_n (by omega) (ite_p (by omega) ?_))
        by_cases d : aget τ 164 k < l
        · rw [if_pos d, if_pos d]
          exact ite_n (by omega) (ite_p (by omega) (p389 _))
        · rw [if_neg d, if_neg d]; exact p389 l
      have run : aU4 c12_out_b277 [130, t, l, k] τ = if (k % 6 < T 12 t ∧ k / 6 < T 13 t) ∧ (k / 6 = 0 ∨ k / 6 = T 13 t - 1 ∨ k % 6 = 0 ∨ k % 6 = T 12 t - 1) then c12_out_p356 130 t l k τ else c12_out_p360 130 t l k τ := by
        show c12_out_b277 130 t l k τ = _
        unfold c12_out_b277
        rw [r_130_38 hL, n_147 hL, mr.1, r_130_39 hL, n_148 hL, mr.2.1 (by omega), tm, td, wq (x := k / 6) (by omega) (by omega), wq (x := T 12 t - 1) (by omega) (by omega), wq (x := T 13 t - 1) (by omega) (by omega)]
        refine ite_p c (ite_n (by omega) (ite_n (by omega) (ite_n (by omega) (ite_p (by omega) ?_))))
        by_cases c1 : k % 6 < T 12 t
        · refine ite_p c1 (ite_n (by omega) (ite_p (by omega) ?_))
          by_cases c2 : k / 6 < T 13 t
          · refine ite_p c2 ?_
            by_cases c3 : k % 6 = 0
            · rw [if_pos c3, if_pos ⟨⟨c1, c2⟩, Or.inr (Or.inr (Or.inl c3))⟩]
            · refine ite_n c3 ?_
              by_cases c5 : k / 6 = 0
              · rw [if_pos c5, if_pos ⟨⟨c1, c2⟩, Or.inl c5⟩]
              · refine ite_n c5 (ite_n (by omega) (ite_p (by omega) ?_))
                by_cases c6 : k % 6 = T 12 t - 1
                · rw [if_pos c6, if_pos ⟨⟨c1, c2⟩, Or.inr (Or.inr (Or.inr c6))⟩]
                · refine ite_n c6 (ite_n (by omega) (ite_p (by omega) ?_))
                  by_cases c7 : k / 6 = T 13 t - 1
                  · rw [if_pos c7, if_pos ⟨⟨c1, c2⟩, Or.inr (Or.inl c7)⟩]
                  · rw [if_neg c7, if_neg (fun q => by omega)]
          · rw [if_neg c2, if_neg (fun q => c2 q.1.2)]
        · rw [if_neg c1, if_neg (fun q => c1 q.1.1)]
      by_cases d : (k % 6 < T 12 t ∧ k / 6 < T 13 t) ∧ (k / 6 = 0 ∨ k / 6 = T 13 t - 1 ∨ k % 6 = 0 ∨ k % 6 = T 12 t - 1)
      · have hb : bdr (T 12 t) (T 13 t) (k % 6) (k / 6) := ⟨⟨by omega, d.1.1, by omega, d.1.2⟩, d.2⟩
        have ev : aget τ 164 k = D (k % 6) (k / 6) := by rw [← hD _ _ hb.1]; unfold fv; rw [ek]
        rw [if_pos d, p356, ev] at run
        refine Or.inl ⟨c, _, _, run, by omega, rfl, _, rfl, ?_, fun u v huv hlt => ?_, ?_⟩
        · have := hI.1; split <;> omega
        · by_cases q : 6 * v + u = k
          · have hu := huv.1
            unfold inn at hu
            have e1 : u = k % 6 := by omega
            have e2 : v = k / 6 := by omega
            rw [e1, e2]; split <;> omega
          · have := hI.2.1 u v huv (by omega)
            split <;> omega
        · split
          · exact Or.inr ⟨_, _, hb, rfl⟩
          · exact hI.2.2
      · rw [if_neg d, p360] at run
        refine Or.inl ⟨c, _, _, run, by omega, rfl, l, rfl, hI.1, fun u v huv hlt => ?_, hI.2.2⟩
        by_cases q : 6 * v + u = k
        · exfalso
          have hu := huv.1
          have hv := huv.2
          unfold inn at hu
          exact d (by omega)
        · exact hI.2.1 u v huv (by omega)
    · have hk : k = 36 := by omega
      subst hk
      refine Or.inr ⟨(0, [l], τ), ?_, Nat.ne_of_beq_eq_false rfl, l, rfl, hI.1, fun u v huv => hI.2.1 u v huv (by have := huv.1; unfold inn at this; omega), hI.2.2⟩
      show c12_out_b277 130 t l 36 τ = _
      unfold c12_out_b277
      exact ite_n (by omega) rfl
