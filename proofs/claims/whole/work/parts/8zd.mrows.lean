/-! the reference: what can be undone, the image -/
theorem Fp.fr {P : Int → Int → Prop} {σ τ : aS} {l : List (Int × List Int)} (h : Fp P σ τ) (hw : ∀ x j, P x j → wm l x j = true) : Fr l σ τ :=
  ⟨h.1, h.2.1, fun x j hx => h.2.2 x j (fun q => by rw [hw x j q] at hx; cases hx)⟩
/-- a row from o on tells N -/
def RW (T N : aH) (x o : Int) (σ : aS) : Prop :=
  (∀ s p, 0 ≤ s → s < T 0 1 → 0 ≤ p → p ≤ T 0 2 → aget σ x (o + (5 * s + p)) = N 0 (5 * s + p)) ∧ (∀ t, 0 ≤ t → t < 4 → aget σ x (o + 25 + t) = N 1 t) ∧ (∀ t, 0 ≤ t → t < T 0 2 → aget σ x (o + 29 + t) = N 2 t) ∧
  aget σ x (o + 33) = N 3 0 ∧ aget σ x (o + 34) = N 3 1
theorem RW.co {T N : aH} {x o x' o' : Int} {σ τ : aS} (hB : TB T) (h : RW T N x o σ) (e : ∀ j, 0 ≤ j → j < 35 → aget τ x' (o' + j) = aget σ x (o + j)) : RW T N x' o' τ := by
  have h5 := hB.2.1
  have h4 := hB.2.2.1
  refine ⟨fun s p s0 s1 p0 p1 => ?_, fun t t0 t1 => ?_, fun t t0 t1 => ?_, ?_, ?_⟩
  · rw [e _ (by omega) (by omega)]; exact h.1 s p s0 s1 p0 p1
  · rw [Int.add_assoc, e _ (by omega) (by omega), ← Int.add_assoc]; exact h.2.1 t t0 t1
  · rw [Int.add_assoc, e _ (by omega) (by omega), ← Int.add_assoc]; exact h.2.2.1 t t0 t1
  · rw [e _ (by omega) (by omega)]; exact h.2.2.2.1
  · rw [e _ (by omega) (by omega)]; exact h.2.2.2.2
def wun : List (Int × List Int) := [(165, []), (166, [])]
def rwP (x o : Int) : Int → Int → Prop := fun y j => y = x ∧ o ≤ j ∧ j < o + 35
theorem rwP_w {x o : Int} (hx : x = 165 ∨ x = 166) : ∀ y j, rwP x o y j → wm wun y j = true := fun y j q => by
  have e : y = 165 ∨ y = 166 := by have := q.1; omega
  rcases e with e | e <;> rw [e] <;> rfl
theorem c12_lays_ok {T N : aH} {σ : aS} (hM : MI T σ) (hS : MN T N σ) {x o : Int} (hx : x = 165 ∨ x = 166) (o0 : 0 ≤ o) (o1 : o + 35 ≤ alen σ x) (o2 : o ≤ 1015) :
    ∃ τ, c12_lays 130 x o σ = some (0, [], τ) ∧ Fp (rwP x o) σ τ ∧ RW T N x o τ := by
  have hL := hM.1
  have hB := hM.2.2
  have h5 := hB.2.1
  have h4 := hB.2.2.1
  have lr : ∀ τ, Fp (rwP x o) σ τ → LR τ := fun τ h => (h.fr (rwP_w hx)).LR (by decide +kernel) hL
  have ne : ∀ (τ : aS), Fp (rwP x o) σ τ → ∀ y j, y ≠ x → aget τ y j = aget σ y j := fun τ h y j hy => h.g (fun q => hy q.1)
  have hal := al_I (c := 3) (B := aU4 c12_lays_b2) (n := 25) (i := 0) (vs := [130, x, o, 0]) (σ := σ)
    (fun k vs τ => 0 ≤ k ∧ vs = [130, x, o, k] ∧ Fp (rwP x o) σ τ ∧ ∀ j, 0 ≤ j → j < k → aget τ x (o + j) = aget σ 155 j)
    (fun r => ∃ τ, r = (26, [130, x, o], τ) ∧ Fp (rwP x o) σ τ ∧ ∀ j, 0 ≤ j → j < 25 → aget τ x (o + j) = aget σ 155 j) (by omega) (by omega) ⟨Int.le_refl _, rfl, Fp.rf _ _, fun j j0 j1 => by omega⟩ ?_
  · obtain ⟨r, hr, φ, rfl, hF1, hv1⟩ := hal
    have hal2 := al_I (c := 28) (B := aU4 c12_lays_b27) (n := 4) (i := 0) (vs := [130, x, o, 0]) (σ := φ)
      (fun k vs τ => 0 ≤ k ∧ vs = [130, x, o, k] ∧ Fp (rwP x o) σ τ ∧ (∀ j, 0 ≤ j → j < 25 → aget τ x (o + j) = aget σ 155 j) ∧ ∀ t, 0 ≤ t → t < k → aget τ x (o + 25 + t) = aget σ 156 t ∧ aget τ x (o + 29 + t) = aget σ 144 t)
      (fun r => ∃ τ, r = (67, [130, x, o], τ) ∧ Fp (rwP x o) σ τ ∧ (∀ j, 0 ≤ j → j < 25 → aget τ x (o + j) = aget σ 155 j) ∧ ∀ t, 0 ≤ t → t < 4 → aget τ x (o + 25 + t) = aget σ 156 t ∧ aget τ x (o + 29 + t) = aget σ 144 t)
      (by omega) (by omega) ⟨Int.le_refl _, rfl, hF1, hv1, fun t t0 t1 => by omega⟩ ?_
    · obtain ⟨r2, hr2, ψ, rfl, hF2, hv2, hv3⟩ := hal2
      have hL2 := lr ψ hF2
      have f1 : Fp (rwP x o) σ (aput ψ x (o + 33) (aget ψ 130 80)) := hF2.put (x := x) (j := o + 33) _ ⟨rfl, by omega, by omega⟩
      have f2 : Fp (rwP x o) σ (aput (aput ψ x (o + 33) (aget ψ 130 80)) x (o + 34) (aget (aput ψ x (o + 33) (aget ψ 130 80)) 130 81)) := f1.put (x := x) (j := o + 34) _ ⟨rfl, by omega, by omega⟩
      refine ⟨_, ?_, f2, ⟨fun s p s0 s1 p0 p1 => ?_, fun t t0 t1 => ?_, fun t t0 t1 => ?_, ?_, ?_⟩⟩
      · unfold c12_lays c12_lays_l2
        rw [hr]
        show c12_lays_p25 130 x o φ = _
        unfold c12_lays_p25 c12_lays_l27
        rw [hr2]
        show c12_lays_p66 130 x o ψ = _
        unfold c12_lays_p66
        rw [wq (x := o + 33) (by omega) (by omega), wq (x := o + 34) (by omega) (by omega), alen_aput, hF2.n]
        exact ite_p (by omega) (ite_p (by omega) rfl)
      · rw [ag_j (by omega), ag_j (by omega), hv2 _ (by omega) (by omega)]; exact hS.1 s p s0 s1 p0 p1
      · rw [ag_j (by omega), ag_j (by omega), (hv3 t t0 t1).1]; exact hS.2.1 t t0 t1
      · rw [ag_j (by omega), ag_j (by omega), (hv3 t t0 (by omega)).2]; exact hS.2.2.1 t t0 t1
      · rw [ag_j (by omega), ag_s, ne ψ hF2 _ _ (by omega)]; exact hS.2.2.2.1
      · rw [ag_s, ne _ f1 _ _ (by omega)]; exact hS.2.2.2.2.1
    · rintro k vs τ hk ⟨k0, rfl, hF, hv, hw⟩
      have hLt := lr τ hF
      by_cases c : k < 4
      · have f1 : Fp (rwP x o) σ (aput τ x (o + 25 + k) (aget τ 156 k)) := hF.put (x := x) (j := o + 25 + k) _ ⟨rfl, by omega, by omega⟩
        obtain ⟨υ, hυ⟩ : ∃ υ, υ = aput τ x (o + 25 + k) (aget τ 156 k) := ⟨_, rfl⟩
        rw [← hυ] at f1
        have hLu := lr υ f1
        have f2 : Fp (rwP x o) σ (aput υ x (o + 29 + k) (aget υ 144 k)) := f1.put (x := x) (j := o + 29 + k) _ ⟨rfl, by omega, by omega⟩
        refine Or.inl ⟨c, [130, x, o, k + 1], aput υ x (o + 29 + k) (aget υ 144 k), ?_, by omega, rfl, f2, fun j j0 j1 => ?_, fun t t0 t1 => ?_⟩
        · show c12_lays_b27 130 x o k τ = _
          unfold c12_lays_b27
          rw [r_130_52 hLt, n_156 hLt, wq (x := o + 25) (by omega) (by omega), wq (x := o + 25 + k) (by omega) (by omega), ← hυ, r_130_35 hLu, n_144 hLu, wq (x := o + 29) (by omega) (by omega), wq (x := o + 29 + k) (by omega) (by omega), wq (x := k + 1) (by omega) (by omega), hF.n, f1.n]
          exact ite_p c (ite_n (by omega) (ite_p (by omega) (ite_p (by omega) (ite_n (by omega) (ite_p (by omega) (ite_p (by omega) rfl))))))
        · rw [ag_j (by omega), hυ, ag_j (by omega)]; exact hv j j0 j1
        · by_cases e : t = k
          · rw [e]
            exact ⟨by rw [ag_j (by omega), hυ, ag_s]; exact ne τ hF _ _ (by omega), by rw [ag_s]; exact ne υ f1 _ _ (by omega)⟩
          · exact ⟨by rw [ag_j (by omega), hυ, ag_j (by omega)]; exact (hw t t0 (by omega)).1, by rw [ag_j (by omega), hυ, ag_j (by omega)]; exact (hw t t0 (by omega)).2⟩
      · have hk4 : k = 4 := by omega
        subst hk4
        refine Or.inr ⟨(67, [130, x, o], τ), ?_, Nat.ne_of_beq_eq_false rfl, τ, rfl, hF, hv, hw⟩
        show c12_lays_b27 130 x o 4 τ = _
        unfold c12_lays_b27
        exact ite_n (by omega) rfl
  · rintro k vs τ hk ⟨k0, rfl, hF, hv⟩
    have hLt := lr τ hF
    by_cases c : k < 25
    · refine Or.inl ⟨c, [130, x, o, k + 1], aput τ x (o + k) (aget τ 155 k), ?_, by omega, rfl, hF.put (x := x) (j := o + k) _ ⟨rfl, by omega, by omega⟩, fun j j0 j1 => ?_⟩
      · show c12_lays_b2 130 x o k τ = _
        unfold c12_lays_b2
        rw [r_130_51 hLt, n_155 hLt, wq (x := o + k) (by omega) (by omega), wq (x := k + 1) (by omega) (by omega), hF.n]
        exact ite_p c (ite_n (by omega) (ite_p (by omega) (ite_p (by omega) rfl)))
      · by_cases e : j = k
        · rw [e, ag_s]; exact ne τ hF _ _ (by omega)
        · rw [ag_j (by omega)]; exact hv j j0 (by omega)
    · have hk5 : k = 25 := by omega
      subst hk5
      refine Or.inr ⟨(26, [130, x, o], τ), ?_, Nat.ne_of_beq_eq_false rfl, τ, rfl, hF, hv⟩
      show c12_lays_b2 130 x o 25 τ = _
      unfold c12_lays_b2
      exact ite_n (by omega) rfl
def wtk : List (Int × List Int) := [(155, []), (156, []), (144, []), (130, [80, 81])]
theorem MI.tk {T : aH} {σ τ : aS} (h : MI T σ) (hF : Fr wtk σ τ) : MI T τ := h.fr hF (by decide +kernel) (wdj_spec (by decide +kernel))
theorem c12_takes_ok {T M N : aH} {σ : aS} (hM : MI T σ) (hS : MN T M σ) (hM4 : M 4 0 = -1) (hN4 : N 4 0 = -1) {x o : Int} (hx : x = 165 ∨ x = 166) (o0 : 0 ≤ o) (o1 : o + 35 ≤ alen σ x) (o2 : o ≤ 1015) (hR : RW T N x o σ) :
    ∃ τ, c12_takes 130 x o σ = some (0, [], τ) ∧ Fr wtk σ τ ∧ MN T N τ := by
  have hL := hM.1
  have hB := hM.2.2
  have h5 := hB.2.1
  have h4 := hB.2.2.1
  have lr : ∀ τ, Fr wtk σ τ → LR τ := fun τ h => h.LR (by decide +kernel) hL
  have gx : ∀ τ, Fr wtk σ τ → ∀ j, aget τ x j = aget σ x j := fun τ h j => by rcases hx with e | e <;> rw [e] <;> exact h.g rfl
  have hal := al_I (c := 3) (B := aU4 c12_takes_b2) (n := 25) (i := 0) (vs := [130, x, o, 0]) (σ := σ)
    (fun k vs τ => 0 ≤ k ∧ vs = [130, x, o, k] ∧ Fr wtk σ τ ∧ ∀ j, 0 ≤ j → j < k → aget τ 155 j = aget σ x (o + j))
    (fun r => ∃ τ, r = (26, [130, x, o], τ) ∧ Fr wtk σ τ ∧ ∀ j, 0 ≤ j → j < 25 → aget τ 155 j = aget σ x (o + j)) (by omega) (by omega) ⟨Int.le_refl _, rfl, Fr.rf _ _, fun j j0 j1 => by omega⟩ ?_
  · obtain ⟨r, hr, φ, rfl, hF1, hv1⟩ := hal
    have hal2 := al_I (c := 28) (B := aU4 c12_takes_b27) (n := 4) (i := 0) (vs := [130, x, o, 0]) (σ := φ)
      (fun k vs τ => 0 ≤ k ∧ vs = [130, x, o, k] ∧ Fr wtk σ τ ∧ (∀ j, 0 ≤ j → j < 25 → aget τ 155 j = aget σ x (o + j)) ∧ ∀ t, 0 ≤ t → t < k → aget τ 156 t = aget σ x (o + 25 + t) ∧ aget τ 144 t = aget σ x (o + 29 + t))
      (fun r => ∃ τ, r = (67, [130, x, o], τ) ∧ Fr wtk σ τ ∧ (∀ j, 0 ≤ j → j < 25 → aget τ 155 j = aget σ x (o + j)) ∧ ∀ t, 0 ≤ t → t < 4 → aget τ 156 t = aget σ x (o + 25 + t) ∧ aget τ 144 t = aget σ x (o + 29 + t))
      (by omega) (by omega) ⟨Int.le_refl _, rfl, hF1, hv1, fun t t0 t1 => by omega⟩ ?_
    · obtain ⟨r2, hr2, ψ, rfl, hF2, hv2, hv3⟩ := hal2
      have f1 : Fr wtk σ (aput ψ 130 80 (aget ψ x (o + 33))) := hF2.put _ rfl
      have f2 : Fr wtk σ (aput (aput ψ 130 80 (aget ψ x (o + 33))) 130 81 (aget (aput ψ 130 80 (aget ψ x (o + 33))) x (o + 34))) := f1.put _ rfl
      refine ⟨_, ?_, f2, ⟨fun s p s0 s1 p0 p1 => ?_, fun t t0 t1 => ?_, fun t t0 t1 => ?_, ?_, ?_, ?_, fun q => absurd hN4 q⟩⟩
      · unfold c12_takes c12_takes_l2
        rw [hr]
        show c12_takes_p25 130 x o φ = _
        unfold c12_takes_p25 c12_takes_l27
        rw [hr2]
        show c12_takes_p66 130 x o ψ = _
        unfold c12_takes_p66
        rw [wq (x := o + 33) (by omega) (by omega), wq (x := o + 34) (by omega) (by omega), alen_aput, hF2.n]
        exact ite_p (by omega) (ite_p (by omega) rfl)
      · rw [ag_x (by omega), ag_x (by omega), hv2 _ (by omega) (by omega)]; exact hR.1 s p s0 s1 p0 p1
      · rw [ag_x (by omega), ag_x (by omega), (hv3 t t0 t1).1]; exact hR.2.1 t t0 t1
      · rw [ag_x (by omega), ag_x (by omega), (hv3 t t0 (by omega)).2]; exact hR.2.2.1 t t0 t1
      · rw [ag_j (by omega), ag_s, gx ψ hF2]; exact hR.2.2.2.1
      · rw [ag_s, gx _ f1]; exact hR.2.2.2.2
      · rw [f2.g rfl, hS.2.2.2.2.2.1, hM4, hN4]
    · rintro k vs τ hk ⟨k0, rfl, hF, hv, hw⟩
      have hLt := lr τ hF
      by_cases c : k < 4
      · have f1 : Fr wtk σ (aput τ 156 k (aget τ x (o + 25 + k))) := hF.put _ rfl
        obtain ⟨υ, hυ⟩ : ∃ υ, υ = aput τ 156 k (aget τ x (o + 25 + k)) := ⟨_, rfl⟩
        rw [← hυ] at f1
        have hLu := lr υ f1
        have f2 : Fr wtk σ (aput υ 144 k (aget υ x (o + 29 + k))) := f1.put _ rfl
        refine Or.inl ⟨c, [130, x, o, k + 1], aput υ 144 k (aget υ x (o + 29 + k)), ?_, by omega, rfl, f2, fun j j0 j1 => ?_, fun t t0 t1 => ?_⟩
        · show c12_takes_b27 130 x o k τ = _
          unfold c12_takes_b27
          rw [r_130_52 hLt, n_156 hLt, wq (x := o + 25) (by omega) (by omega), wq (x := o + 25 + k) (by omega) (by omega), ← hυ, r_130_35 hLu, n_144 hLu, wq (x := o + 29) (by omega) (by omega), wq (x := o + 29 + k) (by omega) (by omega), wq (x := k + 1) (by omega) (by omega), hF.n, f1.n]
          exact ite_p c (ite_n (by omega) (ite_p (by omega) (ite_p (by omega) (ite_n (by omega) (ite_p (by omega) (ite_p (by omega) rfl))))))
        · rw [ag_x (by omega), hυ, ag_x (by omega)]; exact hv j j0 j1
        · by_cases e : t = k
          · rw [e]
            exact ⟨by rw [ag_x (by omega), hυ, ag_s]; exact gx τ hF _, by rw [ag_s]; exact gx υ f1 _⟩
          · exact ⟨by rw [ag_x (by omega), hυ, ag_j (by omega)]; exact (hw t t0 (by omega)).1, by rw [ag_j (by omega), hυ, ag_x (by omega)]; exact (hw t t0 (by omega)).2⟩
      · have hk4 : k = 4 := by omega
        subst hk4
        refine Or.inr ⟨(67, [130, x, o], τ), ?_, Nat.ne_of_beq_eq_false rfl, τ, rfl, hF, hv, hw⟩
        show c12_takes_b27 130 x o 4 τ = _
        unfold c12_takes_b27
        exact ite_n (by omega) rfl
  · rintro k vs τ hk ⟨k0, rfl, hF, hv⟩
    have hLt := lr τ hF
    by_cases c : k < 25
    · refine Or.inl ⟨c, [130, x, o, k + 1], aput τ 155 k (aget τ x (o + k)), ?_, by omega, rfl, hF.put _ rfl, fun j j0 j1 => ?_⟩
      · show c12_takes_b2 130 x o k τ = _
        unfold c12_takes_b2
        rw [r_130_51 hLt, n_155 hLt, wq (x := o + k) (by omega) (by omega), wq (x := k + 1) (by omega) (by omega), hF.n]
        exact ite_p c (ite_n (by omega) (ite_p (by omega) (ite_p (by omega) rfl)))
      · by_cases e : j = k
        · rw [e, ag_s]; exact gx τ hF _
        · rw [ag_j (by omega)]; exact hv j j0 (by omega)
    · have hk5 : k = 25 := by omega
      subst hk5
      refine Or.inr ⟨(26, [130, x, o], τ), ?_, Nat.ne_of_beq_eq_false rfl, τ, rfl, hF, hv⟩
      show c12_takes_b2 130 x o 25 τ = _
      unfold c12_takes_b2
      exact ite_n (by omega) rfl
def UH (T : aH) (Hs : Int → aH) (n : Int) (σ : aS) : Prop := aget σ 130 83 = n ∧ (0 ≤ n ∧ n ≤ 30) ∧ ∀ i, 0 ≤ i → i < n → RW T (Hs i) 165 (35 * i) σ
def UI (T : aH) (im : Int) (IM : aH) (σ : aS) : Prop := aget σ 130 85 = im ∧ (im = 0 ∨ im = 1) ∧ (im = 1 → RW T IM 166 0 σ)
theorem UH.fr {T : aH} {Hs : Int → aH} {n : Int} {σ τ : aS} (hB : TB T) {l : List (Int × List Int)} (h : UH T Hs n σ) (hF : Fr l σ τ) (hl : ∀ x j, wm [(165, []), (130, [83])] x j = true → wm l x j = false) : UH T Hs n τ :=
  ⟨by rw [hF.g (hl _ _ rfl)]; exact h.1, h.2.1, fun i i0 i1 => (h.2.2 i i0 i1).co hB (fun j _ _ => hF.g (hl _ _ rfl))⟩
theorem UI.fr {T : aH} {im : Int} {IM : aH} {σ τ : aS} (hB : TB T) {l : List (Int × List Int)} (h : UI T im IM σ) (hF : Fr l σ τ) (hl : ∀ x j, wm [(166, []), (130, [85])] x j = true → wm l x j = false) : UI T im IM τ :=
  ⟨by rw [hF.g (hl _ _ rfl)]; exact h.1, h.2.1, fun q => (h.2.2 q).co hB (fun j _ _ => hF.g (hl _ _ rfl))⟩
def wrm : List (Int × List Int) := [(165, []), (130, [83])]
theorem MI.rm {T : aH} {σ τ : aS} (h : MI T σ) (hF : Fr wrm σ τ) : MI T τ := h.fr hF (by decide +kernel) (wdj_spec (by decide +kernel))
theorem MN.rm {T N : aH} {σ τ : aS} (h : MN T N σ) (hF : Fr wrm σ τ) : MN T N τ := h.fr hF (wdj_spec (by decide +kernel))
/-- one row more behind i -/
theorem rem_p49 {T N : aH} {σ : aS} (hM : MI T σ) (hS : MN T N σ) {i : Int} (i0 : 0 ≤ i) (i1 : i < 30) (h83 : aget σ 130 83 = i) :
    ∃ τ, c12_remembers_p49 130 σ = some (0, [], τ) ∧ Fr wrm σ τ ∧ aget τ 130 83 = i + 1 ∧ (∀ j, j < 35 * i → aget τ 165 j = aget σ 165 j) ∧ RW T N 165 (35 * i) τ := by
  have hL := hM.1
  obtain ⟨υ, h, hF, hR⟩ := c12_lays_ok hM hS (x := 165) (o := 35 * i) (Or.inl rfl) (by omega) (by rw [n_165 hL]; omega) (by omega)
  have e83 : aget υ 130 83 = i := by rw [hF.g (fun q => by have := q.1; omega)]; exact h83
  have hFr : Fr wrm σ υ := hF.fr (fun y j q => by rw [q.1]; rfl)
  refine ⟨aput υ 130 83 (i + 1), ?_, hFr.put _ rfl, ag_s _ _ _ _, fun j hj => ?_, hR.co hM.2.2 (fun j _ _ => ag_x (by omega))⟩
  · unfold c12_remembers_p49
    rw [r_130_84 hL, h83, wq (by omega) (by omega), h, acall0_some, e83, wq (by omega) (by omega)]
    exact ite_n (by omega) rfl
  · rw [ag_x (by omega)]; exact hF.g (fun q => by have := q.2.1; omega)
theorem c12_remembers_ok {T N : aH} {σ : aS} (hM : MI T σ) (hS : MN T N σ) {Hs : Int → aH} {n : Int} (hH : UH T Hs n σ) :
    ∃ τ, c12_remembers 130 σ = some (0, [], τ) ∧ Fr wrm σ τ ∧ UH T (pshH Hs n N) (pshN n) τ := by
  have hL := hM.1
  have hB := hM.2.2
  obtain ⟨h83, hn, hr⟩ := hH
  by_cases c : n = 30
  · subst c
    have hl := al_0 (c := 12) (B := aU2 c12_remembers_b11) (fun k => [130, k]) (fun k => apf σ 165 (fun j => aget σ 165 (j + 35)) k) (n := 1015) (r := (40, [130], apf σ 165 (fun j => aget σ 165 (j + 35)) 1015)) (by omega) (by omega) ?_ ?_ (Nat.ne_of_beq_eq_false rfl)
    · have f1 : Fr wrm σ (apf σ 165 (fun j => aget σ 165 (j + 35)) 1015) := (Fr.rf wrm σ).apf (x := 165) _ _ (fun _ => rfl)
      have f2 : Fr wrm σ (aput (apf σ 165 (fun j => aget σ 165 (j + 35)) 1015) 130 83 29) := f1.put _ rfl
      obtain ⟨τ, h, hF, e, hj, hR⟩ := rem_p49 (hM.rm f2) (hS.rm f2) (i := 29) (by omega) (by omega) (ag_s _ _ _ _)
      refine ⟨τ, ?_, f2.tr hF, e, ⟨by decide, by decide⟩, fun i i0 i1 => ?_⟩
      · unfold c12_remembers c12_remembers_l11
        refine ite_p h83 ?_
        simp only [apf_0] at hl
        rw [hl]
        show c12_remembers_p39 130 (apf σ 165 (fun j => aget σ 165 (j + 35)) 1015) = _
        unfold c12_remembers_p39
        rw [apf_x (by omega), h83, wq (by omega) (by omega)]
        exact h
      · have hi : i < 30 := i1
        by_cases d : i < 29
        · have ep : pshH Hs 30 N i = Hs (i + 1) := by unfold pshH; rw [if_neg (by omega), if_pos d]
          rw [ep]
          refine (hr (i + 1) (by omega) (by omega)).co hB (fun j j0 j1 => ?_)
          rw [hj _ (by omega), ag_x (by omega), apf_i (by omega) (by omega)]
          exact congrArg (aget σ 165) (by omega)
        · have ep : pshH Hs 30 N i = N := by unfold pshH; rw [if_neg (by omega), if_neg d]
          rw [ep, show i = 29 by omega]
          exact hR
    · intro k k0 k1
      have e := apf_s (σ := σ) (x := 165) (f := fun j => aget σ 165 (j + 35)) k0
      show c12_remembers_b11 130 k (apf σ 165 (fun j => aget σ 165 (j + 35)) k) = _
      unfold c12_remembers_b11
      rw [apf_x (y := 130) (by omega), r_130_84 hL, apf_n, n_165 hL, wq (x := k + 35) (by omega) (by omega), wq (x := k + 1) (by omega) (by omega), apf_o (by omega), e]
      exact ite_p k1 (ite_n (by omega) (ite_n (by omega) (ite_p (by omega) (ite_p (by omega) rfl))))
    · show c12_remembers_b11 130 1015 _ = _
      unfold c12_remembers_b11
      exact ite_n (by omega) rfl
  · obtain ⟨τ, h, hF, e, hj, hR⟩ := rem_p49 hM hS (i := n) (by omega) (by omega) h83
    have en : pshN n = n + 1 := if_pos (by omega)
    refine ⟨τ, ?_, hF, by rw [en]; exact e, by rw [en]; omega, fun i i0 i1 => ?_⟩
    · unfold c12_remembers
      exact ite_n (by omega) h
    · rw [en] at i1
      by_cases d : i < n
      · have ep : pshH Hs n N i = Hs i := by unfold pshH; rw [if_pos (by omega), if_pos d]
        rw [ep]
        exact (hr i i0 d).co hB (fun j j0 j1 => hj _ (by omega))
      · have ep : pshH Hs n N i = N := by unfold pshH; rw [if_pos (by omega), if_neg d]
        rw [ep, show i = n by omega]
        exact hR
