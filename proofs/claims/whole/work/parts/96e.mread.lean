/-! the reference reads: tokens, numbers, names -/
def wrr (x j : Int) : Prop := (x = 130 ∧ ((4 ≤ j ∧ j ≤ 11 ∧ j ≠ 6) ∨ (18 ≤ j ∧ j ≤ 23) ∨ (46 ≤ j ∧ j ≤ 50))) ∨ ((133 ≤ x ∧ x ≤ 135) ∧ 5 ≤ j) ∨ (x = 136 ∧ 20 ≤ j) ∨ ((x = 137 ∨ x = 139) ∧ 25 ≤ j) ∨ x = 138 ∨ x = 140 ∨ ((141 ≤ x ∧ x ≤ 148) ∧ 4 ≤ j) ∨ (x = 149 ∧ 24 ≤ j) ∨ ((150 ≤ x ∧ x ≤ 152) ∧ 64 ≤ j) ∨ x = 153 ∨ x = 154
theorem wrr_kR : ∀ q ∈ kR, ¬ wrr q.1 q.2.1 := by
  have h : (kR.all fun q => !(decide ((q.1 = 130 ∧ ((4 ≤ q.2.1 ∧ q.2.1 ≤ 11 ∧ q.2.1 ≠ 6) ∨ (18 ≤ q.2.1 ∧ q.2.1 ≤ 23) ∨ (46 ≤ q.2.1 ∧ q.2.1 ≤ 50))) ∨ (133 ≤ q.1 ∧ q.1 ≤ 154)))) = true := by decide +kernel
  intro q hq hw
  have h1 := List.all_eq_true.mp h q hq
  have h2 := decide_eq_true (p := (q.1 = 130 ∧ ((4 ≤ q.2.1 ∧ q.2.1 ≤ 11 ∧ q.2.1 ≠ 6) ∨ (18 ≤ q.2.1 ∧ q.2.1 ≤ 23) ∨ (46 ≤ q.2.1 ∧ q.2.1 ≤ 50))) ∨ (133 ≤ q.1 ∧ q.1 ≤ 154)) (by unfold wrr at hw; omega)
  rw [h2] at h1; cases h1
theorem LR.rr {σ τ : aS} {P : Int → Int → Prop} (h : LR σ) (hF : Fp P σ τ) (hP : ∀ x j, P x j → wrr x j) : LR τ := (hF.mono hP).LR wrr_kR h
/-- the token's own cells -/
def wkt (x j : Int) : Prop := x = 130 ∧ 7 ≤ j ∧ j ≤ 10
def wtn (x j : Int) : Prop := x = 130 ∧ 7 ≤ j ∧ j ≤ 11
theorem wkt_n {σ τ : aS} (h : Fp wkt σ τ) : Fp wtn σ τ := h.mono (fun x j q => by unfold wkt at q; unfold wtn; omega)
theorem wtn_r {σ τ : aS} (h : Fp wtn σ τ) : Fp wrr σ τ := h.mono (fun x j q => by unfold wtn at q; unfold wrr; omega)
theorem wtr2_k {σ τ : aS} (h : Fr wtr2 σ τ) : Fp wkt σ τ := ⟨h.1, h.2.1, fun x j q => h.g (by
  cases hw : wm wtr2 x j with
  | false => rfl
  | true =>
    exfalso
    unfold wm wtr2 at hw
    simp at hw
    unfold wkt at q
    omega)⟩
theorem TSr.pf {b : Int → Int} {n : Int} {σ τ : aS} {P : Int → Int → Prop} (h : TSr b n σ) (hF : Fp P σ τ) (hP : ∀ x j, P x j → wrr x j) : TSr b n τ := by
  have g : ∀ x j, ¬ wrr x j → aget τ x j = aget σ x j := fun x j hx => hF.g (fun q => hx (hP x j q))
  exact ⟨h.1.rr hF hP, by rw [g 130 6 (by unfold wrr; omega)]; exact h.2.1, h.2.2.1, fun j j0 j1 => by rw [g 131 j (by unfold wrr; omega)]; exact h.2.2.2.1 j j0 j1, fun j j0 j1 => by rw [g 132 j (by unfold wrr; omega)]; exact h.2.2.2.2 j j0 j1⟩
theorem TKr.pf {b : Int → Int} {n p : Int} {σ τ : aS} {P : Int → Int → Prop} (h : TKr b n p σ) (hF : Fp P σ τ) (hP : ∀ x j, P x j → wrr x j) (hQ : ∀ x j, P x j → ¬ wkt x j) : TKr b n p τ := by
  have g : ∀ j, 7 ≤ j → j ≤ 10 → aget τ 130 j = aget σ 130 j := fun j j0 j1 => hF.g (fun q => hQ _ _ q ⟨rfl, j0, j1⟩)
  exact ⟨h.1.pf hF hP, h.2.1, by rw [g 10 (by omega) (by omega)]; exact h.2.2.1, by rw [g 7 (by omega) (by omega)]; exact h.2.2.2.1, by rw [g 8 (by omega) (by omega), g 9 (by omega) (by omega)]; exact h.2.2.2.2⟩
theorem r_token {b : Int → Int} {n P : Int} {σ : aS} (h : TKr b n P σ) : ∃ τ, c12_token 130 σ = some (0, [], τ) ∧ Fp wkt σ τ ∧ TKr b n (nxp b n P) τ := by
  obtain ⟨hS, ⟨p0, p1⟩, -, h7, -⟩ := h
  have hq : 0 ≤ (if P < n then tke b n P else n) ∧ (if P < n then tke b n P else n) ≤ n := by
    by_cases c : P < n
    · rw [if_pos c]; have := tke_bd b c; omega
    · rw [if_neg c]; omega
  obtain ⟨τ, e1, e2, e3⟩ := c12_token_ok hS h7 hq.1 hq.2
  refine ⟨τ, e1, wtr2_k e2, ?_⟩
  have : skp b n (if P < n then tke b n P else n) = nxp b n P := by
    unfold nxp
    by_cases c : P < n
    · rw [if_pos c, if_pos c]
    · rw [if_neg c, if_neg c]; exact whl_n _ _
  rw [← this]; exact e3
/-- a fault found -/
def FRr (f P : Int) (σ : aS) : Prop := LR σ ∧ aget σ 130 4 = f ∧ aget σ 130 5 = P
theorem c12_wrong_ok {b : Int → Int} {n P : Int} {σ : aS} (h : TKr b n P σ) (f : Int) : ∃ τ, c12_wrong 130 f σ = some (0, [0], τ) ∧ Fp wrr σ τ ∧ FRr f P τ := by
  have hF : Fp (fun x j => x = 130 ∧ (j = 4 ∨ j = 5)) σ (aput (aput σ 130 4 f) 130 5 P) := ((Fp.rf _ _).put _ (by omega)).put _ (by omega)
  have hF2 : Fp wrr σ (aput (aput σ 130 4 f) 130 5 P) := hF.mono (fun x j q => by unfold wrr; omega)
  refine ⟨aput (aput σ 130 4 f) 130 5 P, ?_, hF2, h.1.1.rr hF2 (fun _ _ q => q), by rw [ag_j (by omega), ag_s], ag_s _ _ _ _⟩
  unfold c12_wrong
  rw [ag_j (show (10 : Int) ≠ 4 by omega), h.2.2.1]
  exact if_pos (Or.inl rfl)
theorem bz01 {v : Int} (h : v = 0 ∨ v = 1) {a c : aR} : (if (v : Int) = 0 ∨ (v : Int) = 1 then a else c) = a := if_pos h
theorem r_num {b : Int → Int} {n P : Int} {σ : aS} (h : TKr b n P σ) (lo : Int) {hi : Int} (h9 : hi ≤ 999) :
    (pNum b n lo hi P = 0 ∧ (lo ≤ vlt b n P ∧ vlt b n P ≤ hi) ∧ ∃ τ, c12_number 130 lo hi σ = some (0, [1], τ) ∧ Fp wtn σ τ ∧ TKr b n (nxp b n P) τ ∧ aget τ 130 11 = vlt b n P) ∨
    (pNum b n lo hi P ≠ 0 ∧ ∃ τ, c12_number 130 lo hi σ = some (0, [0], τ) ∧ Fp wrr σ τ ∧ FRr (pNum b n lo hi P) P τ) := by
  have hK := h.2.2.2.2
  unfold c12_number
  by_cases c : kd b n P = 2
  · have hk : aget σ 130 8 = 3 ∧ 0 ≤ aget σ 130 9 ∧ ((vlt b n P ≤ 999 ∧ aget σ 130 9 = vlt b n P) ∨ (999 < vlt b n P ∧ 999 < aget σ 130 9)) := by
      unfold KR at hK
      rcases hK with q | q | q | q | q | q
      · omega
      · omega
      · exact q.2
      · omega
      · omega
      · omega
    rw [hk.1, if_pos rfl, c12_isIn_ok, acall1_some]
    by_cases d : lo ≤ aget σ 130 9 ∧ aget σ 130 9 ≤ hi
    · have hv : aget σ 130 9 = vlt b n P := by omega
      rw [hv] at d ⊢
      have hp : pNum b n lo hi P = 0 := by unfold pNum; rw [if_pos c, if_neg (by omega)]
      rw [if_pos d, if_neg (show ¬ (1 : Int) = 0 by omega)]
      have hF : Fp (fun x j => x = 130 ∧ j = 11) σ (aput σ 130 11 (vlt b n P)) := (Fp.rf _ _).put _ ⟨rfl, rfl⟩
      obtain ⟨τ, e1, e2, e3⟩ := r_token (h.pf hF (fun x j q => by unfold wrr; omega) (fun x j q => by unfold wkt; omega))
      refine Or.inl ⟨hp, d, τ, ?_, ?_, e3, ?_⟩
      · rw [e1, acall0_some]; exact bz01 (Or.inr rfl)
      · exact (hF.mono (fun x j q => by unfold wtn; omega)).tr (wkt_n e2)
      · rw [e2.g (by unfold wkt; omega), ag_s]
    · have hp : pNum b n lo hi P = 2 := by unfold pNum; rw [if_pos c, if_pos (by omega)]
      rw [if_neg d, if_pos rfl]
      obtain ⟨τ, e1, e2, e3⟩ := c12_wrong_ok h 2
      refine Or.inr ⟨by omega, τ, ?_, e2, by rw [hp]; exact e3⟩
      rw [e1, acall1_some]; exact bz01 (Or.inl rfl)
  · have hp : pNum b n lo hi P = 1 := by unfold pNum; rw [if_neg c]
    have hk : ¬ aget σ 130 8 = 3 := by unfold KR at hK; omega
    obtain ⟨τ, e1, e2, e3⟩ := c12_wrong_ok h 1
    refine Or.inr ⟨by omega, τ, ?_, e2, by rw [hp]; exact e3⟩
    rw [if_neg hk, e1, acall1_some]; exact bz01 (Or.inl rfl)
theorem rkw_F : ∀ i j : Fin 16, rkw i.val = rkw j.val → i = j := by decide +kernel
theorem r_key {b : Int → Int} {n P : Int} {σ : aS} (h : TKr b n P σ) {i : Int} (i0 : 0 ≤ i) (i1 : i < 16) : c12_isKey 130 (rkw i) σ = some (0, [if kd b n P = 100 + i then 1 else 0], σ) := by
  have hK := h.2.2.2.2
  unfold c12_isKey
  by_cases c : kd b n P = 100 + i
  · have hk : aget σ 130 8 = 1 ∧ aget σ 130 9 = rkw i := by
      unfold KR at hK
      rcases hK with q | q | q | q | q | q
      · omega
      · omega
      · omega
      · omega
      · refine ⟨q.2.1, ?_⟩; rw [q.2.2, c]; congr 1; omega
      · omega
    rw [if_pos c]
    exact ite_p hk.1 (ite_p hk.2 (ite_p (Or.inr rfl) rfl))
  · rw [if_neg c]
    by_cases k1 : aget σ 130 8 = 1
    · have hk : ¬ aget σ 130 9 = rkw i := by
        unfold KR at hK
        rcases hK with q | q | q | q | q | q
        · omega
        · omega
        · omega
        · omega
        · intro e
          rw [q.2.2] at e
          have := rkw_F ⟨(kd b n P - 100).toNat, by omega⟩ ⟨i.toNat, by omega⟩ (by
            show rkw ((kd b n P - 100).toNat : Int) = rkw (i.toNat : Int)
            rw [Int.toNat_of_nonneg (by omega), Int.toNat_of_nonneg i0]; exact e)
          have := congrArg Fin.val this
          simp at this
          omega
        · omega
      exact ite_p k1 (ite_n hk (ite_p (Or.inl rfl) rfl))
    · exact ite_n k1 (ite_p (Or.inl rfl) rfl)
theorem r_sign {b : Int → Int} {n P : Int} {σ : aS} (h : TKr b n P σ) {c : Int} (hc : c = 40 ∨ c = 41 ∨ c = 42 ∨ c = 43 ∨ c = 45 ∨ c = 47 ∨ c = 59) : c12_isSign 130 c σ = some (0, [if kd b n P = c then 1 else 0], σ) := by
  have hK := h.2.2.2.2
  unfold c12_isSign
  unfold KR at hK
  by_cases d : kd b n P = c
  · rw [if_pos d]
    exact ite_p (by omega) (ite_p (by omega) (ite_p (Or.inr rfl) rfl))
  · rw [if_neg d]
    by_cases k1 : aget σ 130 8 = 4
    · exact ite_p k1 (ite_n (by omega) (ite_p (Or.inl rfl) rfl))
    · exact ite_n k1 (ite_p (Or.inl rfl) rfl)
theorem r_find {σ : aS} {x o c l N : Int} {nm : Int → Int} (hN : alen σ x = N) (o0 : 0 ≤ o) (c0 : 0 ≤ c) (oc : o + c ≤ N) (N9 : N ≤ 1000) (hv : ∀ k, 0 ≤ k → k < c → aget σ x (o + k) = nm k) :
    c12_find x o c l σ = some (0, [if ff (fun i => decide (nm i = l)) c < c then ff (fun i => decide (nm i = l)) c else -1], σ) := by
  have p0 := ff_0 (fun i => decide (nm i = l)) (n := c)
  have pn := ff_n (fun i => decide (nm i = l)) (n := c) c0
  have pat := ff_at (P := fun i => decide (nm i = l)) (n := c)
  have pno := fun k => ff_no (P := fun i => decide (nm i = l)) (n := c) (k := k)
  generalize ff (fun i => decide (nm i = l)) c = X at p0 pn pat pno
  have hal := al_I (c := 4) (B := aU5 c12_find_b3) (n := c) (i := 0) (vs := [x, o, c, l, 0]) (σ := σ)
    (fun k vs τ => 0 ≤ k ∧ vs = [x, o, c, l, k] ∧ τ = σ ∧ k ≤ X) (fun r => r = (0, [if X < c then X else -1], σ)) c0 (by omega) ⟨Int.le_refl _, rfl, rfl, p0⟩ ?_
  · obtain ⟨r, hr, rfl⟩ := hal
    unfold c12_find c12_find_l3
    rw [hr]; rfl
  · rintro k vs τ hk2 ⟨k0, rfl, rfl, hX⟩
    by_cases d : k < c
    · have hvk := hv k k0 d
      by_cases q : nm k = l
      · have hXk : X = k := by
          by_cases v : k < X
          · have := pno k k0 v
            rw [decide_eq_true q] at this; cases this
          · omega
        refine Or.inr ⟨_, ?_, Nat.ne_of_beq_eq_false rfl, rfl⟩
        rw [if_pos (by omega), hXk]
        show c12_find_b3 x o c l k τ = _
        unfold c12_find_b3
        rw [wq (by omega) (by omega), hN, hvk]
        exact ite_p d (ite_p (by omega) (ite_p q rfl))
      · refine Or.inl ⟨d, [x, o, c, l, k + 1], τ, ?_, by omega, rfl, rfl, ?_⟩
        · show c12_find_b3 x o c l k τ = _
          unfold c12_find_b3
          rw [wq (x := o + k) (by omega) (by omega), hN, hvk, wq (x := k + 1) (by omega) (by omega)]
          exact ite_p d (ite_p (by omega) (ite_n q rfl))
        · by_cases v : X = k
          · have := pat (by omega)
            rw [v, decide_eq_true_iff] at this; exact absurd this q
          · omega
    · refine Or.inr ⟨_, ?_, Nat.ne_of_beq_eq_false rfl, rfl⟩
      rw [if_neg (by omega)]
      show c12_find_b3 x o c l k τ = _
      unfold c12_find_b3
      exact ite_n d rfl
theorem aNamed_ff {T : aH} {w l : Int} (w0 : 0 ≤ w) (w3 : w < 3) : aNamed T w l = if ff (fun i => decide (T 11 (5 * w + i) = l)) (T 0 w) < T 0 w then ff (fun i => decide (T 11 (5 * w + i) = l)) (T 0 w) else -1 := by
  unfold aNamed
  rw [if_pos ⟨w0, w3⟩]
/-- what a read part of a line comes to: true and on, or a fault -/
theorem r_new {b : Int → Int} {n Q : Int} {σ : aS} (h : TKr b n Q σ) {T : aH} {w x o N : Int} (w0 : 0 ≤ w) (w3 : w < 3) (hx : (x = 133 ∧ o = 5 ∧ w = 0 ∧ N = 10) ∨ (x = 135 ∧ o = 5 ∧ w = 1 ∧ N = 10) ∨ (x = 141 ∧ o = 4 ∧ w = 2 ∧ N = 8)) (c0 : 0 ≤ T 0 w) (cN : o + T 0 w < N) (hv : ∀ k, 0 ≤ k → k < T 0 w → aget σ x (o + k) = T 11 (5 * w + k)) :
    ((kd b n Q = 3 ∧ aNamed T w (vlt b n Q) = -1) ∧ ∃ τ, c12_newName 130 x o (T 0 w) σ = some (0, [1], τ) ∧ Fp (fun y j => wkt y j ∨ (y = x ∧ j = o + T 0 w)) σ τ ∧ TKr b n (nxp b n Q) τ ∧ aget τ x (o + T 0 w) = vlt b n Q) ∨
    ((¬ kd b n Q = 3 ∨ (kd b n Q = 3 ∧ ¬ aNamed T w (vlt b n Q) = -1)) ∧ ∃ τ, c12_newName 130 x o (T 0 w) σ = some (0, [0], τ) ∧ Fp wrr σ τ ∧ FRr (if kd b n Q = 3 then 3 else 1) Q τ) := by
  have hK := h.2.2.2.2
  have hL := h.1.1
  have hN : alen σ x = N := by
    rcases hx with q | q | q <;> rw [q.1, q.2.2.2]
    · exact n_133 hL
    · exact n_135 hL
    · exact n_141 hL
  unfold c12_newName
  by_cases c : kd b n Q = 3
  · have hk : aget σ 130 8 = 2 ∧ aget σ 130 9 = vlt b n Q := by
      unfold KR at hK
      rcases hK with q | q | q | q | q | q
      · omega
      · omega
      · omega
      · exact q.2
      · omega
      · omega
    have hf := r_find (l := vlt b n Q) hN (by omega) c0 (by omega) (by omega) hv
    rw [← aNamed_ff w0 w3] at hf
    rw [hk.1, if_pos rfl, hk.2, hf, acall1_some]
    by_cases d : aNamed T w (vlt b n Q) = -1
    · left
      refine ⟨⟨c, d⟩, ?_⟩
      have hF : Fp (fun y j => y = x ∧ j = o + T 0 w) σ (aput σ x (o + T 0 w) (vlt b n Q)) := (Fp.rf _ _).put _ ⟨rfl, rfl⟩
      have hW : ∀ y j, (y = x ∧ j = o + T 0 w) → wrr y j := fun y j q => by unfold wrr; omega
      obtain ⟨τ, e1, e2, e3⟩ := r_token (h.pf hF hW (fun y j q => by unfold wkt; omega))
      refine ⟨τ, ?_, (hF.mono (fun y j q => Or.inr q)).tr (e2.mono (fun y j q => Or.inl q)), e3, ?_⟩
      · rw [hN, wq (x := o + T 0 w) (by omega) (by omega), hk.2, e1, acall0_some]
        exact ite_p (by omega) (ite_p (by omega) (bz01 (Or.inr rfl)))
      · rw [e2.g (by unfold wkt; omega), ag_s]
    · right
      obtain ⟨τ, e1, e2, e3⟩ := c12_wrong_ok h 3
      have := aNamed_bd d w0 w3
      refine ⟨Or.inr ⟨c, d⟩, τ, ?_, e2, by rw [if_pos c]; exact e3⟩
      rw [e1, acall1_some]
      exact ite_n (by omega) (bz01 (Or.inl rfl))
  · right
    have hk : ¬ aget σ 130 8 = 2 := by unfold KR at hK; omega
    obtain ⟨τ, e1, e2, e3⟩ := c12_wrong_ok h 1
    refine ⟨Or.inl c, τ, ?_, e2, by rw [if_neg c]; exact e3⟩
    rw [if_neg hk, e1, acall1_some]
    exact bz01 (Or.inl rfl)
theorem r_old {b : Int → Int} {n Q : Int} {σ : aS} (h : TKr b n Q σ) {T : aH} {w x o N : Int} (w0 : 0 ≤ w) (w3 : w < 3) (hx : (x = 133 ∧ o = 5 ∧ w = 0 ∧ N = 10) ∨ (x = 135 ∧ o = 5 ∧ w = 1 ∧ N = 10) ∨ (x = 141 ∧ o = 4 ∧ w = 2 ∧ N = 8)) (c0 : 0 ≤ T 0 w) (cN : o + T 0 w ≤ N) (hv : ∀ k, 0 ≤ k → k < T 0 w → aget σ x (o + k) = T 11 (5 * w + k)) :
    (odF b n T w Q = 0 ∧ (0 ≤ aNamed T w (vlt b n Q) ∧ aNamed T w (vlt b n Q) < T 0 w) ∧ ∃ τ, c12_oldName 130 x o (T 0 w) σ = some (0, [1], τ) ∧ Fp (fun y j => y = 130 ∧ j = 11) σ τ ∧ TKr b n Q τ ∧ aget τ 130 11 = aNamed T w (vlt b n Q)) ∨
    (odF b n T w Q ≠ 0 ∧ ∃ τ, c12_oldName 130 x o (T 0 w) σ = some (0, [0], τ) ∧ Fp wrr σ τ ∧ FRr (odF b n T w Q) Q τ) := by
  have hK := h.2.2.2.2
  have hL := h.1.1
  have hN : alen σ x = N := by
    rcases hx with q | q | q <;> rw [q.1, q.2.2.2]
    · exact n_133 hL
    · exact n_135 hL
    · exact n_141 hL
  unfold c12_oldName
  by_cases c : kd b n Q = 3
  · have hk : aget σ 130 8 = 2 ∧ aget σ 130 9 = vlt b n Q := by
      unfold KR at hK
      rcases hK with q | q | q | q | q | q
      · omega
      · omega
      · omega
      · exact q.2
      · omega
      · omega
    have hf := r_find (l := vlt b n Q) hN (by omega) c0 cN (by omega) hv
    rw [← aNamed_ff w0 w3] at hf
    have hF : Fp (fun y j => y = 130 ∧ j = 11) σ (aput σ 130 11 (aNamed T w (vlt b n Q))) := (Fp.rf _ _).put _ ⟨rfl, rfl⟩
    have hT1 := h.pf hF (fun y j q => by unfold wrr; omega) (fun y j q => by unfold wkt; omega)
    rw [hk.1, if_pos rfl, hk.2, hf, acall1_some, ag_s]
    by_cases d : aNamed T w (vlt b n Q) = -1
    · right
      have ho : odF b n T w Q = 4 := by unfold odF; rw [if_neg (fun q => q c), if_pos d]
      obtain ⟨τ, e1, e2, e3⟩ := c12_wrong_ok hT1 4
      refine ⟨by omega, τ, ?_, (hF.mono (fun y j q => by unfold wrr; omega)).tr e2, by rw [ho]; exact e3⟩
      rw [e1, acall1_some]
      exact ite_p (by omega) (ite_p rfl (bz01 (Or.inl rfl)))
    · left
      have ho : odF b n T w Q = 0 := by unfold odF; rw [if_neg (fun q => q c), if_neg d]
      have hb := aNamed_bd d w0 w3
      refine ⟨ho, hb, _, ?_, hF, hT1, ag_s _ _ _ _⟩
      unfold c12_oldName_p43
      exact ite_n (by omega) (bz01 (Or.inr rfl))
  · right
    have hk : ¬ aget σ 130 8 = 2 := by unfold KR at hK; omega
    have ho : odF b n T w Q = 1 := by unfold odF; rw [if_pos (show kd b n Q ≠ 3 from c)]
    obtain ⟨τ, e1, e2, e3⟩ := c12_wrong_ok h 1
    refine ⟨by omega, τ, ?_, e2, by rw [ho]; exact e3⟩
    rw [if_neg hk, e1, acall1_some]
    exact bz01 (Or.inl rfl)
