/-! the class's half of whole's part of this name -/
theorem mul_bd {a b A B : Int} (h1 : -A ≤ a) (h2 : a ≤ A) (h3 : -B ≤ b) (h4 : b ≤ B) : -(A * B) ≤ a * b ∧ a * b ≤ A * B := by
  have hA : 0 ≤ A := by omega
  have hB : 0 ≤ B := by omega
  have e : (a * b).natAbs ≤ A.natAbs * B.natAbs := by
    rw [Int.natAbs_mul]
    exact Nat.mul_le_mul (by omega) (by omega)
  have e2 : ((A.natAbs * B.natAbs : Nat) : Int) = A * B := by
    rw [Int.natCast_mul, Int.natAbs_of_nonneg hA, Int.natAbs_of_nonneg hB]
  omega
theorem mul_nn {a b A B : Int} (h1 : 0 ≤ a) (h2 : a ≤ A) (h3 : 0 ≤ b) (h4 : b ≤ B) : 0 ≤ a * b ∧ a * b ≤ A * B := by
  have := mul_bd (a := a) (b := b) (A := A) (B := B) (by omega) h2 (by omega) h4
  have := Int.mul_nonneg h1 h3
  omega
theorem mixd {f h w r : Int} (r0 : 0 ≤ r) (r1 : r < w) (f0 : 0 ≤ f) (f1 : f ≤ h) : 0 ≤ f * w + r ∧ f * w + r < (h + 1) * w := by
  have a := Int.mul_nonneg f0 (show (0 : Int) ≤ w by omega)
  have b := Int.mul_le_mul_of_nonneg_right f1 (show (0 : Int) ≤ w by omega)
  have c : (h + 1) * w = h * w + w := by rw [Int.add_mul, Int.one_mul]
  omega
theorem mixq {f w r : Int} (r0 : 0 ≤ r) (r1 : r < w) : (f * w + r) / w = f ∧ (f * w + r) % w = r := by
  have hw : w ≠ 0 := by omega
  constructor
  · rw [Int.add_comm, Int.add_mul_ediv_right _ _ hw, Int.ediv_eq_zero_of_lt r0 r1]; omega
  · rw [Int.add_comm, Int.add_mul_emod_self_right, Int.emod_eq_of_lt r0 r1]
theorem wt_pos {T : aH} (hB : TB T) : 1 ≤ wt3 T ∧ 1 ≤ wt2 T ∧ 1 ≤ wt1 T ∧ 1 ≤ wt0 T ∧ 1 ≤ crw T := by
  have b0 := hsf_bd hB 0
  have b1 := hsf_bd hB 1
  have b2 := hsf_bd hB 2
  have b3 := hsf_bd hB 3
  have b4 := hsf_bd hB 4
  have h3 : 1 ≤ wt3 T := by unfold wt3; omega
  have h2 : 1 ≤ wt2 T := by have := (mixd (f := 0) (h := hsf T 3) (w := wt3 T) (r := 0) (by omega) (by omega) (by omega) (by omega)).2; unfold wt2; omega
  have h1 : 1 ≤ wt1 T := by have := (mixd (f := 0) (h := hsf T 2) (w := wt2 T) (r := 0) (by omega) (by omega) (by omega) (by omega)).2; unfold wt1; omega
  have h0 : 1 ≤ wt0 T := by have := (mixd (f := 0) (h := hsf T 1) (w := wt1 T) (r := 0) (by omega) (by omega) (by omega) (by omega)).2; unfold wt0; omega
  have hc : 1 ≤ crw T := by have := (mixd (f := 0) (h := hsf T 0) (w := wt0 T) (r := 0) (by omega) (by omega) (by omega) (by omega)).2; unfold crw; omega
  exact ⟨h3, h2, h1, h0, hc⟩
theorem crw_F : ∀ a b c d e : Fin 7, a.val + b.val + c.val + d.val + e.val ≤ 12 → (a.val + 1) * ((b.val + 1) * ((c.val + 1) * ((d.val + 1) * (e.val + 1)))) ≤ 432 := by decide +kernel
theorem crw_le {T : aH} (hB : TB T) : crw T ≤ 432 := by
  have b0 := hsf_bd hB 0
  have b1 := hsf_bd hB 1
  have b2 := hsf_bd hB 2
  have b3 := hsf_bd hB 3
  have b4 := hsf_bd hB 4
  have hs := hB.2.2.2.2.2.2.1
  unfold szf at hs
  unfold crw wt0 wt1 wt2 wt3
  generalize hsf T 0 = a at *
  generalize hsf T 1 = b at *
  generalize hsf T 2 = c at *
  generalize hsf T 3 = d at *
  generalize hsf T 4 = e at *
  obtain ⟨a, rfl⟩ := Int.eq_ofNat_of_zero_le b0.1
  obtain ⟨b, rfl⟩ := Int.eq_ofNat_of_zero_le b1.1
  obtain ⟨c, rfl⟩ := Int.eq_ofNat_of_zero_le b2.1
  obtain ⟨d, rfl⟩ := Int.eq_ofNat_of_zero_le b3.1
  obtain ⟨e, rfl⟩ := Int.eq_ofNat_of_zero_le b4.1
  have := crw_F ⟨a, by omega⟩ ⟨b, by omega⟩ ⟨c, by omega⟩ ⟨d, by omega⟩ ⟨e, by omega⟩ (by simp only; omega)
  simp only at this
  have h := Int.ofNat_le.mpr this
  simp only [Int.natCast_mul, Int.natCast_add] at h
  exact h
theorem nuf_bd {T : aH} (hB : TB T) {f : Int → Int} (hf : BF T f) : 0 ≤ nuf T f ∧ nuf T f < crw T := by
  have a0 := hf.1 0 (by omega) (by omega)
  have a1 := hf.1 1 (by omega) (by omega)
  have a2 := hf.1 2 (by omega) (by omega)
  have a3 := hf.1 3 (by omega) (by omega)
  have a4 := hf.1 4 (by omega) (by omega)
  have m3 := mixd (f := f 3) (h := hsf T 3) (w := wt3 T) (r := f 4) a4.1 (by unfold wt3; omega) a3.1 a3.2
  have m2 := mixd (f := f 2) (h := hsf T 2) (w := wt2 T) m3.1 m3.2 a2.1 a2.2
  have m1 := mixd (f := f 1) (h := hsf T 1) (w := wt1 T) m2.1 m2.2 a1.1 a1.2
  have m0 := mixd (f := f 0) (h := hsf T 0) (w := wt0 T) m1.1 m1.2 a0.1 a0.2
  unfold nuf crw
  omega
def wtf (T : aH) (s : Int) : Int := if s = 0 then wt0 T else if s = 1 then wt1 T else if s = 2 then wt2 T else if s = 3 then wt3 T else 1
theorem nuf_sI (T : aH) (f : Int → Int) : sI (fun s => f s * wtf T s) 5 = nuf T f := by
  rw [sI_5]
  show f 0 * wt0 T + f 1 * wt1 T + f 2 * wt2 T + f 3 * wt3 T + f 4 * 1 = nuf T f
  unfold nuf; omega
theorem smN_le {f : Int → Int} : ∀ {m n : Nat}, m ≤ n → (∀ k : Int, 0 ≤ k → k < n → 0 ≤ f k) → smN f m ≤ smN f n := by
  intro m n h hf
  induction n with
  | zero => rw [show m = 0 by omega]; exact Int.le_refl _
  | succ n ih =>
    by_cases e : m = n + 1
    · rw [e]; exact Int.le_refl _
    · have := ih (by omega) (fun k h0 h1 => hf k h0 (by omega))
      have := hf n (by omega) (by omega)
      show smN f m ≤ smN f n + f n
      omega
theorem sI_le {f : Int → Int} {m n : Int} (h : m ≤ n) (hf : ∀ k : Int, 0 ≤ k → k < n → 0 ≤ f k) : sI f m ≤ sI f n := smN_le (by omega) (fun k h0 h1 => hf k h0 (by omega))
theorem LG.w {T : aH} {σ : aS} (h : LG T σ) {s : Int} (h0 : 0 ≤ s) (h1 : s < 5) : aget σ 13 s = wtf T s := by
  rcases cs5 h0 h1 with rfl | rfl | rfl | rfl | rfl
  · exact h.1.1
  · exact h.1.2.1
  · exact h.1.2.2.1
  · exact h.1.2.2.2.1
  · exact h.1.2.2.2.2.1
theorem wtf_pos {T : aH} (hB : TB T) (s : Int) : 1 ≤ wtf T s := by
  have := wt_pos hB
  unfold wtf
  repeat' split
  all_goals omega
theorem c3_row_ok {pl : Int} {T : aH} {σ : aS} (hC : CI pl T σ) {f : Int → Int} (hf : BF T f) {t : Int} (h0 : 0 ≤ t) (h1 : t < 4) : c3_row 9 t (pk5 f) σ = some (0, [432 * t + nuf T f], σ) := by
  obtain ⟨hL, hp, hq, hT, hG, hB⟩ := hC
  have hn := nuf_bd hB hf
  have hc := crw_le hB
  have hb7 := hf.b7 hB
  have hpk := pk5_bd hb7
  have hnn : ∀ k : Int, 0 ≤ k → k < 5 → 0 ≤ (fun s => f s * wtf T s) k := fun k k0 k1 => Int.mul_nonneg (hb7 k k0 k1).1 (by have := wtf_pos hB k; omega)
  have hl := al_0 (c := 6) (B := aU5 c3_row_b5) (fun k => [9, t, pk5 f, sI (fun s => f s * wtf T s) k, k]) (fun _ => σ) (n := 5) (r := (38, [t, nuf T f], σ)) (by omega) (by omega) ?_ ?_ (Nat.ne_of_beq_eq_false rfl)
  · unfold c3_row c3_row_l5
    simp only [sI_0] at hl
    rw [hl]
    simp (disch := omega) only [abind, c3_row_d5, if_true, aU2, c3_row_p37, jmin, ↓reduceIte, acall1_some, acall0_some, q_lt, q_nlt, q_le, q_nle, q_eq, q_ne, q_01, true_or, or_true, false_or, or_false, false_and, and_false, and_self, and_true, true_and, wq, wQ, alen_aput, ag_s, ag_x, ag_j, ag_e]
    rw [show t * 432 + nuf T f = 432 * t + nuf T f by omega]
  · intro k k0 k1
    have e1 := sI_le (f := fun s => f s * wtf T s) (m := k + 1) (n := 5) (by omega) hnn
    rw [sI_s k0, nuf_sI] at e1
    have e2 := sI_nn (f := fun s => f s * wtf T s) (n := k) (fun j j0 j1 => hnn j j0 (by omega))
    have e3 := hnn k k0 k1
    simp only at e1 e3
    simp (disch := omega) only [aU5, c3_row_b5, ↓reduceIte, acall1_some, acall0_some, q_lt, q_nlt, q_le, q_nle, q_eq, q_ne, q_01, true_or, or_true, false_or, or_false, false_and, and_false, and_self, and_true, true_and, wq, wQ, alen_aput, ag_s, ag_x, ag_j, ag_e, r_8_8 hL, r_9_0 hL, r_9_2 hL, r_9_3 hL, r_9_4 hL, n_10 hL, n_11 hL, n_12 hL, n_13 hL, hG.w, pk_part hb7, sI_s]
  · simp only [aU5, c3_row_b5, if_neg (Int.lt_irrefl _)]
    rw [nuf_sI]
theorem vot_bd {T : aH} (hB : TB T) {f : Int → Int} (hf : ∀ s, 0 ≤ s → s < 5 → 0 ≤ f s ∧ f s ≤ 7) (g : Int) {n : Int} (n0 : 0 ≤ n) (n5 : n ≤ T 0 1) : 0 ≤ sI (fun s => if T 1 g < T 3 (5 * s + g) * szf f then f s else 0) n ∧ sI (fun s => if T 1 g < T 3 (5 * s + g) * szf f then f s else 0) n ≤ 35 := by
  have hs := hB.2.1
  have := sI_bd (f := fun s => if T 1 g < T 3 (5 * s + g) * szf f then f s else 0) (a := 0) (b := 7) (n := n) n0 (fun k k0 k1 => by
    have := hf k k0 (by omega)
    try simp only
    split <;> omega)
  omega
theorem gvb_01 (T : aH) (t : Int) (f : Int → Int) (g : Int) : 0 ≤ gvb T t f g ∧ gvb T t f g ≤ 1 := by
  unfold gvb; split <;> omega
theorem gco_bd {T : aH} (hB : TB T) (t : Int) (f : Int → Int) {n : Int} (n0 : 0 ≤ n) (n5 : n ≤ T 0 0) : 0 ≤ sI (fun g => gvb T t f g * T 1 g) n ∧ sI (fun g => gvb T t f g * T 1 g) n ≤ 4995 := by
  have hg := hB.1
  have := sI_bd (f := fun g => gvb T t f g * T 1 g) (a := 0) (b := 999) (n := n) n0 (fun k k0 k1 => by
    have a := hB.2.2.2.2.1 k k0 (by omega)
    have b := gvb_01 T t f k
    have := mul_nn b.1 b.2 a.1 a.2
    omega)
  omega
theorem lik1_bd {T : aH} (hB : TB T) (t : Int) (f : Int → Int) {s : Int} (s0 : 0 ≤ s) (s1 : s < T 0 1) {n : Int} (n0 : 0 ≤ n) (n5 : n ≤ T 0 0) : 0 ≤ sI (fun g => gvb T t f g * T 3 (5 * s + g)) n ∧ sI (fun g => gvb T t f g * T 3 (5 * s + g)) n ≤ 495 := by
  have hg := hB.1
  have := sI_bd (f := fun g => gvb T t f g * T 3 (5 * s + g)) (a := 0) (b := 99) (n := n) n0 (fun k k0 k1 => by
    have a := hB.2.2.2.2.2.2.2.1 s k s0 s1 k0 (by omega)
    have b := gvb_01 T t f k
    have := mul_nn b.1 b.2 a.1 a.2
    omega)
  omega
theorem lik2_bd {T : aH} (hB : TB T) {f : Int → Int} (hf : ∀ s, 0 ≤ s → s < 5 → 0 ≤ f s ∧ f s ≤ 7) {s : Int} (s0 : 0 ≤ s) (s1 : s < T 0 1) {n : Int} (n0 : 0 ≤ n) (n5 : n ≤ T 0 1) :
    -700 ≤ sI (fun o => T 4 (5 * s + o) * (f o - if o = s then 1 else 0)) n ∧ sI (fun o => T 4 (5 * s + o) * (f o - if o = s then 1 else 0)) n ≤ 700 := by
  have hg := hB.2.1
  have := sI_bd (f := fun o => T 4 (5 * s + o) * (f o - if o = s then 1 else 0)) (a := -140) (b := 140) (n := n) n0 (fun k k0 k1 => by
    have a := hB.2.2.2.2.2.2.2.2.1 s k s0 s1 k0 (by omega)
    have b := hf k k0 (by omega)
    have := mul_bd (a := T 4 (5 * s + k)) (b := f k - if k = s then 1 else 0) (A := 20) (B := 7) (by omega) (by omega) (by split <;> omega) (by split <;> omega)
    try simp only
    omega)
  omega
theorem lik_bd {T : aH} (hB : TB T) (t : Int) {f : Int → Int} (hf : ∀ s, 0 ≤ s → s < 5 → 0 ≤ f s ∧ f s ≤ 7) {s : Int} (s0 : 0 ≤ s) (s1 : s < T 0 1) : -700 ≤ lik T t f s ∧ lik T t f s ≤ 1195 := by
  have a := lik1_bd hB t f s0 s1 hB.1.1 (Int.le_refl _)
  have b := lik2_bd hB hf s0 s1 hB.2.1.1 (Int.le_refl _)
  unfold lik
  omega
theorem nmv_bd {T : aH} (hB : TB T) (t : Int) {f : Int → Int} (hf : ∀ s, 0 ≤ s → s < 5 → 0 ≤ f s ∧ f s ≤ 7) {s : Int} (s0 : 0 ≤ s) (s1 : s < T 0 1) (k : Int) : 0 ≤ nmv T t f s k ∧ nmv T t f s k ≤ 4995 := by
  have a0 := hf 0 (by omega) (by omega)
  have a1 := hf 1 (by omega) (by omega)
  have a2 := hf 2 (by omega) (by omega)
  have a3 := hf 3 (by omega) (by omega)
  have a4 := hf 4 (by omega) (by omega)
  have hs := hB.2.1
  have b := hf s s0 (by omega)
  have c := gco_bd hB t f hB.1.1 (Int.le_refl _)
  have d := hB.2.2.2.2.2.1 s s0 s1
  unfold nmv gco szf
  repeat' split
  all_goals omega
def lm12 (q : List Int) : Prop := ∀ v ∈ q, -1000000000000 ≤ v ∧ v ≤ 1000000000000
theorem vck_bd {v r : Int} (h : vck v = some r) : r = v ∧ -1000000000000 ≤ v ∧ v ≤ 1000000000000 := by
  unfold vck at h
  split at h
  · cases h
  · cases h; exact ⟨rfl, by omega⟩
theorem tdiv_bd {x : Int} (h : x.natAbs ≤ 27720000000027719) : -1000000000000 ≤ Int.tdiv x 27720 ∧ Int.tdiv x 27720 ≤ 1000000000000 := by
  have e : (Int.tdiv x 27720).natAbs = x.natAbs / 27720 := Int.natAbs_tdiv x 27720
  omega
theorem vop_bd {c a b r : Int} (h : vop c a b = some r) : -1000000000000 ≤ r ∧ r ≤ 1000000000000 := by
  unfold vop at h
  repeat' split at h
  · have := vck_bd h; omega
  · have := vck_bd h; omega
  · cases h
  · cases h; exact tdiv_bd (by omega)
  · cases h
  · have := vck_bd h; omega
theorem rst_bd {T : aH} (hB : TB T) {t : Int} {f : Int → Int} (hf : ∀ s, 0 ≤ s → s < 5 → 0 ≤ f s ∧ f s ≤ 7) {s : Int} (s0 : 0 ≤ s) (s1 : s < T 0 1) {c : Int} (hc : 0 ≤ c) {q r : List Int} (hq : lm12 q) (h : rst T t f s c q = some r) : lm12 r := by
  have hn := nmv_bd hB t hf s0 s1 (c - 1000)
  unfold rst at h
  split at h
  · cases h
    intro v hv
    rcases List.mem_cons.mp hv with rfl | hv
    · omega
    · exact hq v hv
  · split at h
    · cases h
      intro v hv
      rcases List.mem_cons.mp hv with rfl | hv
      · omega
      · exact hq v hv
    · split at h
      · split at h
        · cases h
          intro v hv
          rcases List.mem_cons.mp hv with rfl | hv
          · have := hq _ List.mem_cons_self; omega
          · exact hq v (List.mem_cons_of_mem _ hv)
        · cases h
      · split at h
        · split at h
          · rename_i hv0
            cases h
            intro v hv
            rcases List.mem_cons.mp hv with rfl | hv
            · exact vop_bd hv0
            · exact hq v (List.mem_cons_of_mem _ (List.mem_cons_of_mem _ hv))
          · cases h
        · cases h
theorem rrn_bd {T : aH} (hB : TB T) {t : Int} {f : Int → Int} (hf : ∀ s, 0 ≤ s → s < 5 → 0 ≤ f s ∧ f s ≤ 7) {s : Int} (s0 : 0 ≤ s) (s1 : s < T 0 1) : ∀ (n : Nat) (k : Int) (q r : List Int), (∀ j, k ≤ j → j < k + n → 0 ≤ T 8 j) → lm12 q → rrn T t f s n k q = some r → lm12 r := by
  intro n
  induction n with
  | zero => intro k q r _ hq h; cases h; exact hq
  | succ n ih =>
    intro k q r hk hq h
    unfold rrn at h
    split at h
    · rename_i r1 h1
      exact ih (k + 1) r1 r (fun j j0 j1 => hk j (by omega) (by omega)) (rst_bd hB hf s0 s1 (hk k (by omega) (by omega)) hq h1) h
    · cases h
theorem TB.st {T : aH} (hB : TB T) {t : Int} (t0 : 0 ≤ t) (t1 : t < T 0 2) {k : Int} (k0 : T 9 t ≤ k) (k1 : k < T 10 t) : 0 ≤ T 8 k := by
  have := (hB.2.2.2.2.2.2.2.2.2 t t0 t1).2.2.2.2.2.1 k k0 k1
  omega
theorem rul_bd {T : aH} (hB : TB T) {t : Int} (t0 : 0 ≤ t) (t1 : t < T 0 2) {f : Int → Int} (hf : ∀ s, 0 ≤ s → s < 5 → 0 ≤ f s ∧ f s ≤ 7) {s : Int} (s0 : 0 ≤ s) (s1 : s < T 0 1) : -1000000000000 ≤ rul T t f s ∧ rul T t f s ≤ 1000000000000 := by
  unfold rul
  split
  · rename_i v h
    exact rrn_bd hB hf s0 s1 _ _ _ _ (fun j j0 j1 => hB.st t0 t1 j0 (by omega)) (fun v hv => by cases hv) h v List.mem_cons_self
  · omega
theorem ask_bd {T N : aH} (hB : TB T) (hN : NB T N) {t : Int} (t0 : 0 ≤ t) (t1 : t < T 0 2) {f : Int → Int} (hf : ∀ s, 0 ≤ s → s < 5 → 0 ≤ f s ∧ f s ≤ 7) {s : Int} (s0 : 0 ≤ s) (s1 : s < T 0 1) : -1100000000000 ≤ ask T N t f s ∧ ask T N t f s ≤ 1100000000000 := by
  have ht := hB.2.2.1
  have a := rul_bd hB t0 t1 hf s0 s1
  have b := hN.2.2.1 t t0 (by omega)
  have c := hN.2.2.2.2.2.2.2.2
  have d := (hB.2.2.2.2.2.1 s s0 s1).2.1
  have e := mul_nn c.2.1 c.2.2 d.1 d.2
  unfold ask
  split <;> omega
theorem wor_bd {T N : aH} (hB : TB T) (hN : NB T N) {t : Int} (t0 : 0 ≤ t) (t1 : t < T 0 2) {f : Int → Int} (hf : ∀ s, 0 ≤ s → s < 5 → 0 ≤ f s ∧ f s ≤ 7) {s : Int} (s0 : 0 ≤ s) (s1 : s < T 0 1) : -1200000000000 ≤ wor T N t f s ∧ wor T N t f s ≤ 1200000000000 := by
  have a := ask_bd hB hN t0 t1 hf s0 s1
  have b := lik_bd hB t hf s0 s1
  unfold wor; omega
theorem wrA_bd {T N : aH} (hB : TB T) (hN : NB T N) {p : Int} (t0 : 0 ≤ p) (t1 : p ≤ T 0 2) {f : Int → Int} (hf : ∀ s, 0 ≤ s → s < 5 → 0 ≤ f s ∧ f s ≤ 7) {s : Int} (s0 : 0 ≤ s) (s1 : s < T 0 1) : -1200000000000 ≤ wrA T N s p f ∧ wrA T N s p f ≤ 1200000000000 := by
  have d := (hB.2.2.2.2.2.1 s s0 s1).2.2
  unfold wrA
  split
  · omega
  · exact wor_bd hB hN t0 (by omega) hf s0 s1
