/-! the reference: asked, worth, gain, the first -/
theorem rrn_snoc (T : aH) (t : Int) (f : Int → Int) (s : Int) : ∀ (n : Nat) (k : Int) (q : List Int), rrn T t f s (n + 1) k q = match rrn T t f s n k q with
    | some r => rst T t f s (T 8 (k + n)) r
    | none => none := by
  intro n
  induction n with
  | zero =>
    intro k q
    show (match rst T t f s (T 8 k) q with
      | some r => some r
      | none => none) = rst T t f s (T 8 (k + 0)) q
    rw [Int.add_zero]
    cases rst T t f s (T 8 k) q <;> rfl
  | succ n ih =>
    intro k q
    show (match rst T t f s (T 8 k) q with
      | some r => rrn T t f s (n + 1) (k + 1) r
      | none => none) = match (match rst T t f s (T 8 k) q with
        | some r => rrn T t f s n (k + 1) r
        | none => none) with
      | some r => rst T t f s (T 8 (k + (n + 1 : Nat))) r
      | none => none
    cases h : rst T t f s (T 8 k) q with
    | none => rfl
    | some r =>
      try simp only
      rw [ih (k + 1) r, show k + 1 + (n : Int) = k + ((n + 1 : Nat) : Int) by omega]
def pre (T : aH) (t : Int) (f : Int → Int) (s k : Int) : Option (List Int) := rrn T t f s (k - T 9 t).toNat (T 9 t) []
theorem pre_s {T : aH} {t : Int} {f : Int → Int} {s k : Int} (h : T 9 t ≤ k) : pre T t f s (k + 1) = match pre T t f s k with
    | some r => rst T t f s (T 8 k) r
    | none => none := by
  unfold pre
  rw [show (k + 1 - T 9 t).toNat = (k - T 9 t).toNat + 1 by omega, rrn_snoc, show T 9 t + ((k - T 9 t).toNat : Int) = k by omega]
theorem nod_r {T : aH} {a b c : Int → Int} {stk : Int → List Int} {k : Int} (h : nod T a b c stk k) : ∃ r, stk (k + 1) = k :: r ∧ ∀ j ∈ r, j ∈ stk k := by
  rcases h with ⟨_, _, _, _, h⟩ | ⟨_, _, _, _, h⟩ | ⟨_, _, a, r, h1, _, h⟩ | ⟨b, a, r, h1, _, _, h, _⟩
  · exact ⟨_, h, fun j q => q⟩
  · exact ⟨_, h, fun j q => q⟩
  · exact ⟨_, h, fun j q => by rw [h1]; exact List.mem_cons_of_mem _ q⟩
  · exact ⟨_, h, fun j q => by rw [h1]; exact List.mem_cons_of_mem _ (List.mem_cons_of_mem _ q)⟩
theorem stk_in {T : aH} {a b c : Int → Int} {t : Int} {stk : Int → List Int} (h0 : stk (T 9 t) = []) (hn : ∀ k, T 9 t ≤ k → k < T 10 t → nod T a b c stk k) : ∀ n : Nat, T 9 t + n ≤ T 10 t → ∀ j ∈ stk (T 9 t + n), T 9 t ≤ j ∧ j < T 9 t + n := by
  intro n
  induction n with
  | zero => intro _ j hj; rw [show T 9 t + ((0 : Nat) : Int) = T 9 t by omega, h0] at hj; cases hj
  | succ n ih =>
    intro h j hj
    obtain ⟨r, h1, h2⟩ := nod_r (hn (T 9 t + n) (by omega) (by omega))
    rw [show T 9 t + ((n + 1 : Nat) : Int) = T 9 t + n + 1 by omega, h1] at hj
    rcases List.mem_cons.mp hj with rfl | hj
    · omega
    · have := ih (by omega) j (h2 j hj); omega
def wask : List (Int × List Int) := [(158, []), (130, [58])]
theorem c12_askedOf_ok {T N : aH} {σ : aS} (hM : MI T σ) (hN : NB T N) (hS : MN T N σ) {f : Int → Int} (hf : B7 T f) (hc : CR f σ) {t : Int} (h54 : aget σ 130 54 = szf f) (h56 : aget σ 130 56 = gco T t f) {s : Int} (s0 : 0 ≤ s) (s1 : s < T 0 1) (t0 : 0 ≤ t) (t1 : t < T 0 2) :
    ∃ τ, c12_askedOf 130 t s σ = some (0, [ask T N t f s], τ) ∧ Fr wask σ τ := by
  have hM0 := hM
  obtain ⟨hL, hT, hB⟩ := hM
  have h5 := hB.2.1
  have ht := hB.2.2.1
  have hmo := hS.2.1 t t0 (by omega)
  have hmb := hN.2.2.1 t t0 (by omega)
  have hbb := hN.2.2.2.2.2.2.2.2
  have hpay := (hB.2.2.2.2.2.1 s s0 s1).2.1
  have hpc := hT.2.2.1 (4 * s + 1) (by omega) (by omega)
  have hnn := hS.2.2.2.2.2.1
  by_cases h : t = N 4 0
  · have h2 := hS.2.2.2.2.2.2 (by omega)
    have hm := mul_nn hbb.2.1 hbb.2.2 hpay.1 hpay.2
    have h60 := h2.1
    have h61 := h2.2
    refine ⟨σ, ?_, Fr.rf _ _⟩
    simp (disch := omega) only [c12_askedOf, ↓reduceIte, acall1_some, acall0_some, q_lt, q_nlt, q_le, q_nle, q_eq, q_ne, q_01, true_or, or_true, false_or, or_false, false_and, and_false, and_self, and_true, true_and, wq, wQ, alen_aput, ag_s, ag_x, ag_j, ag_e, r_130_27 hL, n_136 hL, r_130_52 hL, n_156 hL, hpc, hmo, h60, h61]
    unfold ask
    rw [if_pos h, show 27720 * (N 4 1 + N 4 2 * T 2 (4 * s + 1) + N 1 t) = 27720 * (N 4 1 + N 4 2 * T 2 (4 * s + 1)) + 27720 * N 1 t by omega]
  · obtain ⟨stk, q0, q1, qn⟩ := hT.2.2.2.2.2.2.2.2.2 t t0 t1
    have hin := stk_in q0 qn
    have htt := (hB.2.2.2.2.2.2.2.2.2 t t0 t1).2.2.1
    have hcell := hT.2.2.2.2.2.1 t t0 (by omega)
    have hF0 : Fr wask σ (aput σ 130 58 0) := Fr.put (Fr.rf _ _) _ rfl
    have hal := al_I (c := 54) (B := aU4 c12_askedOf_b53) (n := T 10 t) (i := T 9 t) (vs := [130, t, s, T 9 t]) (σ := aput σ 130 58 0)
      (fun k vs τ => T 9 t ≤ k ∧ vs = [130, t, s, k] ∧ Fr wask σ τ ∧ (∀ j, T 9 t ≤ j → j < k → -1000000000000 ≤ aget τ 158 j ∧ aget τ 158 j ≤ 1000000000000) ∧
        ((aget τ 130 58 = 0 ∧ pre T t f s k = some ((stk k).map (aget τ 158))) ∨ (aget τ 130 58 = 1 ∧ pre T t f s k = none)))
      (fun r => ∃ τ, r = (82, [130, t], τ) ∧ Fr wask σ τ ∧ ((aget τ 130 58 = 0 ∧ pre T t f s (T 10 t) = some [aget τ 158 (T 10 t - 1)] ∧ (-1000000000000 ≤ aget τ 158 (T 10 t - 1) ∧ aget τ 158 (T 10 t - 1) ≤ 1000000000000)) ∨ (aget τ 130 58 = 1 ∧ pre T t f s (T 10 t) = none)))
      (by omega) (by omega) ⟨Int.le_refl _, rfl, hF0, fun j j0 j1 => by omega, Or.inl ⟨ag_s _ _ _ _, by unfold pre; rw [q0, show (T 9 t - T 9 t).toNat = 0 by omega]; rfl⟩⟩ ?_
    · obtain ⟨r, hr, hQ⟩ := hal
      obtain ⟨τ, rfl, hF, hQ⟩ := hQ
      have hL2 := hF.LR (by decide +kernel) hL
      have hmo2 : aget τ 156 t = N 1 t := by rw [hF.g rfl]; exact hmo
      have hla2 : aget τ 146 t = T 10 t := by rw [hF.g rfl]; exact hcell.2.2.2.1
      have hr37 := r_130_37 hL2
      have hr57 := r_130_57 hL2
      have hr52 := r_130_52 hL2
      have hn158 := n_158 hL2
      have hn146 := n_146 hL2
      have hn156 := n_156 hL2
      have e1 : c12_askedOf 130 t s σ = c12_askedOf_p81 130 t τ := by
        simp (disch := omega) only [c12_askedOf, ↓reduceIte, acall1_some, acall0_some, q_lt, q_nlt, q_le, q_nle, q_eq, q_ne, q_01, true_or, or_true, false_or, or_false, false_and, and_false, and_self, and_true, true_and, wq, wQ, alen_aput, ag_s, ag_x, ag_j, ag_e, r_130_36 hL, n_145 hL, hcell.2.2.1, c12_askedOf_l53, hr, abind, c12_askedOf_d53, if_true, aU2, hnn]
      have hru : (match pre T t f s (T 10 t) with
        | some [v] => v
        | _ => 0) = rul T t f s := rfl
      rcases hQ with ⟨z, z2, z3⟩ | ⟨z, z2⟩
      · refine ⟨τ, ?_, hF⟩
        rw [z2] at hru
        simp only at hru
        rw [e1]
        simp (disch := omega) only [c12_askedOf_p81, c12_askedOf_p105, ↓reduceIte, acall1_some, acall0_some, q_lt, q_nlt, q_le, q_nle, q_eq, q_ne, q_01, true_or, or_true, false_or, or_false, false_and, and_false, and_self, and_true, true_and, wq, wQ, alen_aput, ag_s, ag_x, ag_j, ag_e, z, hr37, hr57, hr52, hn158, hn146, hn156, hla2, hmo2]
        unfold ask
        rw [if_neg h, hru]
      · refine ⟨τ, ?_, hF⟩
        rw [z2] at hru
        simp only at hru
        rw [e1]
        simp (disch := omega) only [c12_askedOf_p81, c12_askedOf_p105, ↓reduceIte, acall1_some, acall0_some, q_lt, q_nlt, q_le, q_nle, q_eq, q_ne, q_01, true_or, or_true, false_or, or_false, false_and, and_false, and_self, and_true, true_and, wq, wQ, alen_aput, ag_s, ag_x, ag_j, ag_e, z, hr52, hn156, hmo2]
        unfold ask
        rw [if_neg h, ← hru, Int.zero_add]
    · rintro k vs τ hk ⟨k0, rfl, hF, hv, hst⟩
      have hL2 := hF.LR (by decide +kernel) hL
      have hM2 : MI T τ := hM0.fr hF (by decide +kernel) (wdj_spec (by decide +kernel))
      have hla2 : aget τ 146 t = T 10 t := by rw [hF.g rfl]; exact hcell.2.2.2.1
      have hr37 := r_130_37 hL2
      have hr57 := r_130_57 hL2
      have hn158 := n_158 hL2
      have hn146 := n_146 hL2
      by_cases hkk : k < T 10 t
      · refine Or.inl ⟨hkk, ?_⟩
        have hnd := qn k k0 hkk
        have hnd2 : nod T (aget τ 150) (aget τ 151) (aget τ 152) stk k := by
          rw [show aget τ 150 = aget σ 150 from funext fun j => hF.g rfl, show aget τ 151 = aget σ 151 from funext fun j => hF.g rfl, show aget τ 152 = aget σ 152 from funext fun j => hF.g rfl]
          exact hnd
        have hin2 : ∀ j ∈ stk k, T 9 t ≤ j ∧ j < k := by
          have := hin (k - T 9 t).toNat (by omega)
          rwa [show T 9 t + ((k - T 9 t).toNat : Int) = k by omega] at this
        have hps := pre_s (T := T) (t := t) (f := f) (s := s) (k := k) k0
        obtain ⟨v, e', r, hval, hvb, he01, he1, hr1, hr2, hz0, hz1⟩ := c12_valueOf_ok hM2 hf (fun j j0 j1 => by rw [hF.g rfl]; exact hc j j0 j1) (t := t) (by rw [hF.g rfl]; exact h54) (by rw [hF.g rfl]; exact h56) s0 s1 t0 t1 k0 hkk hnd2 hin2 hv (e := aget τ 130 58) rfl (by rcases hst with z | z <;> omega)
        refine ⟨[130, t, s, k + 1], aput (aput τ 130 58 e') 158 k v, ?_, by omega, rfl, Fr.put (Fr.put hF _ rfl) _ rfl, ?_, ?_⟩
        · simp (disch := omega) only [aU4, c12_askedOf_b53, ↓reduceIte, acall1_some, acall0_some, q_lt, q_nlt, q_le, q_nle, q_eq, q_ne, q_01, true_or, or_true, false_or, or_false, false_and, and_false, and_self, and_true, true_and, wq, wQ, alen_aput, ag_s, ag_x, ag_j, ag_e, hr37, hr57, hn158, hn146, hla2, hval]
        · intro j j0 j1
          by_cases ej : j = k
          · subst ej; rw [ag_s]; exact hvb
          · rw [ag_j ej, ag_x (by omega)]; exact hv j j0 (by omega)
        · have hmap : (stk (k + 1)).map (aget (aput (aput τ 130 58 e') 158 k v) 158) = v :: r.map (aget τ 158) := by
            rw [hr1, List.map_cons, ag_s]
            congr 1
            refine List.map_congr_left (fun j hj => ?_)
            have := hin2 j (hr2 j hj)
            rw [ag_j (by omega), ag_x (by omega)]
          rw [hmap, ag_x (by omega), ag_s]
          rcases hst with ⟨z, z2⟩ | ⟨z, z2⟩
          · rw [z2] at hps
            simp only at hps
            rcases he01 with w | w
            · exact Or.inl ⟨w, by rw [hps]; exact hz0 z w⟩
            · exact Or.inr ⟨w, by rw [hps]; exact hz1 z w⟩
          · rw [z2] at hps
            exact Or.inr ⟨he1 z, hps⟩
      · have hke : k = T 10 t := by omega
        subst hke
        refine Or.inr ⟨(82, [130, t], τ), ?_, Nat.ne_of_beq_eq_false rfl, τ, rfl, hF, ?_⟩
        · simp (disch := omega) only [aU4, c12_askedOf_b53, ↓reduceIte, acall1_some, acall0_some, q_lt, q_nlt, q_le, q_nle, q_eq, q_ne, q_01, true_or, or_true, false_or, or_false, false_and, and_false, and_self, and_true, true_and, wq, wQ, alen_aput, ag_s, ag_x, ag_j, ag_e, hr37, hn146, hla2]
        · rcases hst with ⟨z, z2⟩ | z
          · rw [q1] at z2
            exact Or.inl ⟨z, z2, hv _ (by omega) (by omega)⟩
          · exact Or.inr z
theorem B7.szp {T : aH} {f : Int → Int} (hf : B7 T f) : 0 ≤ szf f ∧ szf f ≤ 13 := by
  have a0 := hf.1 0 (by omega) (by omega)
  have a1 := hf.1 1 (by omega) (by omega)
  have a2 := hf.1 2 (by omega) (by omega)
  have a3 := hf.1 3 (by omega) (by omega)
  have a4 := hf.1 4 (by omega) (by omega)
  have := hf.2.1
  unfold szf at *; omega
/-- bits of what is given -/
theorem gvn_bit {T : aH} (hB : TB T) (t : Int) (f : Int → Int) {g : Int} (g0 : 0 ≤ g) (g1 : g < T 0 0) : bI (gvn T t f) g = gvb T t f g ∧ 0 ≤ gvn T t f ∧ gvn T t f < 32 := by
  have hg := hB.1
  have b0 := gvb_01 T t f 0
  have b1 := gvb_01 T t f 1
  have b2 := gvb_01 T t f 2
  have b3 := gvb_01 T t f 3
  have b4 := gvb_01 T t f 4
  unfold gvn
  rcases (show T 0 0 = 0 ∨ T 0 0 = 1 ∨ T 0 0 = 2 ∨ T 0 0 = 3 ∨ T 0 0 = 4 ∨ T 0 0 = 5 by omega) with e | e | e | e | e | e <;> rw [e] at g1 ⊢
  · omega
  · rw [sI_1, p2_0]
    rcases (show g = 0 by omega) with rfl
    unfold bI; rw [p2_0]; omega
  · rw [sI_2, p2_0, p2_1]
    rcases (show g = 0 ∨ g = 1 by omega) with rfl | rfl
    · unfold bI; rw [p2_0]; omega
    · unfold bI; rw [p2_1]; omega
  · rw [sI_3, p2_0, p2_1, p2_2]
    rcases (show g = 0 ∨ g = 1 ∨ g = 2 by omega) with rfl | rfl | rfl
    · unfold bI; rw [p2_0]; omega
    · unfold bI; rw [p2_1]; omega
    · unfold bI; rw [p2_2]; omega
  · rw [sI_4, p2_0, p2_1, p2_2, p2_3]
    rcases (show g = 0 ∨ g = 1 ∨ g = 2 ∨ g = 3 by omega) with rfl | rfl | rfl | rfl
    · unfold bI; rw [p2_0]; omega
    · unfold bI; rw [p2_1]; omega
    · unfold bI; rw [p2_2]; omega
    · unfold bI; rw [p2_3]; omega
  · rw [sI_5, p2_0, p2_1, p2_2, p2_3, p2_4]
    rcases (show g = 0 ∨ g = 1 ∨ g = 2 ∨ g = 3 ∨ g = 4 by omega) with rfl | rfl | rfl | rfl | rfl
    · unfold bI; rw [p2_0]; omega
    · unfold bI; rw [p2_1]; omega
    · unfold bI; rw [p2_2]; omega
    · unfold bI; rw [p2_3]; omega
    · unfold bI; rw [p2_4]; omega
theorem gvn_32 {T : aH} (hB : TB T) (t : Int) (f : Int → Int) : 0 ≤ gvn T t f ∧ gvn T t f < 32 := by
  have h := gsum_lt' T t f hB.1.1
  have := p2_small hB.1.1 hB.1.2
  unfold gvn; omega
theorem c12_worthOf_ok {T N : aH} {σ : aS} (hM : MI T σ) (hN : NB T N) (hS : MN T N σ) {f : Int → Int} (hf : B7 T f) (hc : CR f σ) {t : Int} (h54 : aget σ 130 54 = szf f) (h55 : aget σ 130 55 = gvn T t f) (h56 : aget σ 130 56 = gco T t f) {s : Int} (s0 : 0 ≤ s) (s1 : s < T 0 1) (t0 : 0 ≤ t) (t1 : t < T 0 2) :
    ∃ τ, c12_worthOf 130 t s σ = some (0, [wor T N t f s], τ) ∧ Fr wask σ τ := by
  obtain ⟨τ, ha, hF⟩ := c12_askedOf_ok hM hN hS hf hc h54 h56 s0 s1 t0 t1
  refine ⟨τ, ?_, hF⟩
  obtain ⟨hL, hT, hB⟩ := hM
  have h5 := hB.2.1
  have hg5 := hB.1
  have hg32 := gvn_32 hB t f
  have hl1 := al_0 (c := 6) (B := aU5 c12_worthOf_b5) (fun k => [130, t, s, sI (fun g => gvb T t f g * T 3 (5 * s + g)) k, k]) (fun _ => σ) (n := T 0 0) (r := (51, [130, t, s, sI (fun g => gvb T t f g * T 3 (5 * s + g)) (T 0 0)], σ)) (by omega) (by omega) ?_ ?_ (Nat.ne_of_beq_eq_false rfl)
  · have hl2 := al_0 (c := 54) (B := aU5 c12_worthOf_b53) (fun k => [130, t, s, sI (fun g => gvb T t f g * T 3 (5 * s + g)) (T 0 0) + sI (fun o => T 4 (5 * s + o) * (f o - if o = s then 1 else 0)) k, k]) (fun _ => σ) (n := T 0 1) (r := (103, [130, t, s, lik T t f s], σ)) (by omega) (by omega) ?_ ?_ (Nat.ne_of_beq_eq_false rfl)
    · have hlb := lik_bd hB t hf.1 s0 s1
      have hab := ask_bd hB hN t0 t1 hf.1 s0 s1
      unfold c12_worthOf c12_worthOf_l5
      simp only [sI_0, Int.add_zero] at hl1 hl2
      rw [hl1]
      simp only [abind, c12_worthOf_d5, if_true, aU4, c12_worthOf_p50, c12_worthOf_l53]
      rw [hl2]
      simp (disch := omega) only [abind, c12_worthOf_d53, if_true, aU4, c12_worthOf_p102, ha, acall1_some, wQ]
      rfl
    · intro k k0 k1
      have hck := hc k k0 (by omega)
      have hlk := hT.2.2.2.2.1 (5 * s + k) (by omega) (by omega)
      have a1 := lik1_bd hB t f s0 s1 hB.1.1 (Int.le_refl _)
      have a2 := lik2_bd hB hf.1 s0 s1 k0 (Int.le_of_lt k1)
      have a3 := hB.2.2.2.2.2.2.2.2.1 s k s0 s1 k0 k1
      have a4 := hf.1 k k0 (by omega)
      by_cases e : k = s
      · have a5 := mul_bd (a := T 4 (5 * s + k)) (b := f k - 1) (A := 20) (B := 7) (by omega) (by omega) (by omega) (by omega)
        simp (disch := omega) only [aU5, c12_worthOf_b53, c12_worthOf_p92, ↓reduceIte, acall1_some, acall0_some, q_lt, q_nlt, q_le, q_nle, q_eq, q_ne, q_01, true_or, or_true, false_or, or_false, false_and, and_false, and_self, and_true, true_and, wq, wQ, alen_aput, ag_s, ag_x, ag_j, ag_e, r_130_30 hL, n_139 hL, r_130_53 hL, n_157 hL, hT.1.2.1, hck, hlk, sI_s, if_pos e]
        rw [Int.add_assoc]
      · have a5 := mul_bd (a := T 4 (5 * s + k)) (b := f k - 0) (A := 20) (B := 7) (by omega) (by omega) (by omega) (by omega)
        simp (disch := omega) only [aU5, c12_worthOf_b53, c12_worthOf_p92, ↓reduceIte, acall1_some, acall0_some, q_lt, q_nlt, q_le, q_nle, q_eq, q_ne, q_01, true_or, or_true, false_or, or_false, false_and, and_false, and_self, and_true, true_and, wq, wQ, alen_aput, ag_s, ag_x, ag_j, ag_e, r_130_30 hL, n_139 hL, r_130_53 hL, n_157 hL, hT.1.2.1, hck, hlk, sI_s, if_neg e]
        rw [Int.add_assoc]
    · simp (disch := omega) only [aU5, c12_worthOf_b53, ↓reduceIte, acall1_some, acall0_some, q_lt, q_nlt, q_le, q_nle, q_eq, q_ne, q_01, true_or, or_true, false_or, or_false, false_and, and_false, and_self, and_true, true_and, wq, wQ, alen_aput, ag_s, ag_x, ag_j, ag_e, hT.1.2.1]
      rfl
  · intro k k0 k1
    have hb := gvn_bit hB t f k0 k1
    have hof := c12_isOf_ok (x := gvn T t f) (k := k) (by omega) (by omega) k0 (by omega) σ
    rw [hb.1] at hof
    have h01 := gvb_01 T t f k
    have hw := hT.2.2.2.1 (5 * s + k) (by omega) (by omega)
    have hwb := hB.2.2.2.2.2.2.2.1 s k s0 s1 k0 k1
    have a1 := lik1_bd hB t f s0 s1 k0 (Int.le_of_lt k1)
    by_cases e : gvb T t f k = 0
    · simp (disch := omega) only [aU5, c12_worthOf_b5, c12_worthOf_p42, ↓reduceIte, acall1_some, acall0_some, q_lt, q_nlt, q_le, q_nle, q_eq, q_ne, q_01, true_or, or_true, false_or, or_false, false_and, and_false, and_self, and_true, true_and, wq, wQ, alen_aput, ag_s, ag_x, ag_j, ag_e, hT.1.1, h55, hof, e, sI_s, Int.zero_mul, Int.add_zero]
    · have e1 : gvb T t f k = 1 := by omega
      simp (disch := omega) only [aU5, c12_worthOf_b5, c12_worthOf_p42, ↓reduceIte, acall1_some, acall0_some, q_lt, q_nlt, q_le, q_nle, q_eq, q_ne, q_01, true_or, or_true, false_or, or_false, false_and, and_false, and_self, and_true, true_and, wq, wQ, alen_aput, ag_s, ag_x, ag_j, ag_e, r_130_28 hL, n_137 hL, hT.1.1, h55, hof, e1, hw, sI_s, Int.one_mul]
  · simp (disch := omega) only [aU5, c12_worthOf_b5, ↓reduceIte, acall1_some, acall0_some, q_lt, q_nlt, q_le, q_nle, q_eq, q_ne, q_01, true_or, or_true, false_or, or_false, false_and, and_false, and_self, and_true, true_and, wq, wQ, alen_aput, ag_s, ag_x, ag_j, ag_e, hT.1.1]
theorem c12_aloneOf_ok {T : aH} {σ : aS} (hM : MI T σ) {s : Int} (s0 : 0 ≤ s) (s1 : s < T 0 1) : c12_aloneOf 130 s σ = some (0, [27720 * T 2 (4 * s + 2)], σ) := by
  obtain ⟨hL, hT, hB⟩ := hM
  have h5 := hB.2.1
  have hc := hT.2.2.1 (4 * s + 2) (by omega) (by omega)
  have hb := (hB.2.2.2.2.2.1 s s0 s1).2.2.1
  simp (disch := omega) only [c12_aloneOf, ↓reduceIte, acall1_some, acall0_some, q_lt, q_nlt, q_le, q_nle, q_eq, q_ne, q_01, true_or, or_true, false_or, or_false, false_and, and_false, and_self, and_true, true_and, wq, wQ, alen_aput, ag_s, ag_x, ag_j, ag_e, r_130_27 hL, n_136 hL, hc]
def wwor : List (Int × List Int) := [(157, []), (158, []), (130, [54, 55, 56, 58])]
theorem lay_CR (T : aH) (t : Int) (f : Int → Int) (σ : aS) : CR f (lay T t f σ) := fun s s0 s1 => by
  unfold lay
  rw [ag_x (by omega), ag_x (by omega), ag_x (by omega), apf_i s0 s1]
theorem lay_54 (T : aH) (t : Int) (f : Int → Int) (σ : aS) : aget (lay T t f σ) 130 54 = szf f := by
  unfold lay; rw [ag_j (by omega), ag_j (by omega), ag_s]
theorem lay_55 (T : aH) (t : Int) (f : Int → Int) (σ : aS) : aget (lay T t f σ) 130 55 = gvn T t f := by
  unfold lay; rw [ag_j (by omega), ag_s]
theorem lay_56 (T : aH) (t : Int) (f : Int → Int) (σ : aS) : aget (lay T t f σ) 130 56 = gco T t f := by
  unfold lay; rw [ag_s]
theorem lay_MI {T : aH} {σ : aS} (hM : MI T σ) (t : Int) (f : Int → Int) : MI T (lay T t f σ) := hM.fr (lay_fr T t f σ) (by decide +kernel) (wdj_spec (by decide +kernel))
theorem lay_MN {T N : aH} {σ : aS} (hS : MN T N σ) (t : Int) (f : Int → Int) : MN T N (lay T t f σ) := hS.fr (lay_fr T t f σ) (wdj_spec (by decide +kernel))
/-- worth of a place to one of a sort that is there -/
theorem c12_worthAt_0 {T N : aH} {σ : aS} (hM : MI T σ) (hN : NB T N) (hS : MN T N σ) {s p : Int} (s0 : 0 ≤ s) (s1 : s < T 0 1) (p0 : 0 ≤ p) (p1 : p ≤ T 0 2) :
    ∃ τ, c12_worthAt 130 s p 0 σ = some (0, [wrA T N s p (ctn T N p)], τ) ∧ Fr wwor σ τ := by
  have hB := hM.2.2
  have h14 := hM.2.1.1.2.2.1
  unfold wrA
  by_cases h : p = T 0 2
  · have ha := c12_aloneOf_ok hM s0 s1
    refine ⟨σ, ?_, Fr.rf _ _⟩
    rw [if_pos h]
    simp (disch := omega) only [c12_worthAt, ↓reduceIte, acall1_some, acall0_some, q_lt, q_nlt, q_le, q_nle, q_eq, q_ne, q_01, true_or, or_true, false_or, or_false, false_and, and_false, and_self, and_true, true_and, wq, wQ, alen_aput, ag_s, ag_x, ag_j, ag_e, h14, ha]
  · have hc := c12_layCrew_ok hM hN hS p0 (show p < T 0 2 by omega)
    obtain ⟨τ, hw, hF⟩ := c12_worthOf_ok (lay_MI hM p (ctn T N p)) hN (lay_MN hS p (ctn T N p)) (B7.of hB (ctn_BF hN hB p0 p1)) (lay_CR T p _ σ) (lay_54 T p _ σ) (lay_55 T p _ σ) (lay_56 T p _ σ) s0 s1 p0 (show p < T 0 2 by omega)
    refine ⟨τ, ?_, ((lay_fr T p _ σ).mono rfl).tr (hF.mono rfl)⟩
    rw [if_neg h]
    simp (disch := omega) only [c12_worthAt, c12_worthAt_p38, ↓reduceIte, acall1_some, acall0_some, q_lt, q_nlt, q_le, q_nle, q_eq, q_ne, q_01, true_or, or_true, false_or, or_false, false_and, and_false, and_self, and_true, true_and, wq, wQ, alen_aput, ag_s, ag_x, ag_j, ag_e, h14, hc, hw]
theorem lay_lay (T : aH) (t : Int) (f g : Int → Int) (σ : aS) {s : Int} (s0 : 0 ≤ s) (s1 : s < 5) (h : ∀ k, k ≠ s → g k = f k) :
    aput (aput (aput (aput (lay T t f σ) 157 s (g s)) 130 54 (szf g)) 130 55 (gvn T t g)) 130 56 (gco T t g) = lay T t g σ := by
  refine aS_ext rfl (fun y k => ?_) rfl
  unfold lay
  simp only [ag_if, apf_g]
  by_cases q : y = 130
  · subst q
    by_cases e : k = 56
    · subst e; simp
    · by_cases e2 : k = 55
      · subst e2; simp
      · by_cases e3 : k = 54
        · subst e3; simp
        · simp [e, e2, e3]
  · by_cases q2 : y = 157
    · subst q2
      by_cases e : k = s
      · subst e; simp [s0, s1]
      · by_cases e2 : 0 ≤ k ∧ k < 5
        · simp [e, e2, h k e]
        · simp [e, e2]
    · simp [q, q2]
/-- with one more of it -/
theorem c12_worthAt_1 {T N : aH} {σ : aS} (hM : MI T σ) (hN : NB T N) (hS : MN T N σ) {s p : Int} (s0 : 0 ≤ s) (s1 : s < T 0 1) (p0 : 0 ≤ p) (p1 : p ≤ T 0 2) :
    ∃ τ, c12_worthAt 130 s p 1 σ = some (0, [wrA T N s p (adc (ctn T N p) s)], τ) ∧ Fr wwor σ τ := by
  have hB := hM.2.2
  have h5 := hB.2.1
  have h14 := hM.2.1.1.2.2.1
  unfold wrA
  by_cases h : p = T 0 2
  · have ha := c12_aloneOf_ok hM s0 s1
    refine ⟨σ, ?_, Fr.rf _ _⟩
    rw [if_pos h]
    simp (disch := omega) only [c12_worthAt, ↓reduceIte, acall1_some, acall0_some, q_lt, q_nlt, q_le, q_nle, q_eq, q_ne, q_01, true_or, or_true, false_or, or_false, false_and, and_false, and_self, and_true, true_and, wq, wQ, alen_aput, ag_s, ag_x, ag_j, ag_e, h14, ha]
  · have hc := c12_layCrew_ok hM hN hS p0 (show p < T 0 2 by omega)
    have hbf := ctn_BF hN hB p0 p1
    have hb7 := B7.ad1 hB hbf s0 s1
    have hbs := hbf.b7 hB s s0 (by omega)
    have hLR := (lay_MI hM p (ctn T N p)).1
    have hcs := lay_CR T p (ctn T N p) σ s s0 (by omega)
    have hFp : Fr [(157, [])] (lay T p (ctn T N p) σ) (aput (lay T p (ctn T N p) σ) 157 s (ctn T N p s + 1)) := Fr.put (Fr.rf _ _) _ rfl
    have hM2 := (lay_MI hM p (ctn T N p)).fr hFp (by decide +kernel) (wdj_spec (by decide +kernel))
    have hcr2 : CR (adc (ctn T N p) s) (aput (lay T p (ctn T N p) σ) 157 s (ctn T N p s + 1)) := fun k k0 k1 => by
      unfold adc
      by_cases e : k = s
      · subst e; rw [ag_s, if_pos rfl]
      · rw [ag_j e, if_neg e]; exact lay_CR T p _ σ k k0 k1
    have hg := c12_layGiven_ok hM2 hb7 hcr2 p0 (show p < T 0 2 by omega)
    have hll := lay_lay T p (ctn T N p) (adc (ctn T N p) s) σ s0 (show s < 5 by omega) (fun k hk => by unfold adc; rw [if_neg hk])
    rw [show adc (ctn T N p) s s = ctn T N p s + 1 by unfold adc; rw [if_pos rfl]] at hll
    rw [hll] at hg
    obtain ⟨τ, hw, hF⟩ := c12_worthOf_ok (lay_MI hM p (adc (ctn T N p) s)) hN (lay_MN hS p (adc (ctn T N p) s)) hb7 (lay_CR T p _ σ) (lay_54 T p _ σ) (lay_55 T p _ σ) (lay_56 T p _ σ) s0 s1 p0 (show p < T 0 2 by omega)
    refine ⟨τ, ?_, ((lay_fr T p _ σ).mono rfl).tr (hF.mono rfl)⟩
    rw [if_neg h]
    simp (disch := omega) only [c12_worthAt, c12_worthAt_p38, ↓reduceIte, acall1_some, acall0_some, q_lt, q_nlt, q_le, q_nle, q_eq, q_ne, q_01, true_or, or_true, false_or, or_false, false_and, and_false, and_self, and_true, true_and, wq, wQ, alen_aput, ag_s, ag_x, ag_j, ag_e, h14, hc, r_130_53 hLR, n_157 hLR, hcs, hg, hw]
theorem c12_gainOf_ok {T N : aH} {σ : aS} (hM : MI T σ) (hN : NB T N) (hS : MN T N σ) {s a b : Int} (s0 : 0 ≤ s) (s1 : s < T 0 1) (a0 : 0 ≤ a) (a1 : a ≤ T 0 2) (b0 : 0 ≤ b) (b1 : b ≤ T 0 2) :
    ∃ τ, c12_gainOf 130 s a b σ = some (0, [gai T N s a b], τ) ∧ Fr wwor σ τ := by
  have hB := hM.2.2
  have h5 := hB.2.1
  obtain ⟨τ, hw, hF⟩ := c12_worthAt_1 hM hN hS s0 s1 b0 b1
  have hM2 := hM.fr hF (by decide +kernel) (wdj_spec (by decide +kernel))
  obtain ⟨υ, hw2, hF2⟩ := c12_worthAt_0 hM2 hN (hS.fr hF (wdj_spec (by decide +kernel))) s0 s1 a0 a1
  have hM3 := hM2.fr hF2 (by decide +kernel) (wdj_spec (by decide +kernel))
  have hL3 := hM3.1
  have hc := hM3.2.1.2.2.1 (4 * s + 3) (by omega) (by omega)
  have w1 := wrA_bd hB hN b0 b1 (B7.ad1 hB (ctn_BF hN hB b0 b1) s0 s1).1 s0 s1
  have w2 := wrA_bd hB hN a0 a1 ((ctn_BF hN hB a0 a1).b7 hB) s0 s1
  have hb := (hB.2.2.2.2.2.1 s s0 s1).2.2.2
  refine ⟨υ, ?_, hF.tr hF2⟩
  simp (disch := omega) only [c12_gainOf, ↓reduceIte, acall1_some, acall0_some, q_lt, q_nlt, q_le, q_nle, q_eq, q_ne, q_01, true_or, or_true, false_or, or_false, false_and, and_false, and_self, and_true, true_and, wq, wQ, alen_aput, ag_s, ag_x, ag_j, ag_e, hw, hw2, r_130_27 hL3, n_136 hL3, hc]
  rfl
