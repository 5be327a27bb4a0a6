/-! the class's half of whole's part of this name -/
theorem hi_ref : ∀ i : Fin 30, kR[29 + i.val]? = some (25, (i.val : Int), 28 + 2 * (i.val : Int)) ∧ kR[60 + i.val]? = some (28 + 2 * (i.val : Int), 0, 29 + 2 * (i.val : Int)) ∧ alen (kK, (fun _ _ => 0), 0, 0) (29 + 2 * (i.val : Int)) = 4 := by decide +kernel
theorem hi_r {σ : aS} (hL : LR σ) {i : Int} (i0 : 0 ≤ i) (i1 : i < 30) : aget σ 25 i = 28 + 2 * i ∧ aget σ (28 + 2 * i) 0 = 28 + 2 * i + 1 ∧ alen σ (28 + 2 * i + 1) = 4 := by
  obtain ⟨n, rfl⟩ := Int.eq_ofNat_of_zero_le i0
  have h := hi_ref ⟨n, by omega⟩
  refine ⟨hL.2 _ (List.mem_of_getElem? h.1), ?_, ?_⟩
  · have e := hL.2 _ (List.mem_of_getElem? h.2.1)
    simp only at e
    rw [e]; omega
  · have e := h.2.2
    simp only at e
    unfold alen at e ⊢
    rw [hL.1, show 28 + 2 * (n : Int) + 1 = 29 + 2 * (n : Int) by omega]
    exact e
/-- the i-th oldest of n scenes, where the next is to be written at nx -/
def hps (n nx i : Int) : Int := 28 + 2 * ((nx - n + i) % 30)
def HC (T : aH) (Hs : Int → aH) (n : Int) (σ : aS) : Prop := aget σ 24 3 = n ∧ (0 ≤ n ∧ n ≤ 30) ∧ (0 ≤ aget σ 24 4 ∧ aget σ 24 4 < 30) ∧ ∀ i, 0 ≤ i → i < n → SC T (Hs i) (hps n (aget σ 24 4) i) σ
def IC (T : aH) (im : Int) (IM : aH) (σ : aS) : Prop := aget σ 24 2 = im ∧ (im = 0 ∨ im = 1) ∧ (im = 1 → SC T IM 26 σ)
/-- one more remembered: the oldest of thirty is forgotten -/
def pshH (Hs : Int → aH) (n : Int) (N : aH) : Int → aH := fun i => if n < 30 then (if i < n then Hs i else N) else (if i < 29 then Hs (i + 1) else N)
def pshN (n : Int) : Int := if n < 30 then n + 1 else 30
def hsf' (x j : Int) : Prop := (28 ≤ x ∧ x ≤ 87 ∧ (x % 2 = 0 → 1 ≤ j)) ∨ (x = 24 ∧ 2 ≤ j ∧ j ≤ 4) ∨ ((x = 26 ∨ x = 88) ∧ 1 ≤ j) ∨ x = 27 ∨ x = 89
theorem hsf_kR : ∀ q ∈ kR, ¬ hsf' q.1 q.2.1 := by
  have h : (kR.all fun q => !(decide ((28 ≤ q.1 ∧ q.1 ≤ 87 ∧ (q.1 % 2 = 0 → 1 ≤ q.2.1)) ∨ (q.1 = 24 ∧ 2 ≤ q.2.1 ∧ q.2.1 ≤ 4) ∨ ((q.1 = 26 ∨ q.1 = 88) ∧ 1 ≤ q.2.1) ∨ q.1 = 27 ∨ q.1 = 89))) = true := by decide +kernel
  intro q hq hw
  have h1 := List.all_eq_true.mp h q hq
  unfold hsf' at hw
  rw [decide_eq_true hw] at h1; cases h1
theorem CI.fh {pl : Int} {T : aH} {P : Int → Int → Prop} {σ τ : aS} (h : CI pl T σ) (hF : Fp P σ τ) (hP : ∀ x j, P x j → hsf' x j) : CI pl T τ := by
  refine h.co ((hF.mono hP).LR hsf_kR h.1) (fun x j hx => hF.g (fun q => ?_))
  have := hP x j q
  unfold cor at hx
  unfold hsf' at this
  omega
theorem c2_record_ok {T N : aH} {σ : aS} (hL : LR σ) (hS : SC T N 88 σ) {Hs : Int → aH} {n : Int} (hH : HC T Hs n σ) :
    ∃ τ, c2_record 24 88 σ = some (0, [], τ) ∧ Fp (fun x j => (28 ≤ x ∧ x ≤ 87 ∧ (x % 2 = 0 → 1 ≤ j)) ∨ (x = 24 ∧ 3 ≤ j ∧ j ≤ 4)) σ τ ∧ HC T (pshH Hs n N) (pshN n) τ := by
  obtain ⟨h3, ⟨n0, n1⟩, ⟨x0, x1⟩, hs⟩ := hH
  have rr := hi_r hL x0 x1
  have r88 := rs_0 hL (sc := 88) (Or.inl rfl)
  have m88 := ns_1 hL (sc := 88) (Or.inl rfl)
  have m25 : alen σ 25 = 30 := by unfold alen; rw [hL.1]; rfl
  generalize hx : aget σ 24 4 = nx at *
  obtain ⟨υ, hcp, hF, hd1, hd2⟩ := c8_copyOf_ok (σ := σ) (d := 28 + 2 * nx) (s := 88) (by omega) (by omega) rr.2.1 rr.2.2 r88 m88 (by omega) (by omega) (by omega)
  have hcl : SC T N (28 + 2 * nx) υ := hS.cp hd1 hd2
  have g4 : aget υ 24 4 = nx := by rw [hF.g (by omega)]; exact hx
  have g3 : aget υ 24 3 = n := by rw [hF.g (by omega)]; exact h3
  have fr : Fp (fun x j => (28 ≤ x ∧ x ≤ 87 ∧ (x % 2 = 0 → 1 ≤ j)) ∨ (x = 24 ∧ 3 ≤ j ∧ j ≤ 4)) σ (aput (aput υ 24 4 ((nx + 1) % 30)) 24 3 (pshN n)) :=
    ((hF.mono (fun x j q => by omega)).put (x := 24) (j := 4) _ (by omega)).put (x := 24) (j := 3) _ (by omega)
  have tm : Int.tmod (nx + 1) 30 = (nx + 1) % 30 := Int.tmod_eq_emod_of_nonneg (by omega)
  have pn : 0 ≤ pshN n ∧ pshN n ≤ 30 := by unfold pshN; split <;> omega
  refine ⟨_, ?_, fr, ag_s _ _ _ _, pn, by rw [ag_j (by omega), ag_s]; omega, fun i i0 i1 => ?_⟩
  · unfold c2_record
    rw [r_24_0 hL, hx, rr.1, m25]
    refine ite_n (by omega) (ite_p (by omega) (ite_n (by omega) ?_))
    rw [hcp, acall0_some]
    refine ite_n (by omega) (acall1_h (v := pshN n) (τ := aput υ 24 4 ((nx + 1) % 30)) ?_ rfl)
    rw [g4, wq (x := nx + 1) (by omega) (by omega), tm, ag_j (by omega), g3, wq (by omega) (by omega)]
    unfold jmin pshN
    by_cases c : n < 30
    · rw [if_pos c]
      by_cases d : n + 1 < 30
      · rw [if_pos d]
      · rw [if_neg d, show n + 1 = 30 by omega]
    · rw [if_neg c, if_neg (by omega)]
  · rw [ag_j (by omega), ag_s]
    have fS : Fp (fun x _ => x = 24) υ (aput (aput υ 24 4 ((nx + 1) % 30)) 24 3 (pshN n)) := ((Fp.rf (fun x _ => x = 24) υ).put (x := 24) (j := 4) _ rfl).put (x := 24) (j := 3) _ rfl
    have old : ∀ k, 0 ≤ k → k < n → hps n nx k ≠ 28 + 2 * nx → SC T (Hs k) (hps n nx k) (aput (aput υ 24 4 ((nx + 1) % 30)) 24 3 (pshN n)) := fun k k0 k1 hne => by
      have b : 28 ≤ hps n nx k ∧ hps n nx k ≤ 86 ∧ hps n nx k % 2 = 0 := by unfold hps; omega
      have a : SC T (Hs k) (hps n nx k) υ := (hs k k0 k1).fp hF (fun j => by omega) (fun j _ => by omega)
      exact a.fp fS (fun j => by omega) (fun j _ => by omega)
    have nw : SC T N (28 + 2 * nx) (aput (aput υ 24 4 ((nx + 1) % 30)) 24 3 (pshN n)) := hcl.fp fS (fun j => by omega) (fun j _ => by omega)
    unfold pshN at i1 ⊢
    unfold pshH
    by_cases c : n < 30
    · rw [if_pos c] at i1 ⊢
      have e : hps (n + 1) ((nx + 1) % 30) i = hps n nx i := by unfold hps; omega
      rw [if_pos c, e]
      by_cases d : i < n
      · rw [if_pos d]
        have := old i i0 d (by unfold hps; omega)
        unfold pshN at this
        rw [if_pos c] at this
        exact this
      · rw [if_neg d, show hps n nx i = 28 + 2 * nx by unfold hps; omega]
        unfold pshN at nw
        rw [if_pos c] at nw
        exact nw
    · rw [if_neg c] at i1 ⊢
      rw [if_neg c]
      by_cases d : i < 29
      · have e : hps 30 ((nx + 1) % 30) i = hps n nx (i + 1) := by unfold hps; omega
        rw [if_pos d, e]
        have := old (i + 1) (by omega) (by omega) (by unfold hps; omega)
        unfold pshN at this
        rw [if_neg c] at this
        exact this
      · rw [if_neg d, show hps 30 ((nx + 1) % 30) i = 28 + 2 * nx by unfold hps; omega]
        unfold pshN at nw
        rw [if_neg c] at nw
        exact nw
theorem c2_stepBack_ok {T N : aH} {σ : aS} (hL : LR σ) {Hs : Int → aH} {n : Int} (hH : HC T Hs n σ) :
    (n = 0 ∧ c2_stepBack 24 88 σ = some (0, [0], σ)) ∨ (0 < n ∧ ∃ τ, c2_stepBack 24 88 σ = some (0, [1], τ) ∧ Fp (fun x j => (x = 24 ∧ 3 ≤ j ∧ j ≤ 4) ∨ (x = 88 ∧ 1 ≤ j) ∨ x = 89) σ τ ∧ HC T Hs (n - 1) τ ∧ SC T (Hs (n - 1)) 88 τ) := by
  obtain ⟨h3, ⟨n0, n1⟩, ⟨x0, x1⟩, hs⟩ := hH
  by_cases z : n = 0
  · refine Or.inl ⟨z, ?_⟩
    unfold c2_stepBack
    exact ite_p (by rw [h3, z]) (ite_p (by omega) rfl)
  · refine Or.inr ⟨by omega, ?_⟩
    generalize hx : aget σ 24 4 = nx at *
    have tm : Int.tmod (nx + 30 - 1) 30 = (nx + 29) % 30 := by rw [Int.tmod_eq_emod_of_nonneg (by omega)]; omega
    have xb : 0 ≤ (nx + 29) % 30 ∧ (nx + 29) % 30 < 30 := by omega
    generalize hm : (nx + 29) % 30 = m at *
    have fr := ((Fp.rf (fun x j => x = 24 ∧ 3 ≤ j ∧ j ≤ 4) σ).put (x := 24) (j := 4) m (by omega)).put (x := 24) (j := 3) (n - 1) (by omega)
    have hL2 : LR (aput (aput σ 24 4 m) 24 3 (n - 1)) := (fr.mono (fun x j q => show hsf' x j by unfold hsf'; omega)).LR hsf_kR hL
    have rr := hi_r hL2 xb.1 xb.2
    have r88 := rs_0 hL2 (sc := 88) (Or.inl rfl)
    have m88 := ns_1 hL2 (sc := 88) (Or.inl rfl)
    have m25 : alen (aput (aput σ 24 4 m) 24 3 (n - 1)) 25 = 30 := by unfold alen; rw [hL2.1]; rfl
    obtain ⟨υ, hcp, hF, hd1, hd2⟩ := c8_copyOf_ok (σ := aput (aput σ 24 4 m) 24 3 (n - 1)) (d := 88) (s := 28 + 2 * m) (by omega) (by omega) r88 m88 rr.2.1 rr.2.2 (by omega) (by omega) (by omega)
    have ep : hps n nx (n - 1) = 28 + 2 * m := by unfold hps; omega
    have sl := hs (n - 1) (by omega) (by omega)
    rw [ep] at sl
    have sl2 : SC T (Hs (n - 1)) (28 + 2 * m) (aput (aput σ 24 4 m) 24 3 (n - 1)) := sl.fp fr (fun j => by omega) (fun j _ => by omega)
    have e24 : aget υ 24 4 = m := by rw [hF.g (by omega), ag_j (by omega), ag_s]
    refine ⟨υ, ?_, (fr.mono (fun x j q => Or.inl q)).tr (hF.mono (fun x j q => by omega)), ⟨by rw [hF.g (by omega), ag_s], by omega, by rw [e24]; exact xb, fun i i0 i1 => ?_⟩, sl2.cp hd1 hd2⟩
    · unfold c2_stepBack
      refine ite_n (by rw [h3]; exact z) (ite_n (by omega) ?_)
      rw [hx, wq (x := nx + 30) (by omega) (by omega), wq (x := nx + 30 - 1) (by omega) (by omega), tm, show aget (aput σ 24 4 m) 24 3 = n by rw [ag_j (by omega)]; exact h3, wq (x := n - 1) (by omega) (by omega)]
      rw [r_24_0 hL2, show aget (aput (aput σ 24 4 m) 24 3 (n - 1)) 24 4 = m by rw [ag_j (by omega), ag_s], m25, rr.1]
      refine ite_n (by omega) (ite_p (by omega) (ite_n (by omega) ?_))
      rw [hcp, acall0_some]
      exact ite_p (by omega) rfl
    · have e : hps (n - 1) m i = hps n nx i := by unfold hps; omega
      have b : 28 ≤ hps n nx i ∧ hps n nx i ≤ 86 := by unfold hps; omega
      rw [e24, e]
      have a : SC T (Hs i) (hps n nx i) (aput (aput σ 24 4 m) 24 3 (n - 1)) := (hs i i0 (by omega)).fp fr (fun j => by omega) (fun j _ => by omega)
      exact a.fp hF (fun j => by omega) (fun j _ => by omega)
