/-! a token: the reference -/
def rnf (b : Int → Int) (p : Int) : Nat → Int
  | 0 => 0
  | k + 1 => if 999 < rnf b p k then rnf b p k else 10 * rnf b p k + b (p + k) - 48
theorem rnf_nfd {b : Int → Int} {p : Int} : ∀ k : Nat, (∀ i : Nat, i < k → 48 ≤ b (p + i) ∧ b (p + i) ≤ 57) → (0 ≤ rnf b p k ∧ rnf b p k ≤ 9999) ∧ ((nfd b p k ≤ 999 ∧ rnf b p k = nfd b p k) ∨ (999 < nfd b p k ∧ 999 < rnf b p k)) := by
  intro k
  induction k with
  | zero => intro _; exact ⟨⟨Int.le_refl _, by show (0 : Int) ≤ 9999; omega⟩, Or.inl ⟨by show (0 : Int) ≤ 999; omega, rfl⟩⟩
  | succ k ih =>
    intro h
    obtain ⟨i1, i2⟩ := ih (fun j hj => h j (by omega))
    have d := h k (by omega)
    show (0 ≤ (if 999 < rnf b p k then rnf b p k else 10 * rnf b p k + b (p + k) - 48) ∧ (if 999 < rnf b p k then rnf b p k else 10 * rnf b p k + b (p + k) - 48) ≤ 9999) ∧
      ((mn 100000 (nfd b p k * 10 + b (p + k) - 48) ≤ 999 ∧ (if 999 < rnf b p k then rnf b p k else 10 * rnf b p k + b (p + k) - 48) = mn 100000 (nfd b p k * 10 + b (p + k) - 48)) ∨ (999 < mn 100000 (nfd b p k * 10 + b (p + k) - 48) ∧ 999 < (if 999 < rnf b p k then rnf b p k else 10 * rnf b p k + b (p + k) - 48)))
    rcases i2 with ⟨a, e⟩ | ⟨a, e⟩
    · rw [if_neg (by omega), e]
      unfold mn
      rw [if_pos (show nfd b p k * 10 + b (p + k) - 48 < 100000 by omega)]
      omega
    · rw [if_pos e]
      unfold mn
      split <;> omega
theorem c12_token_ok {b : Int → Int} {n q : Int} {σ : aS} (hT : TSr b n σ) (h7 : aget σ 130 7 = q) (q0 : 0 ≤ q) (q1 : q ≤ n) :
    ∃ τ, c12_token 130 σ = some (0, [], τ) ∧ Fr wtr2 σ τ ∧ TKr b n (skp b n q) τ := by
  have hT' := hT
  obtain ⟨hL, h6, ⟨n0, n8⟩, hb, hw⟩ := hT'
  have hs := skp_bd b q1
  generalize hP : skp b n q = P at hs
  have hal := al_I (c := 1) (B := aU1 c12_token_b0) (n := n) (i := q) (vs := [130]) (σ := σ)
    (fun i vs τ => q ≤ i ∧ vs = [130] ∧ Fr wtr2 σ τ ∧ aget τ 130 7 = i ∧ skp b n i = P)
    (fun r => ∃ τ, r = (53, [130], τ) ∧ Fr wtr2 σ τ ∧ aget τ 130 7 = P ∧ skp b n P = P) q1 (by omega) ⟨Int.le_refl _, rfl, Fr.rf _ _, h7, hP⟩ ?_
  · obtain ⟨r, hr, φ, rfl, hF1, e7, hPP⟩ := hal
    have start : ∀ r : aR, c12_token_p52 130 φ = r → c12_token 130 σ = r := by
      intro r h
      unfold c12_token c12_token_l0
      rw [hr]
      exact h
    obtain ⟨υ, hυ⟩ : ∃ υ, υ = aput φ 130 10 P := ⟨_, rfl⟩
    have f1 : Fr wtr2 φ υ := by rw [hυ]; exact (Fr.rf _ _).put _ rfl
    have hSu : TSr b n υ := (hT.t hF1).t f1
    have hLu := hSu.1
    have u7 : aget υ 130 7 = P := by rw [hυ, ag_j (by omega)]; exact e7
    have u10 : aget υ 130 10 = P := by rw [hυ, ag_s]
    have u6 : aget υ 130 6 = n := hSu.2.1
    have fin : ∀ τ, Fr wtr2 υ τ → aget τ 130 10 = P → aget τ 130 7 = (if P < n then tke b n P else n) → KR (kd b n P) (vlt b n P) (aget τ 130 8) (aget τ 130 9) → Fr wtr2 σ τ ∧ TKr b n P τ := fun τ hF a c d =>
      ⟨hF1.tr (f1.tr hF), hSu.t hF, ⟨by omega, hs.2⟩, a, c, d⟩
    by_cases c : P = n
    · have h := fin (aput υ 130 8 0) ((Fr.rf _ _).put _ rfl) (by rw [ag_j (by omega)]; exact u10) (by rw [ag_j (by omega), u7, if_neg (by omega)]; exact c) (by
        unfold KR kd
        rw [if_neg (by omega)]
        exact Or.inl ⟨rfl, ag_s _ _ _ _⟩)
      refine ⟨_, start _ ?_, h.1, h.2⟩
      unfold c12_token_p52
      rw [e7, ← hυ, u7, u6]
      exact if_pos c
    · have c' : P < n := by omega
      have ekd : kd b n P = tkc b n P := if_pos c'
      have evl : vlt b n P = tkv b n P := if_pos c'
      have cs := tkc_cs b n P
      have he := tke_bd b c'
      have st2' : ∀ r : aR, (acall1 (c12_isSmall 130 P υ) fun v1 σ1 => (if v1 = 0 then (acall1 (c12_isDigit 130 (aget σ1 130 7) σ1) fun v2 σ2 => (if v2 = 0 then (if aget σ2 130 0 = 0 then none else (if (0 : Int) ≤ aget σ2 130 7 ∧ aget σ2 130 7 < alen σ2 (aget σ2 130 0) then (if aget (aput σ2 130 9 (aget σ2 (aget σ2 130 0) (aget σ2 130 7))) 130 9 = 59 then c12_token_p353 130 (aput σ2 130 9 (aget σ2 (aget σ2 130 0) (aget σ2 130 7))) else (if aget (aput σ2 130 9 (aget σ2 (aget σ2 130 0) (aget σ2 130 7))) 130 9 = 40 then c12_token_p353 130 (aput σ2 130 9 (aget σ2 (aget σ2 130 0) (aget σ2 130 7))) else (if aget (aput σ2 130 9 (aget σ2 (aget σ2 130 0) (aget σ2 130 7))) 130 9 = 41 then c12_token_p353 130 (aput σ2 130 9 (aget σ2 (aget σ2 130 0) (aget σ2 130 7))) else (if aget (aput σ2 130 9 (aget σ2 (aget σ2 130 0) (aget σ2 130 7))) 130 9 = 43 then c12_token_p353 130 (aput σ2 130 9 (aget σ2 (aget σ2 130 0) (aget σ2 130 7))) else (if aget (aput σ2 130 9 (aget σ2 (aget σ2 130 0) (aget σ2 130 7))) 130 9 = 45 then c12_token_p353 130 (aput σ2 130 9 (aget σ2 (aget σ2 130 0) (aget σ2 130 7))) else (if aget (aput σ2 130 9 (aget σ2 (aget σ2 130 0) (aget σ2 130 7))) 130 9 = 42 then c12_token_p353 130 (aput σ2 130 9 (aget σ2 (aget σ2 130 0) (aget σ2 130 7))) else (if aget (aput σ2 130 9 (aget σ2 (aget σ2 130 0) (aget σ2 130 7))) 130 9 = 47 then c12_token_p353 130 (aput σ2 130 9 (aget σ2 (aget σ2 130 0) (aget σ2 130 7))) else c12_token_p358 0 130 (aput σ2 130 9 (aget σ2 (aget σ2 130 0) (aget σ2 130 7)))))))))) else none)) else c12_token_l212 130 (aput (aput σ2 130 8 3) 130 9 0))) else c12_token_l90 130 σ1)) = r → c12_token 130 σ = r := by
        intro r h
        refine start _ ?_
        unfold c12_token_p52
        rw [e7, ← hυ, u7, u6, if_neg c]
        exact h
      rcases cs with ⟨hl, hk⟩ | ⟨hl, hd, hk⟩ | ⟨hl, hd, hk⟩
      · have hal2 := al_I (c := 91) (B := aU1 c12_token_b90) (n := n) (i := P) (vs := [130]) (σ := υ)
          (fun i vs τ => P ≤ i ∧ vs = [130] ∧ Fr wtr2 υ τ ∧ aget τ 130 7 = i ∧ aget τ 130 10 = P ∧ whl (fun j => chl (b j)) n i = tke b n P)
          (fun r => ∃ τ, r = (115, [130], τ) ∧ Fr wtr2 υ τ ∧ aget τ 130 7 = tke b n P ∧ aget τ 130 10 = P) (by omega) (by omega)
          ⟨Int.le_refl _, rfl, Fr.rf _ _, u7, u10, by unfold tke; rw [if_pos hl]; exact whl_s c' hl⟩ ?_
        · obtain ⟨r, hr2, ψ, rfl, hF2, p7, p10⟩ := hal2
          have hSp : TSr b n ψ := hSu.t hF2
          have hll := tke_l c' hl
          have hwd := c12_wordAt_ok hSp (p := P) (e := tke b n P) (by omega) (by omega) he.2
          have go : ∀ r : aR, c12_token_p114 130 ψ = r → c12_token 130 σ = r := by
            intro r h
            refine st2' _ ?_
            rw [c12_isSmall_ok hSu (by omega), acall1_some, if_pos (show P < n ∧ chl (b P) = true from ⟨c', hl⟩), if_neg (show ¬ (1 : Int) = 0 by omega)]
            unfold c12_token_l90
            rw [hr2]
            exact h
          have etk : tkc b n P = if kwI b P (tke b n P) < 16 then 100 + kwI b P (tke b n P) else if 6 < tke b n P - P then 1 else 3 := if_pos hl
          have kb := kwI_bd b P (tke b n P)
          rcases rwI_kw b P (tke b n P) with ⟨k1, k2⟩ | ⟨k1, k2⟩
          · obtain ⟨r1, r2, r3⟩ := rk_F ⟨(kwI b P (tke b n P)).toNat, by omega⟩
            have ec : (((kwI b P (tke b n P)).toNat : Nat) : Int) = kwI b P (tke b n P) := Int.toNat_of_nonneg kb.1
            have r2 : 0 ≤ rkw (((kwI b P (tke b n P)).toNat : Nat) : Int) := r2
            have r3 : rkw (((kwI b P (tke b n P)).toNat : Nat) : Int) < 16 := r3
            rw [ec] at r2 r3
            rw [if_pos k1] at etk
            rw [k2, if_pos r3] at hwd
            have f3 : Fr wtr2 υ (aput (aput ψ 130 9 (rkw (kwI b P (tke b n P)))) 130 8 1) := (hF2.put _ rfl).put _ rfl
            have h := fin _ f3 (by rw [ag_j (by omega), ag_j (by omega)]; exact p10) (by rw [ag_j (by omega), ag_j (by omega), if_pos c']; exact p7) (by
              unfold KR
              rw [ekd, etk, ag_s, ag_j (by omega), ag_s]
              refine Or.inr (Or.inr (Or.inr (Or.inr (Or.inl ⟨by omega, rfl, ?_⟩))))
              rw [show 100 + kwI b P (tke b n P) - 100 = kwI b P (tke b n P) by omega])
            refine ⟨_, go _ ?_, h.1, h.2⟩
            unfold c12_token_p114
            rw [p10, p7, hwd, acall1_some, ag_s, if_neg (by omega)]
            unfold c12_token_p161
            rw [ag_s]
            exact if_neg (by omega)
          · rw [if_neg (show ¬ kwI b P (tke b n P) < 16 by omega)] at etk
            rw [k2, if_neg (by omega)] at hwd
            by_cases l6 : 6 < tke b n P - P
            · rw [if_pos l6] at etk
              have f3 : Fr wtr2 υ (aput (aput ψ 130 9 (-1)) 130 8 5) := (hF2.put _ rfl).put _ rfl
              have h := fin _ f3 (by rw [ag_j (by omega), ag_j (by omega)]; exact p10) (by rw [ag_j (by omega), ag_j (by omega), if_pos c']; exact p7) (by
                unfold KR
                rw [ekd, etk, ag_s]
                exact Or.inr (Or.inl ⟨rfl, rfl⟩))
              refine ⟨_, go _ ?_, h.1, h.2⟩
              unfold c12_token_p114
              rw [p10, p7, hwd, acall1_some, ag_s, if_pos (by omega), ag_j (by omega), ag_j (by omega), p7, p10, wq (by omega) (by omega), if_pos l6]
              unfold c12_token_p161
              rw [ag_s]
              exact if_neg (by omega)
            · rw [if_neg l6] at etk
              have f3 : Fr wtr2 υ (aput (aput ψ 130 9 (-1)) 130 8 2) := (hF2.put _ rfl).put _ rfl
              have hS3 : TSr b n (aput (aput ψ 130 9 (-1)) 130 8 2) := hSu.t f3
              have hpk := c12_packed_ok hS3 (p := P) (e := tke b n P) (by omega) (by omega) he.2 hll
              have h := fin _ (f3.put (x := 130) (j := 9) (pcf b P (tke b n P) 6) rfl) (by rw [ag_j (by omega), ag_j (by omega), ag_j (by omega)]; exact p10) (by rw [ag_j (by omega), ag_j (by omega), ag_j (by omega), if_pos c']; exact p7) (by
                unfold KR
                rw [ekd, etk, evl, ag_j (by omega), ag_s, ag_s]
                refine Or.inr (Or.inr (Or.inr (Or.inl ⟨rfl, rfl, ?_⟩)))
                unfold tkv
                rw [etk, if_neg (by omega), if_pos rfl])
              refine ⟨_, go _ ?_, h.1, h.2⟩
              unfold c12_token_p114
              rw [p10, p7, hwd, acall1_some, ag_s, if_pos (by omega), ag_j (by omega), ag_j (by omega), p7, p10, wq (by omega) (by omega), if_neg l6]
              unfold c12_token_p161
              rw [ag_s, if_pos rfl, ag_j (by omega), ag_j (by omega), p10, ag_j (by omega), ag_j (by omega), p7, hpk, acall1_some]
        · rintro i vs τ hi ⟨i0, rfl, hF, i7, i10, hwl⟩
          have hSt : TSr b n τ := hSu.t hF
          have hsm := c12_isSmall_ok hSt (k := i) (by omega)
          by_cases d : i < n ∧ chl (b i) = true
          · rw [if_pos d] at hsm
            refine Or.inl ⟨d.1, [130], aput τ 130 7 (i + 1), ?_, by omega, rfl, hF.put _ rfl, ag_s _ _ _ _, by rw [ag_j (by omega)]; exact i10, by rw [← hwl]; exact (whl_s d.1 d.2).symm⟩
            show c12_token_b90 130 τ = _
            unfold c12_token_b90
            rw [i7, hsm, acall1_some, i7, wq (by omega) (by omega)]
            exact if_neg (by omega)
          · rw [if_neg d] at hsm
            have hie : i = tke b n P := by
              rw [← hwl]
              by_cases e : i < n
              · exact (whl_e e (Bool.eq_false_iff.2 (fun w => d ⟨e, w⟩))).symm
              · rw [show i = n by omega]; exact (whl_n _ _).symm
            refine Or.inr ⟨(115, [130], τ), ?_, Nat.ne_of_beq_eq_false rfl, τ, rfl, hF, by rw [i7]; exact hie, i10⟩
            show c12_token_b90 130 τ = _
            unfold c12_token_b90
            rw [i7, hsm, acall1_some]
            exact if_pos rfl
      · have hdd := tke_d c' hl hd
        obtain ⟨ω, hω⟩ : ∃ ω, ω = aput (aput υ 130 8 3) 130 9 0 := ⟨_, rfl⟩
        have f2 : Fr wtr2 υ ω := by rw [hω]; exact ((Fr.rf _ _).put _ rfl).put _ rfl
        have hal2 := al_I (c := 213) (B := aU1 c12_token_b212) (n := n) (i := P) (vs := [130]) (σ := ω)
          (fun i vs τ => P ≤ i ∧ vs = [130] ∧ Fr wtr2 υ τ ∧ aget τ 130 7 = i ∧ aget τ 130 10 = P ∧ aget τ 130 8 = 3 ∧ aget τ 130 9 = rnf b P (i - P).toNat ∧ whl (fun j => chd (b j)) n i = tke b n P)
          (fun r => ∃ τ, r = (0, [], τ) ∧ Fr wtr2 υ τ ∧ aget τ 130 7 = tke b n P ∧ aget τ 130 10 = P ∧ aget τ 130 8 = 3 ∧ aget τ 130 9 = rnf b P (tke b n P - P).toNat) (by omega) (by omega)
          ⟨Int.le_refl _, rfl, f2, by rw [hω, ag_j (by omega), ag_j (by omega)]; exact u7, by rw [hω, ag_j (by omega), ag_j (by omega)]; exact u10, by rw [hω, ag_j (by omega), ag_s], by rw [hω, ag_s, Int.sub_self]; rfl, by unfold tke; rw [if_neg (by rw [hl]; decide), if_pos hd]; exact whl_s c' hd⟩ ?_
        · obtain ⟨r, hr2, ψ, rfl, hF2, p7, p10, p8, p9⟩ := hal2
          have hrn := rnf_nfd (b := b) (p := P) (tke b n P - P).toNat (fun j hj => hdd (P + j) (by omega) (by omega))
          have h := fin _ hF2 p10 (by rw [if_pos c']; exact p7) (by
            unfold KR
            rw [ekd, hk, p8, p9, evl]
            refine Or.inr (Or.inr (Or.inl ⟨rfl, rfl, hrn.1.1, ?_⟩))
            have ev : tkv b n P = nfd b P (tke b n P - P).toNat := by unfold tkv; rw [if_pos hk]
            rw [ev]
            rcases hrn.2 with ⟨a, e⟩ | ⟨a, e⟩
            · exact Or.inl ⟨a, e⟩
            · exact Or.inr ⟨a, e⟩)
          refine ⟨_, st2' _ ?_, h.1, h.2⟩
          rw [c12_isSmall_ok hSu (by omega), acall1_some, if_neg (show ¬ (P < n ∧ chl (b P) = true) from fun z => by rw [hl] at z; exact absurd z.2 (by decide)), if_pos rfl, u7, c12_isDigit_ok hSu (by omega), acall1_some, if_pos (show P < n ∧ chd (b P) = true from ⟨c', hd⟩), if_neg (show ¬ (1 : Int) = 0 by omega), ← hω]
          unfold c12_token_l212
          rw [hr2]; rfl
        · rintro i vs τ hi ⟨i0, rfl, hF, i7, i10, i8, i9, hwl⟩
          have hSt : TSr b n τ := hSu.t hF
          have hsm := c12_isDigit_ok hSt (k := i) (by omega)
          have hwb := whl_bd (fun j => chd (b j)) hi
          have hrn := rnf_nfd (b := b) (p := P) (i - P).toNat (fun j hj => hdd (P + j) (by omega) (by omega))
          by_cases d : i < n ∧ chd (b i) = true
          · rw [if_pos d] at hsm
            have hbi := hSt.2.2.2.1 i (by omega) d.1
            have hdi := chd_t.1 d.2
            have p261 : ∀ v, c12_token_p261 v 130 130 τ = some (213, [130], aput (aput τ 130 9 v) 130 7 (i + 1)) := fun v => by
              unfold c12_token_p261
              rw [ag_j (by omega), i7, wq (by omega) (by omega)]
            have enx : rnf b P (i + 1 - P).toNat = if 999 < rnf b P (i - P).toNat then rnf b P (i - P).toNat else 10 * rnf b P (i - P).toNat + b i - 48 := by
              rw [show (i + 1 - P).toNat = (i - P).toNat + 1 by omega]
              show (if 999 < rnf b P (i - P).toNat then rnf b P (i - P).toNat else 10 * rnf b P (i - P).toNat + b (P + ((i - P).toNat : Nat)) - 48) = _
              rw [show P + (((i - P).toNat : Nat) : Int) = i by omega]
            refine Or.inl ⟨d.1, [130], aput (aput τ 130 9 (rnf b P (i + 1 - P).toNat)) 130 7 (i + 1), ?_, by omega, rfl, (hF.put _ rfl).put _ rfl, ag_s _ _ _ _, by rw [ag_j (by omega), ag_j (by omega)]; exact i10, by rw [ag_j (by omega), ag_j (by omega)]; exact i8, by rw [ag_j (by omega), ag_s], by rw [← hwl]; exact (whl_s d.1 d.2).symm⟩
            rw [enx]
            show c12_token_b212 130 τ = _
            unfold c12_token_b212
            rw [i7, hsm, acall1_some, if_neg (show ¬ (1 : Int) = 0 by omega), i9]
            by_cases w : 999 < rnf b P (i - P).toNat
            · rw [if_pos w, if_pos w]; exact p261 _
            · have e1 : w32 (10 * rnf b P (i - P).toNat) = 10 * rnf b P (i - P).toNat := wq (by omega) (by omega)
              have e2 : w32 (10 * rnf b P (i - P).toNat + b i) = 10 * rnf b P (i - P).toNat + b i := wq (by omega) (by omega)
              have e3 : w32 (10 * rnf b P (i - P).toNat + b i - 48) = 10 * rnf b P (i - P).toNat + b i - 48 := wq (by omega) (by omega)
              rw [if_neg w, if_neg w, r_130_0 hSt.1, n_131 hSt.1, i7, hbi, e1, e2, e3, if_neg (by omega), if_pos (show 0 ≤ i ∧ i < 800 by omega)]
              exact p261 _
          · rw [if_neg d] at hsm
            have hie : i = tke b n P := by
              rw [← hwl]
              by_cases e : i < n
              · exact (whl_e e (Bool.eq_false_iff.2 (fun w => d ⟨e, w⟩))).symm
              · rw [show i = n by omega]; exact (whl_n _ _).symm
            refine Or.inr ⟨(0, [], τ), ?_, Nat.ne_of_beq_eq_false rfl, τ, rfl, hF, by rw [i7]; exact hie, i10, i8, by rw [i9, hie]⟩
            show c12_token_b212 130 τ = _
            unfold c12_token_b212
            rw [i7, hsm, acall1_some]
            exact if_pos rfl
      · have hbP := hSu.2.2.2.1 P (by omega) c'
        have etke : tke b n P = P + 1 := by unfold tke; rw [if_neg (by rw [hl]; decide), if_neg (by rw [hd]; decide)]
        obtain ⟨ω, hω⟩ : ∃ ω, ω = aput υ 130 9 (b P) := ⟨_, rfl⟩
        have f2 : Fr wtr2 υ ω := by rw [hω]; exact (Fr.rf _ _).put _ rfl
        have w9 : aget ω 130 9 = b P := by rw [hω, ag_s]
        have w7 : aget ω 130 7 = P := by rw [hω, ag_j (by omega)]; exact u7
        have w10 : aget ω 130 10 = P := by rw [hω, ag_j (by omega)]; exact u10
        have p369 : ∀ kk, c12_token_p369 kk 130 130 ω = some (0, [], aput (aput ω 130 8 kk) 130 7 (P + 1)) := fun kk => by
          unfold c12_token_p369
          rw [ag_j (by omega), w7, wq (by omega) (by omega)]
        have finS : ∀ kk, KR (tkc b n P) (tkv b n P) kk (b P) → ∀ r : aR, c12_token 130 σ = some (0, [], aput (aput ω 130 8 kk) 130 7 (P + 1)) → ∃ τ, c12_token 130 σ = some (0, [], τ) ∧ Fr wtr2 σ τ ∧ TKr b n P τ := fun kk hkr r h1 => by
          have h := fin (aput (aput ω 130 8 kk) 130 7 (P + 1)) ((f2.put _ rfl).put _ rfl) (by rw [ag_j (by omega), ag_j (by omega)]; exact w10) (by rw [ag_s, if_pos c', etke]) (by
            rw [ekd, evl, ag_j (by omega), ag_s, ag_j (by omega), ag_j (by omega), w9]; exact hkr)
          exact ⟨_, h1, h.1, h.2⟩
        have reach : ∀ r : aR, (if b P = 59 then c12_token_p353 130 ω else if b P = 40 then c12_token_p353 130 ω else if b P = 41 then c12_token_p353 130 ω else if b P = 43 then c12_token_p353 130 ω else if b P = 45 then c12_token_p353 130 ω else if b P = 42 then c12_token_p353 130 ω else if b P = 47 then c12_token_p353 130 ω else c12_token_p358 0 130 ω) = r → c12_token 130 σ = r := by
          intro r h
          refine st2' _ ?_
          rw [c12_isSmall_ok hSu (by omega), acall1_some, if_neg (show ¬ (P < n ∧ chl (b P) = true) from fun z => by rw [hl] at z; exact absurd z.2 (by decide)), if_pos rfl, u7, c12_isDigit_ok hSu (by omega), acall1_some, if_neg (show ¬ (P < n ∧ chd (b P) = true) from fun z => by rw [hd] at z; exact absurd z.2 (by decide)), if_pos rfl, r_130_0 hLu, n_131 hLu, u7, hbP, ← hω, w9]
          exact ite_n (by omega) (ite_p (by omega) h)
        have p353 : c12_token_p353 130 ω = some (0, [], aput (aput ω 130 8 4) 130 7 (P + 1)) := by
          unfold c12_token_p353 c12_token_p358
          rw [if_neg (by omega)]; exact p369 4
        rcases sgk_bd (b P) with s | ⟨s, s'⟩
        · refine finS 5 (by rw [hk, s]; exact Or.inr (Or.inl ⟨rfl, rfl⟩)) none (reach _ ?_)
          have ns : b P ≠ 59 ∧ b P ≠ 40 ∧ b P ≠ 41 ∧ b P ≠ 43 ∧ b P ≠ 45 ∧ b P ≠ 42 ∧ b P ≠ 47 := by
            unfold sgk at s
            refine ⟨fun z => ?_, fun z => ?_, fun z => ?_, fun z => ?_, fun z => ?_, fun z => ?_, fun z => ?_⟩ <;> (rw [z] at s; simp at s)
          rw [if_neg ns.1, if_neg ns.2.1, if_neg ns.2.2.1, if_neg ns.2.2.2.1, if_neg ns.2.2.2.2.1, if_neg ns.2.2.2.2.2.1, if_neg ns.2.2.2.2.2.2]
          unfold c12_token_p358
          rw [if_pos rfl]; exact p369 5
        · refine finS 4 (by rw [hk]; exact Or.inr (Or.inr (Or.inr (Or.inr (Or.inr ⟨s, rfl, s'.symm⟩))))) none (reach _ ?_)
          rw [s'] at s
          rw [p353]
          repeat' split
          all_goals first
            | rfl
            | (exfalso; omega)
  · rintro i vs τ hi ⟨i0, rfl, hF, i7, hsi⟩
    have hSt : TSr b n τ := hT.t hF
    have hLt := hSt.1
    have nb : (i = n ∨ (i < n ∧ chb (b i) = false)) → ∀ r : aR, r = some (53, [130], τ) → aU1 c12_token_b0 [130] τ = r → ∃ r', aU1 c12_token_b0 [130] τ = some r' ∧ r'.1 ≠ 1 ∧ ∃ τ, r' = (53, [130], τ) ∧ Fr wtr2 σ τ ∧ aget τ 130 7 = P ∧ skp b n P = P := fun hc r hr hb' => by
      have hiP : i = P := by
        rw [← hsi]
        rcases hc with e | ⟨e, e2⟩
        · rw [e]; exact (whl_n _ _).symm
        · exact (whl_e e e2).symm
      exact ⟨(53, [130], τ), by rw [hb', hr], Nat.ne_of_beq_eq_false rfl, τ, rfl, hF, by rw [i7, hiP], by rw [← hiP, hsi, hiP]⟩
    by_cases c : i < n
    · have hbi := hSt.2.2.2.1 i (by omega) c
      have st : ∀ r : aR, (if b i = 10 then c12_token_p39 130 τ else if b i = 32 then c12_token_p39 130 τ else some (53, [130], τ)) = r → aU1 c12_token_b0 [130] τ = r := by
        intro r hr
        show c12_token_b0 130 τ = r
        unfold c12_token_b0
        rw [i7, hSt.2.1, r_130_0 hLt, n_131 hLt, hbi]
        refine ite_p c (ite_n (by omega) (ite_p (by omega) ?_))
        rw [← hr]
        by_cases z : b i = 10
        · rw [if_pos z, if_pos z]
        · rw [if_neg z, if_neg z]; exact ite_n (by omega) (ite_p (by omega) rfl)
      have p39 : c12_token_p39 130 τ = some (1, [130], aput τ 130 7 (i + 1)) := by
        unfold c12_token_p39; rw [i7, wq (by omega) (by omega)]
      by_cases bl : chb (b i) = true
      · refine Or.inl ⟨c, [130], aput τ 130 7 (i + 1), st _ ?_, by omega, rfl, hF.put _ rfl, ag_s _ _ _ _, by rw [← hsi]; exact (whl_s c bl).symm⟩
        by_cases z : b i = 10
        · rw [if_pos z]; exact p39
        · rw [if_neg z, if_pos (by rw [chb_t] at bl; omega)]; exact p39
      · have bl' := Bool.eq_false_iff.2 bl
        refine Or.inr (nb (Or.inr ⟨c, bl'⟩) _ rfl (st _ ?_))
        rw [if_neg (fun z => bl (chb_t.2 (Or.inl z))), if_neg (fun z => bl (chb_t.2 (Or.inr z)))]
    · refine Or.inr (nb (Or.inl (by omega)) _ rfl ?_)
      show c12_token_b0 130 τ = _
      unfold c12_token_b0
      rw [i7, hSt.2.1]
      exact ite_n c rfl
