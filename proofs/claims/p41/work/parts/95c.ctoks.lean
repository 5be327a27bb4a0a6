/-! the class's half of whole's part of this name -/
def TSc (b : Int → Int) (n : Int) (σ : aS) : Prop := LR σ ∧ aget σ 2 5 = n ∧ (0 ≤ n ∧ n ≤ 800) ∧ ∀ j, 0 ≤ j → j < n → aget σ 3 j = b j
theorem c10_isLetter_ok (c : Int) (σ : aS) : c10_isLetter c σ = some (0, [if chl c = true then 1 else 0], σ) := by
  unfold c10_isLetter
  by_cases h : 97 ≤ c ∧ c ≤ 122
  · rw [if_pos (chl_t.2 h)]; exact ite_n (by omega) (ite_n (by omega) (ite_p (by omega) rfl))
  · rw [if_neg (fun q => h (chl_t.1 q))]
    by_cases d : c < 97
    · exact ite_p d (ite_p (by omega) rfl)
    · exact ite_n d (ite_p (by omega) (ite_p (by omega) rfl))
theorem c10_isDigit_ok (c : Int) (σ : aS) : c10_isDigit c σ = some (0, [if chd c = true then 1 else 0], σ) := by
  unfold c10_isDigit
  by_cases h : 48 ≤ c ∧ c ≤ 57
  · rw [if_pos (chd_t.2 h)]; exact ite_n (by omega) (ite_n (by omega) (ite_p (by omega) rfl))
  · rw [if_neg (fun q => h (chd_t.1 q))]
    by_cases d : c < 48
    · exact ite_p d (ite_p (by omega) rfl)
    · exact ite_n d (ite_p (by omega) (ite_p (by omega) rfl))
theorem c10_lastOf_ok {b : Int → Int} {n p : Int} {σ : aS} (hT : TSc b n σ) (p0 : 0 ≤ p) (p1 : p < n) : c10_lastOf 2 p σ = some (0, [tke b n p - 1], σ) := by
  obtain ⟨hL, h5, ⟨n0, n8⟩, hb⟩ := hT
  have hal := al_I (c := 3) (B := aU3 c10_lastOf_b2) (n := n) (i := p) (vs := [2, p, p]) (σ := σ)
    (fun l vs τ => p ≤ l ∧ l < n ∧ vs = [2, p, l] ∧ τ = σ ∧ whl (tkf b p) n (l + 1) = tke b n p)
    (fun r => r = (0, [tke b n p - 1], σ)) (by omega) (by omega) ⟨Int.le_refl _, p1, rfl, rfl, (tke_f b p1).symm⟩ ?_
  · obtain ⟨r, hr, rfl⟩ := hal
    unfold c10_lastOf c10_lastOf_l2
    rw [hr]; rfl
  · rintro l vs τ hl ⟨l0, l1, rfl, rfl, hw⟩
    by_cases c : l + 1 < n
    · have hp := hb p p0 p1
      have hq := hb (l + 1) (by omega) c
      have p64 : c10_lastOf_p64 2 p l τ = some (3, [2, p, l + 1], τ) := by unfold c10_lastOf_p64; rw [wq (by omega) (by omega)]
      have ex : tkf b p (l + 1) = false → (some (0, [l], τ) : aR) = some (0, [tke b n p - 1], τ) := fun q => by
        rw [whl_e c q] at hw; rw [← hw, show l + 1 - 1 = l by omega]
      have p38 : chl (b p) = false ∨ chl (b (l + 1)) = false → c10_lastOf_p38 2 p l τ = if (chd (b p) = true ∧ chd (b (l + 1)) = true) then some (3, [2, p, l + 1], τ) else some (0, [l], τ) := fun _ => by
        unfold c10_lastOf_p38
        rw [r_2_0 hL, n_3 hL, hp, c10_isDigit_ok, acall1_some, wq (x := l + 1) (by omega) (by omega)]
        refine ite_n (by omega) (ite_p (by omega) ?_)
        by_cases d1 : chd (b p) = true
        · rw [if_pos d1, r_2_0 hL, n_3 hL, hq, c10_isDigit_ok, acall1_some]
          refine ite_n (by omega) (ite_n (by omega) (ite_p (by omega) ?_))
          by_cases d2 : chd (b (l + 1)) = true
          · rw [if_pos d2, if_pos (show chd (b p) = true ∧ chd (b (l + 1)) = true from ⟨d1, d2⟩)]; exact ite_n (by omega) p64
          · rw [if_neg d2, if_neg (show ¬ (chd (b p) = true ∧ chd (b (l + 1)) = true) from fun q => d2 q.2)]; exact ite_p rfl rfl
        · rw [if_neg d1, if_neg (show ¬ (chd (b p) = true ∧ chd (b (l + 1)) = true) from fun q => d1 q.1)]; exact ite_p rfl rfl
      have st : ∀ r : aR, (if chl (b p) = true then (if chl (b (l + 1)) = true then c10_lastOf_p64 2 p l τ else c10_lastOf_p38 2 p l τ) else c10_lastOf_p38 2 p l τ) = r → aU3 c10_lastOf_b2 [2, p, l] τ = r := by
        intro r hr
        show c10_lastOf_b2 2 p l τ = r
        unfold c10_lastOf_b2
        rw [h5, r_2_0 hL, n_3 hL, hp, c10_isLetter_ok, acall1_some, wq (x := l + 1) (by omega) (by omega)]
        refine ite_p c (ite_n (by omega) (ite_p (by omega) ?_))
        rw [← hr]
        by_cases d1 : chl (b p) = true
        · rw [if_pos d1, if_pos d1, r_2_0 hL, n_3 hL, hq, c10_isLetter_ok, acall1_some]
          refine ite_n (by omega) (ite_n (by omega) (ite_p (by omega) ?_))
          by_cases d2 : chl (b (l + 1)) = true
          · rw [if_pos d2, if_pos d2]; exact ite_n (by omega) rfl
          · rw [if_neg d2, if_neg d2]; exact ite_p rfl rfl
        · rw [if_neg d1, if_neg d1]; exact ite_p rfl rfl
      by_cases q : tkf b p (l + 1) = true
      · refine Or.inl ⟨by omega, [2, p, l + 1], τ, st _ ?_, by omega, c, rfl, rfl, by rw [← hw]; exact (whl_s c q).symm⟩
        unfold tkf at q
        by_cases d1 : chl (b p) = true
        · rw [if_pos d1] at q
          rw [if_pos d1, if_pos q]; exact p64
        · rw [if_neg d1] at q
          rw [if_neg d1, p38 (Or.inl (Bool.eq_false_iff.2 d1))]
          by_cases d2 : chd (b p) = true
          · rw [if_pos d2] at q
            exact if_pos ⟨d2, q⟩
          · rw [if_neg d2] at q; cases q
      · have q' := Bool.eq_false_iff.2 q
        refine Or.inr ⟨_, st _ ?_, Nat.ne_of_beq_eq_false rfl, rfl⟩
        rw [← ex q']
        unfold tkf at q
        by_cases d1 : chl (b p) = true
        · rw [if_pos d1] at q
          have dd : ¬ chd (b p) = true := fun w => by rw [chl_t] at d1; rw [chd_t] at w; omega
          rw [if_pos d1, if_neg q, p38 (Or.inr (Bool.eq_false_iff.2 q))]
          exact if_neg (fun w => dd w.1)
        · rw [if_neg d1] at q
          rw [if_neg d1, p38 (Or.inl (Bool.eq_false_iff.2 d1))]
          by_cases d2 : chd (b p) = true
          · rw [if_pos d2] at q; exact if_neg (fun w => q w.2)
          · exact if_neg (fun w => d2 w.1)
    · have e : l + 1 = n := by omega
      rw [e, whl_n] at hw
      refine Or.inr ⟨_, ?_, Nat.ne_of_beq_eq_false rfl, rfl⟩
      rw [← hw, ← e, show l + 1 - 1 = l by omega]
      show c10_lastOf_b2 2 p l τ = _
      unfold c10_lastOf_b2
      rw [h5, wq (x := l + 1) (by omega) (by omega)]
      exact ite_n c rfl
def bgs (k : Int) : Int := ([0, 5, 11, 17, 22, 27, 33, 39, 45, 49, 56, 62, 70, 75, 80, 85, 89] : List Int).getD k.toNat 89
def wdk (k : Int) : List Int := wds.getD k.toNat []
theorem wd_F : ∀ k : Fin 16, (wdk k.val).length < 8 ∧ 2 < (wdk k.val).length ∧ bgs k.val + (wdk k.val).length + 1 = bgs (k.val + 1) ∧ 0 ≤ bgs k.val ∧ bgs (k.val + 1) ≤ 89 ∧ wtext.getD (bgs k.val + (wdk k.val).length).toNat 0 = 32 ∧
    ∀ j : Fin 8, j.val < (wdk k.val).length → wtext.getD (bgs k.val + (j.val : Int)).toNat 0 = (wdk k.val).getD j.val 0 ∧ (wdk k.val).getD j.val 0 ≠ 32 := by decide +kernel
theorem wd_f {k : Int} (k0 : 0 ≤ k) (k1 : k < 16) : ((wdk k).length < 8 ∧ 2 < (wdk k).length) ∧ bgs k + (wdk k).length + 1 = bgs (k + 1) ∧ 0 ≤ bgs k ∧ bgs (k + 1) ≤ 89 ∧ wtext.getD (bgs k + (wdk k).length).toNat 0 = 32 ∧
    ∀ j : Int, 0 ≤ j → j < (wdk k).length → wtext.getD (bgs k + j).toNat 0 = (wdk k).getD j.toNat 0 ∧ (wdk k).getD j.toNat 0 ≠ 32 := by
  obtain ⟨m, rfl⟩ := Int.eq_ofNat_of_zero_le k0
  obtain ⟨a, a', b, c, d, e, f⟩ := wd_F ⟨m, by omega⟩
  refine ⟨⟨a, a'⟩, b, c, d, e, fun j j0 j1 => ?_⟩
  obtain ⟨i, rfl⟩ := Int.eq_ofNat_of_zero_le j0
  rw [Int.toNat_natCast]
  have a2 : (wdk (m : Int)).length < 8 := a
  exact f ⟨i, by omega⟩ (by show i < (wdk (m : Int)).length; omega)
theorem c10_isSame_ok {b : Int → Int} {n p e k : Int} {σ : aS} (hT : TSc b n σ) (p0 : 0 ≤ p) (pe : p ≤ e) (e1 : e ≤ n) (k0 : 0 ≤ k) (k1 : k < 16) (hl : e - p = (wdk k).length) :
    c10_isSame 2 (bgs k) p e σ = some (0, [if mtc (wdk k) b p e = true then 1 else 0], σ) := by
  obtain ⟨hL, h5, ⟨n0, n8⟩, hb⟩ := hT
  obtain ⟨⟨l8, l2⟩, wb, wb0, wb1, w32', wj⟩ := wd_f k0 k1
  have hal := al_I (c := 4) (B := aU5 c10_isSame_b3) (n := e) (i := p) (vs := [2, bgs k, p, e, p]) (σ := σ)
    (fun i vs τ => p ≤ i ∧ vs = [2, bgs k, p, e, i] ∧ τ = σ ∧ ∀ j : Int, 0 ≤ j → j < i - p → (wdk k).getD j.toNat 0 = b (p + j))
    (fun r => r = (0, [if mtc (wdk k) b p e = true then 1 else 0], σ)) (by omega) (by omega) ⟨Int.le_refl _, rfl, rfl, fun j j0 j1 => by omega⟩ ?_
  · obtain ⟨r, hr, rfl⟩ := hal
    unfold c10_isSame c10_isSame_l3
    rw [hr]; rfl
  · rintro i vs τ hi ⟨i0, rfl, rfl, hj⟩
    by_cases c : i < e
    · obtain ⟨g1, g2⟩ := wj (i - p) (by omega) (by omega)
      have e2 : w32 (bgs k + i) = bgs k + i := wq (by omega) (by omega)
      have e3 : w32 (bgs k + i - p) = bgs k + (i - p) := by rw [show bgs k + i - p = bgs k + (i - p) by omega]; exact wq (by omega) (by omega)
      have hc : jcharAt 0 (bgs k + (i - p)) τ = some (0, [(wdk k).getD (i - p).toNat 0], τ) := by
        unfold jcharAt
        rw [if_pos (show 0 ≤ bgs k + (i - p) ∧ bgs k + (i - p) < 89 by omega), g1]
      have st : ∀ r : aR, (if (wdk k).getD (i - p).toNat 0 = b i then some (4, [2, bgs k, p, e, i + 1], τ) else some (0, [0], τ)) = r → aU5 c10_isSame_b3 [2, bgs k, p, e, i] τ = r := by
        intro r hr
        show c10_isSame_b3 2 (bgs k) p e i τ = r
        unfold c10_isSame_b3
        rw [e2, e3, hc, acall1_some, r_2_0 hL, n_3 hL, hb i (by omega) (by omega), wq (x := i + 1) (by omega) (by omega)]
        refine ite_p c (ite_n (by omega) (ite_p (by omega) ?_))
        rw [← hr]
        by_cases q : (wdk k).getD (i - p).toNat 0 = b i
        · rw [if_pos q, if_pos q]
        · rw [if_neg q, if_neg q]; exact ite_p (by omega) rfl
      by_cases q : (wdk k).getD (i - p).toNat 0 = b i
      · refine Or.inl ⟨c, _, τ, st _ (if_pos q), by omega, rfl, rfl, fun j j0 j1 => ?_⟩
        by_cases z : j = i - p
        · rw [z, q]; exact congrArg b (by omega)
        · exact hj j j0 (by omega)
      · refine Or.inr ⟨_, st _ (if_neg q), Nat.ne_of_beq_eq_false rfl, ?_⟩
        rw [if_neg (fun w => q (by
          have := (mtc_t.1 w).2 (i - p) (by omega) (by omega)
          rw [show p + (i - p) = i by omega] at this; exact this))]
    · have ie : i = e := by omega
      subst ie
      refine Or.inr ⟨_, ?_, Nat.ne_of_beq_eq_false rfl, rfl⟩
      rw [if_pos (mtc_t.2 ⟨by omega, fun j j0 j1 => hj j j0 (by omega)⟩)]
      show c10_isSame_b3 2 (bgs k) p i i τ = _
      unfold c10_isSame_b3
      exact ite_n (by omega) (ite_p (by omega) rfl)
theorem c10_kindOfWord_ok {b : Int → Int} {n p e : Int} {σ : aS} (hT : TSc b n σ) (p0 : 0 ≤ p) (pe : p ≤ e) (e1 : e ≤ n) :
    c10_kindOfWord 2 p e σ = some (0, [if kwI b p e < 16 then 100 + kwI b p e else if 6 < e - p then 1 else 3], σ) := by
  have hT' := hT
  obtain ⟨hL, h5, ⟨n0, n8⟩, hb⟩ := hT'
  have x0 := ff_0 (fun i => mtc (wds.getD i.toNat []) b p e) (n := 16)
  have xn := ff_n (fun i => mtc (wds.getD i.toNat []) b p e) (n := 16) (by omega)
  have xat := ff_at (P := fun i => mtc (wds.getD i.toNat []) b p e) (n := 16)
  have xno := fun k => ff_no (P := fun i => mtc (wds.getD i.toNat []) b p e) (n := 16) (k := k)
  unfold kwI
  generalize ff (fun i => mtc (wds.getD i.toNat []) b p e) 16 = X at x0 xn xat xno
  have hal := al_I (c := 10) (B := aU6 c10_kindOfWord_b9) (n := 89) (i := 0) (vs := [2, p, e, 100, 0, 0]) (σ := σ)
    (fun i vs τ => 0 ≤ i ∧ τ = σ ∧ ∃ k, 0 ≤ k ∧ k ≤ 16 ∧ vs = [2, p, e, 100 + k, bgs k, i] ∧ bgs k ≤ i ∧ (k < 16 → i ≤ bgs k + (wdk k).length) ∧ k ≤ X)
    (fun r => r = (0, [100 + X], σ) ∧ X < 16 ∨ r = (71, [p, e], σ) ∧ X = 16) (by omega) (by omega) ⟨Int.le_refl _, rfl, 0, Int.le_refl _, by omega, rfl, Int.le_refl _, fun _ => by show (0 : Int) ≤ 0 + _; omega, x0⟩ ?_
  · obtain ⟨r, hr, ⟨rfl, h⟩ | ⟨rfl, h⟩⟩ := hal
    · unfold c10_kindOfWord c10_kindOfWord_l9
      rw [hr, if_pos h]; rfl
    · unfold c10_kindOfWord c10_kindOfWord_l9
      rw [hr, if_neg (show ¬ X < 16 by omega)]
      show c10_kindOfWord_p70 p e σ = _
      unfold c10_kindOfWord_p70
      rw [wq (by omega) (by omega)]
      by_cases c : 6 < e - p
      · rw [if_pos c, if_pos c]
      · rw [if_neg c, if_neg c]
  · rintro i vs τ hi ⟨i0, rfl, k, k0, k16, rfl, hbi, hil, hX⟩
    have hlen : jlength 0 τ = some (0, [89], τ) := rfl
    by_cases c : i < 89
    · have k1 : k < 16 := by
        by_cases w : k = 16
        · rw [w] at hbi; have : bgs 16 = 89 := rfl; omega
        · omega
      obtain ⟨⟨l8, l2⟩, wb, wb0, wb1, w32', wj⟩ := wd_f k0 k1
      have hil := hil k1
      by_cases d : i = bgs k + (wdk k).length
      · have hc : jcharAt 0 i τ = some (0, [32], τ) := by
          unfold jcharAt
          rw [if_pos (show 0 ≤ i ∧ i < 89 by omega), d, w32']
        have p55 : c10_kindOfWord_p55 2 p e (100 + k) i τ = some (10, [2, p, e, 100 + (k + 1), bgs (k + 1), i + 1], τ) := by
          unfold c10_kindOfWord_p55 c10_kindOfWord_p64
          rw [wq (x := 100 + k + 1) (by omega) (by omega), wq (x := i + 1) (by omega) (by omega), show 100 + k + 1 = 100 + (k + 1) by omega, ← wb, d]
        have go : mtc (wds.getD k.toNat []) b p e = false → ∃ vs' σ', (some (10, [2, p, e, 100 + (k + 1), bgs (k + 1), i + 1], τ) : aR) = some (10, vs', σ') ∧ (0 ≤ i + 1 ∧ σ' = τ ∧ ∃ k, 0 ≤ k ∧ k ≤ 16 ∧ vs' = [2, p, e, 100 + k, bgs k, i + 1] ∧ bgs k ≤ i + 1 ∧ (k < 16 → i + 1 ≤ bgs k + (wdk k).length) ∧ k ≤ X) := fun q =>
          ⟨_, _, rfl, by omega, rfl, k + 1, by omega, by omega, rfl, by omega, fun _ => by omega, by
            by_cases w : X = k
            · have := xat (by omega)
              rw [w] at this
              have h2 : mtc (wds.getD k.toNat []) b p e = true := this
              rw [q] at h2; cases h2
            · omega⟩
        by_cases z : i - bgs k = e - p
        · have hs := c10_isSame_ok hT p0 pe e1 k0 k1 (by omega)
          by_cases q : mtc (wdk k) b p e = true
          · have hXk : X = k := by
              by_cases w : k < X
              · have := xno k k0 w
                have h2 : mtc (wds.getD k.toNat []) b p e = false := this
                have h3 : mtc (wds.getD k.toNat []) b p e = true := q
                rw [h2] at h3; cases h3
              · omega
            rw [if_pos q] at hs
            refine Or.inr ⟨(0, [100 + X], τ), ?_, Nat.ne_of_beq_eq_false rfl, Or.inl ⟨rfl, by omega⟩⟩
            rw [hXk]
            show c10_kindOfWord_b9 2 p e (100 + k) (bgs k) i τ = _
            unfold c10_kindOfWord_b9
            rw [hlen, acall1_some, hc, acall1_some, wq (x := i - bgs k) (by omega) (by omega), wq (x := e - p) (by omega) (by omega), hs, acall1_some]
            exact ite_p c (ite_p rfl (ite_p z (ite_n (by omega) rfl)))
          · rw [if_neg q] at hs
            obtain ⟨vs', σ', h1, h2⟩ := go (Bool.eq_false_iff.2 q)
            refine Or.inl ⟨c, vs', σ', ?_, h2⟩
            rw [← h1]
            show c10_kindOfWord_b9 2 p e (100 + k) (bgs k) i τ = _
            unfold c10_kindOfWord_b9
            rw [hlen, acall1_some, hc, acall1_some, wq (x := i - bgs k) (by omega) (by omega), wq (x := e - p) (by omega) (by omega), hs, acall1_some]
            exact ite_p c (ite_p rfl (ite_p z (ite_p rfl p55)))
        · obtain ⟨vs', σ', h1, h2⟩ := go (Bool.eq_false_iff.2 (fun q => z (by
            have := (mtc_t.1 q).1
            have e2 : (wds.getD k.toNat []).length = (wdk k).length := rfl
            omega)))
          refine Or.inl ⟨c, vs', σ', ?_, h2⟩
          rw [← h1]
          show c10_kindOfWord_b9 2 p e (100 + k) (bgs k) i τ = _
          unfold c10_kindOfWord_b9
          rw [hlen, acall1_some, hc, acall1_some, wq (x := i - bgs k) (by omega) (by omega), wq (x := e - p) (by omega) (by omega)]
          exact ite_p c (ite_p rfl (ite_n z p55))
      · obtain ⟨g1, g2⟩ := wj (i - bgs k) (by omega) (by omega)
        have hc : jcharAt 0 i τ = some (0, [(wdk k).getD (i - bgs k).toNat 0], τ) := by
          unfold jcharAt
          rw [if_pos (show 0 ≤ i ∧ i < 89 by omega), ← g1, show bgs k + (i - bgs k) = i by omega]
        refine Or.inl ⟨c, [2, p, e, 100 + k, bgs k, i + 1], τ, ?_, by omega, rfl, k, k0, k16, rfl, by omega, fun _ => by omega, hX⟩
        show c10_kindOfWord_b9 2 p e (100 + k) (bgs k) i τ = _
        unfold c10_kindOfWord_b9
        rw [hlen, acall1_some, hc, acall1_some]
        refine ite_p c (ite_n g2 ?_)
        unfold c10_kindOfWord_p64
        rw [wq (x := i + 1) (by omega) (by omega)]
    · have hk16 : k = 16 := by
        by_cases w : k < 16
        · obtain ⟨⟨l8, l2⟩, wb, wb0, wb1, -⟩ := wd_f k0 w
          have := hil w; omega
        · omega
      refine Or.inr ⟨(71, [p, e], τ), ?_, Nat.ne_of_beq_eq_false rfl, Or.inr ⟨rfl, by omega⟩⟩
      show c10_kindOfWord_b9 2 p e (100 + k) (bgs k) i τ = _
      unfold c10_kindOfWord_b9
      rw [hlen, acall1_some]
      exact ite_n c rfl
theorem c10_signKind_ok (c : Int) (σ : aS) : c10_signKind c σ = some (0, [sgk c], σ) := by
  by_cases h : 40 ≤ c ∧ c ≤ 59
  · rcases (show c = 40 ∨ c = 41 ∨ c = 42 ∨ c = 43 ∨ c = 44 ∨ c = 45 ∨ c = 46 ∨ c = 47 ∨ c = 48 ∨ c = 49 ∨ c = 50 ∨ c = 51 ∨ c = 52 ∨ c = 53 ∨ c = 54 ∨ c = 55 ∨ c = 56 ∨ c = 57 ∨ c = 58 ∨ c = 59 by omega) with rfl | rfl | rfl | rfl | rfl | rfl | rfl | rfl | rfl | rfl | rfl | rfl | rfl | rfl | rfl | rfl | rfl | rfl | rfl | rfl <;> rfl
  · unfold c10_signKind sgk
    simp only [if_neg (show ¬ c = 40 by omega), if_neg (show ¬ c = 41 by omega), if_neg (show ¬ c = 42 by omega), if_neg (show ¬ c = 43 by omega), if_neg (show ¬ c = 44 by omega), if_neg (show ¬ c = 45 by omega), if_neg (show ¬ c = 46 by omega), if_neg (show ¬ c = 47 by omega), if_neg (show ¬ c = 48 by omega), if_neg (show ¬ c = 49 by omega), if_neg (show ¬ c = 50 by omega), if_neg (show ¬ c = 51 by omega), if_neg (show ¬ c = 52 by omega), if_neg (show ¬ c = 53 by omega), if_neg (show ¬ c = 54 by omega), if_neg (show ¬ c = 55 by omega), if_neg (show ¬ c = 56 by omega), if_neg (show ¬ c = 57 by omega), if_neg (show ¬ c = 58 by omega), if_neg (show ¬ c = 59 by omega)]
theorem c10_kindOf_ok {b : Int → Int} {n p : Int} {σ : aS} (hT : TSc b n σ) (p0 : 0 ≤ p) (p1 : p < n) : c10_kindOf 2 p (tke b n p) σ = some (0, [tkc b n p], σ) := by
  have hT' := hT
  obtain ⟨hL, h5, ⟨n0, n8⟩, hb⟩ := hT'
  have he := tke_bd b p1
  unfold c10_kindOf tkc
  rw [r_2_0 hL, n_3 hL, hb p p0 p1, c10_isLetter_ok, acall1_some]
  refine ite_n (by omega) (ite_p (by omega) ?_)
  by_cases c : chl (b p) = true
  · rw [if_pos c, if_pos c, c10_kindOfWord_ok hT p0 (by omega) he.2, acall1_some]
    exact ite_n (by omega) rfl
  · rw [if_neg c, if_neg c, r_2_0 hL, n_3 hL, hb p p0 p1, c10_isDigit_ok, acall1_some]
    refine ite_p rfl (ite_n (by omega) (ite_p (by omega) ?_))
    by_cases d : chd (b p) = true
    · rw [if_pos d, if_pos d]; exact ite_n (by omega) rfl
    · rw [if_neg d, if_neg d, r_2_0 hL, n_3 hL, hb p p0 p1, c10_signKind_ok, acall1_some]
      exact ite_p rfl (ite_n (by omega) (ite_p (by omega) rfl))
