/-! tokens: the reference -/
def rds : List (List Int) := [[103, 111, 111, 100], [102, 108, 111, 97, 116], [108, 105, 107, 101], [116, 111, 119, 110], [103, 114, 111, 117, 110, 100], [115, 116, 111, 114, 109], [119, 97, 110, 116, 115], [103, 105, 118, 101, 115], [118, 111, 116, 101, 115], [98, 111, 117, 110, 100], [97, 115, 107], [109, 101, 109, 98, 101, 114, 115], [109, 97, 110, 121], [99, 111, 115, 116], [112, 97, 121, 115], [111, 119, 110]]
def rtx (j : Int) : Int := (rds.flatMap (fun w => w ++ [32])).getD j.toNat 0
def rkw (i : Int) : Int := ([0, 1, 6, 2, 3, 7, 8, 9, 10, 4, 5, 11, 12, 13, 14, 15] : List Int).getD i.toNat 0
def rbg (k : Int) : Int := ([0, 5, 11, 16, 21, 28, 34, 40, 46, 52, 58, 62, 70, 75, 80, 85, 89] : List Int).getD k.toNat 89
def rdk (k : Int) : List Int := rds.getD k.toNat []
theorem rd_F : ∀ k : Fin 16, (rdk k.val).length < 8 ∧ 2 < (rdk k.val).length ∧ rbg k.val + (rdk k.val).length + 1 = rbg (k.val + 1) ∧ 0 ≤ rbg k.val ∧ rbg (k.val + 1) ≤ 89 ∧ rtx (rbg k.val + (rdk k.val).length) = 32 ∧
    ∀ j : Fin 8, j.val < (rdk k.val).length → rtx (rbg k.val + (j.val : Int)) = (rdk k.val).getD j.val 0 ∧ (rdk k.val).getD j.val 0 ≠ 32 := by decide +kernel
theorem rd_f {k : Int} (k0 : 0 ≤ k) (k1 : k < 16) : ((rdk k).length < 8 ∧ 2 < (rdk k).length) ∧ rbg k + (rdk k).length + 1 = rbg (k + 1) ∧ 0 ≤ rbg k ∧ rbg (k + 1) ≤ 89 ∧ rtx (rbg k + (rdk k).length) = 32 ∧
    ∀ j : Int, 0 ≤ j → j < (rdk k).length → rtx (rbg k + j) = (rdk k).getD j.toNat 0 ∧ (rdk k).getD j.toNat 0 ≠ 32 := by
  obtain ⟨m, rfl⟩ := Int.eq_ofNat_of_zero_le k0
  obtain ⟨a, a', b, c, d, e, f⟩ := rd_F ⟨m, by omega⟩
  refine ⟨⟨a, a'⟩, b, c, d, e, fun j j0 j1 => ?_⟩
  obtain ⟨i, rfl⟩ := Int.eq_ofNat_of_zero_le j0
  rw [Int.toNat_natCast]
  have a2 : (rdk (m : Int)).length < 8 := a
  exact f ⟨i, by omega⟩ (by show i < (rdk (m : Int)).length; omega)
theorem rk_F : ∀ k : Fin 16, rdk (rkw k.val) = wds.getD k.val [] ∧ 0 ≤ rkw k.val ∧ rkw k.val < 16 := by decide +kernel
theorem rk_u : ∀ i j : Fin 16, rdk i.val = rdk j.val → i = j := by decide +kernel
theorem rk_s : ∀ k : Fin 16, ∃ i : Fin 16, wds.getD i.val [] = rdk k.val := by decide +kernel
def rwI (b : Int → Int) (p e : Int) : Int := ff (fun i => mtc (rdk i) b p e) 16
theorem rwI_kw (b : Int → Int) (p e : Int) : (kwI b p e < 16 ∧ rwI b p e = rkw (kwI b p e)) ∨ (kwI b p e = 16 ∧ rwI b p e = 16) := by
  have x0 := ff_0 (fun i => mtc (wds.getD i.toNat []) b p e) (n := 16)
  have xn := ff_n (fun i => mtc (wds.getD i.toNat []) b p e) (n := 16) (by omega)
  have xat := ff_at (P := fun i => mtc (wds.getD i.toNat []) b p e) (n := 16)
  have xno := fun k => ff_no (P := fun i => mtc (wds.getD i.toNat []) b p e) (n := 16) (k := k)
  unfold kwI rwI
  generalize ff (fun i => mtc (wds.getD i.toNat []) b p e) 16 = X at x0 xn xat xno
  by_cases c : X < 16
  · left
    refine ⟨c, ?_⟩
    have h := xat c
    obtain ⟨m, rfl⟩ := Int.eq_ofNat_of_zero_le x0
    obtain ⟨h1, h2, h3⟩ := rk_F ⟨m, by omega⟩
    have h2 : 0 ≤ rkw (m : Int) := h2
    have h3 : rkw (m : Int) < 16 := h3
    have h' : mtc (rdk (rkw (m : Int))) b p e = true := by
      rw [show rdk (rkw (m : Int)) = wds.getD m [] from h1]; exact h
    refine ff_uniq h2 (by omega) (fun j j0 j1 => ?_) (fun _ => h')
    cases w : mtc (rdk j) b p e with
    | false => rfl
    | true =>
      have e1 := mtc_u w h'
      obtain ⟨i, rfl⟩ := Int.eq_ofNat_of_zero_le j0
      obtain ⟨r, hr⟩ := Int.eq_ofNat_of_zero_le h2
      have e2 := rk_u ⟨i, by omega⟩ ⟨r, by omega⟩ (by show rdk (i : Int) = rdk (r : Int); rw [e1]; exact congrArg rdk hr)
      have e3 : i = r := congrArg Fin.val e2
      have hr' : rkw (m : Int) = (r : Int) := hr
      omega
  · right
    refine ⟨by omega, ff_uniq (by omega) (Int.le_refl _) (fun j j0 j1 => ?_) (fun q => by omega)⟩
    cases w : mtc (rdk j) b p e with
    | false => rfl
    | true =>
      obtain ⟨i, rfl⟩ := Int.eq_ofNat_of_zero_le j0
      obtain ⟨r, hr⟩ := rk_s ⟨i, by omega⟩
      have := xno r.val (by omega) (by have := r.isLt; omega)
      have h2 : mtc (wds.getD r.val []) b p e = false := this
      rw [hr] at h2
      have h3 : mtc (rdk (i : Int)) b p e = true := w
      rw [show rdk ((⟨i, by omega⟩ : Fin 16).val : Int) = rdk (i : Int) from rfl] at h2
      rw [h2] at h3; cases h3
def KR (c v kind which : Int) : Prop :=
  (c = 0 ∧ kind = 0) ∨ (c = 1 ∧ kind = 5) ∨ (c = 2 ∧ kind = 3 ∧ 0 ≤ which ∧ ((v ≤ 999 ∧ which = v) ∨ (999 < v ∧ 999 < which))) ∨ (c = 3 ∧ kind = 2 ∧ which = v) ∨ ((100 ≤ c ∧ c ≤ 115) ∧ kind = 1 ∧ which = rkw (c - 100)) ∨
  ((c = 40 ∨ c = 41 ∨ c = 42 ∨ c = 43 ∨ c = 45 ∨ c = 47 ∨ c = 59) ∧ kind = 4 ∧ which = c)
def TSr (b : Int → Int) (n : Int) (σ : aS) : Prop := LR σ ∧ aget σ 130 6 = n ∧ (0 ≤ n ∧ n ≤ 800) ∧ (∀ j, 0 ≤ j → j < n → aget σ 131 j = b j) ∧ ∀ j, 0 ≤ j → j < 89 → aget σ 132 j = rtx j
def TKr (b : Int → Int) (n P : Int) (σ : aS) : Prop := TSr b n σ ∧ (0 ≤ P ∧ P ≤ n) ∧ aget σ 130 10 = P ∧ aget σ 130 7 = (if P < n then tke b n P else n) ∧ KR (kd b n P) (vlt b n P) (aget σ 130 8) (aget σ 130 9)
def wtr2 : List (Int × List Int) := [(130, [7, 8, 9, 10])]
theorem TSr.fr {b : Int → Int} {n : Int} {σ τ : aS} {l : List (Int × List Int)} (h : TSr b n σ) (hF : Fr l σ τ) (hR : wR l = true) (hl : ∀ x j, wm [(131, []), (132, []), (130, [6])] x j = true → wm l x j = false) : TSr b n τ :=
  ⟨hF.LR hR h.1, by rw [hF.g (hl _ _ rfl)]; exact h.2.1, h.2.2.1, fun j j0 j1 => by rw [hF.g (hl _ _ rfl)]; exact h.2.2.2.1 j j0 j1, fun j j0 j1 => by rw [hF.g (hl _ _ rfl)]; exact h.2.2.2.2 j j0 j1⟩
theorem TSr.t {b : Int → Int} {n : Int} {σ τ : aS} (h : TSr b n σ) (hF : Fr wtr2 σ τ) : TSr b n τ := h.fr hF (by decide +kernel) (wdj_spec (by decide +kernel))
theorem c12_isSmall_ok {b : Int → Int} {n k : Int} {σ : aS} (hT : TSr b n σ) (k0 : 0 ≤ k) : c12_isSmall 130 k σ = some (0, [if k < n ∧ chl (b k) = true then 1 else 0], σ) := by
  obtain ⟨hL, h6, ⟨n0, n8⟩, hb, -⟩ := hT
  unfold c12_isSmall
  rw [h6, r_130_0 hL, n_131 hL]
  by_cases c : k < n
  · have hk := hb k k0 c
    rw [if_pos c, hk, if_neg (show ¬ (131 : Int) = 0 by omega), if_pos (show 0 ≤ k ∧ k < 800 by omega)]
    by_cases d : 97 ≤ b k ∧ b k ≤ 122
    · rw [if_pos (show k < n ∧ chl (b k) = true from ⟨c, chl_t.2 d⟩)]
      exact ite_n (by omega) (ite_n (by omega) (ite_p (by omega) (ite_n (by omega) (ite_p (by omega) rfl))))
    · rw [if_neg (show ¬ (k < n ∧ chl (b k) = true) from fun q => d (chl_t.1 q.2))]
      by_cases e : b k < 97
      · exact ite_p e (ite_p (by omega) rfl)
      · exact ite_n e (ite_n (by omega) (ite_p (by omega) (ite_p (by omega) (ite_p (by omega) rfl))))
  · rw [if_neg c, if_neg (show ¬ (k < n ∧ chl (b k) = true) from fun q => c q.1)]; exact ite_p (by omega) rfl
theorem c12_isDigit_ok {b : Int → Int} {n k : Int} {σ : aS} (hT : TSr b n σ) (k0 : 0 ≤ k) : c12_isDigit 130 k σ = some (0, [if k < n ∧ chd (b k) = true then 1 else 0], σ) := by
  obtain ⟨hL, h6, ⟨n0, n8⟩, hb, -⟩ := hT
  unfold c12_isDigit
  rw [h6, r_130_0 hL, n_131 hL]
  by_cases c : k < n
  · have hk := hb k k0 c
    rw [if_pos c, hk, if_neg (show ¬ (131 : Int) = 0 by omega), if_pos (show 0 ≤ k ∧ k < 800 by omega)]
    by_cases d : 48 ≤ b k ∧ b k ≤ 57
    · rw [if_pos (show k < n ∧ chd (b k) = true from ⟨c, chd_t.2 d⟩)]
      exact ite_n (by omega) (ite_n (by omega) (ite_p (by omega) (ite_n (by omega) (ite_p (by omega) rfl))))
    · rw [if_neg (show ¬ (k < n ∧ chd (b k) = true) from fun q => d (chd_t.1 q.2))]
      by_cases e : b k < 48
      · exact ite_p e (ite_p (by omega) rfl)
      · exact ite_n e (ite_n (by omega) (ite_p (by omega) (ite_p (by omega) (ite_p (by omega) rfl))))
  · rw [if_neg c, if_neg (show ¬ (k < n ∧ chd (b k) = true) from fun q => c q.1)]; exact ite_p (by omega) rfl
theorem wA_len {b : Int → Int} {n : Int} {σ : aS} (hT : TSr b n σ) {k p e : Int} (k0 : 0 ≤ k) (k1 : k < 16) : c12_wordAt_l18 130 p e k (rbg k) 0 σ = c12_wordAt_p39 130 p e k (rbg k) (rdk k).length σ := by
  obtain ⟨hL, h6, -, -, hw⟩ := hT
  obtain ⟨⟨l8, l2⟩, wb, wb0, wb1, w32', wj⟩ := rd_f k0 k1
  have hal := al_I (c := 19) (B := aU6 c12_wordAt_b18) (n := (rdk k).length) (i := 0) (vs := [130, p, e, k, rbg k, 0]) (σ := σ)
    (fun i vs τ => 0 ≤ i ∧ vs = [130, p, e, k, rbg k, i] ∧ τ = σ) (fun r => r = (40, [130, p, e, k, rbg k, (rdk k).length], σ)) (by omega) (by omega) ⟨Int.le_refl _, rfl, rfl⟩ ?_
  · obtain ⟨r, hr, rfl⟩ := hal
    unfold c12_wordAt_l18
    rw [hr]; rfl
  · rintro i vs τ hi ⟨i0, rfl, rfl⟩
    have hc := hw (rbg k + i) (by omega) (by omega)
    by_cases c : i < (rdk k).length
    · obtain ⟨g1, g2⟩ := wj i i0 c
      refine Or.inl ⟨c, [130, p, e, k, rbg k, i + 1], τ, ?_, by omega, rfl, rfl⟩
      show c12_wordAt_b18 130 p e k (rbg k) i τ = _
      unfold c12_wordAt_b18
      rw [r_130_3 hL, n_132 hL, wq (x := rbg k + i) (by omega) (by omega), hc, g1, wq (x := i + 1) (by omega) (by omega)]
      exact ite_n (by omega) (ite_p (by omega) (ite_n g2 rfl))
    · have ie : i = (rdk k).length := by omega
      refine Or.inr ⟨_, ?_, Nat.ne_of_beq_eq_false rfl, rfl⟩
      rw [ie]
      show c12_wordAt_b18 130 p e k (rbg k) ((rdk k).length : Int) τ = _
      unfold c12_wordAt_b18
      rw [ie] at hc
      rw [r_130_3 hL, n_132 hL, wq (x := rbg k + (rdk k).length) (by omega) (by omega), hc, w32']
      exact ite_n (by omega) (ite_p (by omega) (ite_p rfl rfl))
theorem wA_p104 {p e k L B B' f : Int} {σ : aS} (k0 : 0 ≤ k) (k1 : k < 16) (L0 : 0 ≤ L) (L8 : L ≤ 8) (b0 : 0 ≤ B) (b1 : B ≤ 89) (hB : B + L + 1 = B') :
    c12_wordAt_p104 130 p e k B L f σ = if f = 0 then some (6, [130, p, e, k + 1, B'], σ) else some (0, [k], σ) := by
  unfold c12_wordAt_p104
  have e2 : w32 (L + 1) = L + 1 := wq (by omega) (by omega)
  have e3 : w32 (B + (L + 1)) = B' := by rw [show B + (L + 1) = B' by omega]; exact wq (by omega) (by omega)
  rw [e2, e3, wq (x := k + 1) (by omega) (by omega)]
theorem wA_cmp {b : Int → Int} {n : Int} {σ : aS} (hT : TSr b n σ) {k p e : Int} (k0 : 0 ≤ k) (k1 : k < 16) (p0 : 0 ≤ p) (pe : p ≤ e) (e1 : e ≤ n) :
    c12_wordAt_p39 130 p e k (rbg k) (rdk k).length σ = if mtc (rdk k) b p e = true then some (0, [k], σ) else some (6, [130, p, e, k + 1, rbg (k + 1)], σ) := by
  obtain ⟨hL, h6, ⟨n0, n8⟩, hb, hw⟩ := hT
  obtain ⟨⟨l8, l2⟩, wb, wb0, wb1, w32', wj⟩ := rd_f k0 k1
  have p104 : ∀ f, (f = 0 ∨ f = 1) → (f = 1 ↔ mtc (rdk k) b p e = true) → c12_wordAt_p104 130 p e k (rbg k) (rdk k).length f σ = if mtc (rdk k) b p e = true then some (0, [k], σ) else some (6, [130, p, e, k + 1, rbg (k + 1)], σ) := by
    intro f hf hi
    rw [wA_p104 k0 k1 (by omega) (by omega) wb0 (by omega) wb]
    by_cases z : f = 0
    · rw [if_pos z, if_neg (show ¬ mtc (rdk k) b p e = true from fun q => by have := hi.2 q; omega)]
    · rw [if_neg z, if_pos (hi.1 (by omega))]
  have loop : ∀ f0, (f0 = 0 ∨ f0 = 1) → (f0 = 1 ↔ ((rdk k).length : Int) = e - p) → c12_wordAt_p52 f0 130 p e k (rbg k) (rdk k).length σ = if mtc (rdk k) b p e = true then some (0, [k], σ) else some (6, [130, p, e, k + 1, rbg (k + 1)], σ) := by
    intro f0 hf0 hi0
    have hal := al_I (c := 58) (B := aU8 c12_wordAt_b57) (n := (rdk k).length) (i := 0) (vs := [130, p, e, k, rbg k, (rdk k).length, f0, 0]) (σ := σ)
      (fun i vs τ => 0 ≤ i ∧ τ = σ ∧ ∃ f, vs = [130, p, e, k, rbg k, (rdk k).length, f, i] ∧ (f = 0 ∨ f = 1) ∧ (f = 1 ↔ ((rdk k).length : Int) = e - p ∧ ∀ j : Int, 0 ≤ j → j < i → (rdk k).getD j.toNat 0 = b (p + j)))
      (fun r => ∃ f, r = (105, [130, p, e, k, rbg k, (rdk k).length, f], σ) ∧ (f = 0 ∨ f = 1) ∧ (f = 1 ↔ mtc (rdk k) b p e = true)) (by omega) (by omega)
      ⟨Int.le_refl _, rfl, f0, rfl, hf0, ⟨fun q => ⟨hi0.1 q, fun j j0 j1 => by omega⟩, fun q => hi0.2 q.1⟩⟩ ?_
    · obtain ⟨r, hr, f, rfl, h1, h2⟩ := hal
      unfold c12_wordAt_p52 c12_wordAt_l57
      rw [hr]
      exact p104 f h1 h2
    · rintro i vs τ hi ⟨i0, rfl, f, rfl, hf, hif⟩
      by_cases c : i < (rdk k).length
      · by_cases z : f = 0
        · refine Or.inr ⟨_, ?_, Nat.ne_of_beq_eq_false rfl, 0, rfl, Or.inl rfl, ⟨fun q => by omega, fun q => ?_⟩⟩
          · rw [z]
            show c12_wordAt_b57 130 p e k (rbg k) ((rdk k).length : Int) 0 i τ = _
            unfold c12_wordAt_b57
            exact ite_p c (ite_p rfl rfl)
          · have := hif.2 ⟨(mtc_t.1 q).1, fun j j0 j1 => (mtc_t.1 q).2 j j0 (by omega)⟩; omega
        · have h1 := hif.1 (by omega)
          have hc := hw (rbg k + i) (by omega) (by omega)
          obtain ⟨g1, g2⟩ := wj i i0 c
          have hbb := hb (p + i) (by omega) (by omega)
          have p96 : ∀ f', c12_wordAt_p96 f' 130 p e k (rbg k) ((rdk k).length : Int) i τ = some (58, [130, p, e, k, rbg k, (rdk k).length, f', i + 1], τ) := fun f' => by
            unfold c12_wordAt_p96; rw [wq (by omega) (by omega)]
          have st : ∀ r : aR, (if (rdk k).getD i.toNat 0 = b (p + i) then c12_wordAt_p96 1 130 p e k (rbg k) ((rdk k).length : Int) i τ else c12_wordAt_p96 0 130 p e k (rbg k) ((rdk k).length : Int) i τ) = r → aU8 c12_wordAt_b57 [130, p, e, k, rbg k, (rdk k).length, f, i] τ = r := by
            intro r hr
            show c12_wordAt_b57 130 p e k (rbg k) ((rdk k).length : Int) f i τ = r
            unfold c12_wordAt_b57
            rw [r_130_3 hL, n_132 hL, r_130_0 hL, n_131 hL, wq (x := rbg k + i) (by omega) (by omega), wq (x := p + i) (by omega) (by omega), hc, g1, hbb]
            exact ite_p c (ite_n z (ite_n (by omega) (ite_p (by omega) (ite_n (by omega) (ite_p (by omega) hr)))))
          by_cases q : (rdk k).getD i.toNat 0 = b (p + i)
          · refine Or.inl ⟨c, _, τ, st _ (ite_p q (p96 1)), by omega, rfl, 1, rfl, Or.inr rfl, ⟨fun _ => ⟨h1.1, fun j j0 j1 => ?_⟩, fun _ => rfl⟩⟩
            by_cases w : j = i
            · rw [w]; exact q
            · exact h1.2 j j0 (by omega)
          · exact Or.inl ⟨c, _, τ, st _ (ite_n q (p96 0)), by omega, rfl, 0, rfl, Or.inl rfl, ⟨fun w => by omega, fun w => absurd (w.2 i i0 (by omega)) q⟩⟩
      · refine Or.inr ⟨_, ?_, Nat.ne_of_beq_eq_false rfl, f, rfl, hf, ?_⟩
        · show c12_wordAt_b57 130 p e k (rbg k) ((rdk k).length : Int) f i τ = _
          unfold c12_wordAt_b57
          exact ite_n c rfl
        · rw [hif, mtc_t]
          exact ⟨fun q => ⟨q.1, fun j j0 j1 => q.2 j j0 (by omega)⟩, fun q => ⟨q.1, fun j j0 j1 => q.2 j j0 (by omega)⟩⟩
  unfold c12_wordAt_p39
  rw [wq (x := e - p) (by omega) (by omega)]
  by_cases c : ((rdk k).length : Int) = e - p
  · exact ite_p c (loop 1 (Or.inr rfl) ⟨fun _ => c, fun _ => rfl⟩)
  · exact ite_n c (loop 0 (Or.inl rfl) ⟨fun q => by omega, fun q => absurd q c⟩)
theorem c12_wordAt_ok {b : Int → Int} {n : Int} {σ : aS} (hT : TSr b n σ) {p e : Int} (p0 : 0 ≤ p) (pe : p ≤ e) (e1 : e ≤ n) : c12_wordAt 130 p e σ = some (0, [if rwI b p e < 16 then rwI b p e else -1], σ) := by
  have hT' := hT
  obtain ⟨hL, -⟩ := hT'
  have x0 := ff_0 (fun i => mtc (rdk i) b p e) (n := 16)
  have xn := ff_n (fun i => mtc (rdk i) b p e) (n := 16) (by omega)
  have xat := ff_at (P := fun i => mtc (rdk i) b p e) (n := 16)
  have xno := fun k => ff_no (P := fun i => mtc (rdk i) b p e) (n := 16) (k := k)
  unfold rwI
  generalize ff (fun i => mtc (rdk i) b p e) 16 = X at x0 xn xat xno
  have hal := al_I (c := 6) (B := aU5 c12_wordAt_b5) (n := 16) (i := 0) (vs := [130, p, e, 0, 0]) (σ := σ)
    (fun k vs τ => 0 ≤ k ∧ vs = [130, p, e, k, rbg k] ∧ τ = σ ∧ k ≤ X) (fun r => r = (0, [if X < 16 then X else -1], σ)) (by omega) (by omega) ⟨Int.le_refl _, rfl, rfl, x0⟩ ?_
  · obtain ⟨r, hr, rfl⟩ := hal
    unfold c12_wordAt c12_wordAt_l5
    rw [hr]; rfl
  · rintro k vs τ hk ⟨k0, rfl, rfl, hX⟩
    by_cases c : k < 16
    · obtain ⟨⟨l8, l2⟩, wb, wb0, wb1, w32', wj⟩ := rd_f k0 c
      have hs : aU5 c12_wordAt_b5 [130, p, e, k, rbg k] τ = if mtc (rdk k) b p e = true then some (0, [k], τ) else some (6, [130, p, e, k + 1, rbg (k + 1)], τ) := by
        show c12_wordAt_b5 130 p e k (rbg k) τ = _
        unfold c12_wordAt_b5
        rw [r_130_3 hL, n_132 hL, wA_len hT k0 c, wA_cmp hT k0 c p0 pe e1]
        exact ite_n (by omega) (ite_p (by omega) rfl)
      by_cases q : mtc (rdk k) b p e = true
      · have hXk : X = k := by
          by_cases w : k < X
          · have := xno k k0 w
            have h2 : mtc (rdk k) b p e = false := this
            rw [q] at h2; cases h2
          · omega
        refine Or.inr ⟨_, ?_, Nat.ne_of_beq_eq_false rfl, rfl⟩
        rw [hs, if_pos q, if_pos (by omega), hXk]
      · refine Or.inl ⟨c, [130, p, e, k + 1, rbg (k + 1)], τ, by rw [hs, if_neg q], by omega, rfl, rfl, ?_⟩
        by_cases w : X = k
        · have := xat (by omega)
          rw [w] at this; exact absurd this q
        · omega
    · refine Or.inr ⟨_, ?_, Nat.ne_of_beq_eq_false rfl, rfl⟩
      rw [if_neg (by omega), show k = 16 by omega]
      show c12_wordAt_b5 130 p e 16 (rbg 16) τ = _
      unfold c12_wordAt_b5
      rw [r_130_3 hL, n_132 hL]
      exact ite_n (by omega) (ite_n (by show ¬ (89 : Int) < 89; omega) rfl)
theorem aor_32 {x d : Int} (x0 : 0 ≤ x) (x1 : x ≤ 60000000) (d0 : 0 ≤ d) (d1 : d < 32) : aor (32 * x) d = 32 * x + d := by
  rw [aor_N (by omega) (by omega) d0 (by omega)]
  have h := Nat.shiftLeft_add_eq_or_of_lt (b := d.toNat) (i := 5) (by omega) x.toNat
  rw [Nat.shiftLeft_eq] at h
  have e : (32 * x).toNat = x.toNat * 2 ^ 5 := by omega
  rw [e, ← h]; omega
theorem c12_packed_ok {b : Int → Int} {n : Int} {σ : aS} (hT : TSr b n σ) {p e : Int} (p0 : 0 ≤ p) (p8 : p ≤ 800) (e1 : e ≤ n) (hl : ∀ j, p ≤ j → j < e → 97 ≤ b j ∧ b j ≤ 122) : c12_packed 130 p e σ = some (0, [pcf b p e 6], σ) := by
  have hT' := hT
  obtain ⟨hL, h6, ⟨n0, n8⟩, hb, -⟩ := hT'
  · have hal := al_I (c := 6) (B := aU5 c12_packed_b5) (n := p + 6) (i := p) (vs := [130, p, e, 0, p]) (σ := σ)
      (fun i vs τ => p ≤ i ∧ vs = [130, p, e, pcf b p e (i - p).toNat, i] ∧ τ = σ) (fun r => r = (0, [pcf b p e 6], σ)) (by omega) (by omega) ⟨Int.le_refl _, by rw [Int.sub_self]; rfl, rfl⟩ ?_
    · obtain ⟨r, hr, rfl⟩ := hal
      unfold c12_packed c12_packed_l5
      rw [hr]; rfl
    · rintro i vs τ hi ⟨i0, rfl, rfl⟩
      by_cases c : i < p + 6
      · have hpb := pcf_bd hl (i - p).toNat
        have h5' : (32 ^ (i - p).toNat : Nat) ≤ 32 ^ 5 := Nat.pow_le_pow_right (by decide) (by omega)
        have h55 : (32 ^ 5 : Nat) = 33554432 := rfl
        have esh : ashl (pcf b p e (i - p).toNat) 5 = 32 * pcf b p e (i - p).toNat := by
          rw [ashl_p hpb.1 (by omega) (by omega) (by have : p2 5 = 32 := rfl; rw [this]; omega), show p2 5 = 32 from rfl]; omega
        have p37 : ∀ s0, 0 ≤ s0 → s0 ≤ 26 → c12_packed_p37 s0 (32 * pcf b p e (i - p).toNat) 130 p e i τ = some (6, [130, p, e, 32 * pcf b p e (i - p).toNat + s0, i + 1], τ) := fun s0 a0 a1 => by
          unfold c12_packed_p37
          rw [aor_32 hpb.1 (by omega) a0 (by omega), wq (x := i + 1) (by omega) (by omega)]
        have enx : pcf b p e (i + 1 - p).toNat = 32 * pcf b p e (i - p).toNat + (if i < e then b i - 96 else 0) := by
          rw [show (i + 1 - p).toNat = (i - p).toNat + 1 by omega]
          show 32 * pcf b p e (i - p).toNat + (if p + ((i - p).toNat : Nat) < e then b (p + ((i - p).toNat : Nat)) - 96 else 0) = _
          rw [show p + (((i - p).toNat : Nat) : Int) = i by omega]
        refine Or.inl ⟨c, [130, p, e, pcf b p e (i + 1 - p).toNat, i + 1], τ, ?_, by omega, rfl, rfl⟩
        rw [enx]
        show c12_packed_b5 130 p e _ i τ = _
        unfold c12_packed_b5
        rw [wq (x := p + 6) (by omega) (by omega), esh]
        refine ite_p c ?_
        by_cases d : i < e
        · have hi2 := hl i i0 d
          rw [if_pos d, if_pos d, r_130_0 hL, n_131 hL, hb i (by omega) (by omega), wq (x := b i - 96) (by omega) (by omega), p37 _ (by omega) (by omega)]
          exact ite_n (by omega) (ite_p (by omega) rfl)
        · rw [if_neg d, if_neg d]; exact p37 0 (by omega) (by omega)
      · refine Or.inr ⟨_, ?_, Nat.ne_of_beq_eq_false rfl, rfl⟩
        rw [show i = p + 6 by omega, show (p + 6 - p).toNat = 6 by omega]
        show c12_packed_b5 130 p e _ (p + 6) τ = _
        unfold c12_packed_b5
        rw [wq (x := p + 6) (by omega) (by omega)]
        exact ite_n (by omega) rfl
