/-! printed by mkj3.py: a String appended -/
theorem j_inflate {l : Launch} {D : va_G} {cB : ClassId} {sz : Nat} {sb av m n : Nat} {ml : Int32} {a : Nat → Int32} {q sv L : Nat} {f : Nat → Int32} : jMet l yJ5_inflateIfNeededFor_a7421 cJ5_inflateIfNeededFor_a7421 2 none 1 0 0 30 [.ref sb, .ref q] D cB (jw cB sb av m n ml a) sz (rdS q sv L f) (fun v w1 => v = none ∧ w1 = jw cB sb av m n ml a) := by
  refine j_of (by decide +kernel) (by first | decide | simp [lg_sl, Value.category]) ?_
  intro p e s mi below meth c ls S hr hlk hmn hsz hP hK hD hC hX hl
  have hA : ∀ q, s.heap.size ≤ q → va_A (jw cB sb av m n ml a) sz q := fun q h => Or.inr (by omega)
  have hS : va_S (va_A (jw cB sb av m n ml a) sz) s.heap s.heap [] := va_S.rf
  refine va_gets S.1 S.2.1 hC.1 hS S.2.2.2.1 (S.2.2.2.2 _ (jin jq_56)) (fun _ h => h) jd_J5_inflateIfNeededFor_a7421_0 ?_
  refine lv_if_eq S.1 S.2.1 jd_J5_inflateIfNeededFor_a7421_3 (tgt := 21) rfl (fun hb => absurd hb (by decide)) (fun _ => ?_)
  refine lv_aload_n S.1 S.2.1 jd_J5_inflateIfNeededFor_a7421_6 rfl (lv_at hl 0 rfl) ?_
  refine va_get S.1 S.2.1 S.2.2.2.2 jin4 S.2.2.2.1 hK hP 0 rfl rfl 1 (by decide) (S.2.2.2.2 _ (jin jq_34)) (fun _ h => h) rfl jd_J5_inflateIfNeededFor_a7421_7 ?_
  refine lv_aload_n S.1 S.2.1 jd_J5_inflateIfNeededFor_a7421_10 rfl (lv_at hl 1 rfl) ?_
  refine j_cV (b := q) (As := []) (rest := [.int 0]) S j_coder jq_8 jq_9 (S.2.2.2.2 _ (jin jq_10)) jq_11 jq_57 ⟨by decide +kernel, by decide +kernel, (by show _ = some 0; decide +kernel)⟩ ⟨by decide, by decide⟩ (hX.rc hS) jst_S hC hX hS hl.1 ⟨Nat.zero_le _, Nat.zero_le _⟩ (by show (1 : Nat) ≤ 8; decide) rfl jd_J5_inflateIfNeededFor_a7421_11 ?_
  refine lv_icmp_eq S.1 S.2.1 jd_J5_inflateIfNeededFor_a7421_14 (tgt := 21) rfl (fun _ => ?_) (fun hb => absurd (rfl) hb)
  exact j_vret S hr hlk ⟨rfl, rfl⟩ hP hD hS (Nat.le_refl _) (Nat.le_refl _) jd_J5_inflateIfNeededFor_a7421_21
theorem j_getBytes {l : Launch} {D : va_G} {cB : ClassId} {sz : Nat} {pre : va_W} {av m n : Nat} {a : Nat → Int32} {q sv L : Nat} {f : Nat → Int32} (hn : n + L ≤ m) (hm : m ≤ 700) (hf : ∀ j, fits .byte (.int (f j)) = true) : jMet l yJ0_getBytes_840e7 cJ0_getBytes_840e7 4 none 1 0 0 60 [.ref q, .ref av, .int (nI n), .int 0] D cB (pre ++ [(av, .inl (cB, m, .inl a))]) sz (rdS q sv L f) (fun v w1 => v = none ∧ w1 = pre ++ [(av, .inl (cB, m, .inl (va_cpy f a 0 n L)))]) := by
  refine j_of (by decide +kernel) (by first | decide | simp [lg_sl, Value.category]) ?_
  intro p e s mi below meth c ls S hr hlk hmn hsz hP hK hD hC hX hl
  have hA : ∀ q, s.heap.size ≤ q → va_A (pre ++ [(av, .inl (cB, m, .inl a))]) sz q := fun q h => Or.inr (by omega)
  have hS : va_S (va_A (pre ++ [(av, .inl (cB, m, .inl a))]) sz) s.heap s.heap [] := va_S.rf
  refine lv_aload_n S.1 S.2.1 jd_J0_getBytes_840e7_0 rfl (lv_at hl 0 rfl) ?_
  refine j_cV (b := q) (As := []) (rest := []) S j_coder jq_8 jq_9 (S.2.2.2.2 _ (jin jq_10)) jq_11 jq_12 ⟨by decide +kernel, by decide +kernel, (by show _ = some 0; decide +kernel)⟩ ⟨by decide, by decide⟩ (hX.rc hS) jst_S hC hX hS hl.1 ⟨Nat.zero_le _, Nat.zero_le _⟩ (by show (0 : Nat) ≤ 8; decide) rfl jd_J0_getBytes_840e7_1 ?_
  refine lv_iload_n S.1 S.2.1 jd_J0_getBytes_840e7_4 rfl (lv_at hl 3 rfl) ?_
  refine lv_icmp_ne S.1 S.2.1 jd_J0_getBytes_840e7_5 (tgt := 28) rfl (fun hb => absurd hb (fun h => h rfl)) (fun _ => ?_)
  refine lv_aload_n S.1 S.2.1 jd_J0_getBytes_840e7_8 rfl (lv_at hl 0 rfl) ?_
  refine vk_getf S.1 S.2.1 hX.2.2.1 hS S.2.2.2.1 (S.2.2.2.2 _ (jin jq_7)) (fun _ h => h) jd_J0_getBytes_840e7_9 ?_
  refine lv_iconst S.1 S.2.1 jd_J0_getBytes_840e7_12 (v := 0) rfl ?_
  refine lv_aload_n S.1 S.2.1 jd_J0_getBytes_840e7_13 rfl (lv_at hl 1 rfl) ?_
  refine lv_iload_n S.1 S.2.1 jd_J0_getBytes_840e7_14 rfl (lv_at hl 2 rfl) ?_
  refine lv_iload_n S.1 S.2.1 jd_J0_getBytes_840e7_15 rfl (lv_at hl 3 rfl) ?_
  refine lv_ishl S.1 S.2.1 jd_J0_getBytes_840e7_16 ?_
  refine w_top (y := nI n) (sb_shl0 _) ?_
  refine lv_aload_n S.1 S.2.1 jd_J0_getBytes_840e7_17 rfl (lv_at hl 0 rfl) ?_
  refine vk_getf S.1 S.2.1 hX.2.2.1 hS S.2.2.2.1 (S.2.2.2.2 _ (jin jq_7)) (fun _ h => h) jd_J0_getBytes_840e7_18 ?_
  refine va_tlen S.1 S.2.1 hX.2.2.2 hS (v := nI L) rfl jd_J0_getBytes_840e7_21 ?_
  refine vk_copyt S.1 S.2.1 (by rw [S.2.2.1]; exact hl.1.symm) S.2.2.2.1 (S.2.2.2.2 _ (jin jq_58)) (S.2.2.2.2 _ (jin jq_45)) (S.2.2.2.2 _ (jin jq_46)) (S.2.2.2.2 _ (jin jq_47)) hK hP hD hS hX.2.2.2 pre.length 0 (g0 _ _) rfl (by decide) (nI_pos (by omega)) (nI_pos (by omega)) (by rw [nI_clamp (by omega)]; show 0 + L ≤ L; omega) (by rw [nI_clamp (by omega), nI_clamp (by omega)]; omega) (fun i _ => hf _) (by show 1 ≤ 1; decide) (by show 0 + (_ + 11) ≤ 60; decide +kernel) jd_J0_getBytes_840e7_22 (fun H1 l1 hP hD hS => ?_)
  rw [s0, nI_clamp (by omega), nI_clamp (by omega)] at hP hD
  refine lv_goto S.1 S.2.1 jd_J0_getBytes_840e7_25 (tgt := 43) rfl ?_
  exact j_vret S hr hlk ⟨rfl, rfl⟩ hP hD hS (Nat.le_refl _) (Nat.le_refl _) jd_J0_getBytes_840e7_43
theorem j_putS {l : Launch} {D : va_G} {cB : ClassId} {sz : Nat} {sb av m n : Nat} {ml : Int32} {a : Nat → Int32} {q sv L : Nat} {f : Nat → Int32} (hn : n + L ≤ m) (hm : m ≤ 700) (hf : ∀ j, fits .byte (.int (f j)) = true) : jMet l yJ5_putStringAt_47b60 cJ5_putStringAt_47b60 3 none 2 0 0 120 [.ref sb, .int (nI n), .ref q] D cB (jw cB sb av m n ml a) sz (rdS q sv L f) (fun v w1 => v = none ∧ w1 = jw cB sb av m n ml (va_cpy f a 0 n L)) := by
  refine j_of (by decide +kernel) (by first | decide | simp [lg_sl, Value.category]) ?_
  intro p e s mi below meth c ls S hr hlk hmn hsz hP hK hD hC hX hl
  have hA : ∀ q, s.heap.size ≤ q → va_A (jw cB sb av m n ml a) sz q := fun q h => Or.inr (by omega)
  have hS : va_S (va_A (jw cB sb av m n ml a) sz) s.heap s.heap [] := va_S.rf
  refine lv_aload_n S.1 S.2.1 jd_J5_putStringAt_47b60_0 rfl (lv_at hl 0 rfl) ?_
  refine lv_aload_n S.1 S.2.1 jd_J5_putStringAt_47b60_1 rfl (lv_at hl 2 rfl) ?_
  refine j_wV (b := sb) (As := [.ref q]) (rest := []) (ws1 := (jw cB sb av m n ml a)) S j_inflate jq_59 jq_60 (S.2.2.2.2 _ (jsel (by simp [jPv]))) jq_50 jq_61 ⟨by decide +kernel, by decide +kernel, (by show _ = some 1; decide +kernel)⟩ ⟨by decide, by decide⟩ (sb_rc (r := []) hK hP) jst_S hP hK hD hC hX hS hA hl.1 ⟨Nat.zero_le _, Nat.zero_le _⟩ (by show (0 : Nat) ≤ 8; decide) rfl jd_J5_putStringAt_47b60_2 (fun v w1 H1 l1 hR hP hD hS hz hk => ?_)
  obtain ⟨rfl, rfl⟩ := hR
  refine lv_aload_n S.1 S.2.1 jd_J5_putStringAt_47b60_5 rfl (lv_at hl 2 rfl) ?_
  refine lv_aload_n S.1 S.2.1 jd_J5_putStringAt_47b60_6 rfl (lv_at hl 0 rfl) ?_
  refine va_get S.1 S.2.1 S.2.2.2.2 jin4 S.2.2.2.1 hK hP 0 rfl rfl 0 (by decide) (S.2.2.2.2 _ (jin jq_33)) (fun _ h => h) rfl jd_J5_putStringAt_47b60_7 ?_
  refine lv_iload_n S.1 S.2.1 jd_J5_putStringAt_47b60_10 rfl (lv_at hl 1 rfl) ?_
  refine lv_aload_n S.1 S.2.1 jd_J5_putStringAt_47b60_11 rfl (lv_at hl 0 rfl) ?_
  refine va_get S.1 S.2.1 S.2.2.2.2 jin4 S.2.2.2.1 hK hP 0 rfl rfl 1 (by decide) (S.2.2.2.2 _ (jin jq_34)) (fun _ h => h) rfl jd_J5_putStringAt_47b60_12 ?_
  refine j_wV (b := q) (As := [.ref av, .int (nI n), .int 0]) (rest := []) (ws1 := (jw cB sb av m n ml a)) S (j_getBytes (pre := [(sb, .inr (13, [.ref av, .int 0, .int ml, .int (nI n)]))]) hn hm hf) jq_62 jq_63 (S.2.2.2.2 _ (jin jq_64)) jq_11 jq_65 ⟨by decide +kernel, by decide +kernel, (by show _ = some 3; decide +kernel)⟩ ⟨by decide, by decide⟩ (hX.rc hS) jst_S hP hK hD hC hX hS hA hl.1 ⟨Nat.zero_le _, Nat.zero_le _⟩ (by show (0 : Nat) ≤ 8; decide) rfl jd_J5_putStringAt_47b60_15 (fun v w1 H1 l1 hR hP hD hS hz hk => ?_)
  obtain ⟨rfl, rfl⟩ := hR
  exact j_vret S hr hlk ⟨rfl, rfl⟩ hP hD hS (Nat.le_refl _) (Nat.le_refl _) jd_J5_putStringAt_47b60_18
theorem j_appS {l : Launch} {D : va_G} {cB : ClassId} {sz : Nat} {sb av m n : Nat} {ml : Int32} {a : Nat → Int32} {q sv L : Nat} {f : Nat → Int32} (hnm : n ≤ m) (hm : m ≤ 700) (hnL : n + L ≤ 300) (hfa : sb_Fit a) (hf : ∀ j, fits .byte (.int (f j)) = true) : jMet l yJ5_append_cf1ce cJ5_append_cf1ce 3 (some (.object "java/lang/AbstractStringBuilder")) 4 1 700 190 [.ref sb, .ref q] D cB (jw cB sb av m n ml a) sz (rdS q sv L f) (fun v w1 => v = some (.ref sb) ∧ ∃ av' m' a', w1 = jw cB sb av' m' (n + L) ml a' ∧ n + L ≤ m' ∧ m' ≤ 700 ∧ sb_Fit a' ∧ (∀ j, j < n → a' j = a j) ∧ ∀ j, j < L → a' (n + j) = f j) := by
  refine j_of (by decide +kernel) (by first | decide | simp [lg_sl, Value.category]) ?_
  intro p e s mi below meth c ls S hr hlk hmn hsz hP hK hD hC hX hl
  have hA : ∀ q, s.heap.size ≤ q → va_A (jw cB sb av m n ml a) sz q := fun q h => Or.inr (by omega)
  have hS : va_S (va_A (jw cB sb av m n ml a) sz) s.heap s.heap [] := va_S.rf
  refine lv_aload_n S.1 S.2.1 jd_J5_append_cf1ce_0 rfl (lv_at hl 1 rfl) ?_
  refine lv_ifnonnull S.1 S.2.1 jd_J5_append_cf1ce_1 (tgt := 9) rfl ?_
  refine lv_aload_n S.1 S.2.1 jd_J5_append_cf1ce_9 rfl (lv_at hl 1 rfl) ?_
  refine j_cV (b := q) (As := []) (rest := []) S (j_length (by omega)) jq_66 jq_67 (S.2.2.2.2 _ (jin jq_68)) jq_11 jq_69 ⟨by decide +kernel, by decide +kernel, (by show _ = some 0; decide +kernel)⟩ ⟨by decide, by decide⟩ (hX.rc hS) jst_S hC hX hS hl.1 ⟨Nat.zero_le _, Nat.zero_le _⟩ (by show (0 : Nat) ≤ 8; decide) rfl jd_J5_append_cf1ce_10 ?_
  refine lv_istore_n S.1 S.2.1 jd_J5_append_cf1ce_13 rfl hl (by decide) rfl (fun ls (hl : lv_has ls 3 [(2, .int (nI L)), (0, .ref sb), (1, .ref q)]) => ?_)
  refine lv_aload_n S.1 S.2.1 jd_J5_append_cf1ce_14 rfl (lv_at hl 1 rfl) ?_
  refine lv_aload_n S.1 S.2.1 jd_J5_append_cf1ce_15 rfl (lv_at hl 1 rfl) ?_
  refine va_get S.1 S.2.1 S.2.2.2.2 jin4 S.2.2.2.1 hK hP 0 rfl rfl 3 (by decide) (S.2.2.2.2 _ (jin jq_70)) (fun _ h => h) rfl jd_J5_append_cf1ce_16 ?_
  refine lv_iload_n S.1 S.2.1 jd_J5_append_cf1ce_19 rfl (lv_at hl 0 rfl) ?_
  refine lv_iadd S.1 S.2.1 jd_J5_append_cf1ce_20 ?_
  refine w_top (y := nI (n + L)) (nI_add n L) ?_
  refine j_wV (b := sb) (As := [.int (nI (n + L))]) (rest := []) (ws1 := (jw cB sb av m n ml a)) S (j_ensure hm hnL hfa) jq_71 jq_72 (S.2.2.2.2 _ (jsel (by simp [jPv]))) jq_50 jq_73 ⟨by decide +kernel, by decide +kernel, (by show _ = some 1; decide +kernel)⟩ ⟨by decide, by decide⟩ (sb_rc (r := []) hK hP) jst_T hP hK hD hC trivial hS hA hl.1 ⟨by show 0 + 1 ≤ 1; decide, by show 0 + 700 ≤ 700; decide⟩ (by show (0 : Nat) ≤ 8; decide) rfl jd_J5_append_cf1ce_21 (fun v w1 H1 l1 hR hP hD hS hz hk => ?_)
  obtain ⟨rfl, av2, m2, a2, rfl, h1, h2, h3, h4⟩ := hR
  refine lv_aload_n S.1 S.2.1 jd_J5_append_cf1ce_24 rfl (lv_at hl 1 rfl) ?_
  refine lv_aload_n S.1 S.2.1 jd_J5_append_cf1ce_25 rfl (lv_at hl 1 rfl) ?_
  refine va_get S.1 S.2.1 S.2.2.2.2 jin4 S.2.2.2.1 hK hP 0 rfl rfl 3 (by decide) (S.2.2.2.2 _ (jin jq_70)) (fun _ h => h) rfl jd_J5_append_cf1ce_26 ?_
  refine lv_aload_n S.1 S.2.1 jd_J5_append_cf1ce_29 rfl (lv_at hl 2 rfl) ?_
  refine j_wV (b := sb) (As := [.int (nI n), .ref q]) (rest := []) (ws1 := (jw cB sb av2 m2 n ml a2)) S (j_putS h1 h2 hf) jq_74 jq_75 (S.2.2.2.2 _ (jsel (by simp [jPv]))) jq_50 jq_76 ⟨by decide +kernel, by decide +kernel, (by show _ = some 2; decide +kernel)⟩ ⟨by decide, by decide⟩ (sb_rc (r := []) hK hP) jst_S hP hK hD hC hX hS hA hl.1 ⟨by show 0 + 1 + 0 ≤ 1; decide, by show 0 + 700 + 0 ≤ 700; decide⟩ (by show (0 : Nat) ≤ 8; decide) rfl jd_J5_append_cf1ce_30 (fun v w1 H1 l1 hR hP hD hS hz hk => ?_)
  obtain ⟨rfl, rfl⟩ := hR
  refine lv_aload_n S.1 S.2.1 jd_J5_append_cf1ce_33 rfl (lv_at hl 1 rfl) ?_
  refine lv_dup S.1 S.2.1 jd_J5_append_cf1ce_34 rfl ?_
  refine va_get S.1 S.2.1 S.2.2.2.2 jin4 S.2.2.2.1 hK hP 0 rfl rfl 3 (by decide) (S.2.2.2.2 _ (jin jq_70)) (fun _ h => h) rfl jd_J5_append_cf1ce_35 ?_
  refine lv_iload_n S.1 S.2.1 jd_J5_append_cf1ce_38 rfl (lv_at hl 0 rfl) ?_
  refine lv_iadd S.1 S.2.1 jd_J5_append_cf1ce_39 ?_
  refine w_top (y := nI (n + L)) (nI_add n L) ?_
  refine va_put S.1 S.2.1 S.2.2.2.2 jin4 tyJ4 tyJ4_ok nmJ4 S.2.2.2.1 hK hP hD hS 0 rfl rfl 3 (by decide) (S.2.2.2.2 _ (jin jq_70)) (fun _ h => h) rfl (ty := tyJ4 3) (tyJ4_ok 3 (by decide)) rfl rfl (by show 3 < 4; decide) jd_J5_append_cf1ce_40 (fun H1 l1 (hP : va_P D vwCl (jw cB sb av2 m2 (n + L) ml (va_cpy f a2 0 n L)) H1) (hD : va_D _ (jw cB sb av2 m2 (n + L) ml (va_cpy f a2 0 n L))) hS => ?_)
  refine lv_aload_n S.1 S.2.1 jd_J5_append_cf1ce_43 rfl (lv_at hl 1 rfl) ?_
  refine j_aret S hr (Or.inl ⟨_, rfl⟩) hlk ⟨rfl, av2, m2, _, rfl, h1, h2, sb_fitC hf h3, fun j hj => ?_, fun j hj => ?_⟩ hP hD hS (by show 0 + 1 + 0 ≤ 1; decide) (by show 0 + 700 + 0 ≤ 700; decide) jd_J5_append_cf1ce_44
  · rw [pk_cpy_out (Or.inl hj)]; exact h4 j (by omega)
  · rw [pk_cpy_in (by omega) (by omega), show 0 + (n + j - n) = j by omega]
theorem j_sbS {l : Launch} {D : va_G} {cB : ClassId} {sz : Nat} {sb av m n : Nat} {ml : Int32} {a : Nat → Int32} {q sv L : Nat} {f : Nat → Int32} (hnm : n ≤ m) (hm : m ≤ 700) (hnL : n + L ≤ 300) (hfa : sb_Fit a) (hf : ∀ j, fits .byte (.int (f j)) = true) : jMet l yJ4_append_15ec4 cJ4_append_15ec4 2 (some (.object "java/lang/StringBuilder")) 5 1 700 230 [.ref sb, .ref q] D cB (jw cB sb av m n ml a) sz (rdS q sv L f) (fun v w1 => v = some (.ref sb) ∧ ∃ av' m' a', w1 = jw cB sb av' m' (n + L) ml a' ∧ n + L ≤ m' ∧ m' ≤ 700 ∧ sb_Fit a' ∧ (∀ j, j < n → a' j = a j) ∧ ∀ j, j < L → a' (n + j) = f j) := by
  refine j_of (by decide +kernel) (by first | decide | simp [lg_sl, Value.category]) ?_
  intro p e s mi below meth c ls S hr hlk hmn hsz hP hK hD hC hX hl
  have hA : ∀ q, s.heap.size ≤ q → va_A (jw cB sb av m n ml a) sz q := fun q h => Or.inr (by omega)
  have hS : va_S (va_A (jw cB sb av m n ml a) sz) s.heap s.heap [] := va_S.rf
  refine lv_aload_n S.1 S.2.1 jd_J4_append_15ec4_0 rfl (lv_at hl 0 rfl) ?_
  refine lv_aload_n S.1 S.2.1 jd_J4_append_15ec4_1 rfl (lv_at hl 1 rfl) ?_
  refine j_wU (C := "java/lang/StringBuilder") (b := sb) (As := [.ref q]) (rest := []) (ws1 := (jw cB sb av m n ml a)) S (hK.1 13 _ rfl).2 (j_appS hnm hm hnL hfa hf) jq_77 jq_78 jq_50 jq_79 jq_80 jq_81 ⟨by decide +kernel, (by show _ = some 1; decide +kernel)⟩ ⟨by decide, by decide⟩ (sb_rc (r := []) hK hP) jst_S hP hK hD hC hX hS hA hl.1 ⟨by show 0 + 1 ≤ 1; decide, by show 0 + 700 ≤ 700; decide⟩ (by show (0 : Nat) ≤ 8; decide) rfl jd_J4_append_15ec4_2 (fun v w1 H1 l1 hR hP hD hS hz hk => ?_)
  obtain ⟨rfl, av2, m2, a2, rfl, h1⟩ := hR
  refine lv_pop S.1 S.2.1 jd_J4_append_15ec4_5 rfl ?_
  refine lv_aload_n S.1 S.2.1 jd_J4_append_15ec4_6 rfl (lv_at hl 0 rfl) ?_
  exact j_aret S hr (Or.inl ⟨_, rfl⟩) hlk ⟨rfl, av2, m2, a2, rfl, h1⟩ hP hD hS (by show 0 + 1 ≤ 1; decide) (by show 0 + 700 ≤ 700; decide) jd_J4_append_15ec4_7
