/-! printed by mkj5.py: a StringBuilder made, and made a String -/
theorem jin0 : ∀ w ∈ u_ws RJ0 TJ0 4, w ∈ jTB := List.forall_mem_cons.mpr ⟨jin jq_99, List.forall_mem_cons.mpr ⟨jin jq_100, List.forall_mem_cons.mpr ⟨jin jq_101, List.forall_mem_cons.mpr ⟨jin jq_102, fun _ h => absurd h List.not_mem_nil⟩⟩⟩⟩
theorem jdf0 : ∀ j, j < 4 → defaultValue (tyJ0 j) = vp_V [.null, .int 0, .int 0, .int 0] j := by
  intro j h
  match j, h with
  | 0, _ => rfl
  | 1, _ => rfl
  | 2, _ => rfl
  | 3, _ => rfl
theorem j_init5 {l : Launch} {D : va_G} {cB : ClassId} {sz : Nat} {sb : Nat} : jMet l yJ5_init_d00df cJ5_init_d00df 2 none 1 1 16 40 [.ref sb, .int 16] D cB [(sb, .inr (13, [.null, .int 0, .int 0, .int 0]))] sz jT (fun v w1 => v = none ∧ ∃ x, w1 = jw cB sb x 16 0 0 (fun _ => 0)) := by
  refine j_of (by decide +kernel) (by first | decide | simp [lg_sl, Value.category]) ?_
  intro p e s mi below meth c ls S hr hlk hmn hsz hP hK hD hC hX hl
  have hA : ∀ q, s.heap.size ≤ q → va_A [(sb, .inr (13, [.null, .int 0, .int 0, .int 0]))] sz q := fun q h => Or.inr (by omega)
  have hS : va_S (va_A [(sb, .inr (13, [.null, .int 0, .int 0, .int 0]))] sz) s.heap s.heap [] := va_S.rf
  refine lv_aload_n S.1 S.2.1 jd_J5_init_d00df_0 rfl (lv_at hl 0 rfl) ?_
  refine W.objInit S.1 S.2.1 S.2.2.2.1 (S.2.2.2.2 _ (jin jq_103)) (S.2.2.2.2 _ (jin jq_104)) (S.2.2.2.2 _ (jin jq_105)) rfl (by rw [S.2.2.1]; exact hl.1) rfl jd_J5_init_d00df_1 (by decide) (Nat.le_of_ble_eq_true rfl) ?_
  show W _ _ _ _ _ _ _ _ _ _ _ _ _ _ _ (F0 mi 4 ls [])
  refine va_gets S.1 S.2.1 hC.1 hS S.2.2.2.1 (S.2.2.2.2 _ (jin jq_56)) (fun _ h => h) jd_J5_init_d00df_4 ?_
  refine lv_if_eq S.1 S.2.1 jd_J5_init_d00df_7 (tgt := 25) rfl (fun hb => absurd hb (by decide)) (fun _ => ?_)
  refine lv_aload_n S.1 S.2.1 jd_J5_init_d00df_10 rfl (lv_at hl 0 rfl) ?_
  refine lv_iload_n S.1 S.2.1 jd_J5_init_d00df_11 rfl (lv_at hl 1 rfl) ?_
  refine va_newa (atype := .byte) (ty := .byte) (N' := 16) (a0 := (16, .inl (fun _ => 0))) S.1 S.2.1 (S.2.2.2.2 _ (jin jq_40)) rfl hK hP hD hS hA (fun cA => rfl) (by decide) (by decide) (by decide) (by decide) (by decide) jd_J5_init_d00df_12 (fun x cA H1 hK1 hP hD hS => ?_)
  obtain rfl := cB_one hK hK1
  refine va_put S.1 S.2.1 S.2.2.2.2 jin4 tyJ4 tyJ4_ok nmJ4 S.2.2.2.1 hK hP hD hS 0 rfl rfl 0 (by decide) (S.2.2.2.2 _ (jin jq_33)) (fun _ h => h) rfl (ty := tyJ4 0) (tyJ4_ok 0 (by decide)) rfl rfl (by show 0 < 4; decide) jd_J5_init_d00df_14 (fun H1 l1 (hP : va_P D vwCl [(sb, .inr (13, [.ref x, .int 0, .int 0, .int 0])), (x, .inl (cA, 16, .inl (fun _ => 0)))] H1) (hD : va_D _ [(sb, .inr (13, [.ref x, .int 0, .int 0, .int 0])), (x, .inl (cA, 16, .inl (fun _ => 0)))]) hS => ?_)
  refine lv_aload_n S.1 S.2.1 jd_J5_init_d00df_17 rfl (lv_at hl 0 rfl) ?_
  refine lv_iconst S.1 S.2.1 jd_J5_init_d00df_18 (v := 0) rfl ?_
  refine va_put S.1 S.2.1 S.2.2.2.2 jin4 tyJ4 tyJ4_ok nmJ4 S.2.2.2.1 hK hP hD hS 0 rfl rfl 1 (by decide) (S.2.2.2.2 _ (jin jq_34)) (fun _ h => h) rfl (ty := tyJ4 1) (tyJ4_ok 1 (by decide)) rfl rfl (by show 1 < 4; decide) jd_J5_init_d00df_19 (fun H1 l1 (hP : va_P D vwCl [(sb, .inr (13, [.ref x, .int 0, .int 0, .int 0])), (x, .inl (cA, 16, .inl (fun _ => 0)))] H1) (hD : va_D _ [(sb, .inr (13, [.ref x, .int 0, .int 0, .int 0])), (x, .inl (cA, 16, .inl (fun _ => 0)))]) hS => ?_)
  refine lv_goto S.1 S.2.1 jd_J5_init_d00df_22 (tgt := 38) rfl ?_
  exact j_vret S hr hlk ⟨rfl, x, rfl⟩ hP hD hS (by decide) (by decide) jd_J5_init_d00df_38
theorem j_init4 {l : Launch} {D : va_G} {cB : ClassId} {sz : Nat} {sb : Nat} : jMet l yJ4_init_da8c8 cJ4_init_da8c8 1 none 2 1 16 80 [.ref sb] D cB [(sb, .inr (13, [.null, .int 0, .int 0, .int 0]))] sz jT (fun v w1 => v = none ∧ ∃ x, w1 = jw cB sb x 16 0 0 (fun _ => 0)) := by
  refine j_of (by decide +kernel) (by first | decide | simp [lg_sl, Value.category]) ?_
  intro p e s mi below meth c ls S hr hlk hmn hsz hP hK hD hC hX hl
  have hA : ∀ q, s.heap.size ≤ q → va_A [(sb, .inr (13, [.null, .int 0, .int 0, .int 0]))] sz q := fun q h => Or.inr (by omega)
  have hS : va_S (va_A [(sb, .inr (13, [.null, .int 0, .int 0, .int 0]))] sz) s.heap s.heap [] := va_S.rf
  refine lv_aload_n S.1 S.2.1 jd_J4_init_da8c8_0 rfl (lv_at hl 0 rfl) ?_
  refine lv_bipush S.1 S.2.1 jd_J4_init_da8c8_1 (v := 16) (by decide +kernel) ?_
  refine j_wI (b := sb) (As := [.int 16]) (rest := []) (ws1 := [(sb, .inr (13, [.null, .int 0, .int 0, .int 0]))]) S j_init5 jq_106 jq_107 rfl jq_50 jq_108 ⟨by decide +kernel, by decide +kernel, (by show _ = some 1; decide +kernel)⟩ ⟨by decide, by decide⟩ jst_T hP hK hD hC trivial hS hA hl.1 ⟨by decide, by decide⟩ (by show (0 : Nat) ≤ 8; decide) rfl jd_J4_init_da8c8_3 (fun v w1 H1 l1 hR hP hD hS hz hk => ?_)
  obtain ⟨rfl, x, rfl⟩ := hR
  exact j_vret S hr hlk ⟨rfl, x, rfl⟩ hP hD hS (by decide) (by decide) jd_J4_init_da8c8_6
theorem j_ckl {l : Launch} {n : Nat} (hn : n < 2 ^ 30) : jMetR l yJ7_checkLength_df160 cJ7_checkLength_df160 2 none 0 0 [.int 0, .int (nI n)] jT none := by
  refine j_ofR (by decide +kernel) (by first | decide | simp [lg_sl, Value.category]) ?_
  intro p e s mi below meth c ls S hr hlk hC hX hl
  have hS : va_S (fun _ => False) s.heap s.heap [] := va_S.rf
  refine lv_iload_n S.1 S.2.1 jd_J7_checkLength_df160_0 rfl (lv_at hl 1 rfl) ?_
  refine lv_iload_n S.1 S.2.1 jd_J7_checkLength_df160_1 rfl (lv_at hl 0 rfl) ?_
  refine lv_icmp_ge S.1 S.2.1 jd_J7_checkLength_df160_2 (tgt := 37) rfl (fun _ => ?_) (fun hb => absurd (nI_pos' (by omega)) hb)
  exact W.vret S.1 S.2.1 hr (fun t ht _ => ⟨rfl, ht⟩) (fun _ h => by cases h) jd_J7_checkLength_df160_37 hlk
theorem j_corb {l : Launch} {D : va_G} {cB : ClassId} {sz : Nat} {pre : va_W} {av m n : Nat} {a : Nat → Int32} (hnm : n ≤ m) (hm : m ≤ 700) (hf : sb_Fit a) : jMet l yJ7_copyOfRangeByte_39247 cJ7_copyOfRangeByte_39247 5 (some (.array .byte)) 1 1 700 60 [.ref av, .int 0, .int (nI n)] D cB (pre ++ [(av, .inl (cB, m, .inl a))]) sz jT (fun v w1 => ∃ x b, v = some (.ref x) ∧ w1 = pre ++ [(av, .inl (cB, m, .inl a))] ++ [(x, .inl (cB, n, .inl b))] ∧ sb_Fit b ∧ ∀ j, j < n → b j = a j) := by
  refine j_of (by decide +kernel) (by first | decide | simp [lg_sl, Value.category]) ?_
  intro p e s mi below meth c ls S hr hlk hmn hsz hP hK hD hC hX hl
  have hA : ∀ q, s.heap.size ≤ q → va_A (pre ++ [(av, .inl (cB, m, .inl a))]) sz q := fun q h => Or.inr (by omega)
  have hS : va_S (va_A (pre ++ [(av, .inl (cB, m, .inl a))]) sz) s.heap s.heap [] := va_S.rf
  refine lv_iload_n S.1 S.2.1 jd_J7_copyOfRangeByte_39247_0 rfl (lv_at hl 1 rfl) ?_
  refine lv_iload_n S.1 S.2.1 jd_J7_copyOfRangeByte_39247_1 rfl (lv_at hl 2 rfl) ?_
  refine j_cS (As := [.int 0, .int (nI n)]) (rest := []) S (j_ckl (by omega)) jq_109 jq_110 jq_54 jq_111 ⟨by decide +kernel, by decide +kernel, (by show _ = some 2; decide +kernel)⟩ ⟨by decide, by decide⟩ jst_T hC trivial hS hl.1 ⟨Nat.zero_le _, Nat.zero_le _⟩ (by show (0 : Nat) ≤ 8; decide) rfl jd_J7_copyOfRangeByte_39247_2 ?_
  refine lv_iload_n S.1 S.2.1 jd_J7_copyOfRangeByte_39247_5 rfl (lv_at hl 2 rfl) ?_
  refine lv_iload_n S.1 S.2.1 jd_J7_copyOfRangeByte_39247_6 rfl (lv_at hl 1 rfl) ?_
  refine lv_isub S.1 S.2.1 jd_J7_copyOfRangeByte_39247_7 ?_
  refine w_top (y := nI n) (Int32.sub_zero _) ?_
  refine lv_istore_n S.1 S.2.1 jd_J7_copyOfRangeByte_39247_8 rfl hl (by decide) rfl (fun ls (hl : lv_has ls 5 [(3, .int (nI n)), (0, .ref av), (1, .int 0), (2, .int (nI n))]) => ?_)
  refine lv_iload_n S.1 S.2.1 jd_J7_copyOfRangeByte_39247_9 rfl (lv_at hl 0 rfl) ?_
  refine va_newa (atype := .byte) (ty := .byte) (N' := n) (a0 := (n, .inl (fun _ => 0))) S.1 S.2.1 (S.2.2.2.2 _ (jin jq_40)) rfl hK hP hD hS hA (fun cA => rfl) (nI_pos (by omega)) (nI_clamp (by omega)) (by show n * 1 ≤ _; omega) (by show 0 + 1 ≤ 1; decide) (by show 0 + n ≤ 700; omega) jd_J7_copyOfRangeByte_39247_10 (fun x cA H1 hK1 hP hD hS => ?_)
  obtain rfl := cB_one hK hK1
  refine lv_astore S.1 S.2.1 jd_J7_copyOfRangeByte_39247_12 hl (by decide) rfl (fun ls (hl : lv_has ls 5 [(4, .ref x), (3, .int (nI n)), (0, .ref av), (1, .int 0), (2, .int (nI n))]) => ?_)
  refine lv_aload_n S.1 S.2.1 jd_J7_copyOfRangeByte_39247_14 rfl (lv_at hl 2 rfl) ?_
  refine lv_iload_n S.1 S.2.1 jd_J7_copyOfRangeByte_39247_15 rfl (lv_at hl 3 rfl) ?_
  refine lv_aload S.1 S.2.1 jd_J7_copyOfRangeByte_39247_16 (lv_at hl 0 rfl) ?_
  refine lv_iconst S.1 S.2.1 jd_J7_copyOfRangeByte_39247_18 (v := 0) rfl ?_
  refine lv_aload_n S.1 S.2.1 jd_J7_copyOfRangeByte_39247_19 rfl (lv_at hl 2 rfl) ?_
  refine va_alen S.1 S.2.1 hK hP pre.length 0 (g1 _ _ _) rfl (v := nI m) rfl jd_J7_copyOfRangeByte_39247_20 ?_
  refine lv_iload_n S.1 S.2.1 jd_J7_copyOfRangeByte_39247_21 rfl (lv_at hl 3 rfl) ?_
  refine lv_isub S.1 S.2.1 jd_J7_copyOfRangeByte_39247_22 ?_
  refine w_top (y := nI m) (Int32.sub_zero _) ?_
  refine lv_iload_n S.1 S.2.1 jd_J7_copyOfRangeByte_39247_23 rfl (lv_at hl 1 rfl) ?_
  refine j_cS (As := [.int (nI m), .int (nI n)]) (rest := [.int 0, .ref x, .int 0, .ref av]) S (j_min (v := nI n) (fun _ => rfl) (fun z => by have h9 : n = m := Nat.le_antisymm hnm (Nat.le_of_not_lt (fun y => z (nI_lt y (by omega)))); rw [h9])) jq_41 jq_42 jq_2 jq_43 ⟨by decide +kernel, by decide +kernel, (by show _ = some 2; decide +kernel)⟩ ⟨by decide, by decide⟩ jst_T hC trivial hS hl.1 ⟨by show 0 + 1 ≤ 1; decide, by show 0 + n ≤ 700; omega⟩ (by show (4 : Nat) ≤ 8; decide) rfl jd_J7_copyOfRangeByte_39247_24 ?_
  refine va_copyi S.1 S.2.1 (by rw [S.2.2.1]; exact hl.1.symm) S.2.2.2.1 (S.2.2.2.2 _ (jin jq_44)) (S.2.2.2.2 _ (jin jq_45)) (S.2.2.2.2 _ (jin jq_46)) (S.2.2.2.2 _ (jin jq_47)) hK hP hD hS pre.length (pre.length + 1) 0 0 (g1 _ _ _) (g2 _ _ _) rfl rfl rfl (by decide) (by decide) (nI_pos (by omega)) (by rw [nI_clamp (by omega)]; show 0 + n ≤ m; omega) (by rw [nI_clamp (by omega)]; show 0 + n ≤ n; omega) (fun i _ => hf _) (by show 1 ≤ 1; decide) (by show 0 + (_ + 11) ≤ 60; decide +kernel) jd_J7_copyOfRangeByte_39247_27 (fun H1 l1 hP hD hS => ?_)
  rw [s2, nI_clamp (by omega)] at hP hD
  refine lv_aload S.1 S.2.1 jd_J7_copyOfRangeByte_39247_30 (lv_at hl 0 rfl) ?_
  exact j_aret S hr (Or.inr ⟨_, rfl⟩) hlk ⟨x, _, rfl, rfl, sb_fitC hf sb_fit0, fun j hj => sb_cpy0 hj⟩ hP hD hS (by show 0 + 1 ≤ 1; decide) (by show 0 + n ≤ 700; omega) jd_J7_copyOfRangeByte_39247_32
theorem j_cor {l : Launch} {D : va_G} {cB : ClassId} {sz : Nat} {pre : va_W} {av m n : Nat} {a : Nat → Int32} (hnm : n ≤ m) (hm : m ≤ 700) (hf : sb_Fit a) : jMet l yJ7_copyOfRange_39247 cJ7_copyOfRange_39247 3 (some (.array .byte)) 2 1 700 110 [.ref av, .int 0, .int (nI n)] D cB (pre ++ [(av, .inl (cB, m, .inl a))]) sz jT (fun v w1 => ∃ x b, v = some (.ref x) ∧ w1 = pre ++ [(av, .inl (cB, m, .inl a))] ++ [(x, .inl (cB, n, .inl b))] ∧ sb_Fit b ∧ ∀ j, j < n → b j = a j) := by
  refine j_of (by decide +kernel) (by first | decide | simp [lg_sl, Value.category]) ?_
  intro p e s mi below meth c ls S hr hlk hmn hsz hP hK hD hC hX hl
  have hA : ∀ q, s.heap.size ≤ q → va_A (pre ++ [(av, .inl (cB, m, .inl a))]) sz q := fun q h => Or.inr (by omega)
  have hS : va_S (va_A (pre ++ [(av, .inl (cB, m, .inl a))]) sz) s.heap s.heap [] := va_S.rf
  refine lv_iload_n S.1 S.2.1 jd_J7_copyOfRange_39247_0 rfl (lv_at hl 1 rfl) ?_
  refine lv_if_ne S.1 S.2.1 jd_J7_copyOfRange_39247_1 (tgt := 10) rfl (fun hb => absurd hb (fun h => h rfl)) (fun _ => ?_)
  refine lv_iload_n S.1 S.2.1 jd_J7_copyOfRange_39247_4 rfl (lv_at hl 2 rfl) ?_
  refine lv_aload_n S.1 S.2.1 jd_J7_copyOfRange_39247_5 rfl (lv_at hl 0 rfl) ?_
  refine va_alen S.1 S.2.1 hK hP pre.length 0 (g0 _ _) rfl (v := nI m) rfl jd_J7_copyOfRange_39247_6 ?_
  refine lv_icmp_eq S.1 S.2.1 jd_J7_copyOfRange_39247_7 (tgt := 17) rfl (fun hb => ?_) (fun hb => ?_)
  · obtain rfl : n = m := (nI_eq (by omega) (by omega)).mp hb
    have hbn : s.vm.findClass "[B" = some cB := (hK.2 0 _ rfl).2
    refine lv_aload_n S.1 S.2.1 jd_J7_copyOfRange_39247_17 rfl (lv_at hl 0 rfl) ?_
    refine va_clone S.1 S.2.1 (by rw [S.2.2.1]; exact hl.1.symm) S.2.2.2.1 (S.2.2.2.2 _ (jin jq_112)) (S.2.2.2.2 _ (jin jq_113)) (S.2.2.2.2 _ (jin jq_114)) (S.2.2.2.2 _ (jin jq_115)) (S.2.2.2.2 _ (jin jq_116)) (by obtain ⟨-, -, t1, t2, -, -, -, -, h9⟩ := hC; exact h9) hK hP hD hS hA pre.length 0 (x := (n, .inl a)) (ty := .byte) (g0 _ _) rfl hbn (va_fit (fun i _ => hf i)) (by decide) (by decide) (by decide) (by show 0 + n ≤ 700; omega) jd_J7_copyOfRange_39247_18 (fun x H1 hK1 hP hD hS => ?_)
    refine va_castA S.1 S.2.1 S.2.2.2.1 (S.2.2.2.2 _ (jin jq_117)) hP (pre.length + 1) (g2 _ _ _) hbn jd_J7_copyOfRange_39247_21 ?_
    exact j_aret S hr (Or.inr ⟨_, rfl⟩) hlk ⟨x, a, rfl, rfl, hf, fun _ _ => rfl⟩ hP hD hS (by show 0 + 1 ≤ 1; decide) (by show 0 + n ≤ 700; omega) jd_J7_copyOfRange_39247_24
  · refine lv_aload_n S.1 S.2.1 jd_J7_copyOfRange_39247_10 rfl (lv_at hl 0 rfl) ?_
    refine lv_iload_n S.1 S.2.1 jd_J7_copyOfRange_39247_11 rfl (lv_at hl 1 rfl) ?_
    refine lv_iload_n S.1 S.2.1 jd_J7_copyOfRange_39247_12 rfl (lv_at hl 2 rfl) ?_
    refine j_wS (As := [.ref av, .int 0, .int (nI n)]) (rest := []) (ws1 := (pre ++ [(av, .inl (cB, m, .inl a))])) S (j_corb hnm hm hf) jq_118 jq_119 jq_54 jq_120 ⟨by decide +kernel, by decide +kernel, (by show _ = some 3; decide +kernel)⟩ ⟨by decide, by decide⟩ jst_T hP hK hD hC trivial hS hA hl.1 ⟨by show 0 + 1 ≤ 1; decide, by show 0 + 700 ≤ 700; decide⟩ (by show (0 : Nat) ≤ 8; decide) rfl jd_J7_copyOfRange_39247_13 (fun v w1 H1 l1 hR hP hD hS hz hk => ?_)
    obtain ⟨x, b, rfl, rfl, h1⟩ := hR
    exact j_aret S hr (Or.inr ⟨_, rfl⟩) hlk ⟨x, b, rfl, rfl, h1⟩ hP hD hS (by show 0 + 1 ≤ 1; decide) (by show 0 + 700 ≤ 700; decide) jd_J7_copyOfRange_39247_16
theorem j_getV {l : Launch} {D : va_G} {cB : ClassId} {sz : Nat} {sb av m n : Nat} {ml : Int32} {a : Nat → Int32} {r : va_W} : jMet l yJ5_getValue_6d5f1 cJ5_getValue_6d5f1 1 (some (.array .byte)) 0 0 0 0 [.ref sb] D cB (jw cB sb av m n ml a ++ r) sz jT (fun v w1 => v = some (.ref av) ∧ w1 = jw cB sb av m n ml a ++ r) := by
  refine j_of (by decide +kernel) (by first | decide | simp [lg_sl, Value.category]) ?_
  intro p e s mi below meth c ls S hr hlk hmn hsz hP hK hD hC hX hl
  have hA : ∀ q, s.heap.size ≤ q → va_A (jw cB sb av m n ml a ++ r) sz q := fun q h => Or.inr (by omega)
  have hS : va_S (va_A (jw cB sb av m n ml a ++ r) sz) s.heap s.heap [] := va_S.rf
  refine lv_aload_n S.1 S.2.1 jd_J5_getValue_6d5f1_0 rfl (lv_at hl 0 rfl) ?_
  refine va_get S.1 S.2.1 S.2.2.2.2 jin4 S.2.2.2.1 hK hP 0 rfl rfl 0 (by decide) (S.2.2.2.2 _ (jin jq_33)) (fun _ h => h) rfl jd_J5_getValue_6d5f1_1 ?_
  exact j_aret S hr (Or.inr ⟨_, rfl⟩) hlk ⟨rfl, rfl⟩ hP hD hS (Nat.le_refl _) (Nat.le_refl _) jd_J5_getValue_6d5f1_4
theorem j_len5 {l : Launch} {D : va_G} {cB : ClassId} {sz : Nat} {sb av m n : Nat} {ml : Int32} {a : Nat → Int32} {r : va_W} : jMet l yJ5_length_8abf5 cJ5_length_8abf5 1 (some .int) 0 0 0 0 [.ref sb] D cB (jw cB sb av m n ml a ++ r) sz jT (fun v w1 => v = some (.int (nI n)) ∧ w1 = jw cB sb av m n ml a ++ r) := by
  refine j_of (by decide +kernel) (by first | decide | simp [lg_sl, Value.category]) ?_
  intro p e s mi below meth c ls S hr hlk hmn hsz hP hK hD hC hX hl
  have hA : ∀ q, s.heap.size ≤ q → va_A (jw cB sb av m n ml a ++ r) sz q := fun q h => Or.inr (by omega)
  have hS : va_S (va_A (jw cB sb av m n ml a ++ r) sz) s.heap s.heap [] := va_S.rf
  refine lv_aload_n S.1 S.2.1 jd_J5_length_8abf5_0 rfl (lv_at hl 0 rfl) ?_
  refine va_get S.1 S.2.1 S.2.2.2.2 jin4 S.2.2.2.1 hK hP 0 rfl rfl 3 (by decide) (S.2.2.2.2 _ (jin jq_70)) (fun _ h => h) rfl jd_J5_length_8abf5_1 ?_
  exact j_iret S hr hlk ⟨rfl, rfl⟩ hP hD hS (Nat.le_refl _) (Nat.le_refl _) jd_J5_length_8abf5_4
theorem j_len4 {l : Launch} {D : va_G} {cB : ClassId} {sz : Nat} {sb av m n : Nat} {ml : Int32} {a : Nat → Int32} {r : va_W} : jMet l yJ4_length_8abf5 cJ4_length_8abf5 1 (some .int) 1 0 0 30 [.ref sb] D cB (jw cB sb av m n ml a ++ r) sz jT (fun v w1 => v = some (.int (nI n)) ∧ w1 = jw cB sb av m n ml a ++ r) := by
  refine j_of (by decide +kernel) (by first | decide | simp [lg_sl, Value.category]) ?_
  intro p e s mi below meth c ls S hr hlk hmn hsz hP hK hD hC hX hl
  have hA : ∀ q, s.heap.size ≤ q → va_A (jw cB sb av m n ml a ++ r) sz q := fun q h => Or.inr (by omega)
  have hS : va_S (va_A (jw cB sb av m n ml a ++ r) sz) s.heap s.heap [] := va_S.rf
  refine lv_aload_n S.1 S.2.1 jd_J4_length_8abf5_0 rfl (lv_at hl 0 rfl) ?_
  refine j_wU (C := "java/lang/StringBuilder") (b := sb) (As := []) (rest := []) (ws1 := (jw cB sb av m n ml a ++ r)) S (hK.1 13 _ rfl).2 j_len5 jq_121 jq_122 jq_50 jq_123 jq_124 jq_81 ⟨by decide +kernel, (by show _ = some 0; decide +kernel)⟩ ⟨by decide, by decide⟩ (sb_rc hK hP) jst_T hP hK hD hC trivial hS hA hl.1 ⟨Nat.zero_le _, Nat.zero_le _⟩ (by show (0 : Nat) ≤ 8; decide) rfl jd_J4_length_8abf5_1 (fun v w1 H1 l1 hR hP hD hS hz hk => ?_)
  obtain ⟨rfl, rfl⟩ := hR
  exact j_iret S hr hlk ⟨rfl, rfl⟩ hP hD hS (Nat.le_refl _) (Nat.le_refl _) jd_J4_length_8abf5_4
theorem j_initS {l : Launch} {D : va_G} {cB : ClassId} {sz : Nat} {sb av m n : Nat} {ml : Int32} {a : Nat → Int32} {st : Nat} (hnm : n ≤ m) (hm : m ≤ 700) (hf : sb_Fit a) : jMet l yJ0_init_db425 cJ0_init_db425 5 none 3 1 700 160 [.ref st, .ref sb, .null] D cB (jw cB sb av m n ml a ++ [(st, .inr (12, [.null, .int 0, .int 0, .int 0]))]) sz jT (fun v w1 => v = none ∧ ∃ x b, w1 = [(st, .inr (12, [.ref x, .int 0, .int 0, .int 0])), (x, .inl (cB, n, .inl b))] ∧ sb_Fit b ∧ ∀ j, j < n → b j = a j) := by
  refine j_of (by decide +kernel) (by first | decide | simp [lg_sl, Value.category]) ?_
  intro p e s mi below meth c ls S hr hlk hmn hsz hP hK hD hC hX hl
  have hA : ∀ q, s.heap.size ≤ q → va_A (jw cB sb av m n ml a ++ [(st, .inr (12, [.null, .int 0, .int 0, .int 0]))]) sz q := fun q h => Or.inr (by omega)
  have hS : va_S (va_A (jw cB sb av m n ml a ++ [(st, .inr (12, [.null, .int 0, .int 0, .int 0]))]) sz) s.heap s.heap [] := va_S.rf
  refine lv_aload_n S.1 S.2.1 jd_J0_init_db425_0 rfl (lv_at hl 0 rfl) ?_
  refine W.objInit S.1 S.2.1 S.2.2.2.1 (S.2.2.2.2 _ (jin jq_125)) (S.2.2.2.2 _ (jin jq_104)) (S.2.2.2.2 _ (jin jq_105)) rfl (by rw [S.2.2.1]; exact hl.1) rfl jd_J0_init_db425_1 (by decide) (Nat.le_of_ble_eq_true rfl) ?_
  show W _ _ _ _ _ _ _ _ _ _ _ _ _ _ _ (F0 mi 4 ls [])
  refine lv_aload_n S.1 S.2.1 jd_J0_init_db425_4 rfl (lv_at hl 1 rfl) ?_
  refine j_wV (b := sb) (As := []) (rest := []) (ws1 := (jw cB sb av m n ml a ++ [(st, .inr (12, [.null, .int 0, .int 0, .int 0]))])) S j_getV jq_126 jq_127 (S.2.2.2.2 _ (jin jq_128)) jq_50 jq_129 ⟨by decide +kernel, by decide +kernel, (by show _ = some 0; decide +kernel)⟩ ⟨by decide, by decide⟩ (sb_rc hK hP) jst_T hP hK hD hC trivial hS hA hl.1 ⟨Nat.zero_le _, Nat.zero_le _⟩ (by show (0 : Nat) ≤ 8; decide) rfl jd_J0_init_db425_5 (fun v w1 H1 l1 hR hP hD hS hz hk => ?_)
  obtain ⟨rfl, rfl⟩ := hR
  refine lv_astore_n S.1 S.2.1 jd_J0_init_db425_8 rfl hl (by decide) rfl (fun ls (hl : lv_has ls 5 [(3, .ref av), (0, .ref st), (1, .ref sb), (2, .null)]) => ?_)
  refine lv_aload_n S.1 S.2.1 jd_J0_init_db425_9 rfl (lv_at hl 2 rfl) ?_
  refine j_wO (b := sb) (As := []) (rest := []) (ws1 := (jw cB sb av m n ml a ++ [(st, .inr (12, [.null, .int 0, .int 0, .int 0]))])) S j_len4 jq_130 jq_131 jq_132 jq_133 jq_134 jq_124 jq_122 jq_121 ⟨by decide +kernel, by decide +kernel, (by show _ = some 0; decide +kernel)⟩ ⟨by decide, by decide⟩ (sb_rc hK hP) jst_T hP hK hD hC trivial hS hA hl.1 ⟨Nat.zero_le _, Nat.zero_le _⟩ (by show (0 : Nat) ≤ 8; decide) rfl jd_J0_init_db425_10 (fun v w1 H1 l1 hR hP hD hS hz hk => ?_)
  obtain ⟨rfl, rfl⟩ := hR
  refine lv_istore S.1 S.2.1 jd_J0_init_db425_13 hl (by decide) rfl (fun ls (hl : lv_has ls 5 [(4, .int (nI n)), (3, .ref av), (0, .ref st), (1, .ref sb), (2, .null)]) => ?_)
  refine lv_aload_n S.1 S.2.1 jd_J0_init_db425_15 rfl (lv_at hl 3 rfl) ?_
  refine j_wV (b := sb) (As := []) (rest := []) (ws1 := (jw cB sb av m n ml a ++ [(st, .inr (12, [.null, .int 0, .int 0, .int 0]))])) S j_isL5 jq_88 jq_89 (S.2.2.2.2 _ (jin jq_90)) jq_50 jq_135 ⟨by decide +kernel, by decide +kernel, (by show _ = some 0; decide +kernel)⟩ ⟨by decide, by decide⟩ (sb_rc hK hP) jst_T hP hK hD hC trivial hS hA hl.1 ⟨Nat.zero_le _, Nat.zero_le _⟩ (by show (0 : Nat) ≤ 8; decide) rfl jd_J0_init_db425_16 (fun v w1 H1 l1 hR hP hD hS hz hk => ?_)
  obtain ⟨rfl, rfl⟩ := hR
  refine lv_if_eq S.1 S.2.1 jd_J0_init_db425_19 (tgt := 41) rfl (fun hb => absurd hb (by decide)) (fun _ => ?_)
  refine lv_aload_n S.1 S.2.1 jd_J0_init_db425_22 rfl (lv_at hl 2 rfl) ?_
  refine lv_iconst S.1 S.2.1 jd_J0_init_db425_23 (v := 0) rfl ?_
  refine va_putF S.1 S.2.1 S.2.2.2.2 jin0 tyJ0 tyJ0_ok nmJ0 S.2.2.2.1 hK hP hD hS 2 rfl rfl 1 (by decide) (S.2.2.2.2 _ (jin jq_6)) (fun _ h => h) rfl hmn rfl (ty := tyJ0 1) (tyJ0_ok 1 (by decide)) rfl rfl (by show 1 < 4; decide) jd_J0_init_db425_24 (fun H1 l1 (hP : va_P D vwCl (jw cB sb av m n ml a ++ [(st, .inr (12, [.null, .int 0, .int 0, .int 0]))]) H1) (hD : va_D _ (jw cB sb av m n ml a ++ [(st, .inr (12, [.null, .int 0, .int 0, .int 0]))])) hS => ?_)
  refine lv_aload_n S.1 S.2.1 jd_J0_init_db425_27 rfl (lv_at hl 2 rfl) ?_
  refine lv_aload_n S.1 S.2.1 jd_J0_init_db425_28 rfl (lv_at hl 1 rfl) ?_
  refine lv_iconst S.1 S.2.1 jd_J0_init_db425_29 (v := 0) rfl ?_
  refine lv_iload S.1 S.2.1 jd_J0_init_db425_30 (lv_at hl 0 rfl) ?_
  have hP2 : va_P D vwCl ([(sb, .inr (13, [.ref av, .int 0, .int ml, .int (nI n)])), (st, .inr (12, [.null, .int 0, .int 0, .int 0]))] ++ [(av, .inl (cB, m, .inl a))]) H1 := hP.sub [0, 2, 1] rfl
  have hD2 : va_D (va_A (jw cB sb av m n ml a ++ [(st, .inr (12, [.null, .int 0, .int 0, .int 0]))]) sz) ([(sb, .inr (13, [.ref av, .int 0, .int ml, .int (nI n)])), (st, .inr (12, [.null, .int 0, .int 0, .int 0]))] ++ [(av, .inl (cB, m, .inl a))]) := hD.sub [0, 2, 1] rfl rfl
  refine j_wS (As := [.ref av, .int 0, .int (nI n)]) (rest := [.ref st]) (ws1 := ([(sb, .inr (13, [.ref av, .int 0, .int ml, .int (nI n)])), (st, .inr (12, [.null, .int 0, .int 0, .int 0]))] ++ [(av, .inl (cB, m, .inl a))])) S (j_cor (pre := [(sb, .inr (13, [.ref av, .int 0, .int ml, .int (nI n)])), (st, .inr (12, [.null, .int 0, .int 0, .int 0]))]) hnm hm hf) jq_136 jq_137 jq_54 jq_138 ⟨by decide +kernel, by decide +kernel, (by show _ = some 3; decide +kernel)⟩ ⟨by decide, by decide⟩ jst_T hP2 hK hD2 hC trivial hS hA hl.1 ⟨by show 0 + 0 + 0 + 0 + 1 ≤ 1; decide, by show 0 + 0 + 0 + 0 + 700 ≤ 700; decide⟩ (by show (1 : Nat) ≤ 8; decide) rfl jd_J0_init_db425_32 (fun v w1 H1 l1 hR hP hD hS hz hk => ?_)
  obtain ⟨x, b, rfl, rfl, h1, h2⟩ := hR
  refine va_putF S.1 S.2.1 S.2.2.2.2 jin0 tyJ0 tyJ0_ok nmJ0 S.2.2.2.1 hK hP hD hS 1 rfl rfl 0 (by decide) (S.2.2.2.2 _ (jin jq_7)) (fun _ h => h) rfl hmn rfl (ty := tyJ0 0) (tyJ0_ok 0 (by decide)) rfl rfl (by show 0 < 4; decide) jd_J0_init_db425_35 (fun H1 l1 (hP : va_P D vwCl [(sb, .inr (13, [.ref av, .int 0, .int ml, .int (nI n)])), (st, .inr (12, [.ref x, .int 0, .int 0, .int 0])), (av, .inl (cB, m, .inl a)), (x, .inl (cB, n, .inl b))] H1) (hD : va_D _ [(sb, .inr (13, [.ref av, .int 0, .int ml, .int (nI n)])), (st, .inr (12, [.ref x, .int 0, .int 0, .int 0])), (av, .inl (cB, m, .inl a)), (x, .inl (cB, n, .inl b))]) hS => ?_)
  refine lv_goto S.1 S.2.1 jd_J0_init_db425_38 (tgt := 97) rfl ?_
  have hP3 := hP.sub [1, 3] (ws' := [(st, .inr (12, [.ref x, .int 0, .int 0, .int 0])), (x, .inl (cB, n, .inl b))]) rfl
  have hD3 := hD.sub [1, 3] (ws' := [(st, .inr (12, [.ref x, .int 0, .int 0, .int 0])), (x, .inl (cB, n, .inl b))]) rfl rfl
  exact j_vret S hr hlk ⟨rfl, x, b, rfl, h1, h2⟩ hP3 hD3 hS (by show 0 + 0 + 0 + 0 + 1 ≤ 1; decide) (by show 0 + 0 + 0 + 0 + 700 ≤ 700; decide) jd_J0_init_db425_97
theorem j_initB {l : Launch} {D : va_G} {cB : ClassId} {sz : Nat} {sb av m n : Nat} {ml : Int32} {a : Nat → Int32} {st : Nat} (hnm : n ≤ m) (hm : m ≤ 700) (hf : sb_Fit a) : jMet l yJ0_init_81219 cJ0_init_81219 2 none 4 1 700 220 [.ref st, .ref sb] D cB (jw cB sb av m n ml a ++ [(st, .inr (12, [.null, .int 0, .int 0, .int 0]))]) sz jT (fun v w1 => v = none ∧ ∃ x b, w1 = [(st, .inr (12, [.ref x, .int 0, .int 0, .int 0])), (x, .inl (cB, n, .inl b))] ∧ sb_Fit b ∧ ∀ j, j < n → b j = a j) := by
  refine j_of (by decide +kernel) (by first | decide | simp [lg_sl, Value.category]) ?_
  intro p e s mi below meth c ls S hr hlk hmn hsz hP hK hD hC hX hl
  have hA : ∀ q, s.heap.size ≤ q → va_A (jw cB sb av m n ml a ++ [(st, .inr (12, [.null, .int 0, .int 0, .int 0]))]) sz q := fun q h => Or.inr (by omega)
  have hS : va_S (va_A (jw cB sb av m n ml a ++ [(st, .inr (12, [.null, .int 0, .int 0, .int 0]))]) sz) s.heap s.heap [] := va_S.rf
  refine lv_aload_n S.1 S.2.1 jd_J0_init_81219_0 rfl (lv_at hl 0 rfl) ?_
  refine lv_aload_n S.1 S.2.1 jd_J0_init_81219_1 rfl (lv_at hl 1 rfl) ?_
  refine lv_null S.1 S.2.1 jd_J0_init_81219_2 ?_
  refine j_wI (b := st) (As := [.ref sb, .null]) (rest := []) (ws1 := (jw cB sb av m n ml a ++ [(st, .inr (12, [.null, .int 0, .int 0, .int 0]))])) S (j_initS hnm hm hf) jq_139 jq_140 rfl jq_11 jq_141 ⟨by decide +kernel, by decide +kernel, (by show _ = some 2; decide +kernel)⟩ ⟨by decide, by decide⟩ jst_T hP hK hD hC trivial hS hA hl.1 ⟨by show 0 + 1 ≤ 1; decide, by show 0 + 700 ≤ 700; decide⟩ (by show (0 : Nat) ≤ 8; decide) rfl jd_J0_init_81219_3 (fun v w1 H1 l1 hR hP hD hS hz hk => ?_)
  obtain ⟨rfl, x, b, rfl, h1, h2⟩ := hR
  exact j_vret S hr hlk ⟨rfl, x, b, rfl, h1, h2⟩ hP hD hS (by show 0 + 1 ≤ 1; decide) (by show 0 + 700 ≤ 700; decide) jd_J0_init_81219_6
theorem j_toS {l : Launch} {D : va_G} {cB : ClassId} {sz : Nat} {sb av m n : Nat} {ml : Int32} {a : Nat → Int32} (hnm : n ≤ m) (hm : m ≤ 700) (hf : sb_Fit a) : jMet l yJ4_toString_0e30d cJ4_toString_0e30d 1 (some (.object "java/lang/String")) 5 2 704 280 [.ref sb] D cB (jw cB sb av m n ml a) sz jT (fun v w1 => ∃ st x b, v = some (.ref st) ∧ w1 = [(st, .inr (12, [.ref x, .int 0, .int 0, .int 0])), (x, .inl (cB, n, .inl b))] ∧ sb_Fit b ∧ ∀ j, j < n → b j = a j) := by
  refine j_of (by decide +kernel) (by first | decide | simp [lg_sl, Value.category]) ?_
  intro p e s mi below meth c ls S hr hlk hmn hsz hP hK hD hC hX hl
  have hA : ∀ q, s.heap.size ≤ q → va_A (jw cB sb av m n ml a) sz q := fun q h => Or.inr (by omega)
  have hS : va_S (va_A (jw cB sb av m n ml a) sz) s.heap s.heap [] := va_S.rf
  refine va_new (C := RJ0) (T := TJ0) (N := 4) (ci := 12) (fs := [.null, .int 0, .int 0, .int 0]) S.1 S.2.1 S.2.2.2.2 jin0 tyJ0 tyJ0_ok S.2.2.2.1 (S.2.2.2.2 _ (jin jq_142)) (S.2.2.2.2 _ (jin jq_143)) (S.2.2.2.2 _ (jin jq_11)) hK hP hD hS hA rfl jdf0 (by decide) (by decide) jd_J4_toString_0e30d_0 (fun st H1 hP hD hS => ?_)
  refine lv_dup S.1 S.2.1 jd_J4_toString_0e30d_3 rfl ?_
  refine lv_aload_n S.1 S.2.1 jd_J4_toString_0e30d_4 rfl (lv_at hl 0 rfl) ?_
  refine j_wI (b := st) (As := [.ref sb]) (rest := [.ref st]) (ws1 := (jw cB sb av m n ml a ++ [(st, .inr (12, [.null, .int 0, .int 0, .int 0]))])) S (j_initB hnm hm hf) jq_144 jq_145 rfl jq_11 jq_146 ⟨by decide +kernel, by decide +kernel, (by show _ = some 1; decide +kernel)⟩ ⟨by decide, by decide⟩ jst_T hP hK hD hC trivial hS hA hl.1 ⟨by show 0 + 1 + 1 ≤ 2; decide, by show 0 + 4 + 700 ≤ 704; decide⟩ (by show (1 : Nat) ≤ 8; decide) rfl jd_J4_toString_0e30d_5 (fun v w1 H1 l1 hR hP hD hS hz hk => ?_)
  obtain ⟨rfl, x, b, rfl, h1, h2⟩ := hR
  exact j_aret S hr (Or.inl ⟨_, rfl⟩) hlk ⟨st, x, b, rfl, rfl, h1, h2⟩ hP hD hS (by show 0 + 1 + 1 ≤ 2; decide) (by show 0 + 4 + 700 ≤ 704; decide) jd_J4_toString_0e30d_8
