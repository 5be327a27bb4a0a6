/-! printed by mkj2.py: a StringBuilder of one byte a letter grows -/
theorem jin4 : ∀ w ∈ u_ws RJ4 TJ4 4, w ∈ jTB := List.forall_mem_cons.mpr ⟨jin jq_29, List.forall_mem_cons.mpr ⟨jin jq_30, List.forall_mem_cons.mpr ⟨jin jq_31, List.forall_mem_cons.mpr ⟨jin jq_32, fun _ h => absurd h List.not_mem_nil⟩⟩⟩⟩
/-- a StringBuilder and its bytes -/
abbrev jw (cB : ClassId) (sb av m n : Nat) (ml : Int32) (a : Nat → Int32) : va_W := [(sb, .inr (13, [.ref av, .int 0, .int ml, .int (nI n)])), (av, .inl (cB, m, .inl a))]
theorem j_sub {q m : Nat} (hq : q < 2 ^ 28) (hm : m < 2 ^ 28) : nI q - nI m ≤ 0 ↔ q ≤ m := by
  rw [Int32.le_iff_toInt_le, pk_sub_toInt (by omega) (by omega), Int32.toInt_zero]; omega
def jcap (q m : Nat) : Nat := m + (if q - m < m + 2 then m + 2 else q - m)
theorem jcap_bd {q m : Nat} (h : m < q) (hq : q ≤ 300) : q ≤ jcap q m ∧ m < jcap q m ∧ jcap q m ≤ 700 := by
  unfold jcap
  split <;> omega
theorem g0 {α : Type} (pre : List α) (x : α) : (pre ++ [x])[pre.length]? = some x := by simp
theorem g1 {α : Type} (pre : List α) (x y : α) : (pre ++ [x] ++ [y])[pre.length]? = some x := by simp
theorem g2 {α : Type} (pre : List α) (x y : α) : (pre ++ [x] ++ [y])[pre.length + 1]? = some y := by simp
theorem s0 {α : Type} (pre : List α) (x z : α) : (pre ++ [x]).set pre.length z = pre ++ [z] := by simp
theorem s2 {α : Type} (pre : List α) (x y z : α) : (pre ++ [x] ++ [y]).set (pre.length + 1) z = pre ++ [x] ++ [z] := by
  rw [List.set_append_right _ _ (by simp)]
  simp
theorem sb_rc {cB : ClassId} {sb av m n : Nat} {ml : Int32} {a : Nat → Int32} {s : State} {H : Heap} {D : va_G} {r : va_W} (hK : va_K D vwCl [(cB, .byte)] s) (hP : va_P D vwCl (jw cB sb av m n ml a ++ r) H) : ∃ cell : Cell, H[sb]? = some cell ∧ cell.vm.isStatics = false ∧ s.vm.findClass "java/lang/StringBuilder" = some cell.cls :=
  va_recv (q0 := 0) (ci := 13) (q := (RJ4, TJ4, 4)) hK hP rfl rfl
theorem j_newCap {l : Launch} {D : va_G} {cB : ClassId} {sz : Nat} {sb av m n : Nat} {ml : Int32} {a : Nat → Int32} {q : Nat} (h : m < q) (hq : q ≤ 300) (hm : m ≤ 700) : jMet l yJ5_newCapacity_0f7a4 cJ5_newCapacity_0f7a4 6 (some .int) 2 0 0 90 [.ref sb, .int (nI q)] D cB (jw cB sb av m n ml a) sz jT (fun v w1 => v = some (.int (nI (jcap q m))) ∧ w1 = jw cB sb av m n ml a) := by
  refine j_of (by decide +kernel) (by first | decide | simp [lg_sl, Value.category]) ?_
  intro p e s mi below meth c ls S hr hlk hmn hsz hP hK hD hC hX hl
  have hA : ∀ q, s.heap.size ≤ q → va_A (jw cB sb av m n ml a) sz q := fun q h => Or.inr (by omega)
  have hS : va_S (va_A (jw cB sb av m n ml a) sz) s.heap s.heap [] := va_S.rf
  have hcap := jcap_bd h hq
  refine lv_aload_n S.1 S.2.1 jd_J5_newCapacity_0f7a4_0 rfl (lv_at hl 0 rfl) ?_
  refine va_get S.1 S.2.1 S.2.2.2.2 jin4 S.2.2.2.1 hK hP 0 rfl rfl 0 (by decide) (S.2.2.2.2 _ (jin jq_33)) (fun _ h => h) rfl jd_J5_newCapacity_0f7a4_1 ?_
  refine va_alen S.1 S.2.1 hK hP 1 0 rfl rfl (v := nI m) rfl jd_J5_newCapacity_0f7a4_4 ?_
  refine lv_istore_n S.1 S.2.1 jd_J5_newCapacity_0f7a4_5 rfl hl (by decide) rfl (fun ls (hl : lv_has ls 6 [(2, .int (nI m)), (0, .ref sb), (1, .int (nI q))]) => ?_)
  refine lv_iload_n S.1 S.2.1 jd_J5_newCapacity_0f7a4_6 rfl (lv_at hl 2 rfl) ?_
  refine lv_aload_n S.1 S.2.1 jd_J5_newCapacity_0f7a4_7 rfl (lv_at hl 1 rfl) ?_
  refine va_get S.1 S.2.1 S.2.2.2.2 jin4 S.2.2.2.1 hK hP 0 rfl rfl 1 (by decide) (S.2.2.2.2 _ (jin jq_34)) (fun _ h => h) rfl jd_J5_newCapacity_0f7a4_8 ?_
  refine lv_ishl S.1 S.2.1 jd_J5_newCapacity_0f7a4_11 ?_
  refine w_top (y := nI q) (sb_shl0 _) ?_
  refine lv_istore_n S.1 S.2.1 jd_J5_newCapacity_0f7a4_12 rfl hl (by decide) rfl (fun ls (hl : lv_has ls 6 [(3, .int (nI q)), (2, .int (nI m)), (0, .ref sb), (1, .int (nI q))]) => ?_)
  refine lv_iload_n S.1 S.2.1 jd_J5_newCapacity_0f7a4_13 rfl (lv_at hl 0 rfl) ?_
  refine lv_iload_n S.1 S.2.1 jd_J5_newCapacity_0f7a4_14 rfl (lv_at hl 1 rfl) ?_
  refine lv_isub S.1 S.2.1 jd_J5_newCapacity_0f7a4_15 ?_
  refine w_top (y := nI (q - m)) (pk_sub (by omega)) ?_
  refine lv_istore S.1 S.2.1 jd_J5_newCapacity_0f7a4_16 hl (by decide) rfl (fun ls (hl : lv_has ls 6 [(4, .int (nI (q - m))), (3, .int (nI q)), (2, .int (nI m)), (0, .ref sb), (1, .int (nI q))]) => ?_)
  refine lv_iload_n S.1 S.2.1 jd_J5_newCapacity_0f7a4_18 rfl (lv_at hl 2 rfl) ?_
  refine lv_iload S.1 S.2.1 jd_J5_newCapacity_0f7a4_19 (lv_at hl 0 rfl) ?_
  refine lv_iload_n S.1 S.2.1 jd_J5_newCapacity_0f7a4_21 rfl (lv_at hl 2 rfl) ?_
  refine lv_iconst S.1 S.2.1 jd_J5_newCapacity_0f7a4_22 (v := 2) rfl ?_
  refine lv_aload_n S.1 S.2.1 jd_J5_newCapacity_0f7a4_23 rfl (lv_at hl 3 rfl) ?_
  refine va_get S.1 S.2.1 S.2.2.2.2 jin4 S.2.2.2.1 hK hP 0 rfl rfl 1 (by decide) (S.2.2.2.2 _ (jin jq_34)) (fun _ h => h) rfl jd_J5_newCapacity_0f7a4_24 ?_
  refine lv_ishl S.1 S.2.1 jd_J5_newCapacity_0f7a4_27 ?_
  refine w_top (y := nI 2) (sb_shl0 _) ?_
  refine lv_iadd S.1 S.2.1 jd_J5_newCapacity_0f7a4_28 ?_
  refine w_top (y := nI (m + 2)) (nI_add m 2) ?_
  refine j_cS (As := [.int (nI m), .int (nI (q - m)), .int (nI (m + 2))]) (rest := []) S (j_newLength (M := if q - m < m + 2 then m + 2 else q - m) (fun h => if_pos h) (fun h => if_neg h) (by have := hcap.1; unfold jcap at this; omega) (by have := hcap.2.2; unfold jcap at this; omega) (by omega) (by omega)) jq_35 jq_36 jq_37 jq_38 ⟨by decide +kernel, by decide +kernel, (by show _ = some 3; decide +kernel)⟩ ⟨by decide, by decide⟩ jst_T hC trivial hS hl.1 ⟨Nat.zero_le _, Nat.zero_le _⟩ (by show (0 : Nat) ≤ 8; decide) rfl jd_J5_newCapacity_0f7a4_29 ?_
  refine lv_istore S.1 S.2.1 jd_J5_newCapacity_0f7a4_32 hl (by decide) rfl (fun ls (hl : lv_has ls 6 [(5, .int (nI (jcap q m))), (4, .int (nI (q - m))), (3, .int (nI q)), (2, .int (nI m)), (0, .ref sb), (1, .int (nI q))]) => ?_)
  refine lv_iload S.1 S.2.1 jd_J5_newCapacity_0f7a4_34 (lv_at hl 0 rfl) ?_
  refine lv_ldc S.1 S.2.1 S.2.2.2.1 (S.2.2.2.2 _ (jin jq_39)) jd_J5_newCapacity_0f7a4_36 ?_
  refine lv_icmp_ne S.1 S.2.1 jd_J5_newCapacity_0f7a4_38 (tgt := 51) rfl (fun _ => ?_) (fun hb => absurd hb (fun z => by have := (nI_eq (by omega) (by decide)).mp (show nI (jcap q m) = nI 2147483647 from z); omega))
  refine lv_iload S.1 S.2.1 jd_J5_newCapacity_0f7a4_51 (lv_at hl 0 rfl) ?_
  refine lv_aload_n S.1 S.2.1 jd_J5_newCapacity_0f7a4_53 rfl (lv_at hl 4 rfl) ?_
  refine va_get S.1 S.2.1 S.2.2.2.2 jin4 S.2.2.2.1 hK hP 0 rfl rfl 1 (by decide) (S.2.2.2.2 _ (jin jq_34)) (fun _ h => h) rfl jd_J5_newCapacity_0f7a4_54 ?_
  refine lv_ishr S.1 S.2.1 jd_J5_newCapacity_0f7a4_57 ?_
  refine w_top (y := nI (jcap q m)) (sc_shr0 (by omega)) ?_
  exact j_iret S hr hlk ⟨rfl, rfl⟩ hP hD hS (Nat.le_refl _) (Nat.le_refl _) jd_J5_newCapacity_0f7a4_58
theorem j_copyOf {l : Launch} {D : va_G} {cB : ClassId} {sz : Nat} {pre : va_W} {av m : Nat} {a : Nat → Int32} {q : Nat} (h : m < q) (hq : q ≤ 700) (hf : sb_Fit a) : jMet l yJ7_copyOf_9075b cJ7_copyOf_9075b 3 (some (.array .byte)) 1 1 700 60 [.ref av, .int (nI q)] D cB (pre ++ [(av, .inl (cB, m, .inl a))]) sz jT (fun v w1 => ∃ x, v = some (.ref x) ∧ w1 = pre ++ [(av, .inl (cB, m, .inl a))] ++ [(x, .inl (cB, q, .inl (va_cpy a (fun _ => 0) 0 0 m)))]) := by
  refine j_of (by decide +kernel) (by first | decide | simp [lg_sl, Value.category]) ?_
  intro p e s mi below meth c ls S hr hlk hmn hsz hP hK hD hC hX hl
  have hA : ∀ q, s.heap.size ≤ q → va_A (pre ++ [(av, .inl (cB, m, .inl a))]) sz q := fun q h => Or.inr (by omega)
  have hS : va_S (va_A (pre ++ [(av, .inl (cB, m, .inl a))]) sz) s.heap s.heap [] := va_S.rf
  refine lv_iload_n S.1 S.2.1 jd_J7_copyOf_9075b_0 rfl (lv_at hl 1 rfl) ?_
  refine lv_aload_n S.1 S.2.1 jd_J7_copyOf_9075b_1 rfl (lv_at hl 0 rfl) ?_
  refine va_alen S.1 S.2.1 hK hP pre.length 0 (g0 _ _) rfl (v := nI m) rfl jd_J7_copyOf_9075b_2 ?_
  refine lv_icmp_ne S.1 S.2.1 jd_J7_copyOf_9075b_3 (tgt := 14) rfl (fun _ => ?_) (fun hb => absurd hb (fun z => by have := (nI_eq (by omega) (by omega)).mp (show nI q = nI m from z); omega))
  refine lv_iload_n S.1 S.2.1 jd_J7_copyOf_9075b_14 rfl (lv_at hl 1 rfl) ?_
  refine va_newa (atype := .byte) (ty := .byte) (N' := q) (a0 := (q, .inl (fun _ => 0))) S.1 S.2.1 (S.2.2.2.2 _ (jin jq_40)) rfl hK hP hD hS hA (fun cA => rfl) (nI_pos (by omega)) (nI_clamp (by omega)) (by show q * 1 ≤ _; omega) (by show 0 + 1 ≤ 1; decide) (by show 0 + q ≤ 700; omega) jd_J7_copyOf_9075b_15 (fun x cA H1 hK1 hP hD hS => ?_)
  obtain rfl := cB_one hK hK1
  refine lv_astore_n S.1 S.2.1 jd_J7_copyOf_9075b_17 rfl hl (by decide) rfl (fun ls (hl : lv_has ls 3 [(2, .ref x), (0, .ref av), (1, .int (nI q))]) => ?_)
  refine lv_aload_n S.1 S.2.1 jd_J7_copyOf_9075b_18 rfl (lv_at hl 1 rfl) ?_
  refine lv_iconst S.1 S.2.1 jd_J7_copyOf_9075b_19 (v := 0) rfl ?_
  refine lv_aload_n S.1 S.2.1 jd_J7_copyOf_9075b_20 rfl (lv_at hl 0 rfl) ?_
  refine lv_iconst S.1 S.2.1 jd_J7_copyOf_9075b_21 (v := 0) rfl ?_
  refine lv_aload_n S.1 S.2.1 jd_J7_copyOf_9075b_22 rfl (lv_at hl 1 rfl) ?_
  refine va_alen S.1 S.2.1 hK hP pre.length 0 (g1 _ _ _) rfl (v := nI m) rfl jd_J7_copyOf_9075b_23 ?_
  refine lv_iload_n S.1 S.2.1 jd_J7_copyOf_9075b_24 rfl (lv_at hl 2 rfl) ?_
  refine j_cS (As := [.int (nI m), .int (nI q)]) (rest := [.int 0, .ref x, .int 0, .ref av]) S (j_min (v := nI m) (fun z => by have := (nI_ltI (by omega) (by omega)).mp z; omega) (fun _ => rfl)) jq_41 jq_42 jq_2 jq_43 ⟨by decide +kernel, by decide +kernel, (by show _ = some 2; decide +kernel)⟩ ⟨by decide, by decide⟩ jst_T hC trivial hS hl.1 ⟨by show 0 + 1 ≤ 1; decide, by show 0 + q ≤ 700; omega⟩ (by show (4 : Nat) ≤ 8; decide) rfl jd_J7_copyOf_9075b_25 ?_
  refine va_copyi S.1 S.2.1 (by rw [S.2.2.1]; exact hl.1.symm) S.2.2.2.1 (S.2.2.2.2 _ (jin jq_44)) (S.2.2.2.2 _ (jin jq_45)) (S.2.2.2.2 _ (jin jq_46)) (S.2.2.2.2 _ (jin jq_47)) hK hP hD hS pre.length (pre.length + 1) 0 0 (g1 _ _ _) (g2 _ _ _) rfl rfl rfl (by decide) (by decide) (nI_pos (by omega)) (by rw [nI_clamp (by omega)]; show 0 + m ≤ m; omega) (by rw [nI_clamp (by omega)]; show 0 + m ≤ q; omega) (fun i _ => hf _) (by show 1 ≤ 1; decide) (by show 0 + (_ + 11) ≤ 60; decide +kernel) jd_J7_copyOf_9075b_28 (fun H1 l1 hP hD hS => ?_)
  rw [s2, nI_clamp (by omega)] at hP hD
  refine lv_aload_n S.1 S.2.1 jd_J7_copyOf_9075b_31 rfl (lv_at hl 0 rfl) ?_
  exact j_aret S hr (Or.inr ⟨_, rfl⟩) hlk ⟨x, rfl, rfl⟩ hP hD hS (by show 0 + 1 ≤ 1; decide) (by show 0 + q ≤ 700; omega) jd_J7_copyOf_9075b_32
theorem j_ensure {l : Launch} {D : va_G} {cB : ClassId} {sz : Nat} {sb av m n : Nat} {ml : Int32} {a : Nat → Int32} {q : Nat} (hm : m ≤ 700) (hq : q ≤ 300) (hf : sb_Fit a) : jMet l yJ5_ensureCapacityInternal_d00df cJ5_ensureCapacityInternal_d00df 3 none 3 1 700 140 [.ref sb, .int (nI q)] D cB (jw cB sb av m n ml a) sz jT (fun v w1 => v = none ∧ ∃ av' m' a', w1 = jw cB sb av' m' n ml a' ∧ q ≤ m' ∧ m' ≤ 700 ∧ sb_Fit a' ∧ ∀ j, j < m → a' j = a j) := by
  refine j_of (by decide +kernel) (by first | decide | simp [lg_sl, Value.category]) ?_
  intro p e s mi below meth c ls S hr hlk hmn hsz hP hK hD hC hX hl
  have hA : ∀ q, s.heap.size ≤ q → va_A (jw cB sb av m n ml a) sz q := fun q h => Or.inr (by omega)
  have hS : va_S (va_A (jw cB sb av m n ml a) sz) s.heap s.heap [] := va_S.rf
  refine lv_aload_n S.1 S.2.1 jd_J5_ensureCapacityInternal_d00df_0 rfl (lv_at hl 0 rfl) ?_
  refine va_get S.1 S.2.1 S.2.2.2.2 jin4 S.2.2.2.1 hK hP 0 rfl rfl 0 (by decide) (S.2.2.2.2 _ (jin jq_33)) (fun _ h => h) rfl jd_J5_ensureCapacityInternal_d00df_1 ?_
  refine va_alen S.1 S.2.1 hK hP 1 0 rfl rfl (v := nI m) rfl jd_J5_ensureCapacityInternal_d00df_4 ?_
  refine lv_aload_n S.1 S.2.1 jd_J5_ensureCapacityInternal_d00df_5 rfl (lv_at hl 0 rfl) ?_
  refine va_get S.1 S.2.1 S.2.2.2.2 jin4 S.2.2.2.1 hK hP 0 rfl rfl 1 (by decide) (S.2.2.2.2 _ (jin jq_34)) (fun _ h => h) rfl jd_J5_ensureCapacityInternal_d00df_6 ?_
  refine lv_ishr S.1 S.2.1 jd_J5_ensureCapacityInternal_d00df_9 ?_
  refine w_top (y := nI m) (sc_shr0 (by omega)) ?_
  refine lv_istore_n S.1 S.2.1 jd_J5_ensureCapacityInternal_d00df_10 rfl hl (by decide) rfl (fun ls (hl : lv_has ls 3 [(2, .int (nI m)), (0, .ref sb), (1, .int (nI q))]) => ?_)
  refine lv_iload_n S.1 S.2.1 jd_J5_ensureCapacityInternal_d00df_11 rfl (lv_at hl 2 rfl) ?_
  refine lv_iload_n S.1 S.2.1 jd_J5_ensureCapacityInternal_d00df_12 rfl (lv_at hl 0 rfl) ?_
  refine lv_isub S.1 S.2.1 jd_J5_ensureCapacityInternal_d00df_13 ?_
  refine lv_if_le S.1 S.2.1 jd_J5_ensureCapacityInternal_d00df_14 (tgt := 38) rfl (fun hb => ?_) (fun hb => ?_)
  · have h9 := (j_sub (by omega) (by omega)).mp hb
    exact j_vret S hr hlk ⟨rfl, av, m, a, rfl, h9, hm, hf, fun _ _ => rfl⟩ hP hD hS (Nat.zero_le _) (Nat.zero_le _) jd_J5_ensureCapacityInternal_d00df_38
  · have h9 : m < q := Nat.lt_of_not_le (fun z => hb ((j_sub (by omega) (by omega)).mpr z))
    have hcap := jcap_bd h9 hq
    refine lv_aload_n S.1 S.2.1 jd_J5_ensureCapacityInternal_d00df_17 rfl (lv_at hl 1 rfl) ?_
    refine lv_aload_n S.1 S.2.1 jd_J5_ensureCapacityInternal_d00df_18 rfl (lv_at hl 1 rfl) ?_
    refine va_get S.1 S.2.1 S.2.2.2.2 jin4 S.2.2.2.1 hK hP 0 rfl rfl 0 (by decide) (S.2.2.2.2 _ (jin jq_33)) (fun _ h => h) rfl jd_J5_ensureCapacityInternal_d00df_19 ?_
    refine lv_aload_n S.1 S.2.1 jd_J5_ensureCapacityInternal_d00df_22 rfl (lv_at hl 1 rfl) ?_
    refine lv_iload_n S.1 S.2.1 jd_J5_ensureCapacityInternal_d00df_23 rfl (lv_at hl 2 rfl) ?_
    refine j_wV (b := sb) (As := [.int (nI q)]) (rest := [.ref av, .ref sb]) (ws1 := (jw cB sb av m n ml a)) S (j_newCap h9 hq hm) jq_48 jq_49 (S.2.2.2.2 _ (jsel (by simp [jPv]))) jq_50 jq_51 ⟨by decide +kernel, by decide +kernel, (by show _ = some 1; decide +kernel)⟩ ⟨by decide, by decide⟩ (sb_rc (r := []) hK hP) jst_T hP hK hD hC trivial hS hA hl.1 ⟨Nat.zero_le _, Nat.zero_le _⟩ (by show (2 : Nat) ≤ 8; decide) rfl jd_J5_ensureCapacityInternal_d00df_24 (fun v w1 H1 l1 hR hP hD hS hz hk => ?_)
    obtain ⟨rfl, rfl⟩ := hR
    refine lv_aload_n S.1 S.2.1 jd_J5_ensureCapacityInternal_d00df_27 rfl (lv_at hl 1 rfl) ?_
    refine va_get S.1 S.2.1 S.2.2.2.2 jin4 S.2.2.2.1 hK hP 0 rfl rfl 1 (by decide) (S.2.2.2.2 _ (jin jq_34)) (fun _ h => h) rfl jd_J5_ensureCapacityInternal_d00df_28 ?_
    refine lv_ishl S.1 S.2.1 jd_J5_ensureCapacityInternal_d00df_31 ?_
    refine w_top (y := nI (jcap q m)) (sb_shl0 _) ?_
    refine j_wS (As := [.ref av, .int (nI (jcap q m))]) (rest := [.ref sb]) (ws1 := (jw cB sb av m n ml a)) S (j_copyOf (pre := [(sb, .inr (13, [.ref av, .int 0, .int ml, .int (nI n)]))]) hcap.2.1 hcap.2.2 hf) jq_52 jq_53 jq_54 jq_55 ⟨by decide +kernel, by decide +kernel, (by show _ = some 2; decide +kernel)⟩ ⟨by decide, by decide⟩ jst_T hP hK hD hC trivial hS hA hl.1 ⟨by show 0 + 0 + 1 ≤ 1; decide, by show 0 + 0 + 700 ≤ 700; decide⟩ (by show (1 : Nat) ≤ 8; decide) rfl jd_J5_ensureCapacityInternal_d00df_32 (fun v w1 H1 l1 hR hP hD hS hz hk => ?_)
    obtain ⟨x, rfl, rfl⟩ := hR
    refine va_put S.1 S.2.1 S.2.2.2.2 jin4 tyJ4 tyJ4_ok nmJ4 S.2.2.2.1 hK hP hD hS 0 rfl rfl 0 (by decide) (S.2.2.2.2 _ (jin jq_33)) (fun _ h => h) rfl (ty := tyJ4 0) (tyJ4_ok 0 (by decide)) rfl rfl (by show 0 < 4; decide) jd_J5_ensureCapacityInternal_d00df_35 (fun H1 l1 (hP : va_P D vwCl [(sb, .inr (13, [.ref x, .int 0, .int ml, .int (nI n)])), (av, .inl (cB, m, .inl a)), (x, .inl (cB, jcap q m, .inl (va_cpy a (fun _ => 0) 0 0 m)))] H1) (hD : va_D _ [(sb, .inr (13, [.ref x, .int 0, .int ml, .int (nI n)])), (av, .inl (cB, m, .inl a)), (x, .inl (cB, jcap q m, .inl (va_cpy a (fun _ => 0) 0 0 m)))]) hS => ?_)
    have hP2 := hP.sub [0, 2] (ws' := jw cB sb x (jcap q m) n ml (va_cpy a (fun _ => 0) 0 0 m)) rfl
    have hD2 := hD.sub [0, 2] (ws' := jw cB sb x (jcap q m) n ml (va_cpy a (fun _ => 0) 0 0 m)) rfl rfl
    exact j_vret S hr hlk ⟨rfl, x, jcap q m, _, rfl, hcap.1, hcap.2.2, sb_fitC hf sb_fit0, fun j hj => sb_cpy0 hj⟩ hP2 hD2 hS (by show 0 + 0 + 1 ≤ 1; decide) (by show 0 + 0 + 700 ≤ 700; decide) jd_J5_ensureCapacityInternal_d00df_38
