theorem jt_sl3 {i n : Int32} {v : Value} (hv : v.category = 1) : (lg_sl [.int i, .int n, v]).length ≤ 3 := by
  have : ∀ v : Value, v.category = 1 → (if v.category = 2 then [Slot.val v, .second] else [Slot.val v]) = [.val v] := fun v h => if_neg (by omega)
  unfold lg_sl
  simp only [List.flatMap_cons, List.flatMap_nil, this v hv, this (.int i) rfl, this (.int n) rfl]
  exact Nat.le_refl 3
/-! printed by mkj1.py: what is read of numbers and of Strings -/
theorem nI_max (a b : Nat) (ha : a < 2 ^ 31) (hb : b < 2 ^ 31) : (nI a < nI b ↔ a < b) := nI_ltI ha hb
theorem t128 : ∀ v : Fin 128, narrow .char (.int (((nI v.val &&& 255).toUInt32 % 65536).toInt32)) = .int (((nI v.val &&& 255).toUInt32 % 65536).toInt32) ∧ ((nI v.val &&& 255).toUInt32 % 65536).toInt32 = nI v.val := by decide +kernel
theorem rdS.rc {q av L : Nat} {f : Nat → Int32} {A : Nat → Prop} {s : State} {H : Heap} {locs : List Loc} (h : rdS q av L f A s s.heap) (hS : va_S A s.heap H locs) : ∃ cell : Cell, H[q]? = some cell ∧ cell.vm.isStatics = false ∧ s.vm.findClass "java/lang/String" = some cell.cls := by
  obtain ⟨cell, h1, h2, h3, -⟩ := h.1.kept hS.2.1
  exact ⟨cell, h1, h2, h3⟩
theorem j_max {l : Launch} {a b v : Int32} (h1 : a < b → v = b) (h2 : ¬ a < b → v = a) : jMetR l yJ9_max_7cf53 cJ9_max_7cf53 2 (some .int) 0 0 [.int a, .int b] jT (some (.int v)) := by
  refine j_ofR (by decide +kernel) (by first | decide | simp [lg_sl, Value.category]) ?_
  intro p e s mi below meth c ls S hr hlk hC hX hl
  have hS : va_S (fun _ => False) s.heap s.heap [] := va_S.rf
  refine lv_iload_n S.1 S.2.1 jd_J9_max_7cf53_0 rfl (lv_at hl 0 rfl) ?_
  refine lv_iload_n S.1 S.2.1 jd_J9_max_7cf53_1 rfl (lv_at hl 1 rfl) ?_
  refine lv_icmp_lt S.1 S.2.1 jd_J9_max_7cf53_2 (tgt := 9) rfl (fun hb => ?_) (fun hb => ?_)
  · obtain rfl := h1 hb
    refine lv_iload_n S.1 S.2.1 jd_J9_max_7cf53_9 rfl (lv_at hl 1 rfl) ?_
    exact W.iret S.1 S.2.1 hr (fun t ht _ => ⟨rfl, ht⟩) (fun _ h => by cases h) jd_J9_max_7cf53_10 hlk
  · obtain rfl := h2 hb
    refine lv_iload_n S.1 S.2.1 jd_J9_max_7cf53_5 rfl (lv_at hl 0 rfl) ?_
    refine lv_goto S.1 S.2.1 jd_J9_max_7cf53_6 (tgt := 10) rfl ?_
    exact W.iret S.1 S.2.1 hr (fun t ht _ => ⟨rfl, ht⟩) (fun _ h => by cases h) jd_J9_max_7cf53_10 hlk
theorem j_min {l : Launch} {a b v : Int32} (h1 : b < a → v = b) (h2 : ¬ b < a → v = a) : jMetR l yJ9_min_7cf53 cJ9_min_7cf53 2 (some .int) 0 0 [.int a, .int b] jT (some (.int v)) := by
  refine j_ofR (by decide +kernel) (by first | decide | simp [lg_sl, Value.category]) ?_
  intro p e s mi below meth c ls S hr hlk hC hX hl
  have hS : va_S (fun _ => False) s.heap s.heap [] := va_S.rf
  refine lv_iload_n S.1 S.2.1 jd_J9_min_7cf53_0 rfl (lv_at hl 0 rfl) ?_
  refine lv_iload_n S.1 S.2.1 jd_J9_min_7cf53_1 rfl (lv_at hl 1 rfl) ?_
  refine lv_icmp_gt S.1 S.2.1 jd_J9_min_7cf53_2 (tgt := 9) rfl (fun hb => ?_) (fun hb => ?_)
  · obtain rfl := h1 hb
    refine lv_iload_n S.1 S.2.1 jd_J9_min_7cf53_9 rfl (lv_at hl 1 rfl) ?_
    exact W.iret S.1 S.2.1 hr (fun t ht _ => ⟨rfl, ht⟩) (fun _ h => by cases h) jd_J9_min_7cf53_10 hlk
  · obtain rfl := h2 hb
    refine lv_iload_n S.1 S.2.1 jd_J9_min_7cf53_5 rfl (lv_at hl 0 rfl) ?_
    refine lv_goto S.1 S.2.1 jd_J9_min_7cf53_6 (tgt := 10) rfl ?_
    exact W.iret S.1 S.2.1 hr (fun t ht _ => ⟨rfl, ht⟩) (fun _ h => by cases h) jd_J9_min_7cf53_10 hlk
theorem j_newLength {l : Launch} {o g f M : Nat} (h1 : g < f → M = f) (h2 : ¬ g < f → M = g) (hM : 0 < o + M) (hb : o + M < 2 ^ 28) (hg : g < 2 ^ 28) (hf : f < 2 ^ 28) : jMetR l yJ8_newLength_cabcc cJ8_newLength_cabcc 4 (some .int) 1 30 [.int (nI o), .int (nI g), .int (nI f)] jT (some (.int (nI (o + M)))) := by
  refine j_ofR (by decide +kernel) (by first | decide | simp [lg_sl, Value.category]) ?_
  intro p e s mi below meth c ls S hr hlk hC hX hl
  have hS : va_S (fun _ => False) s.heap s.heap [] := va_S.rf
  refine lv_iload_n S.1 S.2.1 jd_J8_newLength_cabcc_0 rfl (lv_at hl 0 rfl) ?_
  refine lv_iload_n S.1 S.2.1 jd_J8_newLength_cabcc_1 rfl (lv_at hl 1 rfl) ?_
  refine lv_iload_n S.1 S.2.1 jd_J8_newLength_cabcc_2 rfl (lv_at hl 2 rfl) ?_
  refine j_cS (As := [.int (nI g), .int (nI f)]) (rest := [.int (nI o)]) S (j_max (v := nI M) (fun h => by rw [h1 ((nI_ltI (by omega) (by omega)).mp h)]) (fun h => by rw [h2 (fun q => h ((nI_ltI (by omega) (by omega)).mpr q))])) jq_0 jq_1 jq_2 jq_3 ⟨by decide +kernel, by decide +kernel, (by show _ = some 2; decide +kernel)⟩ ⟨by decide, by decide⟩ jst_T hC trivial hS hl.1 ⟨Nat.zero_le _, Nat.zero_le _⟩ (by show (1 : Nat) ≤ 8; decide) rfl jd_J8_newLength_cabcc_3 ?_
  refine lv_iadd S.1 S.2.1 jd_J8_newLength_cabcc_6 ?_
  refine w_top (y := nI (o + M)) (nI_add o M) ?_
  refine lv_istore_n S.1 S.2.1 jd_J8_newLength_cabcc_7 rfl hl (by decide) rfl (fun ls (hl : lv_has ls 4 [(3, .int (nI (o + M))), (0, .int (nI o)), (1, .int (nI g)), (2, .int (nI f))]) => ?_)
  refine lv_iconst S.1 S.2.1 jd_J8_newLength_cabcc_8 (v := 0) rfl ?_
  refine lv_iload_n S.1 S.2.1 jd_J8_newLength_cabcc_9 rfl (lv_at hl 0 rfl) ?_
  refine lv_icmp_ge S.1 S.2.1 jd_J8_newLength_cabcc_10 (tgt := 21) rfl (fun hb => absurd hb (nI_nle (by omega) (by omega))) (fun _ => ?_)
  refine lv_iload_n S.1 S.2.1 jd_J8_newLength_cabcc_13 rfl (lv_at hl 0 rfl) ?_
  refine lv_ldc S.1 S.2.1 S.2.2.2.1 (S.2.2.2.2 _ (jin jq_4)) jd_J8_newLength_cabcc_14 ?_
  refine lv_icmp_gt S.1 S.2.1 jd_J8_newLength_cabcc_16 (tgt := 21) rfl (fun hb => absurd hb (show ¬ nI 2147483639 < nI (o + M) from nI_nlt (by omega) (by decide))) (fun _ => ?_)
  refine lv_iload_n S.1 S.2.1 jd_J8_newLength_cabcc_19 rfl (lv_at hl 0 rfl) ?_
  exact W.iret S.1 S.2.1 hr (fun t ht _ => ⟨rfl, ht⟩) (fun _ h => by cases h) jd_J8_newLength_cabcc_20 hlk
theorem j_coder {l : Launch} {q av L : Nat} {f : Nat → Int32} : jMetR l yJ0_coder_7d493 cJ0_coder_7d493 1 (some .byte) 0 0 [.ref q] (rdS q av L f) (some (.int 0)) := by
  refine j_ofR (by decide +kernel) (by first | decide | simp [lg_sl, Value.category]) ?_
  intro p e s mi below meth c ls S hr hlk hC hX hl
  have hS : va_S (fun _ => False) s.heap s.heap [] := va_S.rf
  refine va_gets S.1 S.2.1 hC.1 hS S.2.2.2.1 (S.2.2.2.2 _ (jin jq_5)) (fun _ h => h) jd_J0_coder_7d493_0 ?_
  refine lv_if_eq S.1 S.2.1 jd_J0_coder_7d493_3 (tgt := 13) rfl (fun hb => absurd hb (by decide)) (fun _ => ?_)
  refine lv_aload_n S.1 S.2.1 jd_J0_coder_7d493_6 rfl (lv_at hl 0 rfl) ?_
  refine vk_getf S.1 S.2.1 hX.2.1 hS S.2.2.2.1 (S.2.2.2.2 _ (jin jq_6)) (fun _ h => h) jd_J0_coder_7d493_7 ?_
  refine lv_goto S.1 S.2.1 jd_J0_coder_7d493_10 (tgt := 14) rfl ?_
  exact W.zret S.1 S.2.1 hr rfl (fun t ht _ => ⟨rfl, ht⟩) (fun _ h => by cases h) jd_J0_coder_7d493_14 hlk
theorem j_isL {l : Launch} {q av L : Nat} {f : Nat → Int32} : jMetR l yJ0_isLatin1_aae02 cJ0_isLatin1_aae02 1 (some .boolean) 0 0 [.ref q] (rdS q av L f) (some (.int 1)) := by
  refine j_ofR (by decide +kernel) (by first | decide | simp [lg_sl, Value.category]) ?_
  intro p e s mi below meth c ls S hr hlk hC hX hl
  have hS : va_S (fun _ => False) s.heap s.heap [] := va_S.rf
  refine va_gets S.1 S.2.1 hC.1 hS S.2.2.2.1 (S.2.2.2.2 _ (jin jq_5)) (fun _ h => h) jd_J0_isLatin1_aae02_0 ?_
  refine lv_if_eq S.1 S.2.1 jd_J0_isLatin1_aae02_3 (tgt := 17) rfl (fun hb => absurd hb (by decide)) (fun _ => ?_)
  refine lv_aload_n S.1 S.2.1 jd_J0_isLatin1_aae02_6 rfl (lv_at hl 0 rfl) ?_
  refine vk_getf S.1 S.2.1 hX.2.1 hS S.2.2.2.1 (S.2.2.2.2 _ (jin jq_6)) (fun _ h => h) jd_J0_isLatin1_aae02_7 ?_
  refine lv_if_ne S.1 S.2.1 jd_J0_isLatin1_aae02_10 (tgt := 17) rfl (fun hb => absurd hb (fun h => h rfl)) (fun _ => ?_)
  refine lv_iconst S.1 S.2.1 jd_J0_isLatin1_aae02_13 (v := 1) rfl ?_
  refine lv_goto S.1 S.2.1 jd_J0_isLatin1_aae02_14 (tgt := 18) rfl ?_
  exact W.zret S.1 S.2.1 hr rfl (fun t ht _ => ⟨rfl, ht⟩) (fun _ h => by cases h) jd_J0_isLatin1_aae02_18 hlk
theorem j_length {l : Launch} {q av L : Nat} {f : Nat → Int32} (hL : L < 2 ^ 31) : jMetR l yJ0_length_8abf5 cJ0_length_8abf5 1 (some .int) 1 30 [.ref q] (rdS q av L f) (some (.int (nI L))) := by
  refine j_ofR (by decide +kernel) (by first | decide | simp [lg_sl, Value.category]) ?_
  intro p e s mi below meth c ls S hr hlk hC hX hl
  have hS : va_S (fun _ => False) s.heap s.heap [] := va_S.rf
  refine lv_aload_n S.1 S.2.1 jd_J0_length_8abf5_0 rfl (lv_at hl 0 rfl) ?_
  refine vk_getf S.1 S.2.1 hX.2.2.1 hS S.2.2.2.1 (S.2.2.2.2 _ (jin jq_7)) (fun _ h => h) jd_J0_length_8abf5_1 ?_
  refine va_tlen S.1 S.2.1 hX.2.2.2 hS (v := nI L) rfl jd_J0_length_8abf5_4 ?_
  refine lv_aload_n S.1 S.2.1 jd_J0_length_8abf5_5 rfl (lv_at hl 0 rfl) ?_
  refine j_cV (b := q) (As := []) (rest := [.int (nI L)]) S j_coder jq_8 jq_9 (S.2.2.2.2 _ (jin jq_10)) jq_11 jq_12 ⟨by decide +kernel, by decide +kernel, (by show _ = some 0; decide +kernel)⟩ ⟨by decide, by decide⟩ (hX.rc hS) jst_S hC hX hS hl.1 ⟨Nat.zero_le _, Nat.zero_le _⟩ (by show (1 : Nat) ≤ 8; decide) rfl jd_J0_length_8abf5_6 ?_
  refine lv_ishr S.1 S.2.1 jd_J0_length_8abf5_9 ?_
  refine w_top (y := nI L) (sc_shr0 hL) ?_
  exact W.iret S.1 S.2.1 hr (fun t ht _ => ⟨rfl, ht⟩) (fun _ h => by cases h) jd_J0_length_8abf5_10 hlk
theorem j_pci {l : Launch} {i n : Int32} {v : Value} (hv1 : v.category = 1) (h0 : ¬ i < 0) (hn : i < n) : jMetR l yJ3_checkIndex_8e157 cJ3_checkIndex_8e157 3 (some .int) 0 0 [.int i, .int n, v] jT (some (.int i)) := by
  refine j_ofR (by decide +kernel) (jt_sl3 hv1) ?_
  intro p e s mi below meth c ls S hr hlk hC hX hl
  have hS : va_S (fun _ => False) s.heap s.heap [] := va_S.rf
  refine lv_iload_n S.1 S.2.1 jd_J3_checkIndex_8e157_0 rfl (lv_at hl 0 rfl) ?_
  refine lv_if_lt S.1 S.2.1 jd_J3_checkIndex_8e157_1 (tgt := 9) rfl (fun hb => absurd hb (h0)) (fun _ => ?_)
  refine lv_iload_n S.1 S.2.1 jd_J3_checkIndex_8e157_4 rfl (lv_at hl 0 rfl) ?_
  refine lv_iload_n S.1 S.2.1 jd_J3_checkIndex_8e157_5 rfl (lv_at hl 1 rfl) ?_
  refine lv_icmp_lt S.1 S.2.1 jd_J3_checkIndex_8e157_6 (tgt := 16) rfl (fun _ => ?_) (fun hb => absurd (hn) hb)
  refine lv_iload_n S.1 S.2.1 jd_J3_checkIndex_8e157_16 rfl (lv_at hl 0 rfl) ?_
  exact W.iret S.1 S.2.1 hr (fun t ht _ => ⟨rfl, ht⟩) (fun _ h => by cases h) jd_J3_checkIndex_8e157_17 hlk
theorem j_ci {l : Launch} {i n : Int32} (h0 : ¬ i < 0) (hn : i < n) : jMetR l yJ0_checkIndex_df160 cJ0_checkIndex_df160 2 none 1 40 [.int i, .int n] jT none := by
  refine j_ofR (by decide +kernel) (by first | decide | simp [lg_sl, Value.category]) ?_
  intro p e s mi below meth c ls S hr hlk hC hX hl
  have hS : va_S (fun _ => False) s.heap s.heap [] := va_S.rf
  refine lv_iload_n S.1 S.2.1 jd_J0_checkIndex_df160_0 rfl (lv_at hl 0 rfl) ?_
  refine lv_iload_n S.1 S.2.1 jd_J0_checkIndex_df160_1 rfl (lv_at hl 1 rfl) ?_
  rcases hC.2.1 with hz | ⟨t, hz⟩
  · refine va_gets S.1 S.2.1 hz hS S.2.2.2.1 (S.2.2.2.2 _ (jin jq_13)) (fun _ h => h) jd_J0_checkIndex_df160_2 ?_
    refine j_cS (As := [.int i, .int n, .null]) (rest := []) S (j_pci rfl h0 hn) jq_14 jq_15 jq_16 jq_17 ⟨by decide +kernel, by decide +kernel, (by show _ = some 3; decide +kernel)⟩ ⟨by decide, by decide⟩ jst_T hC trivial hS hl.1 ⟨Nat.zero_le _, Nat.zero_le _⟩ (by show (0 : Nat) ≤ 8; decide) rfl jd_J0_checkIndex_df160_5 ?_
    refine lv_pop S.1 S.2.1 jd_J0_checkIndex_df160_8 rfl ?_
    exact W.vret S.1 S.2.1 hr (fun t ht _ => ⟨rfl, ht⟩) (fun _ h => by cases h) jd_J0_checkIndex_df160_9 hlk
  · refine va_gets S.1 S.2.1 hz hS S.2.2.2.1 (S.2.2.2.2 _ (jin jq_13)) (fun _ h => h) jd_J0_checkIndex_df160_2 ?_
    refine j_cS (As := [.int i, .int n, .ref t]) (rest := []) S (j_pci rfl h0 hn) jq_14 jq_15 jq_16 jq_17 ⟨by decide +kernel, by decide +kernel, (by show _ = some 3; decide +kernel)⟩ ⟨by decide, by decide⟩ jst_T hC trivial hS hl.1 ⟨Nat.zero_le _, Nat.zero_le _⟩ (by show (0 : Nat) ≤ 8; decide) rfl jd_J0_checkIndex_df160_5 ?_
    refine lv_pop S.1 S.2.1 jd_J0_checkIndex_df160_8 rfl ?_
    exact W.vret S.1 S.2.1 hr (fun t ht _ => ⟨rfl, ht⟩) (fun _ h => by cases h) jd_J0_checkIndex_df160_9 hlk
theorem j_lat {l : Launch} {q av L : Nat} {t : Nat → Nat} {i : Nat} (hL : L < 2 ^ 30) (hi : i < L) (ht : t i < 128) : jMetR l yJ1_charAt_3b067 cJ1_charAt_3b067 2 (some .char) 2 80 [.ref av, .int (nI i)] (rdS q av L (fun j => nI (t j))) (some (.int (nI (t i)))) := by
  refine j_ofR (by decide +kernel) (by first | decide | simp [lg_sl, Value.category]) ?_
  intro p e s mi below meth c ls S hr hlk hC hX hl
  have hS : va_S (fun _ => False) s.heap s.heap [] := va_S.rf
  refine lv_iload_n S.1 S.2.1 jd_J1_charAt_3b067_0 rfl (lv_at hl 1 rfl) ?_
  refine lv_aload_n S.1 S.2.1 jd_J1_charAt_3b067_1 rfl (lv_at hl 0 rfl) ?_
  refine va_tlen S.1 S.2.1 hX.2.2.2 hS (v := nI L) rfl jd_J1_charAt_3b067_2 ?_
  refine j_cS (As := [.int (nI i), .int (nI L)]) (rest := []) S (j_ci (nI_pos (by omega)) (nI_lt hi (by omega))) jq_18 jq_19 jq_11 jq_20 ⟨by decide +kernel, by decide +kernel, (by show _ = some 2; decide +kernel)⟩ ⟨by decide, by decide⟩ jst_T hC trivial hS hl.1 ⟨Nat.zero_le _, Nat.zero_le _⟩ (by show (0 : Nat) ≤ 8; decide) rfl jd_J1_charAt_3b067_3 ?_
  refine lv_aload_n S.1 S.2.1 jd_J1_charAt_3b067_6 rfl (lv_at hl 0 rfl) ?_
  refine lv_iload_n S.1 S.2.1 jd_J1_charAt_3b067_7 rfl (lv_at hl 1 rfl) ?_
  refine va_tb S.1 S.2.1 hX.2.2.2 hS (vp_in_nI hi (by omega)) (v := .int (nI (t i))) (by rw [nI_clamp (by omega)]) jd_J1_charAt_3b067_8 ?_
  refine lv_sipush S.1 S.2.1 jd_J1_charAt_3b067_9 (v := 255) (by decide +kernel) ?_
  refine lv_iand S.1 S.2.1 jd_J1_charAt_3b067_12 ?_
  refine lv_i2c S.1 S.2.1 jd_J1_charAt_3b067_13 rfl ?_
  have h8 := t128 ⟨t i, ht⟩
  simp only at h8
  refine w_top (y := nI (t i)) h8.2 ?_
  exact W.zret S.1 S.2.1 hr (by have := h8.1; rw [h8.2] at this; exact this) (fun t ht _ => ⟨rfl, ht⟩) (fun _ h => by cases h) jd_J1_charAt_3b067_14 hlk
theorem j_charAt {l : Launch} {q av L : Nat} {t : Nat → Nat} {i : Nat} (hL : L < 2 ^ 30) (hi : i < L) (ht : t i < 128) : jMetR l yJ0_charAt_5068e cJ0_charAt_5068e 2 (some .char) 3 130 [.ref q, .int (nI i)] (rdS q av L (fun j => nI (t j))) (some (.int (nI (t i)))) := by
  refine j_ofR (by decide +kernel) (by first | decide | simp [lg_sl, Value.category]) ?_
  intro p e s mi below meth c ls S hr hlk hC hX hl
  have hS : va_S (fun _ => False) s.heap s.heap [] := va_S.rf
  refine lv_aload_n S.1 S.2.1 jd_J0_charAt_5068e_0 rfl (lv_at hl 0 rfl) ?_
  refine j_cV (b := q) (As := []) (rest := []) S j_isL jq_21 jq_22 (S.2.2.2.2 _ (jin jq_23)) jq_11 jq_24 ⟨by decide +kernel, by decide +kernel, (by show _ = some 0; decide +kernel)⟩ ⟨by decide, by decide⟩ (hX.rc hS) jst_S hC hX hS hl.1 ⟨Nat.zero_le _, Nat.zero_le _⟩ (by show (0 : Nat) ≤ 8; decide) rfl jd_J0_charAt_5068e_1 ?_
  refine lv_if_eq S.1 S.2.1 jd_J0_charAt_5068e_4 (tgt := 16) rfl (fun hb => absurd hb (by decide)) (fun _ => ?_)
  refine lv_aload_n S.1 S.2.1 jd_J0_charAt_5068e_7 rfl (lv_at hl 0 rfl) ?_
  refine vk_getf S.1 S.2.1 hX.2.2.1 hS S.2.2.2.1 (S.2.2.2.2 _ (jin jq_7)) (fun _ h => h) jd_J0_charAt_5068e_8 ?_
  refine lv_iload_n S.1 S.2.1 jd_J0_charAt_5068e_11 rfl (lv_at hl 1 rfl) ?_
  refine j_cS (As := [.ref av, .int (nI i)]) (rest := []) S (j_lat hL hi ht) jq_25 jq_26 jq_27 jq_28 ⟨by decide +kernel, by decide +kernel, (by show _ = some 2; decide +kernel)⟩ ⟨by decide, by decide⟩ jst_S hC hX hS hl.1 ⟨Nat.zero_le _, Nat.zero_le _⟩ (by show (0 : Nat) ≤ 8; decide) rfl jd_J0_charAt_5068e_12 ?_
  have h8 := t128 ⟨t i, ht⟩
  simp only at h8
  exact W.zret S.1 S.2.1 hr (by have := h8.1; rw [h8.2] at this; exact this) (fun t ht _ => ⟨rfl, ht⟩) (fun _ h => by cases h) jd_J0_charAt_5068e_15 hlk
