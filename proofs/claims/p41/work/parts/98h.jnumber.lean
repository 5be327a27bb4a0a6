/-! printed by mkj4.py: a number appended -/
/-- the letters of a number under a thousand -/
def dgs (x : Nat) : List Nat := if x < 10 then [48 + x] else if x < 100 then [48 + x / 10, 48 + x % 10] else [48 + x / 100, 48 + x % 100 / 10, 48 + x % 100 % 10]
def dgl (x : Nat) : Nat := (dgs x).length
def dgf (x : Nat) (j : Nat) : Int32 := nI ((dgs x).getD j 0)
theorem dgs_1 {x : Nat} (h : x < 10) : dgs x = [48 + x] := if_pos h
theorem dgs_2 {x : Nat} (h1 : 10 ≤ x) (h : x < 100) : dgs x = [48 + x / 10, 48 + x % 10] := by unfold dgs; rw [if_neg (by omega), if_pos h]
theorem dgs_3 {x : Nat} (h1 : 100 ≤ x) : dgs x = [48 + x / 100, 48 + x % 100 / 10, 48 + x % 100 % 10] := by unfold dgs; rw [if_neg (by omega), if_neg (by omega)]
theorem dgl_bd (x : Nat) : 1 ≤ dgl x ∧ dgl x ≤ 3 := by
  unfold dgl dgs
  split
  · exact ⟨Nat.le_of_ble_eq_true rfl, Nat.le_of_ble_eq_true rfl⟩
  · split <;> exact ⟨Nat.le_of_ble_eq_true rfl, Nat.le_of_ble_eq_true rfl⟩
theorem nbF : ∀ c : Fin 128, vp_nar .byte (nI c.val) = nI c.val ∧ fits .byte (.int (nI c.val)) = true := by decide +kernel
theorem nb128 {c : Nat} (h : c < 128) : vp_nar .byte (nI c) = nI c := (nbF ⟨c, h⟩).1
theorem nb_fit {c : Nat} (h : c < 128) : fits .byte (.int (nI c)) = true := (nbF ⟨c, h⟩).2
theorem jn_100 : (-100 : Int32) = -nI 100 := by decide +kernel
theorem jn_9 : (-9 : Int32) = -nI 9 := by decide +kernel
theorem jn_10 : (-10 : Int32) = -nI 10 := by decide +kernel
theorem jn_1000 : (-1000 : Int32) = -nI 1000 := by decide +kernel
theorem j_size1 {l : Launch} {x : Nat} (h1 : x < 10) : jMetR l yJ6_stringSize_0f7a4 cJ6_stringSize_0f7a4 4 (some .int) 0 0 [.int (nI x)] jT (some (.int (nI 1))) := by
  refine j_ofR (by decide +kernel) (by first | decide | simp [lg_sl, Value.category]) ?_
  intro p e s mi below meth c ls S hr hlk hC hX hl
  have hS : va_S (fun _ => False) s.heap s.heap [] := va_S.rf
  refine lv_iconst S.1 S.2.1 jd_J6_stringSize_0f7a4_0 (v := 1) rfl ?_
  refine lv_istore_n S.1 S.2.1 jd_J6_stringSize_0f7a4_1 rfl hl (by decide) rfl (fun ls (hl : lv_has ls 4 [(1, .int 1), (0, .int (nI x))]) => ?_)
  refine lv_iload_n S.1 S.2.1 jd_J6_stringSize_0f7a4_2 rfl (lv_at hl 1 rfl) ?_
  refine lv_if_lt S.1 S.2.1 jd_J6_stringSize_0f7a4_3 (tgt := 11) rfl (fun hb => absurd hb (nI_pos (by omega))) (fun _ => ?_)
  refine lv_iconst S.1 S.2.1 jd_J6_stringSize_0f7a4_6 (v := 0) rfl ?_
  refine lv_istore_n S.1 S.2.1 jd_J6_stringSize_0f7a4_7 rfl hl (by decide) rfl (fun ls (hl : lv_has ls 4 [(1, .int 0), (0, .int (nI x))]) => ?_)
  refine lv_iload_n S.1 S.2.1 jd_J6_stringSize_0f7a4_8 rfl (lv_at hl 1 rfl) ?_
  refine lv_ineg S.1 S.2.1 jd_J6_stringSize_0f7a4_9 ?_
  refine lv_istore_n S.1 S.2.1 jd_J6_stringSize_0f7a4_10 rfl hl (by decide) rfl (fun ls (hl : lv_has ls 4 [(0, .int (-nI x)), (1, .int 0)]) => ?_)
  refine lv_bipush S.1 S.2.1 jd_J6_stringSize_0f7a4_11 (v := (-10)) (by decide +kernel) ?_
  refine lv_istore_n S.1 S.2.1 jd_J6_stringSize_0f7a4_13 rfl hl (by decide) rfl (fun ls (hl : lv_has ls 4 [(2, .int (-10)), (0, .int (-nI x)), (1, .int 0)]) => ?_)
  refine lv_iconst S.1 S.2.1 jd_J6_stringSize_0f7a4_14 (v := 1) rfl ?_
  refine lv_istore_n S.1 S.2.1 jd_J6_stringSize_0f7a4_15 rfl hl (by decide) rfl (fun ls (hl : lv_has ls 4 [(3, .int 1), (2, .int (-10)), (0, .int (-nI x)), (1, .int 0)]) => ?_)
  refine lv_iload_n S.1 S.2.1 jd_J6_stringSize_0f7a4_16 rfl (lv_at hl 0 rfl) ?_
  refine lv_bipush S.1 S.2.1 jd_J6_stringSize_0f7a4_17 (v := 10) (by decide +kernel) ?_
  refine lv_icmp_ge S.1 S.2.1 jd_J6_stringSize_0f7a4_19 (tgt := 42) rfl (fun hb => absurd hb (by decide)) (fun _ => ?_)
  refine lv_iload_n S.1 S.2.1 jd_J6_stringSize_0f7a4_22 rfl (lv_at hl 2 rfl) ?_
  refine lv_iload_n S.1 S.2.1 jd_J6_stringSize_0f7a4_23 rfl (lv_at hl 1 rfl) ?_
  refine lv_icmp_le S.1 S.2.1 jd_J6_stringSize_0f7a4_24 (tgt := 31) rfl (fun hb => absurd hb (fun z => by have := (sb_nle (a := x) (b := 10) (by omega) (by omega)).mp (by rw [← jn_10]; exact z); omega)) (fun _ => ?_)
  refine lv_iload_n S.1 S.2.1 jd_J6_stringSize_0f7a4_27 rfl (lv_at hl 0 rfl) ?_
  refine lv_iload_n S.1 S.2.1 jd_J6_stringSize_0f7a4_28 rfl (lv_at hl 3 rfl) ?_
  refine lv_iadd S.1 S.2.1 jd_J6_stringSize_0f7a4_29 ?_
  refine w_top (y := nI 1) (by decide) ?_
  exact W.iret S.1 S.2.1 hr (fun t ht _ => ⟨rfl, ht⟩) (fun _ h => by cases h) jd_J6_stringSize_0f7a4_30 hlk
theorem j_size2 {l : Launch} {x : Nat} (h0 : 10 ≤ x) (h1 : x < 100) : jMetR l yJ6_stringSize_0f7a4 cJ6_stringSize_0f7a4 4 (some .int) 0 0 [.int (nI x)] jT (some (.int (nI 2))) := by
  refine j_ofR (by decide +kernel) (by first | decide | simp [lg_sl, Value.category]) ?_
  intro p e s mi below meth c ls S hr hlk hC hX hl
  have hS : va_S (fun _ => False) s.heap s.heap [] := va_S.rf
  refine lv_iconst S.1 S.2.1 jd_J6_stringSize_0f7a4_0 (v := 1) rfl ?_
  refine lv_istore_n S.1 S.2.1 jd_J6_stringSize_0f7a4_1 rfl hl (by decide) rfl (fun ls (hl : lv_has ls 4 [(1, .int 1), (0, .int (nI x))]) => ?_)
  refine lv_iload_n S.1 S.2.1 jd_J6_stringSize_0f7a4_2 rfl (lv_at hl 1 rfl) ?_
  refine lv_if_lt S.1 S.2.1 jd_J6_stringSize_0f7a4_3 (tgt := 11) rfl (fun hb => absurd hb (nI_pos (by omega))) (fun _ => ?_)
  refine lv_iconst S.1 S.2.1 jd_J6_stringSize_0f7a4_6 (v := 0) rfl ?_
  refine lv_istore_n S.1 S.2.1 jd_J6_stringSize_0f7a4_7 rfl hl (by decide) rfl (fun ls (hl : lv_has ls 4 [(1, .int 0), (0, .int (nI x))]) => ?_)
  refine lv_iload_n S.1 S.2.1 jd_J6_stringSize_0f7a4_8 rfl (lv_at hl 1 rfl) ?_
  refine lv_ineg S.1 S.2.1 jd_J6_stringSize_0f7a4_9 ?_
  refine lv_istore_n S.1 S.2.1 jd_J6_stringSize_0f7a4_10 rfl hl (by decide) rfl (fun ls (hl : lv_has ls 4 [(0, .int (-nI x)), (1, .int 0)]) => ?_)
  refine lv_bipush S.1 S.2.1 jd_J6_stringSize_0f7a4_11 (v := (-10)) (by decide +kernel) ?_
  refine lv_istore_n S.1 S.2.1 jd_J6_stringSize_0f7a4_13 rfl hl (by decide) rfl (fun ls (hl : lv_has ls 4 [(2, .int (-10)), (0, .int (-nI x)), (1, .int 0)]) => ?_)
  refine lv_iconst S.1 S.2.1 jd_J6_stringSize_0f7a4_14 (v := 1) rfl ?_
  refine lv_istore_n S.1 S.2.1 jd_J6_stringSize_0f7a4_15 rfl hl (by decide) rfl (fun ls (hl : lv_has ls 4 [(3, .int 1), (2, .int (-10)), (0, .int (-nI x)), (1, .int 0)]) => ?_)
  refine lv_iload_n S.1 S.2.1 jd_J6_stringSize_0f7a4_16 rfl (lv_at hl 0 rfl) ?_
  refine lv_bipush S.1 S.2.1 jd_J6_stringSize_0f7a4_17 (v := 10) (by decide +kernel) ?_
  refine lv_icmp_ge S.1 S.2.1 jd_J6_stringSize_0f7a4_19 (tgt := 42) rfl (fun hb => absurd hb (by decide)) (fun _ => ?_)
  refine lv_iload_n S.1 S.2.1 jd_J6_stringSize_0f7a4_22 rfl (lv_at hl 2 rfl) ?_
  refine lv_iload_n S.1 S.2.1 jd_J6_stringSize_0f7a4_23 rfl (lv_at hl 1 rfl) ?_
  refine lv_icmp_le S.1 S.2.1 jd_J6_stringSize_0f7a4_24 (tgt := 31) rfl (fun _ => ?_) (fun hb => absurd (by rw [jn_10]; exact (sb_nle (by omega) (by omega)).mpr (by omega)) hb)
  refine lv_bipush S.1 S.2.1 jd_J6_stringSize_0f7a4_31 (v := 10) (by decide +kernel) ?_
  refine lv_iload_n S.1 S.2.1 jd_J6_stringSize_0f7a4_33 rfl (lv_at hl 1 rfl) ?_
  refine lv_imul S.1 S.2.1 jd_J6_stringSize_0f7a4_34 ?_
  refine w_top (y := (-100)) (by decide) ?_
  refine lv_istore_n S.1 S.2.1 jd_J6_stringSize_0f7a4_35 rfl hl (by decide) rfl (fun ls (hl : lv_has ls 4 [(2, .int (-100)), (3, .int 1), (0, .int (-nI x)), (1, .int 0)]) => ?_)
  refine lv_iinc S.1 S.2.1 jd_J6_stringSize_0f7a4_36 hl (k := 1) rfl (v := 2) (by decide) (by decide) rfl (fun ls (hl : lv_has ls 4 [(3, .int 2), (2, .int (-100)), (0, .int (-nI x)), (1, .int 0)]) => ?_)
  refine lv_goto S.1 S.2.1 jd_J6_stringSize_0f7a4_39 (tgt := 16) rfl ?_
  refine lv_iload_n S.1 S.2.1 jd_J6_stringSize_0f7a4_16 rfl (lv_at hl 0 rfl) ?_
  refine lv_bipush S.1 S.2.1 jd_J6_stringSize_0f7a4_17 (v := 10) (by decide +kernel) ?_
  refine lv_icmp_ge S.1 S.2.1 jd_J6_stringSize_0f7a4_19 (tgt := 42) rfl (fun hb => absurd hb (by decide)) (fun _ => ?_)
  refine lv_iload_n S.1 S.2.1 jd_J6_stringSize_0f7a4_22 rfl (lv_at hl 2 rfl) ?_
  refine lv_iload_n S.1 S.2.1 jd_J6_stringSize_0f7a4_23 rfl (lv_at hl 1 rfl) ?_
  refine lv_icmp_le S.1 S.2.1 jd_J6_stringSize_0f7a4_24 (tgt := 31) rfl (fun hb => absurd hb (fun z => by have := (sb_nle (a := x) (b := 100) (by omega) (by omega)).mp (by rw [← jn_100]; exact z); omega)) (fun _ => ?_)
  refine lv_iload_n S.1 S.2.1 jd_J6_stringSize_0f7a4_27 rfl (lv_at hl 0 rfl) ?_
  refine lv_iload_n S.1 S.2.1 jd_J6_stringSize_0f7a4_28 rfl (lv_at hl 3 rfl) ?_
  refine lv_iadd S.1 S.2.1 jd_J6_stringSize_0f7a4_29 ?_
  refine w_top (y := nI 2) (by decide) ?_
  exact W.iret S.1 S.2.1 hr (fun t ht _ => ⟨rfl, ht⟩) (fun _ h => by cases h) jd_J6_stringSize_0f7a4_30 hlk
theorem j_size3 {l : Launch} {x : Nat} (h0 : 100 ≤ x) (h1 : x < 1000) : jMetR l yJ6_stringSize_0f7a4 cJ6_stringSize_0f7a4 4 (some .int) 0 0 [.int (nI x)] jT (some (.int (nI 3))) := by
  refine j_ofR (by decide +kernel) (by first | decide | simp [lg_sl, Value.category]) ?_
  intro p e s mi below meth c ls S hr hlk hC hX hl
  have hS : va_S (fun _ => False) s.heap s.heap [] := va_S.rf
  refine lv_iconst S.1 S.2.1 jd_J6_stringSize_0f7a4_0 (v := 1) rfl ?_
  refine lv_istore_n S.1 S.2.1 jd_J6_stringSize_0f7a4_1 rfl hl (by decide) rfl (fun ls (hl : lv_has ls 4 [(1, .int 1), (0, .int (nI x))]) => ?_)
  refine lv_iload_n S.1 S.2.1 jd_J6_stringSize_0f7a4_2 rfl (lv_at hl 1 rfl) ?_
  refine lv_if_lt S.1 S.2.1 jd_J6_stringSize_0f7a4_3 (tgt := 11) rfl (fun hb => absurd hb (nI_pos (by omega))) (fun _ => ?_)
  refine lv_iconst S.1 S.2.1 jd_J6_stringSize_0f7a4_6 (v := 0) rfl ?_
  refine lv_istore_n S.1 S.2.1 jd_J6_stringSize_0f7a4_7 rfl hl (by decide) rfl (fun ls (hl : lv_has ls 4 [(1, .int 0), (0, .int (nI x))]) => ?_)
  refine lv_iload_n S.1 S.2.1 jd_J6_stringSize_0f7a4_8 rfl (lv_at hl 1 rfl) ?_
  refine lv_ineg S.1 S.2.1 jd_J6_stringSize_0f7a4_9 ?_
  refine lv_istore_n S.1 S.2.1 jd_J6_stringSize_0f7a4_10 rfl hl (by decide) rfl (fun ls (hl : lv_has ls 4 [(0, .int (-nI x)), (1, .int 0)]) => ?_)
  refine lv_bipush S.1 S.2.1 jd_J6_stringSize_0f7a4_11 (v := (-10)) (by decide +kernel) ?_
  refine lv_istore_n S.1 S.2.1 jd_J6_stringSize_0f7a4_13 rfl hl (by decide) rfl (fun ls (hl : lv_has ls 4 [(2, .int (-10)), (0, .int (-nI x)), (1, .int 0)]) => ?_)
  refine lv_iconst S.1 S.2.1 jd_J6_stringSize_0f7a4_14 (v := 1) rfl ?_
  refine lv_istore_n S.1 S.2.1 jd_J6_stringSize_0f7a4_15 rfl hl (by decide) rfl (fun ls (hl : lv_has ls 4 [(3, .int 1), (2, .int (-10)), (0, .int (-nI x)), (1, .int 0)]) => ?_)
  refine lv_iload_n S.1 S.2.1 jd_J6_stringSize_0f7a4_16 rfl (lv_at hl 0 rfl) ?_
  refine lv_bipush S.1 S.2.1 jd_J6_stringSize_0f7a4_17 (v := 10) (by decide +kernel) ?_
  refine lv_icmp_ge S.1 S.2.1 jd_J6_stringSize_0f7a4_19 (tgt := 42) rfl (fun hb => absurd hb (by decide)) (fun _ => ?_)
  refine lv_iload_n S.1 S.2.1 jd_J6_stringSize_0f7a4_22 rfl (lv_at hl 2 rfl) ?_
  refine lv_iload_n S.1 S.2.1 jd_J6_stringSize_0f7a4_23 rfl (lv_at hl 1 rfl) ?_
  refine lv_icmp_le S.1 S.2.1 jd_J6_stringSize_0f7a4_24 (tgt := 31) rfl (fun _ => ?_) (fun hb => absurd (by rw [jn_10]; exact (sb_nle (by omega) (by omega)).mpr (by omega)) hb)
  refine lv_bipush S.1 S.2.1 jd_J6_stringSize_0f7a4_31 (v := 10) (by decide +kernel) ?_
  refine lv_iload_n S.1 S.2.1 jd_J6_stringSize_0f7a4_33 rfl (lv_at hl 1 rfl) ?_
  refine lv_imul S.1 S.2.1 jd_J6_stringSize_0f7a4_34 ?_
  refine w_top (y := (-100)) (by decide) ?_
  refine lv_istore_n S.1 S.2.1 jd_J6_stringSize_0f7a4_35 rfl hl (by decide) rfl (fun ls (hl : lv_has ls 4 [(2, .int (-100)), (3, .int 1), (0, .int (-nI x)), (1, .int 0)]) => ?_)
  refine lv_iinc S.1 S.2.1 jd_J6_stringSize_0f7a4_36 hl (k := 1) rfl (v := 2) (by decide) (by decide) rfl (fun ls (hl : lv_has ls 4 [(3, .int 2), (2, .int (-100)), (0, .int (-nI x)), (1, .int 0)]) => ?_)
  refine lv_goto S.1 S.2.1 jd_J6_stringSize_0f7a4_39 (tgt := 16) rfl ?_
  refine lv_iload_n S.1 S.2.1 jd_J6_stringSize_0f7a4_16 rfl (lv_at hl 0 rfl) ?_
  refine lv_bipush S.1 S.2.1 jd_J6_stringSize_0f7a4_17 (v := 10) (by decide +kernel) ?_
  refine lv_icmp_ge S.1 S.2.1 jd_J6_stringSize_0f7a4_19 (tgt := 42) rfl (fun hb => absurd hb (by decide)) (fun _ => ?_)
  refine lv_iload_n S.1 S.2.1 jd_J6_stringSize_0f7a4_22 rfl (lv_at hl 2 rfl) ?_
  refine lv_iload_n S.1 S.2.1 jd_J6_stringSize_0f7a4_23 rfl (lv_at hl 1 rfl) ?_
  refine lv_icmp_le S.1 S.2.1 jd_J6_stringSize_0f7a4_24 (tgt := 31) rfl (fun _ => ?_) (fun hb => absurd (by rw [jn_100]; exact (sb_nle (by omega) (by omega)).mpr (by omega)) hb)
  refine lv_bipush S.1 S.2.1 jd_J6_stringSize_0f7a4_31 (v := 10) (by decide +kernel) ?_
  refine lv_iload_n S.1 S.2.1 jd_J6_stringSize_0f7a4_33 rfl (lv_at hl 1 rfl) ?_
  refine lv_imul S.1 S.2.1 jd_J6_stringSize_0f7a4_34 ?_
  refine w_top (y := (-1000)) (by decide) ?_
  refine lv_istore_n S.1 S.2.1 jd_J6_stringSize_0f7a4_35 rfl hl (by decide) rfl (fun ls (hl : lv_has ls 4 [(2, .int (-1000)), (3, .int 2), (0, .int (-nI x)), (1, .int 0)]) => ?_)
  refine lv_iinc S.1 S.2.1 jd_J6_stringSize_0f7a4_36 hl (k := 1) rfl (v := 3) (by decide) (by decide) rfl (fun ls (hl : lv_has ls 4 [(3, .int 3), (2, .int (-1000)), (0, .int (-nI x)), (1, .int 0)]) => ?_)
  refine lv_goto S.1 S.2.1 jd_J6_stringSize_0f7a4_39 (tgt := 16) rfl ?_
  refine lv_iload_n S.1 S.2.1 jd_J6_stringSize_0f7a4_16 rfl (lv_at hl 0 rfl) ?_
  refine lv_bipush S.1 S.2.1 jd_J6_stringSize_0f7a4_17 (v := 10) (by decide +kernel) ?_
  refine lv_icmp_ge S.1 S.2.1 jd_J6_stringSize_0f7a4_19 (tgt := 42) rfl (fun hb => absurd hb (by decide)) (fun _ => ?_)
  refine lv_iload_n S.1 S.2.1 jd_J6_stringSize_0f7a4_22 rfl (lv_at hl 2 rfl) ?_
  refine lv_iload_n S.1 S.2.1 jd_J6_stringSize_0f7a4_23 rfl (lv_at hl 1 rfl) ?_
  refine lv_icmp_le S.1 S.2.1 jd_J6_stringSize_0f7a4_24 (tgt := 31) rfl (fun hb => absurd hb (fun z => by have := (sb_nle (a := x) (b := 1000) (by omega) (by omega)).mp (by rw [← jn_1000]; exact z); omega)) (fun _ => ?_)
  refine lv_iload_n S.1 S.2.1 jd_J6_stringSize_0f7a4_27 rfl (lv_at hl 0 rfl) ?_
  refine lv_iload_n S.1 S.2.1 jd_J6_stringSize_0f7a4_28 rfl (lv_at hl 3 rfl) ?_
  refine lv_iadd S.1 S.2.1 jd_J6_stringSize_0f7a4_29 ?_
  refine w_top (y := nI 3) (by decide) ?_
  exact W.iret S.1 S.2.1 hr (fun t ht _ => ⟨rfl, ht⟩) (fun _ h => by cases h) jd_J6_stringSize_0f7a4_30 hlk
theorem j_size {l : Launch} {x : Nat} (hx : x < 1000) : jMetR l yJ6_stringSize_0f7a4 cJ6_stringSize_0f7a4 4 (some .int) 0 0 [.int (nI x)] jT (some (.int (nI (dgl x)))) := by
  by_cases h1 : x < 10
  · have := j_size1 (l := l) h1
    unfold dgl; rw [dgs_1 h1]; exact this
  · by_cases h2 : x < 100
    · have := j_size2 (l := l) (x := x) (by omega) h2
      unfold dgl; rw [dgs_2 (by omega) h2]; exact this
    · have := j_size3 (l := l) (x := x) (by omega) hx
      unfold dgl; rw [dgs_3 (by omega)]; exact this
theorem j_chars1 {l : Launch} {D : va_G} {cB : ClassId} {sz : Nat} {pre : va_W} {av m p : Nat} {a : Nat → Int32} {x : Nat} (h1 : x < 10) (hp : 1 ≤ p) (hpm : p ≤ m) (hm : m ≤ 700) (hf : sb_Fit a) : jMet l yJ6_getChars_ba4f3 cJ6_getChars_ba4f3 7 (some .int) 0 0 0 0 [.int (nI x), .int (nI p), .ref av] D cB (pre ++ [(av, .inl (cB, m, .inl a))]) sz jT (fun v w1 => v = some (.int (nI (p - 1))) ∧ ∃ a', w1 = pre ++ [(av, .inl (cB, m, .inl a'))] ∧ sb_Fit a' ∧ (∀ j, j < p - 1 → a' j = a j) ∧ ∀ j, j < 1 → a' (p - 1 + j) = dgf x j) := by
  refine j_of (by decide +kernel) (by first | decide | simp [lg_sl, Value.category]) ?_
  intro pp e s mi below meth c ls S hr hlk hmn hsz hP hK hD hC hX hl
  have hA : ∀ q, s.heap.size ≤ q → va_A (pre ++ [(av, .inl (cB, m, .inl a))]) sz q := fun q h => Or.inr (by omega)
  have hS : va_S (va_A (pre ++ [(av, .inl (cB, m, .inl a))]) sz) s.heap s.heap [] := va_S.rf
  obtain ⟨hc1, hc2, t1, t2, hz1, hT1, hz2, hT2, hcst⟩ := id hC
  refine lv_iload_n S.1 S.2.1 jd_J6_getChars_ba4f3_0 rfl (lv_at hl 1 rfl) ?_
  refine lv_istore S.1 S.2.1 jd_J6_getChars_ba4f3_1 hl (by decide) rfl (fun ls (hl : lv_has ls 7 [(5, .int (nI p)), (0, .int (nI x)), (1, .int (nI p)), (2, .ref av)]) => ?_)
  refine lv_iload_n S.1 S.2.1 jd_J6_getChars_ba4f3_3 rfl (lv_at hl 1 rfl) ?_
  refine lv_if_ge S.1 S.2.1 jd_J6_getChars_ba4f3_4 (tgt := 11) rfl (fun _ => ?_) (fun hb => absurd (nI_pos' (by omega)) hb)
  refine lv_iconst S.1 S.2.1 jd_J6_getChars_ba4f3_11 (v := 0) rfl ?_
  refine lv_istore S.1 S.2.1 jd_J6_getChars_ba4f3_12 hl (by decide) rfl (fun ls (hl : lv_has ls 7 [(6, .int 0), (5, .int (nI p)), (0, .int (nI x)), (1, .int (nI p)), (2, .ref av)]) => ?_)
  refine lv_iload S.1 S.2.1 jd_J6_getChars_ba4f3_14 (lv_at hl 0 rfl) ?_
  refine lv_if_ne S.1 S.2.1 jd_J6_getChars_ba4f3_16 (tgt := 22) rfl (fun hb => absurd hb (fun h => h rfl)) (fun _ => ?_)
  refine lv_iload_n S.1 S.2.1 jd_J6_getChars_ba4f3_19 rfl (lv_at hl 2 rfl) ?_
  refine lv_ineg S.1 S.2.1 jd_J6_getChars_ba4f3_20 ?_
  refine lv_istore_n S.1 S.2.1 jd_J6_getChars_ba4f3_21 rfl hl (by decide) rfl (fun ls (hl : lv_has ls 7 [(0, .int (-nI x)), (6, .int 0), (5, .int (nI p)), (1, .int (nI p)), (2, .ref av)]) => ?_)
  refine lv_iload_n S.1 S.2.1 jd_J6_getChars_ba4f3_22 rfl (lv_at hl 0 rfl) ?_
  refine lv_bipush S.1 S.2.1 jd_J6_getChars_ba4f3_23 (v := (-100)) (by decide +kernel) ?_
  refine lv_icmp_gt S.1 S.2.1 jd_J6_getChars_ba4f3_25 (tgt := 72) rfl (fun _ => ?_) (fun hb => absurd (by rw [jn_100]; exact (sb_nlt (by omega) (by omega)).mpr (by omega)) hb)
  refine lv_aload_n S.1 S.2.1 jd_J6_getChars_ba4f3_72 rfl (lv_at hl 4 rfl) ?_
  refine lv_iinc S.1 S.2.1 jd_J6_getChars_ba4f3_73 hl (k := 2) rfl (v := (nI (p - 1))) (sb_m1 (by omega)) (by decide) rfl (fun ls (hl : lv_has ls 7 [(5, .int (nI (p - 1))), (0, .int (-nI x)), (6, .int 0), (1, .int (nI p)), (2, .ref av)]) => ?_)
  refine lv_iload S.1 S.2.1 jd_J6_getChars_ba4f3_76 (lv_at hl 0 rfl) ?_
  refine va_gets S.1 S.2.1 hz1 hS S.2.2.2.1 (S.2.2.2.2 _ (jin jq_82)) (fun _ h => h) jd_J6_getChars_ba4f3_78 ?_
  refine lv_iload_n S.1 S.2.1 jd_J6_getChars_ba4f3_81 rfl (lv_at hl 1 rfl) ?_
  refine lv_ineg S.1 S.2.1 jd_J6_getChars_ba4f3_82 ?_
  refine w_top (y := nI (x)) Int32.neg_neg ?_
  refine va_tb S.1 S.2.1 hT1 hS (vp_in_nI (n := x) (by omega) (by decide)) (v := .int (nI (48 + x % 10))) (by rw [nI_clamp (by omega)]) jd_J6_getChars_ba4f3_83 ?_
  refine va_bast S.1 S.2.1 hK hP hD hS pre.length 0 (g0 _ _) rfl (vp_in_nI (n := p - 1) (by omega) (by omega)) jd_J6_getChars_ba4f3_84 (fun H1 l1 hP hD hS => ?_)
  rw [s0, nI_clamp (by omega), nb128 (by omega)] at hP hD
  refine lv_iload_n S.1 S.2.1 jd_J6_getChars_ba4f3_85 rfl (lv_at hl 1 rfl) ?_
  refine lv_bipush S.1 S.2.1 jd_J6_getChars_ba4f3_86 (v := (-9)) (by decide +kernel) ?_
  refine lv_icmp_ge S.1 S.2.1 jd_J6_getChars_ba4f3_88 (tgt := 104) rfl (fun _ => ?_) (fun hb => absurd (by rw [jn_9]; exact (sb_nle (by omega) (by omega)).mpr (by omega)) hb)
  refine lv_iload S.1 S.2.1 jd_J6_getChars_ba4f3_104 (lv_at hl 2 rfl) ?_
  refine lv_if_eq S.1 S.2.1 jd_J6_getChars_ba4f3_106 (tgt := 118) rfl (fun _ => ?_) (fun hb => absurd (rfl) hb)
  refine lv_iload S.1 S.2.1 jd_J6_getChars_ba4f3_118 (lv_at hl 0 rfl) ?_
  refine w_top (y := nI (p - 1)) rfl ?_
  refine j_iret S hr hlk ⟨rfl, _, rfl, (sb_fitU hf (nb_fit (by omega))), fun j hj => ?_, fun j hj => ?_⟩ hP hD hS (Nat.le_refl _) (Nat.le_refl _) jd_J6_getChars_ba4f3_120
  · rw [pk_un (by omega)]
  · unfold dgf
    rw [dgs_1 h1]
    obtain rfl : j = 0 := by omega
    rw [show p - 1 + 0 = p - 1 by omega, pk_us, show x % 10 = x by omega]; rfl
theorem j_chars2 {l : Launch} {D : va_G} {cB : ClassId} {sz : Nat} {pre : va_W} {av m p : Nat} {a : Nat → Int32} {x : Nat} (h0 : 10 ≤ x) (h1 : x < 100) (hp : 2 ≤ p) (hpm : p ≤ m) (hm : m ≤ 700) (hf : sb_Fit a) : jMet l yJ6_getChars_ba4f3 cJ6_getChars_ba4f3 7 (some .int) 0 0 0 0 [.int (nI x), .int (nI p), .ref av] D cB (pre ++ [(av, .inl (cB, m, .inl a))]) sz jT (fun v w1 => v = some (.int (nI (p - 2))) ∧ ∃ a', w1 = pre ++ [(av, .inl (cB, m, .inl a'))] ∧ sb_Fit a' ∧ (∀ j, j < p - 2 → a' j = a j) ∧ ∀ j, j < 2 → a' (p - 2 + j) = dgf x j) := by
  refine j_of (by decide +kernel) (by first | decide | simp [lg_sl, Value.category]) ?_
  intro pp e s mi below meth c ls S hr hlk hmn hsz hP hK hD hC hX hl
  have hA : ∀ q, s.heap.size ≤ q → va_A (pre ++ [(av, .inl (cB, m, .inl a))]) sz q := fun q h => Or.inr (by omega)
  have hS : va_S (va_A (pre ++ [(av, .inl (cB, m, .inl a))]) sz) s.heap s.heap [] := va_S.rf
  obtain ⟨hc1, hc2, t1, t2, hz1, hT1, hz2, hT2, hcst⟩ := id hC
  refine lv_iload_n S.1 S.2.1 jd_J6_getChars_ba4f3_0 rfl (lv_at hl 1 rfl) ?_
  refine lv_istore S.1 S.2.1 jd_J6_getChars_ba4f3_1 hl (by decide) rfl (fun ls (hl : lv_has ls 7 [(5, .int (nI p)), (0, .int (nI x)), (1, .int (nI p)), (2, .ref av)]) => ?_)
  refine lv_iload_n S.1 S.2.1 jd_J6_getChars_ba4f3_3 rfl (lv_at hl 1 rfl) ?_
  refine lv_if_ge S.1 S.2.1 jd_J6_getChars_ba4f3_4 (tgt := 11) rfl (fun _ => ?_) (fun hb => absurd (nI_pos' (by omega)) hb)
  refine lv_iconst S.1 S.2.1 jd_J6_getChars_ba4f3_11 (v := 0) rfl ?_
  refine lv_istore S.1 S.2.1 jd_J6_getChars_ba4f3_12 hl (by decide) rfl (fun ls (hl : lv_has ls 7 [(6, .int 0), (5, .int (nI p)), (0, .int (nI x)), (1, .int (nI p)), (2, .ref av)]) => ?_)
  refine lv_iload S.1 S.2.1 jd_J6_getChars_ba4f3_14 (lv_at hl 0 rfl) ?_
  refine lv_if_ne S.1 S.2.1 jd_J6_getChars_ba4f3_16 (tgt := 22) rfl (fun hb => absurd hb (fun h => h rfl)) (fun _ => ?_)
  refine lv_iload_n S.1 S.2.1 jd_J6_getChars_ba4f3_19 rfl (lv_at hl 2 rfl) ?_
  refine lv_ineg S.1 S.2.1 jd_J6_getChars_ba4f3_20 ?_
  refine lv_istore_n S.1 S.2.1 jd_J6_getChars_ba4f3_21 rfl hl (by decide) rfl (fun ls (hl : lv_has ls 7 [(0, .int (-nI x)), (6, .int 0), (5, .int (nI p)), (1, .int (nI p)), (2, .ref av)]) => ?_)
  refine lv_iload_n S.1 S.2.1 jd_J6_getChars_ba4f3_22 rfl (lv_at hl 0 rfl) ?_
  refine lv_bipush S.1 S.2.1 jd_J6_getChars_ba4f3_23 (v := (-100)) (by decide +kernel) ?_
  refine lv_icmp_gt S.1 S.2.1 jd_J6_getChars_ba4f3_25 (tgt := 72) rfl (fun _ => ?_) (fun hb => absurd (by rw [jn_100]; exact (sb_nlt (by omega) (by omega)).mpr (by omega)) hb)
  refine lv_aload_n S.1 S.2.1 jd_J6_getChars_ba4f3_72 rfl (lv_at hl 4 rfl) ?_
  refine lv_iinc S.1 S.2.1 jd_J6_getChars_ba4f3_73 hl (k := 2) rfl (v := (nI (p - 1))) (sb_m1 (by omega)) (by decide) rfl (fun ls (hl : lv_has ls 7 [(5, .int (nI (p - 1))), (0, .int (-nI x)), (6, .int 0), (1, .int (nI p)), (2, .ref av)]) => ?_)
  refine lv_iload S.1 S.2.1 jd_J6_getChars_ba4f3_76 (lv_at hl 0 rfl) ?_
  refine va_gets S.1 S.2.1 hz1 hS S.2.2.2.1 (S.2.2.2.2 _ (jin jq_82)) (fun _ h => h) jd_J6_getChars_ba4f3_78 ?_
  refine lv_iload_n S.1 S.2.1 jd_J6_getChars_ba4f3_81 rfl (lv_at hl 1 rfl) ?_
  refine lv_ineg S.1 S.2.1 jd_J6_getChars_ba4f3_82 ?_
  refine w_top (y := nI (x)) Int32.neg_neg ?_
  refine va_tb S.1 S.2.1 hT1 hS (vp_in_nI (n := x) (by omega) (by decide)) (v := .int (nI (48 + x % 10))) (by rw [nI_clamp (by omega)]) jd_J6_getChars_ba4f3_83 ?_
  refine va_bast S.1 S.2.1 hK hP hD hS pre.length 0 (g0 _ _) rfl (vp_in_nI (n := p - 1) (by omega) (by omega)) jd_J6_getChars_ba4f3_84 (fun H1 l1 hP hD hS => ?_)
  rw [s0, nI_clamp (by omega), nb128 (by omega)] at hP hD
  refine lv_iload_n S.1 S.2.1 jd_J6_getChars_ba4f3_85 rfl (lv_at hl 1 rfl) ?_
  refine lv_bipush S.1 S.2.1 jd_J6_getChars_ba4f3_86 (v := (-9)) (by decide +kernel) ?_
  refine lv_icmp_ge S.1 S.2.1 jd_J6_getChars_ba4f3_88 (tgt := 104) rfl (fun hb => absurd hb (fun z => by have := (sb_nle (a := 9) (b := x) (by omega) (by omega)).mp (by rw [← jn_9]; exact z); omega)) (fun _ => ?_)
  refine lv_aload_n S.1 S.2.1 jd_J6_getChars_ba4f3_91 rfl (lv_at hl 4 rfl) ?_
  refine lv_iinc S.1 S.2.1 jd_J6_getChars_ba4f3_92 hl (k := 0) rfl (v := (nI (p - 1 - 1))) (sb_m1 (by omega)) (by decide) rfl (fun ls (hl : lv_has ls 7 [(5, .int (nI (p - 1 - 1))), (0, .int (-nI x)), (6, .int 0), (1, .int (nI p)), (2, .ref av)]) => ?_)
  refine lv_iload S.1 S.2.1 jd_J6_getChars_ba4f3_95 (lv_at hl 0 rfl) ?_
  refine va_gets S.1 S.2.1 hz2 hS S.2.2.2.1 (S.2.2.2.2 _ (jin jq_83)) (fun _ h => h) jd_J6_getChars_ba4f3_97 ?_
  refine lv_iload_n S.1 S.2.1 jd_J6_getChars_ba4f3_100 rfl (lv_at hl 1 rfl) ?_
  refine lv_ineg S.1 S.2.1 jd_J6_getChars_ba4f3_101 ?_
  refine w_top (y := nI (x)) Int32.neg_neg ?_
  refine va_tb S.1 S.2.1 hT2 hS (vp_in_nI (n := x) (by omega) (by decide)) (v := .int (nI (48 + x / 10))) (by rw [nI_clamp (by omega)]) jd_J6_getChars_ba4f3_102 ?_
  refine va_bast S.1 S.2.1 hK hP hD hS pre.length 0 (g0 _ _) rfl (vp_in_nI (n := p - 1 - 1) (by omega) (by omega)) jd_J6_getChars_ba4f3_103 (fun H1 l1 hP hD hS => ?_)
  rw [s0, nI_clamp (by omega), nb128 (by omega)] at hP hD
  refine lv_iload S.1 S.2.1 jd_J6_getChars_ba4f3_104 (lv_at hl 2 rfl) ?_
  refine lv_if_eq S.1 S.2.1 jd_J6_getChars_ba4f3_106 (tgt := 118) rfl (fun _ => ?_) (fun hb => absurd (rfl) hb)
  refine lv_iload S.1 S.2.1 jd_J6_getChars_ba4f3_118 (lv_at hl 0 rfl) ?_
  refine w_top (y := nI (p - 2)) (by congr 1) ?_
  refine j_iret S hr hlk ⟨rfl, _, rfl, (sb_fitU (sb_fitU hf (nb_fit (by omega))) (nb_fit (by omega))), fun j hj => ?_, fun j hj => ?_⟩ hP hD hS (Nat.le_refl _) (Nat.le_refl _) jd_J6_getChars_ba4f3_120
  · rw [pk_un (by omega), pk_un (by omega)]
  · unfold dgf
    rw [dgs_2 h0 h1]
    rcases (show j = 0 ∨ j = 1 by omega) with rfl | rfl
    · rw [show p - 2 + 0 = p - 1 - 1 by omega, pk_us]; rfl
    · rw [show p - 2 + 1 = p - 1 by omega, pk_un (by omega), pk_us]; rfl
theorem j_chars3 {l : Launch} {D : va_G} {cB : ClassId} {sz : Nat} {pre : va_W} {av m p : Nat} {a : Nat → Int32} {x : Nat} (h0 : 100 ≤ x) (h1 : x < 1000) (hp : 3 ≤ p) (hpm : p ≤ m) (hm : m ≤ 700) (hf : sb_Fit a) : jMet l yJ6_getChars_ba4f3 cJ6_getChars_ba4f3 7 (some .int) 0 0 0 0 [.int (nI x), .int (nI p), .ref av] D cB (pre ++ [(av, .inl (cB, m, .inl a))]) sz jT (fun v w1 => v = some (.int (nI (p - 3))) ∧ ∃ a', w1 = pre ++ [(av, .inl (cB, m, .inl a'))] ∧ sb_Fit a' ∧ (∀ j, j < p - 3 → a' j = a j) ∧ ∀ j, j < 3 → a' (p - 3 + j) = dgf x j) := by
  refine j_of (by decide +kernel) (by first | decide | simp [lg_sl, Value.category]) ?_
  intro pp e s mi below meth c ls S hr hlk hmn hsz hP hK hD hC hX hl
  have hA : ∀ q, s.heap.size ≤ q → va_A (pre ++ [(av, .inl (cB, m, .inl a))]) sz q := fun q h => Or.inr (by omega)
  have hS : va_S (va_A (pre ++ [(av, .inl (cB, m, .inl a))]) sz) s.heap s.heap [] := va_S.rf
  obtain ⟨hc1, hc2, t1, t2, hz1, hT1, hz2, hT2, hcst⟩ := id hC
  refine lv_iload_n S.1 S.2.1 jd_J6_getChars_ba4f3_0 rfl (lv_at hl 1 rfl) ?_
  refine lv_istore S.1 S.2.1 jd_J6_getChars_ba4f3_1 hl (by decide) rfl (fun ls (hl : lv_has ls 7 [(5, .int (nI p)), (0, .int (nI x)), (1, .int (nI p)), (2, .ref av)]) => ?_)
  refine lv_iload_n S.1 S.2.1 jd_J6_getChars_ba4f3_3 rfl (lv_at hl 1 rfl) ?_
  refine lv_if_ge S.1 S.2.1 jd_J6_getChars_ba4f3_4 (tgt := 11) rfl (fun _ => ?_) (fun hb => absurd (nI_pos' (by omega)) hb)
  refine lv_iconst S.1 S.2.1 jd_J6_getChars_ba4f3_11 (v := 0) rfl ?_
  refine lv_istore S.1 S.2.1 jd_J6_getChars_ba4f3_12 hl (by decide) rfl (fun ls (hl : lv_has ls 7 [(6, .int 0), (5, .int (nI p)), (0, .int (nI x)), (1, .int (nI p)), (2, .ref av)]) => ?_)
  refine lv_iload S.1 S.2.1 jd_J6_getChars_ba4f3_14 (lv_at hl 0 rfl) ?_
  refine lv_if_ne S.1 S.2.1 jd_J6_getChars_ba4f3_16 (tgt := 22) rfl (fun hb => absurd hb (fun h => h rfl)) (fun _ => ?_)
  refine lv_iload_n S.1 S.2.1 jd_J6_getChars_ba4f3_19 rfl (lv_at hl 2 rfl) ?_
  refine lv_ineg S.1 S.2.1 jd_J6_getChars_ba4f3_20 ?_
  refine lv_istore_n S.1 S.2.1 jd_J6_getChars_ba4f3_21 rfl hl (by decide) rfl (fun ls (hl : lv_has ls 7 [(0, .int (-nI x)), (6, .int 0), (5, .int (nI p)), (1, .int (nI p)), (2, .ref av)]) => ?_)
  refine lv_iload_n S.1 S.2.1 jd_J6_getChars_ba4f3_22 rfl (lv_at hl 0 rfl) ?_
  refine lv_bipush S.1 S.2.1 jd_J6_getChars_ba4f3_23 (v := (-100)) (by decide +kernel) ?_
  refine lv_icmp_gt S.1 S.2.1 jd_J6_getChars_ba4f3_25 (tgt := 72) rfl (fun hb => absurd hb (fun z => by have := (sb_nlt (a := 100) (b := x) (by omega) (by omega)).mp (by rw [← jn_100]; exact z); omega)) (fun _ => ?_)
  refine lv_iload_n S.1 S.2.1 jd_J6_getChars_ba4f3_28 rfl (lv_at hl 0 rfl) ?_
  refine lv_bipush S.1 S.2.1 jd_J6_getChars_ba4f3_29 (v := 100) (by decide +kernel) ?_
  refine lv_idiv S.1 S.2.1 jd_J6_getChars_ba4f3_31 (by decide) ?_
  refine w_top (y := -nI (x / 100)) (sb_ndiv (by omega)) ?_
  refine lv_istore_n S.1 S.2.1 jd_J6_getChars_ba4f3_32 rfl hl (by decide) rfl (fun ls (hl : lv_has ls 7 [(3, .int (-nI (x / 100))), (0, .int (-nI x)), (6, .int 0), (5, .int (nI p)), (1, .int (nI p)), (2, .ref av)]) => ?_)
  refine lv_iload_n S.1 S.2.1 jd_J6_getChars_ba4f3_33 rfl (lv_at hl 0 rfl) ?_
  refine lv_bipush S.1 S.2.1 jd_J6_getChars_ba4f3_34 (v := 100) (by decide +kernel) ?_
  refine lv_imul S.1 S.2.1 jd_J6_getChars_ba4f3_36 ?_
  refine lv_iload_n S.1 S.2.1 jd_J6_getChars_ba4f3_37 rfl (lv_at hl 1 rfl) ?_
  refine lv_isub S.1 S.2.1 jd_J6_getChars_ba4f3_38 ?_
  refine w_top (y := nI (x % 100)) (sb_nrem (by omega)) ?_
  refine lv_istore S.1 S.2.1 jd_J6_getChars_ba4f3_39 hl (by decide) rfl (fun ls (hl : lv_has ls 7 [(4, .int (nI (x % 100))), (3, .int (-nI (x / 100))), (0, .int (-nI x)), (6, .int 0), (5, .int (nI p)), (1, .int (nI p)), (2, .ref av)]) => ?_)
  refine lv_iload_n S.1 S.2.1 jd_J6_getChars_ba4f3_41 rfl (lv_at hl 1 rfl) ?_
  refine lv_istore_n S.1 S.2.1 jd_J6_getChars_ba4f3_42 rfl hl (by decide) rfl (fun ls (hl : lv_has ls 7 [(0, .int (-nI (x / 100))), (4, .int (nI (x % 100))), (3, .int (-nI (x / 100))), (6, .int 0), (5, .int (nI p)), (1, .int (nI p)), (2, .ref av)]) => ?_)
  refine lv_aload_n S.1 S.2.1 jd_J6_getChars_ba4f3_43 rfl (lv_at hl 6 rfl) ?_
  refine lv_iinc S.1 S.2.1 jd_J6_getChars_ba4f3_44 hl (k := 4) rfl (v := (nI (p - 1))) (sb_m1 (by omega)) (by decide) rfl (fun ls (hl : lv_has ls 7 [(5, .int (nI (p - 1))), (0, .int (-nI (x / 100))), (4, .int (nI (x % 100))), (3, .int (-nI (x / 100))), (6, .int 0), (1, .int (nI p)), (2, .ref av)]) => ?_)
  refine lv_iload S.1 S.2.1 jd_J6_getChars_ba4f3_47 (lv_at hl 0 rfl) ?_
  refine va_gets S.1 S.2.1 hz1 hS S.2.2.2.1 (S.2.2.2.2 _ (jin jq_82)) (fun _ h => h) jd_J6_getChars_ba4f3_49 ?_
  refine lv_iload S.1 S.2.1 jd_J6_getChars_ba4f3_52 (lv_at hl 2 rfl) ?_
  refine va_tb S.1 S.2.1 hT1 hS (vp_in_nI (n := x % 100) (by omega) (by decide)) (v := .int (nI (48 + x % 100 % 10))) (by rw [nI_clamp (by omega)]) jd_J6_getChars_ba4f3_54 ?_
  refine va_bast S.1 S.2.1 hK hP hD hS pre.length 0 (g0 _ _) rfl (vp_in_nI (n := p - 1) (by omega) (by omega)) jd_J6_getChars_ba4f3_55 (fun H1 l1 hP hD hS => ?_)
  rw [s0, nI_clamp (by omega), nb128 (by omega)] at hP hD
  refine lv_aload_n S.1 S.2.1 jd_J6_getChars_ba4f3_56 rfl (lv_at hl 6 rfl) ?_
  refine lv_iinc S.1 S.2.1 jd_J6_getChars_ba4f3_57 hl (k := 0) rfl (v := (nI (p - 1 - 1))) (sb_m1 (by omega)) (by decide) rfl (fun ls (hl : lv_has ls 7 [(5, .int (nI (p - 1 - 1))), (0, .int (-nI (x / 100))), (4, .int (nI (x % 100))), (3, .int (-nI (x / 100))), (6, .int 0), (1, .int (nI p)), (2, .ref av)]) => ?_)
  refine lv_iload S.1 S.2.1 jd_J6_getChars_ba4f3_60 (lv_at hl 0 rfl) ?_
  refine va_gets S.1 S.2.1 hz2 hS S.2.2.2.1 (S.2.2.2.2 _ (jin jq_83)) (fun _ h => h) jd_J6_getChars_ba4f3_62 ?_
  refine lv_iload S.1 S.2.1 jd_J6_getChars_ba4f3_65 (lv_at hl 2 rfl) ?_
  refine va_tb S.1 S.2.1 hT2 hS (vp_in_nI (n := x % 100) (by omega) (by decide)) (v := .int (nI (48 + x % 100 / 10))) (by rw [nI_clamp (by omega)]) jd_J6_getChars_ba4f3_67 ?_
  refine va_bast S.1 S.2.1 hK hP hD hS pre.length 0 (g0 _ _) rfl (vp_in_nI (n := p - 1 - 1) (by omega) (by omega)) jd_J6_getChars_ba4f3_68 (fun H1 l1 hP hD hS => ?_)
  rw [s0, nI_clamp (by omega), nb128 (by omega)] at hP hD
  refine lv_goto S.1 S.2.1 jd_J6_getChars_ba4f3_69 (tgt := 22) rfl ?_
  refine lv_iload_n S.1 S.2.1 jd_J6_getChars_ba4f3_22 rfl (lv_at hl 1 rfl) ?_
  refine lv_bipush S.1 S.2.1 jd_J6_getChars_ba4f3_23 (v := (-100)) (by decide +kernel) ?_
  refine lv_icmp_gt S.1 S.2.1 jd_J6_getChars_ba4f3_25 (tgt := 72) rfl (fun _ => ?_) (fun hb => absurd (by rw [jn_100]; exact (sb_nlt (by omega) (by omega)).mpr (by omega)) hb)
  refine lv_aload_n S.1 S.2.1 jd_J6_getChars_ba4f3_72 rfl (lv_at hl 6 rfl) ?_
  refine lv_iinc S.1 S.2.1 jd_J6_getChars_ba4f3_73 hl (k := 0) rfl (v := (nI (p - 1 - 1 - 1))) (sb_m1 (by omega)) (by decide) rfl (fun ls (hl : lv_has ls 7 [(5, .int (nI (p - 1 - 1 - 1))), (0, .int (-nI (x / 100))), (4, .int (nI (x % 100))), (3, .int (-nI (x / 100))), (6, .int 0), (1, .int (nI p)), (2, .ref av)]) => ?_)
  refine lv_iload S.1 S.2.1 jd_J6_getChars_ba4f3_76 (lv_at hl 0 rfl) ?_
  refine va_gets S.1 S.2.1 hz1 hS S.2.2.2.1 (S.2.2.2.2 _ (jin jq_82)) (fun _ h => h) jd_J6_getChars_ba4f3_78 ?_
  refine lv_iload_n S.1 S.2.1 jd_J6_getChars_ba4f3_81 rfl (lv_at hl 1 rfl) ?_
  refine lv_ineg S.1 S.2.1 jd_J6_getChars_ba4f3_82 ?_
  refine w_top (y := nI (x / 100)) Int32.neg_neg ?_
  refine va_tb S.1 S.2.1 hT1 hS (vp_in_nI (n := x / 100) (by omega) (by decide)) (v := .int (nI (48 + x / 100 % 10))) (by rw [nI_clamp (by omega)]) jd_J6_getChars_ba4f3_83 ?_
  refine va_bast S.1 S.2.1 hK hP hD hS pre.length 0 (g0 _ _) rfl (vp_in_nI (n := p - 1 - 1 - 1) (by omega) (by omega)) jd_J6_getChars_ba4f3_84 (fun H1 l1 hP hD hS => ?_)
  rw [s0, nI_clamp (by omega), nb128 (by omega)] at hP hD
  refine lv_iload_n S.1 S.2.1 jd_J6_getChars_ba4f3_85 rfl (lv_at hl 1 rfl) ?_
  refine lv_bipush S.1 S.2.1 jd_J6_getChars_ba4f3_86 (v := (-9)) (by decide +kernel) ?_
  refine lv_icmp_ge S.1 S.2.1 jd_J6_getChars_ba4f3_88 (tgt := 104) rfl (fun _ => ?_) (fun hb => absurd (by rw [jn_9]; exact (sb_nle (by omega) (by omega)).mpr (by omega)) hb)
  refine lv_iload S.1 S.2.1 jd_J6_getChars_ba4f3_104 (lv_at hl 4 rfl) ?_
  refine lv_if_eq S.1 S.2.1 jd_J6_getChars_ba4f3_106 (tgt := 118) rfl (fun _ => ?_) (fun hb => absurd (rfl) hb)
  refine lv_iload S.1 S.2.1 jd_J6_getChars_ba4f3_118 (lv_at hl 0 rfl) ?_
  refine w_top (y := nI (p - 3)) (by congr 1) ?_
  refine j_iret S hr hlk ⟨rfl, _, rfl, (sb_fitU (sb_fitU (sb_fitU hf (nb_fit (by omega))) (nb_fit (by omega))) (nb_fit (by omega))), fun j hj => ?_, fun j hj => ?_⟩ hP hD hS (Nat.le_refl _) (Nat.le_refl _) jd_J6_getChars_ba4f3_120
  · rw [pk_un (by omega), pk_un (by omega), pk_un (by omega)]
  · unfold dgf
    rw [dgs_3 h0]
    rcases (show j = 0 ∨ j = 1 ∨ j = 2 by omega) with rfl | rfl | rfl
    · rw [show p - 3 + 0 = p - 1 - 1 - 1 by omega, pk_us, show x / 100 % 10 = x / 100 by omega]; rfl
    · rw [show p - 3 + 1 = p - 1 - 1 by omega, pk_un (by omega), pk_us]; rfl
    · rw [show p - 3 + 2 = p - 1 by omega, pk_un (by omega), pk_un (by omega), pk_us]; rfl
theorem j_chars {l : Launch} {D : va_G} {cB : ClassId} {sz : Nat} {pre : va_W} {av m p : Nat} {a : Nat → Int32} {x : Nat} (hx : x < 1000) (hp : dgl x ≤ p) (hpm : p ≤ m) (hm : m ≤ 700) (hf : sb_Fit a) : jMet l yJ6_getChars_ba4f3 cJ6_getChars_ba4f3 7 (some .int) 0 0 0 0 [.int (nI x), .int (nI p), .ref av] D cB (pre ++ [(av, .inl (cB, m, .inl a))]) sz jT (fun v w1 => v = some (.int (nI (p - dgl x))) ∧ ∃ a', w1 = pre ++ [(av, .inl (cB, m, .inl a'))] ∧ sb_Fit a' ∧ (∀ j, j < p - dgl x → a' j = a j) ∧ ∀ j, j < dgl x → a' (p - dgl x + j) = dgf x j) := by
  by_cases h1 : x < 10
  · have e : dgl x = 1 := by unfold dgl; rw [dgs_1 h1]; rfl
    rw [e] at hp ⊢
    exact j_chars1 h1 hp hpm hm hf
  · by_cases h2 : x < 100
    · have e : dgl x = 2 := by unfold dgl; rw [dgs_2 (by omega) h2]; rfl
      rw [e] at hp ⊢
      exact j_chars2 (by omega) h2 hp hpm hm hf
    · have e : dgl x = 3 := by unfold dgl; rw [dgs_3 (by omega)]; rfl
      rw [e] at hp ⊢
      exact j_chars3 (by omega) hx hp hpm hm hf
theorem j_isL5 {l : Launch} {D : va_G} {cB : ClassId} {sz : Nat} {sb av m n : Nat} {ml : Int32} {a : Nat → Int32} {r : va_W} : jMet l yJ5_isLatin1_aae02 cJ5_isLatin1_aae02 1 (some .boolean) 0 0 0 0 [.ref sb] D cB (jw cB sb av m n ml a ++ r) sz jT (fun v w1 => v = some (.int 1) ∧ w1 = jw cB sb av m n ml a ++ r) := by
  refine j_of (by decide +kernel) (by first | decide | simp [lg_sl, Value.category]) ?_
  intro p e s mi below meth c ls S hr hlk hmn hsz hP hK hD hC hX hl
  have hA : ∀ q, s.heap.size ≤ q → va_A (jw cB sb av m n ml a ++ r) sz q := fun q h => Or.inr (by omega)
  have hS : va_S (va_A (jw cB sb av m n ml a ++ r) sz) s.heap s.heap [] := va_S.rf
  refine va_gets S.1 S.2.1 hC.1 hS S.2.2.2.1 (S.2.2.2.2 _ (jin jq_56)) (fun _ h => h) jd_J5_isLatin1_aae02_0 ?_
  refine lv_if_eq S.1 S.2.1 jd_J5_isLatin1_aae02_3 (tgt := 17) rfl (fun hb => absurd hb (by decide)) (fun _ => ?_)
  refine lv_aload_n S.1 S.2.1 jd_J5_isLatin1_aae02_6 rfl (lv_at hl 0 rfl) ?_
  refine va_get S.1 S.2.1 S.2.2.2.2 jin4 S.2.2.2.1 hK hP 0 rfl rfl 1 (by decide) (S.2.2.2.2 _ (jin jq_34)) (fun _ h => h) rfl jd_J5_isLatin1_aae02_7 ?_
  refine lv_if_ne S.1 S.2.1 jd_J5_isLatin1_aae02_10 (tgt := 17) rfl (fun hb => absurd hb (fun h => h rfl)) (fun _ => ?_)
  refine lv_iconst S.1 S.2.1 jd_J5_isLatin1_aae02_13 (v := 1) rfl ?_
  refine lv_goto S.1 S.2.1 jd_J5_isLatin1_aae02_14 (tgt := 18) rfl ?_
  exact j_zret S hr rfl hlk ⟨rfl, rfl⟩ hP hD hS (Nat.le_refl _) (Nat.le_refl _) jd_J5_isLatin1_aae02_18
theorem j_appI {l : Launch} {D : va_G} {cB : ClassId} {sz : Nat} {sb av m n : Nat} {ml : Int32} {a : Nat → Int32} {x : Nat} (hnm : n ≤ m) (hm : m ≤ 700) (hnL : n + 3 ≤ 300) (hfa : sb_Fit a) (hx : x < 1000) : jMet l yJ5_append_c97b9 cJ5_append_c97b9 4 (some (.object "java/lang/AbstractStringBuilder")) 4 1 700 190 [.ref sb, .int (nI x)] D cB (jw cB sb av m n ml a) sz jT (fun v w1 => v = some (.ref sb) ∧ ∃ av' m' a', w1 = jw cB sb av' m' (n + dgl x) ml a' ∧ n + dgl x ≤ m' ∧ m' ≤ 700 ∧ sb_Fit a' ∧ (∀ j, j < n → a' j = a j) ∧ ∀ j, j < dgl x → a' (n + j) = dgf x j) := by
  refine j_of (by decide +kernel) (by first | decide | simp [lg_sl, Value.category]) ?_
  intro p e s mi below meth c ls S hr hlk hmn hsz hP hK hD hC hX hl
  have hA : ∀ q, s.heap.size ≤ q → va_A (jw cB sb av m n ml a) sz q := fun q h => Or.inr (by omega)
  have hS : va_S (va_A (jw cB sb av m n ml a) sz) s.heap s.heap [] := va_S.rf
  have hd := dgl_bd x
  refine lv_aload_n S.1 S.2.1 jd_J5_append_c97b9_0 rfl (lv_at hl 0 rfl) ?_
  refine va_get S.1 S.2.1 S.2.2.2.2 jin4 S.2.2.2.1 hK hP 0 rfl rfl 3 (by decide) (S.2.2.2.2 _ (jin jq_70)) (fun _ h => h) rfl jd_J5_append_c97b9_1 ?_
  refine lv_istore_n S.1 S.2.1 jd_J5_append_c97b9_4 rfl hl (by decide) rfl (fun ls (hl : lv_has ls 4 [(2, .int (nI n)), (0, .ref sb), (1, .int (nI x))]) => ?_)
  refine lv_iload_n S.1 S.2.1 jd_J5_append_c97b9_5 rfl (lv_at hl 0 rfl) ?_
  refine lv_iload_n S.1 S.2.1 jd_J5_append_c97b9_6 rfl (lv_at hl 2 rfl) ?_
  refine j_cS (As := [.int (nI x)]) (rest := [.int (nI n)]) S (j_size hx) jq_84 jq_85 jq_86 jq_87 ⟨by decide +kernel, by decide +kernel, (by show _ = some 1; decide +kernel)⟩ ⟨by decide, by decide⟩ jst_T hC trivial hS hl.1 ⟨Nat.zero_le _, Nat.zero_le _⟩ (by show (1 : Nat) ≤ 8; decide) rfl jd_J5_append_c97b9_7 ?_
  refine lv_iadd S.1 S.2.1 jd_J5_append_c97b9_10 ?_
  refine w_top (y := nI (n + dgl x)) (nI_add n _) ?_
  refine lv_istore_n S.1 S.2.1 jd_J5_append_c97b9_11 rfl hl (by decide) rfl (fun ls (hl : lv_has ls 4 [(3, .int (nI (n + dgl x))), (2, .int (nI n)), (0, .ref sb), (1, .int (nI x))]) => ?_)
  refine lv_aload_n S.1 S.2.1 jd_J5_append_c97b9_12 rfl (lv_at hl 2 rfl) ?_
  refine lv_iload_n S.1 S.2.1 jd_J5_append_c97b9_13 rfl (lv_at hl 0 rfl) ?_
  refine j_wV (b := sb) (As := [.int (nI (n + dgl x))]) (rest := []) (ws1 := (jw cB sb av m n ml a)) S (j_ensure (q := n + dgl x) hm (by omega) hfa) jq_71 jq_72 (S.2.2.2.2 _ (jsel (by simp [jPv]))) jq_50 jq_73 ⟨by decide +kernel, by decide +kernel, (by show _ = some 1; decide +kernel)⟩ ⟨by decide, by decide⟩ (sb_rc (r := []) hK hP) jst_T hP hK hD hC trivial hS hA hl.1 ⟨by show 0 + 1 ≤ 1; decide, by show 0 + 700 ≤ 700; decide⟩ (by show (0 : Nat) ≤ 8; decide) rfl jd_J5_append_c97b9_14 (fun v w1 H1 l1 hR hP hD hS hz hk => ?_)
  obtain ⟨rfl, av2, m2, a2, rfl, h1, h2, h3, h4⟩ := hR
  refine lv_aload_n S.1 S.2.1 jd_J5_append_c97b9_17 rfl (lv_at hl 2 rfl) ?_
  refine j_wV (b := sb) (As := []) (rest := []) (ws1 := (jw cB sb av2 m2 n ml a2)) S (j_isL5 (r := [])) jq_88 jq_89 (S.2.2.2.2 _ (jin jq_90)) jq_50 jq_91 ⟨by decide +kernel, by decide +kernel, (by show _ = some 0; decide +kernel)⟩ ⟨by decide, by decide⟩ (sb_rc (r := []) hK hP) jst_T hP hK hD hC trivial hS hA hl.1 ⟨by show 0 + 1 + 0 ≤ 1; decide, by show 0 + 700 + 0 ≤ 700; decide⟩ (by show (0 : Nat) ≤ 8; decide) rfl jd_J5_append_c97b9_18 (fun v w1 H1 l1 hR hP hD hS hz hk => ?_)
  obtain ⟨rfl, rfl⟩ := hR
  refine lv_if_eq S.1 S.2.1 jd_J5_append_c97b9_21 (tgt := 37) rfl (fun hb => absurd hb (by decide)) (fun _ => ?_)
  refine lv_iload_n S.1 S.2.1 jd_J5_append_c97b9_24 rfl (lv_at hl 3 rfl) ?_
  refine lv_iload_n S.1 S.2.1 jd_J5_append_c97b9_25 rfl (lv_at hl 0 rfl) ?_
  refine lv_aload_n S.1 S.2.1 jd_J5_append_c97b9_26 rfl (lv_at hl 2 rfl) ?_
  refine va_get S.1 S.2.1 S.2.2.2.2 jin4 S.2.2.2.1 hK hP 0 rfl rfl 0 (by decide) (S.2.2.2.2 _ (jin jq_33)) (fun _ h => h) rfl jd_J5_append_c97b9_27 ?_
  refine j_wS (As := [.int (nI x), .int (nI (n + dgl x)), .ref av2]) (rest := []) (ws1 := (jw cB sb av2 m2 n ml a2)) S (j_chars (pre := [(sb, .inr (13, [.ref av2, .int 0, .int ml, .int (nI n)]))]) hx (by omega) h1 h2 h3) jq_92 jq_93 jq_86 jq_94 ⟨by decide +kernel, by decide +kernel, (by show _ = some 3; decide +kernel)⟩ ⟨by decide, by decide⟩ jst_T hP hK hD hC trivial hS hA hl.1 ⟨by show 0 + 1 + 0 + 0 ≤ 1; decide, by show 0 + 700 + 0 + 0 ≤ 700; decide⟩ (by show (0 : Nat) ≤ 8; decide) rfl jd_J5_append_c97b9_30 (fun v w1 H1 l1 hR hP hD hS hz hk => ?_)
  obtain ⟨rfl, a3, rfl, g1, g2, g3⟩ := hR
  refine lv_pop S.1 S.2.1 jd_J5_append_c97b9_33 rfl ?_
  refine lv_goto S.1 S.2.1 jd_J5_append_c97b9_34 (tgt := 48) rfl ?_
  refine lv_aload_n S.1 S.2.1 jd_J5_append_c97b9_48 rfl (lv_at hl 2 rfl) ?_
  refine lv_iload_n S.1 S.2.1 jd_J5_append_c97b9_49 rfl (lv_at hl 0 rfl) ?_
  refine va_put S.1 S.2.1 S.2.2.2.2 jin4 tyJ4 tyJ4_ok nmJ4 S.2.2.2.1 hK hP hD hS 0 rfl rfl 3 (by decide) (S.2.2.2.2 _ (jin jq_70)) (fun _ h => h) rfl (ty := tyJ4 3) (tyJ4_ok 3 (by decide)) rfl rfl (by show 3 < 4; decide) jd_J5_append_c97b9_50 (fun H1 l1 (hP : va_P D vwCl (jw cB sb av2 m2 (n + dgl x) ml a3) H1) (hD : va_D _ (jw cB sb av2 m2 (n + dgl x) ml a3)) hS => ?_)
  refine lv_aload_n S.1 S.2.1 jd_J5_append_c97b9_53 rfl (lv_at hl 2 rfl) ?_
  rw [show n + dgl x - dgl x = n by omega] at g2 g3
  exact j_aret S hr (Or.inl ⟨_, rfl⟩) hlk ⟨rfl, av2, m2, a3, rfl, h1, h2, g1, fun j hj => (g2 j hj).trans (h4 j (by omega)), g3⟩ hP hD hS (by show 0 + 1 + 0 + 0 ≤ 1; decide) (by show 0 + 700 + 0 + 0 ≤ 700; decide) jd_J5_append_c97b9_54
theorem j_sbI {l : Launch} {D : va_G} {cB : ClassId} {sz : Nat} {sb av m n : Nat} {ml : Int32} {a : Nat → Int32} {x : Nat} (hnm : n ≤ m) (hm : m ≤ 700) (hnL : n + 3 ≤ 300) (hfa : sb_Fit a) (hx : x < 1000) : jMet l yJ4_append_bf812 cJ4_append_bf812 2 (some (.object "java/lang/StringBuilder")) 5 1 700 230 [.ref sb, .int (nI x)] D cB (jw cB sb av m n ml a) sz jT (fun v w1 => v = some (.ref sb) ∧ ∃ av' m' a', w1 = jw cB sb av' m' (n + dgl x) ml a' ∧ n + dgl x ≤ m' ∧ m' ≤ 700 ∧ sb_Fit a' ∧ (∀ j, j < n → a' j = a j) ∧ ∀ j, j < dgl x → a' (n + j) = dgf x j) := by
  refine j_of (by decide +kernel) (by first | decide | simp [lg_sl, Value.category]) ?_
  intro p e s mi below meth c ls S hr hlk hmn hsz hP hK hD hC hX hl
  have hA : ∀ q, s.heap.size ≤ q → va_A (jw cB sb av m n ml a) sz q := fun q h => Or.inr (by omega)
  have hS : va_S (va_A (jw cB sb av m n ml a) sz) s.heap s.heap [] := va_S.rf
  refine lv_aload_n S.1 S.2.1 jd_J4_append_bf812_0 rfl (lv_at hl 0 rfl) ?_
  refine lv_iload_n S.1 S.2.1 jd_J4_append_bf812_1 rfl (lv_at hl 1 rfl) ?_
  refine j_wU (C := "java/lang/StringBuilder") (b := sb) (As := [.int (nI x)]) (rest := []) (ws1 := (jw cB sb av m n ml a)) S (hK.1 13 _ rfl).2 (j_appI hnm hm hnL hfa hx) jq_95 jq_96 jq_50 jq_97 jq_98 jq_81 ⟨by decide +kernel, (by show _ = some 1; decide +kernel)⟩ ⟨by decide, by decide⟩ (sb_rc (r := []) hK hP) jst_T hP hK hD hC trivial hS hA hl.1 ⟨by show 0 + 1 ≤ 1; decide, by show 0 + 700 ≤ 700; decide⟩ (by show (0 : Nat) ≤ 8; decide) rfl jd_J4_append_bf812_2 (fun v w1 H1 l1 hR hP hD hS hz hk => ?_)
  obtain ⟨rfl, av2, m2, a2, rfl, h1⟩ := hR
  refine lv_pop S.1 S.2.1 jd_J4_append_bf812_5 rfl ?_
  refine lv_aload_n S.1 S.2.1 jd_J4_append_bf812_6 rfl (lv_at hl 0 rfl) ?_
  exact j_aret S hr (Or.inl ⟨_, rfl⟩) hlk ⟨rfl, av2, m2, a2, rfl, h1⟩ hP hD hS (by show 0 + 1 ≤ 1; decide) (by show 0 + 700 ≤ 700; decide) jd_J4_append_bf812_7
