/-! printed by mkk.py: the law's cells and what is taken of them -/
def jI (b L : Nat) (xs : Nat → Int32) : jX := fun A U H => va_X b L xs U H ∧ b < H.size ∧ ¬ A b
theorem jst_I {b L : Nat} {xs : Nat → Int32} : jst (jI b L xs) := by
  intro A B s U H H1 h hv hq hAB
  obtain ⟨h1, h2, h3⟩ := h
  have e := hq b h2 h3
  have h4 : b < H1.size := by
    obtain ⟨scr, q1, -⟩ := h1
    rw [← e] at q1
    exact (Array.getElem?_eq_some_iff.mp q1).1
  exact ⟨(h1.kept e).moved hv, h4, fun z => h3 (hAB b z)⟩
/-- cell k of the script -/
def clV (L : Nat) (xs : Nat → Int32) (k : Nat) : Int32 := if k < L then xs k else 0
/-- what is taken of it, under a bound -/
def inV (L : Nat) (xs : Nat → Int32) (k m : Nat) : Nat := (clV L xs k).toBitVec.toNat % 2 ^ 31 % m
theorem inV_lt {L : Nat} {xs : Nat → Int32} {k m : Nat} (h : 0 < m) : inV L xs k m < m := Nat.mod_lt _ h
theorem j_cell {l : Launch} {b L k : Nat} {xs : Nat → Int32} (hL : L ≤ 260) (hk : k < 260) : jMetR l yL_cell cL_cell 2 (some .int) 0 0 [.ref b, .int (nI k)] (jI b L xs) (some (.int (clV L xs k))) := by
  refine j_ofR (by decide +kernel) (by first | decide | simp [lg_sl, Value.category]) ?_
  intro p e s mi below meth c ls S hr hlk hC hX hl
  have hS : va_S (fun _ => False) s.heap s.heap [] := va_S.rf
  refine lv_iload_n S.1 S.2.1 jd_L_cell_0 rfl (lv_at hl 1 rfl) ?_
  refine lv_aload_n S.1 S.2.1 jd_L_cell_1 rfl (lv_at hl 0 rfl) ?_
  refine va_slen S.1 S.2.1 hX.1 hX.2.1 hX.2.2 hS jd_L_cell_2 ?_
  refine lv_icmp_ge S.1 S.2.1 jd_L_cell_3 (tgt := 12) rfl (fun hb => ?_) (fun hb => ?_)
  · have h9 : ¬ k < L := fun z => by have := (nI_leI (by omega) (by omega)).mp (show nI L ≤ nI k from hb); omega
    have e : clV L xs k = 0 := if_neg h9
    rw [e]
    refine lv_iconst S.1 S.2.1 jd_L_cell_12 (v := 0) rfl ?_
    exact W.iret S.1 S.2.1 hr (fun t ht _ => ⟨rfl, ht⟩) (fun _ h => by cases h) jd_L_cell_13 hlk
  · have h9 : k < L := Nat.lt_of_not_le (fun z => hb (show nI L ≤ nI k from nI_le z (by omega)))
    have e : clV L xs k = xs k := if_pos h9
    rw [e]
    refine lv_aload_n S.1 S.2.1 jd_L_cell_6 rfl (lv_at hl 0 rfl) ?_
    refine lv_iload_n S.1 S.2.1 jd_L_cell_7 rfl (lv_at hl 1 rfl) ?_
    refine va_sld S.1 S.2.1 hX.1 hX.2.1 hX.2.2 hS (vp_in_nI h9 (by omega)) jd_L_cell_8 ?_
    rw [nI_clamp (by omega)]
    refine lv_goto S.1 S.2.1 jd_L_cell_9 (tgt := 13) rfl ?_
    exact W.iret S.1 S.2.1 hr (fun t ht _ => ⟨rfl, ht⟩) (fun _ h => by cases h) jd_L_cell_13 hlk
theorem j_in {l : Launch} {x : Int32} {m : Nat} (h0 : 0 < m) (hm : m < 2 ^ 31) : jMetR l yL_in cL_in 2 (some .int) 0 0 [.int x, .int (nI m)] jT (some (.int (nI (x.toBitVec.toNat % 2 ^ 31 % m)))) := by
  refine j_ofR (by decide +kernel) (by first | decide | simp [lg_sl, Value.category]) ?_
  intro p e s mi below meth c ls S hr hlk hC hX hl
  have hS : va_S (fun _ => False) s.heap s.heap [] := va_S.rf
  refine lv_iload_n S.1 S.2.1 jd_L_in_0 rfl (lv_at hl 0 rfl) ?_
  refine lv_ldc S.1 S.2.1 S.2.2.2.1 (S.2.2.2.2 _ (jin jq_147)) jd_L_in_1 ?_
  refine lv_iand S.1 S.2.1 jd_L_in_3 ?_
  refine w_top (y := nI (x.toBitVec.toNat % 2 ^ 31)) (pk_and x 31 (by decide +kernel)) ?_
  refine lv_iload_n S.1 S.2.1 jd_L_in_4 rfl (lv_at hl 1 rfl) ?_
  refine lv_irem S.1 S.2.1 jd_L_in_5 (nI_ne0 h0 hm) ?_
  refine w_top (y := nI (x.toBitVec.toNat % 2 ^ 31 % m)) (pk_rem (Nat.mod_lt _ (by decide)) h0 hm) ?_
  exact W.iret S.1 S.2.1 hr (fun t ht _ => ⟨rfl, ht⟩) (fun _ h => by cases h) jd_L_in_6 hlk
section INP
variable {p : Program} {l : Launch} {e : Env} {s : State} {m : MethodId} {args : Array Value} {below : List Frame} {meth : Method} {c : Code} {Q : State → Prop} {H : Heap} {locs : List Loc} {cells slots : Nat} {ls : Array Slot} {rest : List Value} {A : Nat → Prop} {b L : Nat} {xs : Nat → Int32}
theorem inp_9 (S : CallFix p m c cL_law 18 s args jTB "FloatTownsLaw") (hC : jC A s s.heap) (hX : jI b L xs A s s.heap) (hS : va_S A s.heap H locs) (hL : L ≤ 260) (hsz : ls.size = 18) (h0 : ls[0]? = some (.val (.ref b))) (hc : cells ≤ room_1.cells ∧ slots ≤ room_1.slots) (hrm : (rest.map fun v => v.category).sum ≤ 5)
    (kk : W p l e room_1 s m args below meth c H locs cells slots Q (F0 m 19 ls (.int (nI (inV L xs 0 6)) :: rest))) : W p l e room_1 s m args below meth c H locs cells slots Q (F0 m 9 ls rest) := by
  refine lv_aload_n S.1 S.2.1 jd_L_law_9 rfl h0 ?_
  refine lv_iconst S.1 S.2.1 jd_L_law_10 (v := nI 0) rfl ?_
  refine j_cS (As := [.ref b, .int (nI 0)]) (rest := rest) S (j_cell hL (by decide)) jq_148 jq_149 jq_150 jq_151 ⟨by decide +kernel, by decide +kernel, (by show _ = some 2; decide +kernel)⟩ ⟨by decide +kernel, by decide +kernel⟩ jst_I hC hX hS hsz hc (by omega) rfl jd_L_law_11 ?_
  refine lv_bipush S.1 S.2.1 jd_L_law_14 (v := nI 6) (by decide +kernel) ?_
  refine j_cS (As := [.int (clV L xs 0), .int (nI 6)]) (rest := rest) S (j_in (by decide) (by decide)) jq_152 jq_153 jq_150 jq_154 ⟨by decide +kernel, by decide +kernel, (by show _ = some 2; decide +kernel)⟩ ⟨by decide +kernel, by decide +kernel⟩ jst_T hC trivial hS hsz hc (by omega) rfl jd_L_law_16 ?_
  exact kk
theorem inp_21 (S : CallFix p m c cL_law 18 s args jTB "FloatTownsLaw") (hC : jC A s s.heap) (hX : jI b L xs A s s.heap) (hS : va_S A s.heap H locs) (hL : L ≤ 260) (hsz : ls.size = 18) (h0 : ls[0]? = some (.val (.ref b))) (hc : cells ≤ room_1.cells ∧ slots ≤ room_1.slots) (hrm : (rest.map fun v => v.category).sum ≤ 5)
    (kk : W p l e room_1 s m args below meth c H locs cells slots Q (F0 m 31 ls (.int (nI (inV L xs 1 50)) :: rest))) : W p l e room_1 s m args below meth c H locs cells slots Q (F0 m 21 ls rest) := by
  refine lv_aload_n S.1 S.2.1 jd_L_law_21 rfl h0 ?_
  refine lv_iconst S.1 S.2.1 jd_L_law_22 (v := nI 1) rfl ?_
  refine j_cS (As := [.ref b, .int (nI 1)]) (rest := rest) S (j_cell hL (by decide)) jq_148 jq_149 jq_150 jq_151 ⟨by decide +kernel, by decide +kernel, (by show _ = some 2; decide +kernel)⟩ ⟨by decide +kernel, by decide +kernel⟩ jst_I hC hX hS hsz hc (by omega) rfl jd_L_law_23 ?_
  refine lv_bipush S.1 S.2.1 jd_L_law_26 (v := nI 50) (by decide +kernel) ?_
  refine j_cS (As := [.int (clV L xs 1), .int (nI 50)]) (rest := rest) S (j_in (by decide) (by decide)) jq_152 jq_153 jq_150 jq_154 ⟨by decide +kernel, by decide +kernel, (by show _ = some 2; decide +kernel)⟩ ⟨by decide +kernel, by decide +kernel⟩ jst_T hC trivial hS hsz hc (by omega) rfl jd_L_law_28 ?_
  exact kk
theorem inp_32 (S : CallFix p m c cL_law 18 s args jTB "FloatTownsLaw") (hC : jC A s s.heap) (hX : jI b L xs A s s.heap) (hS : va_S A s.heap H locs) (hL : L ≤ 260) (hsz : ls.size = 18) (h0 : ls[0]? = some (.val (.ref b))) (hc : cells ≤ room_1.cells ∧ slots ≤ room_1.slots) (hrm : (rest.map fun v => v.category).sum ≤ 5)
    (kk : W p l e room_1 s m args below meth c H locs cells slots Q (F0 m 42 ls (.int (nI (inV L xs 2 20)) :: rest))) : W p l e room_1 s m args below meth c H locs cells slots Q (F0 m 32 ls rest) := by
  refine lv_aload_n S.1 S.2.1 jd_L_law_32 rfl h0 ?_
  refine lv_iconst S.1 S.2.1 jd_L_law_33 (v := nI 2) rfl ?_
  refine j_cS (As := [.ref b, .int (nI 2)]) (rest := rest) S (j_cell hL (by decide)) jq_148 jq_149 jq_150 jq_151 ⟨by decide +kernel, by decide +kernel, (by show _ = some 2; decide +kernel)⟩ ⟨by decide +kernel, by decide +kernel⟩ jst_I hC hX hS hsz hc (by omega) rfl jd_L_law_34 ?_
  refine lv_bipush S.1 S.2.1 jd_L_law_37 (v := nI 20) (by decide +kernel) ?_
  refine j_cS (As := [.int (clV L xs 2), .int (nI 20)]) (rest := rest) S (j_in (by decide) (by decide)) jq_152 jq_153 jq_150 jq_154 ⟨by decide +kernel, by decide +kernel, (by show _ = some 2; decide +kernel)⟩ ⟨by decide +kernel, by decide +kernel⟩ jst_T hC trivial hS hsz hc (by omega) rfl jd_L_law_39 ?_
  exact kk
theorem inp_45 (S : CallFix p m c cL_law 18 s args jTB "FloatTownsLaw") (hC : jC A s s.heap) (hX : jI b L xs A s s.heap) (hS : va_S A s.heap H locs) (hL : L ≤ 260) (hsz : ls.size = 18) (h0 : ls[0]? = some (.val (.ref b))) (hc : cells ≤ room_1.cells ∧ slots ≤ room_1.slots) (hrm : (rest.map fun v => v.category).sum ≤ 5)
    (kk : W p l e room_1 s m args below meth c H locs cells slots Q (F0 m 55 ls (.int (nI (inV L xs 3 40)) :: rest))) : W p l e room_1 s m args below meth c H locs cells slots Q (F0 m 45 ls rest) := by
  refine lv_aload_n S.1 S.2.1 jd_L_law_45 rfl h0 ?_
  refine lv_iconst S.1 S.2.1 jd_L_law_46 (v := nI 3) rfl ?_
  refine j_cS (As := [.ref b, .int (nI 3)]) (rest := rest) S (j_cell hL (by decide)) jq_148 jq_149 jq_150 jq_151 ⟨by decide +kernel, by decide +kernel, (by show _ = some 2; decide +kernel)⟩ ⟨by decide +kernel, by decide +kernel⟩ jst_I hC hX hS hsz hc (by omega) rfl jd_L_law_47 ?_
  refine lv_bipush S.1 S.2.1 jd_L_law_50 (v := nI 40) (by decide +kernel) ?_
  refine j_cS (As := [.int (clV L xs 3), .int (nI 40)]) (rest := rest) S (j_in (by decide) (by decide)) jq_152 jq_153 jq_150 jq_154 ⟨by decide +kernel, by decide +kernel, (by show _ = some 2; decide +kernel)⟩ ⟨by decide +kernel, by decide +kernel⟩ jst_T hC trivial hS hsz hc (by omega) rfl jd_L_law_52 ?_
  exact kk
theorem inp_58 (S : CallFix p m c cL_law 18 s args jTB "FloatTownsLaw") (hC : jC A s s.heap) (hX : jI b L xs A s s.heap) (hS : va_S A s.heap H locs) (hL : L ≤ 260) (hsz : ls.size = 18) (h0 : ls[0]? = some (.val (.ref b))) (hc : cells ≤ room_1.cells ∧ slots ≤ room_1.slots) (hrm : (rest.map fun v => v.category).sum ≤ 5)
    (kk : W p l e room_1 s m args below meth c H locs cells slots Q (F0 m 68 ls (.int (nI (inV L xs 4 30)) :: rest))) : W p l e room_1 s m args below meth c H locs cells slots Q (F0 m 58 ls rest) := by
  refine lv_aload_n S.1 S.2.1 jd_L_law_58 rfl h0 ?_
  refine lv_iconst S.1 S.2.1 jd_L_law_59 (v := nI 4) rfl ?_
  refine j_cS (As := [.ref b, .int (nI 4)]) (rest := rest) S (j_cell hL (by decide)) jq_148 jq_149 jq_150 jq_151 ⟨by decide +kernel, by decide +kernel, (by show _ = some 2; decide +kernel)⟩ ⟨by decide +kernel, by decide +kernel⟩ jst_I hC hX hS hsz hc (by omega) rfl jd_L_law_60 ?_
  refine lv_bipush S.1 S.2.1 jd_L_law_63 (v := nI 30) (by decide +kernel) ?_
  refine j_cS (As := [.int (clV L xs 4), .int (nI 30)]) (rest := rest) S (j_in (by decide) (by decide)) jq_152 jq_153 jq_150 jq_154 ⟨by decide +kernel, by decide +kernel, (by show _ = some 2; decide +kernel)⟩ ⟨by decide +kernel, by decide +kernel⟩ jst_T hC trivial hS hsz hc (by omega) rfl jd_L_law_65 ?_
  exact kk
theorem inp_636 (S : CallFix p m c cL_law 18 s args jTB "FloatTownsLaw") (hC : jC A s s.heap) (hX : jI b L xs A s s.heap) (hS : va_S A s.heap H locs) (hL : L ≤ 260) (hsz : ls.size = 18) (h0 : ls[0]? = some (.val (.ref b))) (hc : cells ≤ room_1.cells ∧ slots ≤ room_1.slots) (hrm : (rest.map fun v => v.category).sum ≤ 5)
    (kk : W p l e room_1 s m args below meth c H locs cells slots Q (F0 m 646 ls (.int (nI (inV L xs 5 20)) :: rest))) : W p l e room_1 s m args below meth c H locs cells slots Q (F0 m 636 ls rest) := by
  refine lv_aload_n S.1 S.2.1 jd_L_law_636 rfl h0 ?_
  refine lv_iconst S.1 S.2.1 jd_L_law_637 (v := nI 5) rfl ?_
  refine j_cS (As := [.ref b, .int (nI 5)]) (rest := rest) S (j_cell hL (by decide)) jq_148 jq_149 jq_150 jq_151 ⟨by decide +kernel, by decide +kernel, (by show _ = some 2; decide +kernel)⟩ ⟨by decide +kernel, by decide +kernel⟩ jst_I hC hX hS hsz hc (by omega) rfl jd_L_law_638 ?_
  refine lv_bipush S.1 S.2.1 jd_L_law_641 (v := nI 20) (by decide +kernel) ?_
  refine j_cS (As := [.int (clV L xs 5), .int (nI 20)]) (rest := rest) S (j_in (by decide) (by decide)) jq_152 jq_153 jq_150 jq_154 ⟨by decide +kernel, by decide +kernel, (by show _ = some 2; decide +kernel)⟩ ⟨by decide +kernel, by decide +kernel⟩ jst_T hC trivial hS hsz hc (by omega) rfl jd_L_law_643 ?_
  exact kk
theorem inp_740 (S : CallFix p m c cL_law 18 s args jTB "FloatTownsLaw") (hC : jC A s s.heap) (hX : jI b L xs A s s.heap) (hS : va_S A s.heap H locs) (hL : L ≤ 260) (hsz : ls.size = 18) (h0 : ls[0]? = some (.val (.ref b))) (hc : cells ≤ room_1.cells ∧ slots ≤ room_1.slots) (hrm : (rest.map fun v => v.category).sum ≤ 5)
    (kk : W p l e room_1 s m args below meth c H locs cells slots Q (F0 m 751 ls (.int (nI (inV L xs 6 40)) :: rest))) : W p l e room_1 s m args below meth c H locs cells slots Q (F0 m 740 ls rest) := by
  refine lv_aload_n S.1 S.2.1 jd_L_law_740 rfl h0 ?_
  refine lv_bipush S.1 S.2.1 jd_L_law_741 (v := nI 6) (by decide +kernel) ?_
  refine j_cS (As := [.ref b, .int (nI 6)]) (rest := rest) S (j_cell hL (by decide)) jq_148 jq_149 jq_150 jq_151 ⟨by decide +kernel, by decide +kernel, (by show _ = some 2; decide +kernel)⟩ ⟨by decide +kernel, by decide +kernel⟩ jst_I hC hX hS hsz hc (by omega) rfl jd_L_law_743 ?_
  refine lv_bipush S.1 S.2.1 jd_L_law_746 (v := nI 40) (by decide +kernel) ?_
  refine j_cS (As := [.int (clV L xs 6), .int (nI 40)]) (rest := rest) S (j_in (by decide) (by decide)) jq_152 jq_153 jq_150 jq_154 ⟨by decide +kernel, by decide +kernel, (by show _ = some 2; decide +kernel)⟩ ⟨by decide +kernel, by decide +kernel⟩ jst_T hC trivial hS hsz hc (by omega) rfl jd_L_law_748 ?_
  exact kk
theorem inp_791 (S : CallFix p m c cL_law 18 s args jTB "FloatTownsLaw") (hC : jC A s s.heap) (hX : jI b L xs A s s.heap) (hS : va_S A s.heap H locs) (hL : L ≤ 260) (hsz : ls.size = 18) (h0 : ls[0]? = some (.val (.ref b))) (hc : cells ≤ room_1.cells ∧ slots ≤ room_1.slots) (hrm : (rest.map fun v => v.category).sum ≤ 5)
    (kk : W p l e room_1 s m args below meth c H locs cells slots Q (F0 m 803 ls (.int (nI (inV L xs 7 1000)) :: rest))) : W p l e room_1 s m args below meth c H locs cells slots Q (F0 m 791 ls rest) := by
  refine lv_aload_n S.1 S.2.1 jd_L_law_791 rfl h0 ?_
  refine lv_bipush S.1 S.2.1 jd_L_law_792 (v := nI 7) (by decide +kernel) ?_
  refine j_cS (As := [.ref b, .int (nI 7)]) (rest := rest) S (j_cell hL (by decide)) jq_148 jq_149 jq_150 jq_151 ⟨by decide +kernel, by decide +kernel, (by show _ = some 2; decide +kernel)⟩ ⟨by decide +kernel, by decide +kernel⟩ jst_I hC hX hS hsz hc (by omega) rfl jd_L_law_794 ?_
  refine lv_sipush S.1 S.2.1 jd_L_law_797 (v := nI 1000) (by decide +kernel) ?_
  refine j_cS (As := [.int (clV L xs 7), .int (nI 1000)]) (rest := rest) S (j_in (by decide) (by decide)) jq_152 jq_153 jq_150 jq_154 ⟨by decide +kernel, by decide +kernel, (by show _ = some 2; decide +kernel)⟩ ⟨by decide +kernel, by decide +kernel⟩ jst_T hC trivial hS hsz hc (by omega) rfl jd_L_law_800 ?_
  exact kk
theorem inp_946 (S : CallFix p m c cL_law 18 s args jTB "FloatTownsLaw") (hC : jC A s s.heap) (hX : jI b L xs A s s.heap) (hS : va_S A s.heap H locs) (hL : L ≤ 260) (hsz : ls.size = 18) (h0 : ls[0]? = some (.val (.ref b))) (hc : cells ≤ room_1.cells ∧ slots ≤ room_1.slots) (hrm : (rest.map fun v => v.category).sum ≤ 5)
    (kk : W p l e room_1 s m args below meth c H locs cells slots Q (F0 m 957 ls (.int (nI (inV L xs 8 100)) :: rest))) : W p l e room_1 s m args below meth c H locs cells slots Q (F0 m 946 ls rest) := by
  refine lv_aload_n S.1 S.2.1 jd_L_law_946 rfl h0 ?_
  refine lv_bipush S.1 S.2.1 jd_L_law_947 (v := nI 8) (by decide +kernel) ?_
  refine j_cS (As := [.ref b, .int (nI 8)]) (rest := rest) S (j_cell hL (by decide)) jq_148 jq_149 jq_150 jq_151 ⟨by decide +kernel, by decide +kernel, (by show _ = some 2; decide +kernel)⟩ ⟨by decide +kernel, by decide +kernel⟩ jst_I hC hX hS hsz hc (by omega) rfl jd_L_law_949 ?_
  refine lv_bipush S.1 S.2.1 jd_L_law_952 (v := nI 100) (by decide +kernel) ?_
  refine j_cS (As := [.int (clV L xs 8), .int (nI 100)]) (rest := rest) S (j_in (by decide) (by decide)) jq_152 jq_153 jq_150 jq_154 ⟨by decide +kernel, by decide +kernel, (by show _ = some 2; decide +kernel)⟩ ⟨by decide +kernel, by decide +kernel⟩ jst_T hC trivial hS hsz hc (by omega) rfl jd_L_law_954 ?_
  exact kk
theorem inp_1106 (S : CallFix p m c cL_law 18 s args jTB "FloatTownsLaw") (hC : jC A s s.heap) (hX : jI b L xs A s s.heap) (hS : va_S A s.heap H locs) (hL : L ≤ 260) (hsz : ls.size = 18) (h0 : ls[0]? = some (.val (.ref b))) (hc : cells ≤ room_1.cells ∧ slots ≤ room_1.slots) (hrm : (rest.map fun v => v.category).sum ≤ 5)
    (kk : W p l e room_1 s m args below meth c H locs cells slots Q (F0 m 1117 ls (.int (nI (inV L xs 9 6)) :: rest))) : W p l e room_1 s m args below meth c H locs cells slots Q (F0 m 1106 ls rest) := by
  refine lv_aload_n S.1 S.2.1 jd_L_law_1106 rfl h0 ?_
  refine lv_bipush S.1 S.2.1 jd_L_law_1107 (v := nI 9) (by decide +kernel) ?_
  refine j_cS (As := [.ref b, .int (nI 9)]) (rest := rest) S (j_cell hL (by decide)) jq_148 jq_149 jq_150 jq_151 ⟨by decide +kernel, by decide +kernel, (by show _ = some 2; decide +kernel)⟩ ⟨by decide +kernel, by decide +kernel⟩ jst_I hC hX hS hsz hc (by omega) rfl jd_L_law_1109 ?_
  refine lv_bipush S.1 S.2.1 jd_L_law_1112 (v := nI 6) (by decide +kernel) ?_
  refine j_cS (As := [.int (clV L xs 9), .int (nI 6)]) (rest := rest) S (j_in (by decide) (by decide)) jq_152 jq_153 jq_150 jq_154 ⟨by decide +kernel, by decide +kernel, (by show _ = some 2; decide +kernel)⟩ ⟨by decide +kernel, by decide +kernel⟩ jst_T hC trivial hS hsz hc (by omega) rfl jd_L_law_1114 ?_
  exact kk
end INP
