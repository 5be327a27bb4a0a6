/-! printed by mkm.py: the law's helper text(o, String): twenty letters at a time, then the text -/
def fw (t : Nat → Nat) (L k : Nat) : Nat → Nat → Int32
  | 0 => fun _ => 0
  | i + 1 => upd (fw t L k i) (i / 4) (orS (fw t L k i (i / 4)) (chs t L (k + i)) (24 - 8 * (i % 4)))
theorem fw_20 (t : Nat → Nat) (L k : Nat) : fw t L k 20 0 = fdw t L k 0 ∧ fw t L k 20 1 = fdw t L k 1 ∧ fw t L k 20 2 = fdw t L k 2 ∧ fw t L k 20 3 = fdw t L k 3 ∧ fw t L k 20 4 = fdw t L k 4 := ⟨rfl, rfl, rfl, rfl, rfl⟩
abbrev tR : Room := { frames := 13, cells := 20, slots := 100, locals := 480 }
section TXI
variable {p : Program} {l : Launch} {e : Env} {s : State} {mi : MethodId} {args : Array Value} {below : List Frame} {meth : Method} {c : Code} {Q : State → Prop} {cells slots : Nat} {d : aD} {ad : Nat → Nat} {σ : aS} {A : Nat → Prop} {q av L k o x : Nat} {t : Nat → Nat}
theorem tx_in (S : CallFix p mi c cL_text 5 s args jTB "FloatTownsLaw") (hC : jC A s s.heap) (hX : rdS q av L (fun j => nI (t j)) A s s.heap) (hK : va_K d.1 vwCl (aTy0 d) s) (hL : L ≤ 300) (hk : k ≤ 400) (ht : ∀ j, j < L → t j < 128) (hcs : cells ≤ 20 ∧ slots ≤ 100) :
    ∀ (n i : Nat) (H : Heap) (locs : List Loc) (ls : Array Slot), i + n = 20 → va_P d.1 vwCl (aW0 d ad σ ++ [(x, .inl (d.2.1, 5, .inl (fw t L k i)))]) H → va_D A (aW0 d ad σ ++ [(x, .inl (d.2.1, 5, .inl (fw t L k i)))]) → va_S A s.heap H locs → lv_has ls 5 [(4, .int (nI i)), (3, .ref x), (2, .int (nI k)), (0, .ref o), (1, .ref q)] →
      (∀ (H1 : Heap) (l1 : List Loc) (ls1 : Array Slot), va_P d.1 vwCl (aW0 d ad σ ++ [(x, .inl (d.2.1, 5, .inl (fw t L k 20)))]) H1 → va_D A (aW0 d ad σ ++ [(x, .inl (d.2.1, 5, .inl (fw t L k 20)))]) → va_S A s.heap H1 l1 → lv_has ls1 5 [(4, .int (nI 20)), (3, .ref x), (2, .int (nI k)), (0, .ref o), (1, .ref q)] → W p l e tR s mi args below meth c H1 l1 cells slots Q (F0 mi 74 ls1 [])) →
      W p l e tR s mi args below meth c H locs cells slots Q (F0 mi 17 ls []) := by
  intro n
  induction n with
  | zero =>
    intro i H locs ls hi hP hD hS hl kk
    obtain rfl : i = 20 := by omega
    refine lv_iload S.1 S.2.1 jd_L_text_17 (lv_at hl 0 rfl) ?_
    refine lv_bipush S.1 S.2.1 jd_L_text_19 (v := nI 20) (by decide +kernel) ?_
    refine lv_icmp_ge S.1 S.2.1 jd_L_text_21 (tgt := 74) rfl (fun _ => ?_) (fun hb => absurd (nI_le (Nat.le_refl _) (by decide)) hb)
    exact kk H locs ls hP hD hS hl
  | succ n ih =>
    intro i H locs ls hi hP hD hS hl kk
    refine lv_iload S.1 S.2.1 jd_L_text_17 (lv_at hl 0 rfl) ?_
    refine lv_bipush S.1 S.2.1 jd_L_text_19 (v := nI 20) (by decide +kernel) ?_
    refine lv_icmp_ge S.1 S.2.1 jd_L_text_21 (tgt := 74) rfl (fun hb => absurd hb (nI_ge (by omega) (by decide))) (fun _ => ?_)
    refine lv_aload_n S.1 S.2.1 jd_L_text_24 rfl (lv_at hl 1 rfl) ?_
    refine lv_iload S.1 S.2.1 jd_L_text_25 (lv_at hl 0 rfl) ?_
    refine lv_iconst S.1 S.2.1 jd_L_text_27 (v := nI 4) rfl ?_
    refine lv_idiv S.1 S.2.1 jd_L_text_28 (nI_ne0 (by decide) (by decide)) ?_
    refine w_top (y := nI (i / 4)) (pk_div (by omega) (by decide) (by decide)) ?_
    refine lv_dup2_11 S.1 S.2.1 jd_L_text_29 rfl rfl ?_
    refine va_iald S.1 S.2.1 hK hP (aW0 d ad σ).length 0 (g0 _ _) rfl (vp_in_nI (n := i / 4) (by omega) (by decide)) jd_L_text_30 ?_
    rw [nI_clamp (by omega)]
    refine lv_iload_n S.1 S.2.1 jd_L_text_31 rfl (lv_at hl 2 rfl) ?_
    refine lv_iload S.1 S.2.1 jd_L_text_32 (lv_at hl 0 rfl) ?_
    refine lv_iadd S.1 S.2.1 jd_L_text_34 ?_
    refine w_top (y := nI (k + i)) (nI_add k i) ?_
    refine lv_aload_n S.1 S.2.1 jd_L_text_35 rfl (lv_at hl 4 rfl) ?_
    have hend : ∀ ch : Nat, ch = chs t L (k + i) → W p l e tR s mi args below meth c H locs cells slots Q (F0 mi 55 ls [.int (nI ch), .int (fw t L k i (i / 4)), .int (nI (i / 4)), .ref x]) := by
      intro ch hch
      refine lv_bipush S.1 S.2.1 jd_L_text_55 (v := nI 24) (by decide +kernel) ?_
      refine lv_bipush S.1 S.2.1 jd_L_text_57 (v := nI 8) (by decide +kernel) ?_
      refine lv_iload S.1 S.2.1 jd_L_text_59 (lv_at hl 0 rfl) ?_
      refine lv_iconst S.1 S.2.1 jd_L_text_61 (v := nI 4) rfl ?_
      refine lv_irem S.1 S.2.1 jd_L_text_62 (nI_ne0 (by decide) (by decide)) ?_
      refine w_top (y := nI (i % 4)) (pk_rem (by omega) (by decide) (by decide)) ?_
      refine lv_imul S.1 S.2.1 jd_L_text_63 ?_
      refine w_top (y := nI (8 * (i % 4))) (pk_mul 8 _) ?_
      refine lv_isub S.1 S.2.1 jd_L_text_64 ?_
      refine w_top (y := nI (24 - 8 * (i % 4))) (pk_sub (by omega)) ?_
      refine lv_ishl S.1 S.2.1 jd_L_text_65 ?_
      refine lv_ior S.1 S.2.1 jd_L_text_66 ?_
      refine va_iast S.1 S.2.1 hK hP hD hS (aW0 d ad σ).length 0 (g0 _ _) rfl (vp_in_nI (n := i / 4) (by omega) (by decide)) jd_L_text_67 (fun H1 l1 hP hD hS => ?_)
      rw [s0, nI_clamp (by omega), hch] at hP hD
      refine lv_iinc S.1 S.2.1 jd_L_text_68 hl (k := 0) rfl (v := (nI (i + 1))) (nI_add i 1) (by decide) rfl (fun ls (hl : lv_has ls 5 [(4, .int (nI (i + 1))), (3, .ref x), (2, .int (nI k)), (0, .ref o), (1, .ref q)]) => ?_)
      refine lv_goto S.1 S.2.1 jd_L_text_71 (tgt := 17) rfl ?_
      exact ih (i + 1) H1 l1 ls (by omega) hP hD hS hl kk
    refine j_cV (b := q) (As := []) (rest := [.int (nI (k + i)), .int (fw t L k i (i / 4)), .int (nI (i / 4)), .ref x]) S (j_length (by omega)) jq_66 jq_67 (S.2.2.2.2 _ (jin jq_68)) jq_11 jq_155 ⟨by decide +kernel, by decide +kernel, (by show _ = some 0; decide +kernel)⟩ ⟨by decide, by decide⟩ (hX.rc hS) jst_S hC hX hS hl.1 ⟨hcs.1, hcs.2⟩ (by show (4 : Nat) ≤ 8; decide) rfl jd_L_text_36 ?_
    refine lv_icmp_ge S.1 S.2.1 jd_L_text_39 (tgt := 53) rfl (fun hb => ?_) (fun hb => ?_)
    · have h9 : L ≤ k + i := (nI_leI (by omega) (by omega)).mp hb
      refine lv_bipush S.1 S.2.1 jd_L_text_53 (v := nI 32) (by decide +kernel) ?_
      exact hend 32 (by unfold chs; rw [if_neg (by omega)])
    · have h9 : k + i < L := Nat.lt_of_not_le (fun z => hb ((nI_leI (by omega) (by omega)).mpr z))
      refine lv_aload_n S.1 S.2.1 jd_L_text_42 rfl (lv_at hl 4 rfl) ?_
      refine lv_iload_n S.1 S.2.1 jd_L_text_43 rfl (lv_at hl 2 rfl) ?_
      refine lv_iload S.1 S.2.1 jd_L_text_44 (lv_at hl 0 rfl) ?_
      refine lv_iadd S.1 S.2.1 jd_L_text_46 ?_
      refine w_top (y := nI (k + i)) (nI_add k i) ?_
      refine j_cV (b := q) (As := [.int (nI (k + i))]) (rest := [.int (fw t L k i (i / 4)), .int (nI (i / 4)), .ref x]) S (j_charAt (by omega) h9 (ht _ h9)) jq_156 jq_157 (S.2.2.2.2 _ (jin jq_158)) jq_11 jq_159 ⟨by decide +kernel, by decide +kernel, (by show _ = some 1; decide +kernel)⟩ ⟨by decide, by decide⟩ (hX.rc hS) jst_S hC hX hS hl.1 ⟨hcs.1, hcs.2⟩ (by show (3 : Nat) ≤ 8; decide) rfl jd_L_text_47 ?_
      refine lv_goto S.1 S.2.1 jd_L_text_50 (tgt := 55) rfl ?_
      exact hend (t (k + i)) (by unfold chs; rw [if_pos h9])
end TXI
theorem jobj {d : aD} {ad : Nat → Nat} {σ : aS} {s : State} {H : Heap} (hK : va_K d.1 vwCl (aTy0 d) s) (hP : va_P d.1 vwCl (aW0 d ad σ) H) (h0 : σ.1[0]? = some (21, 11)) : ∃ cell : Cell, H[ad 0]? = some cell ∧ cell.vm.isStatics = false ∧ s.vm.findClass "FloatTowns" = some cell.cls :=
  va_recv (q0 := 0) (ci := 11) (q := (RX11, TX11, 11)) hK hP rfl (aWs_get h0)
section TXO
variable {p : Program} {l : Launch} {e : Env} {s : State} {mi : MethodId} {args : Array Value} {below : List Frame} {meth : Method} {c : Code} {Q : State → Prop} {d : aD} {A : Nat → Prop} {q av L o : Nat} {t : Nat → Nat} {υ : aS}
set_option maxHeartbeats 2000000 in
theorem tx_out (hfl : l.flags = flags0) (hg : aGoodj 128) (S : CallFix p mi c cL_text 5 s args jTB "FloatTownsLaw") (hC : jC A s s.heap) (hX : rdS q av L (fun j => nI (t j)) A s s.heap) (hK : va_K d.1 vwCl (aTy0 d) s) (hStr : aStr d.2.2.2.2 A s s.heap) (hNx : aNx s) (hA : ∀ z, s.heap.size ≤ z → A z) (hL : L ≤ 300) (ht : ∀ j, j < L → t j < 128) :
    ∀ (n k : Nat) (ad : Nat → Nat) (σ : aS) (H : Heap) (locs : List Loc) (ls : Array Slot) (cells slots : Nat), FD t L n k σ υ → k + 20 * n ≤ 400 → aGood σ → σ.1[0]? = some (21, 11) → ad 0 = o → va_P d.1 vwCl (aW0 d ad σ) H → va_D A (aW0 d ad σ) → va_S A s.heap H locs → lv_has ls 5 [(2, .int (nI k)), (0, .ref o), (1, .ref q)] → cells + n ≤ 20 → slots + 5 * n ≤ 100 →
      (∀ (ad' : Nat → Nat) (H1 : Heap) (l1 : List Loc) (ls1 : Array Slot) (cells1 slots1 : Nat), aGood υ → aExt σ.1 υ.1 → (∀ z, z < σ.1.length → ad' z = ad z) → υ.2.2 = σ.2.2 → va_P d.1 vwCl (aW0 d ad' υ) H1 → va_D A (aW0 d ad' υ) → va_S A s.heap H1 l1 → lv_has ls1 5 [(0, .ref o), (1, .ref q)] → cells1 ≤ 20 → slots1 ≤ 100 → W p l e tR s mi args below meth c H1 l1 cells1 slots1 Q (F0 mi 105 ls1 [])) →
      W p l e tR s mi args below meth c H locs cells slots Q (F0 mi 2 ls []) := by
  intro n
  induction n with
  | zero =>
    intro k ad σ H locs ls cells slots hF hb hG h0 ho hP hD hS hl hc1 hc2 kk
    obtain ⟨h9, rfl⟩ := hF
    refine lv_iload_n S.1 S.2.1 jd_L_text_2 rfl (lv_at hl 0 rfl) ?_
    refine lv_aload_n S.1 S.2.1 jd_L_text_3 rfl (lv_at hl 2 rfl) ?_
    refine j_cV (b := q) (As := []) (rest := [.int (nI k)]) S (j_length (by omega)) jq_66 jq_67 (S.2.2.2.2 _ (jin jq_68)) jq_11 jq_155 ⟨by decide +kernel, by decide +kernel, (by show _ = some 0; decide +kernel)⟩ ⟨by decide, by decide⟩ (hX.rc hS) jst_S hC hX hS hl.1 ⟨(by show cells ≤ 20; omega), (by show slots ≤ 100; omega)⟩ (by show (1 : Nat) ≤ 8; decide) rfl jd_L_text_4 ?_
    refine lv_icmp_ge S.1 S.2.1 jd_L_text_7 (tgt := 105) rfl (fun _ => ?_) (fun hb => absurd (nI_le h9 (by omega)) hb)
    exact kk ad H locs ls cells slots hG (aExt.rf _) (fun _ _ => rfl) rfl hP hD hS (lv_sub hl [1, 2] rfl) (by omega) (by omega)
  | succ n ih =>
    intro k ad σ H locs ls cells slots hF hb hG h0 ho hP hD hS hl hc1 hc2 kk
    obtain ⟨h9, r, τ, hfd, ⟨r0, r1⟩, hcnt, hF2⟩ := hF
    refine lv_iload_n S.1 S.2.1 jd_L_text_2 rfl (lv_at hl 0 rfl) ?_
    refine lv_aload_n S.1 S.2.1 jd_L_text_3 rfl (lv_at hl 2 rfl) ?_
    refine j_cV (b := q) (As := []) (rest := [.int (nI k)]) S (j_length (by omega)) jq_66 jq_67 (S.2.2.2.2 _ (jin jq_68)) jq_11 jq_155 ⟨by decide +kernel, by decide +kernel, (by show _ = some 0; decide +kernel)⟩ ⟨by decide, by decide⟩ (hX.rc hS) jst_S hC hX hS hl.1 ⟨(by show cells ≤ 20; omega), (by show slots ≤ 100; omega)⟩ (by show (1 : Nat) ≤ 8; decide) rfl jd_L_text_4 ?_
    refine lv_icmp_ge S.1 S.2.1 jd_L_text_7 (tgt := 105) rfl (fun hb => absurd hb (nI_ge h9 (by omega))) (fun _ => ?_)
    refine lv_iconst S.1 S.2.1 jd_L_text_10 (v := nI 5) rfl ?_
    refine va_newa (atype := .int) (ty := .int) (N' := 5) (a0 := (5, .inl fun _ => 0)) S.1 S.2.1 (S.2.2.2.2 _ (jin jq_160)) rfl hK hP hD hS hA (fun cA => rfl) (by decide) (by decide) (by decide) (by show cells + 1 ≤ 20; omega) (by show slots + 5 ≤ 100; omega) jd_L_text_11 (fun x cA H1 hK1 hP hD hS => ?_)
    obtain rfl : cA = d.2.1 := Option.some.inj (((hK1.2 3 (cA, .int) rfl).2).symm.trans (hK.2 0 (d.2.1, .int) rfl).2)
    refine lv_astore_n S.1 S.2.1 jd_L_text_13 rfl hl (by decide) rfl (fun ls (hl : lv_has ls 5 [(3, .ref x), (2, .int (nI k)), (0, .ref o), (1, .ref q)]) => ?_)
    refine lv_iconst S.1 S.2.1 jd_L_text_14 (v := nI 0) rfl ?_
    refine lv_istore S.1 S.2.1 jd_L_text_15 hl (by decide) rfl (fun ls (hl : lv_has ls 5 [(4, .int (nI 0)), (3, .ref x), (2, .int (nI k)), (0, .ref o), (1, .ref q)]) => ?_)
    refine tx_in S hC hX hK hL (by omega) ht ⟨by omega, by omega⟩ 20 0 H1 locs ls rfl hP hD hS hl (fun H2 l2 ls hP hD hS hl => ?_)
    obtain ⟨f0, f1, f2, f3, f4⟩ := fw_20 t L k
    refine lv_aload_n S.1 S.2.1 jd_L_text_74 rfl (lv_at hl 3 rfl) ?_
    refine lv_aload_n S.1 S.2.1 jd_L_text_75 rfl (lv_at hl 1 rfl) ?_
    refine lv_iconst S.1 S.2.1 jd_L_text_76 (v := nI 0) rfl ?_
    refine va_iald S.1 S.2.1 hK hP (aW0 d ad σ).length 0 (g0 _ _) rfl (vp_in_nI (n := 0) (by decide) (by decide)) jd_L_text_77 ?_
    refine w_top (y := fdw t L k 0) (by rw [nI_clamp (by decide)]; exact f0) ?_
    refine lv_aload_n S.1 S.2.1 jd_L_text_78 rfl (lv_at hl 1 rfl) ?_
    refine lv_iconst S.1 S.2.1 jd_L_text_79 (v := nI 1) rfl ?_
    refine va_iald S.1 S.2.1 hK hP (aW0 d ad σ).length 0 (g0 _ _) rfl (vp_in_nI (n := 1) (by decide) (by decide)) jd_L_text_80 ?_
    refine w_top (y := fdw t L k 1) (by rw [nI_clamp (by decide)]; exact f1) ?_
    refine lv_aload_n S.1 S.2.1 jd_L_text_81 rfl (lv_at hl 1 rfl) ?_
    refine lv_iconst S.1 S.2.1 jd_L_text_82 (v := nI 2) rfl ?_
    refine va_iald S.1 S.2.1 hK hP (aW0 d ad σ).length 0 (g0 _ _) rfl (vp_in_nI (n := 2) (by decide) (by decide)) jd_L_text_83 ?_
    refine w_top (y := fdw t L k 2) (by rw [nI_clamp (by decide)]; exact f2) ?_
    refine lv_aload_n S.1 S.2.1 jd_L_text_84 rfl (lv_at hl 1 rfl) ?_
    refine lv_iconst S.1 S.2.1 jd_L_text_85 (v := nI 3) rfl ?_
    refine va_iald S.1 S.2.1 hK hP (aW0 d ad σ).length 0 (g0 _ _) rfl (vp_in_nI (n := 3) (by decide) (by decide)) jd_L_text_86 ?_
    refine w_top (y := fdw t L k 3) (by rw [nI_clamp (by decide)]; exact f3) ?_
    refine lv_aload_n S.1 S.2.1 jd_L_text_87 rfl (lv_at hl 1 rfl) ?_
    refine lv_iconst S.1 S.2.1 jd_L_text_88 (v := nI 4) rfl ?_
    refine va_iald S.1 S.2.1 hK hP (aW0 d ad σ).length 0 (g0 _ _) rfl (vp_in_nI (n := 4) (by decide) (by decide)) jd_L_text_89 ?_
    refine w_top (y := fdw t L k 4) (by rw [nI_clamp (by decide)]; exact f4) ?_
    have hP0 := P_pre hP
    have hD0 := D_pre hD
    refine h_call (d := d) (ad := ad) (σ := σ) (σ' := τ) (M := m_c11_feed) (j := 128) (xs := [1, (fdw t L k 0).toInt, (fdw t L k 1).toInt, (fdw t L k 2).toInt, (fdw t L k 3).toInt, (fdw t L k 4).toInt]) (vs := [r]) (As := [.int (fdw t L k 0), .int (fdw t L k 1), .int (fdw t L k 2), .int (fdw t L k 3), .int (fdw t L k 4)]) (rest := []) (b := o) (C := "FloatTowns") S hg rfl hfl hG ⟨rfl, ?_⟩ (Eq.trans (rfl : F 128 [1, (fdw t L k 0).toInt, (fdw t L k 1).toInt, (fdw t L k 2).toInt, (fdw t L k 3).toInt, (fdw t L k 4).toInt] σ = aU6 c11_feed [1, (fdw t L k 0).toInt, (fdw t L k 1).toInt, (fdw t L k 2).toInt, (fdw t L k 3).toInt, (fdw t L k 4).toInt] σ) hfd) hcnt (by show [Value.ref (ad 0), .int (Int32.ofInt _), .int (Int32.ofInt _), .int (Int32.ofInt _), .int (Int32.ofInt _), .int (Int32.ofInt _)] = _; rw [ho, Int32.ofInt_toInt, Int32.ofInt_toInt, Int32.ofInt_toInt, Int32.ofInt_toInt, Int32.ofInt_toInt]) jq_161 jq_162 jq_163 jq_164 jq_165 ⟨by decide +kernel, by decide +kernel, (by show _ = some 5; decide +kernel)⟩ ⟨by decide, by decide⟩ (by rw [← ho]; exact jobj hK hP0 h0) hP0 hK hD0 hStr hNx hS hA hl.1 ⟨by show cells + 1 ≤ 20; omega, by show slots + 5 ≤ 100; omega⟩ (by show (0 : Nat) ≤ 8; decide) rfl jd_L_text_90 (fun ad' H3 l3 hG3 hex hag hP hD hS hrg => ?_)
    · intro z hz
      simp only [aMp, m_c11_feed, List.zip_cons_cons, List.zip_nil_right, List.mem_cons, List.not_mem_nil, or_false] at hz
      rcases hz with rfl | rfl | rfl | rfl | rfl | rfl
      · exact aGv_of (aisR_10 11) (by decide) h0
      all_goals exact aGv_int (ar32_t _)
    have hr32 : ar32 r := hrg
    show W _ _ _ _ _ _ _ _ _ _ _ _ _ _ _ (F0 mi 93 ls [.int (Int32.ofInt r)])
    refine lv_if_ge S.1 S.2.1 jd_L_text_93 (tgt := 99) rfl (fun _ => ?_) (fun hb => absurd ((n_0le hr32).mpr r0) hb)
    refine lv_iinc S.1 S.2.1 jd_L_text_99 hl (k := 2) rfl (v := (nI (k + 20))) (nI_add k 20) (by decide) rfl (fun ls (hl : lv_has ls 5 [(2, .int (nI (k + 20))), (4, .int (nI 20)), (3, .ref x), (0, .ref o), (1, .ref q)]) => ?_)
    refine lv_goto S.1 S.2.1 jd_L_text_102 (tgt := 2) rfl ?_
    have hlen : 0 < σ.1.length := (List.getElem?_eq_some_iff.mp h0).1
    refine ih (k + 20) ad' τ H3 l3 ls (cells + 1) (slots + 5) hF2 (by omega) hG3 (hex 0 _ h0) (by rw [hag 0 hlen]; exact ho) hP hD hS (lv_sub hl [0, 3, 4] rfl) (by omega) (by omega) (fun ad2 H4 l4 ls4 c4 s4 g1 g2 g3 g4 g5 g6 g7 g8 g9 g10 => ?_)
    refine kk ad2 H4 l4 ls4 c4 s4 g1 (hex.tr g2) (fun z hz => ?_) (g4.trans hcnt) g5 g6 g7 g8 g9 g10
    rw [g3 z ?_, hag z hz]
    obtain ⟨y, hy⟩ : ∃ y, σ.1[z]? = some y := ⟨_, List.getElem?_eq_getElem hz⟩
    exact (List.getElem?_eq_some_iff.mp (hex z y hy)).1
end TXO
def tP (d : aD) (ad : Nat → Nat) (σ : aS) (sz q av L : Nat) (t : Nat → Nat) : State → Prop := fun U => U.heap.size = sz ∧ va_P d.1 vwCl (aW0 d ad σ) U.heap ∧ va_K d.1 vwCl (aTy0 d) U ∧ va_D (fun _ => True) (aW0 d ad σ) ∧ aStr d.2.2.2.2 (va_A (aW0 d ad σ) sz) U U.heap ∧ aNx U ∧ rdS q av L (fun j => nI (t j)) (va_A (aW0 d ad σ) sz) U U.heap ∧ jC (va_A (aW0 d ad σ) sz) U U.heap
set_option maxHeartbeats 2000000 in
theorem h_text {l : Launch} (hfl : l.flags = flags0) (hg1 : aGoodj 128) (hg2 : aGoodj 129) {d : aD} {ad : Nat → Nat} {σ σ1 υ : aS} {sz q av L n : Nat} {t : Nat → Nat} {v : Int} (hG : aGood σ) (h0 : σ.1[0]? = some (21, 11)) (hL : L ≤ 300) (ht : ∀ j, j < L → t j < 128) (hn : n ≤ 20) (hF : FD t L n 0 σ σ1) (hT : c11_text 1 (L : Int) σ1 = some (0, [v], υ)) (hcnt : υ.2.2 = σ1.2.2) :
    Met l yL_text (jWs yL_text cL_text 5 (some .int)) ({ frames := 13, cells := 20, slots := 100, locals := 480 }) (va_Pc [.ref (ad 0), .ref q] (tP d ad σ sz q av L t)) (fun _ st oc t => aPost d ad σ υ (ar32 v) (some (.int (Int32.ofInt v))) sz st oc t) 20 100 (va_A (aW0 d ad σ) sz) := by
  refine a_MetW (cc := cL_text) (maxL := 5) (ret := some .int) (by decide +kernel) rfl ?_
  intro p e s mi args below meth c s₁ B hml hv
  obtain ⟨rfl, hsz, hP, hK, hD0, hStr, hNx, hX, hC⟩ := hv
  have hts0 := atoms_spec (ws := jWs yL_text cL_text 5 (some .int)) B.pre
  have hts : ∀ w ∈ jTB, w.before ([.ref (ad 0), .ref q] : List Value).toArray s = true := fun w hw => hts0 w (List.mem_cons_of_mem _ hw)
  have hown : s.vm.findClass "FloatTownsLaw" = some mi.cls := findClass_of_methodNamed B.named
  have hr := B.returns
  have hlk := B.notSynchronized
  have S : CallFix p mi c cL_text 5 s ([.ref (ad 0), .ref q] : List Value).toArray jTB "FloatTownsLaw" := ⟨B.exec, B.bytes, hml, hown, hts⟩
  have hl := lv_entry ([.ref (ad 0), .ref q]) (n := 5) (by simp [lg_sl, Value.category])
  rw [lg_entry_eq]
  generalize (lg_sl ([.ref (ad 0), .ref q]) ++ List.replicate (5 - (lg_sl ([.ref (ad 0), .ref q])).length) Slot.unset).toArray = ls at hl ⊢
  subst hsz
  have hD := hD0.self (sz := s.heap.size)
  have hA : ∀ z, s.heap.size ≤ z → va_A (aW0 d ad σ) s.heap.size z := fun z h => Or.inr h
  have hS : va_S (va_A (aW0 d ad σ) s.heap.size) s.heap s.heap [] := va_S.rf
  show W p l e tR s mi _ below meth c s.heap [] 0 0 _ (F0 mi 0 ls [])
  refine lv_iconst S.1 S.2.1 jd_L_text_0 (v := nI 0) rfl ?_
  refine lv_istore_n S.1 S.2.1 jd_L_text_1 rfl hl (by decide) rfl (fun ls (hl : lv_has ls 5 [(2, .int (nI 0)), (0, .ref (ad 0)), (1, .ref q)]) => ?_)
  refine tx_out hfl hg1 S hC hX hK hStr hNx hA hL ht n 0 ad σ s.heap [] ls 0 0 hF (by omega) hG h0 rfl hP hD hS hl (by omega) (by omega) (fun ad1 H1 l1 ls c1 s1 hG1 hex hag hc hP hD hS hl hc1 hs1 => ?_)
  refine lv_aload_n S.1 S.2.1 jd_L_text_105 rfl (lv_at hl 0 rfl) ?_
  refine lv_aload_n S.1 S.2.1 jd_L_text_106 rfl (lv_at hl 1 rfl) ?_
  refine j_cV (b := q) (As := []) (rest := [.ref (ad 0)]) S (j_length (by omega)) jq_66 jq_67 (S.2.2.2.2 _ (jin jq_68)) jq_11 jq_155 ⟨by decide +kernel, by decide +kernel, (by show _ = some 0; decide +kernel)⟩ ⟨by decide, by decide⟩ (hX.rc hS) jst_S hC hX hS hl.1 ⟨hc1, hs1⟩ (by show (1 : Nat) ≤ 8; decide) rfl jd_L_text_107 ?_
  have hlen : 0 < σ.1.length := (List.getElem?_eq_some_iff.mp h0).1
  refine h_call (d := d) (ad := ad1) (σ := σ1) (σ' := υ) (M := m_c11_text) (j := 129) (xs := [1, (L : Int)]) (vs := [v]) (As := [.int (nI L)]) (rest := []) (b := ad 0) (C := "FloatTowns") S hg2 rfl hfl hG1 ⟨rfl, ?_⟩ (Eq.trans (rfl : F 129 [1, (L : Int)] σ1 = aU2 c11_text [1, (L : Int)] σ1) hT) hcnt (by show [Value.ref (ad1 0), .int (Int32.ofInt _)] = _; rw [hag 0 hlen, nI_ofInt]) jq_166 jq_167 jq_168 jq_164 jq_169 ⟨by decide +kernel, by decide +kernel, (by show _ = some 1; decide +kernel)⟩ ⟨by decide, by decide⟩ (by rw [← hag 0 hlen]; exact jobj hK hP (hex 0 _ h0)) hP hK hD hStr hNx hS hA hl.1 ⟨hc1, hs1⟩ (by show (0 : Nat) ≤ 8; decide) rfl jd_L_text_110 (fun ad2 H2 l2 hG2 hex2 hag2 hP hD hS hrg => ?_)
  · intro z hz
    simp only [aMp, m_c11_text, List.zip_cons_cons, List.zip_nil_right, List.mem_cons, List.not_mem_nil, or_false] at hz
    rcases hz with rfl | rfl
    · exact aGv_of (aisR_10 11) (by decide) (hex 0 _ h0)
    · exact aGv_int ⟨by omega, by omega⟩
  have hr32 : ar32 v := hrg
  refine W.widen hc1 hs1 (W.iret S.1 S.2.1 hr (fun t9 ht9 _ => ⟨⟨⟨hG2, hex.tr hex2, Nat.le_of_eq (congrArg Prod.fst (hcnt.trans hc)).symm, Nat.le_of_eq (congrArg Prod.snd (hcnt.trans hc)).symm⟩, hr32⟩, ⟨ad2, fun z hz => ?_, rfl, by rw [ht9]; exact hP, hD⟩, hS.F ht9⟩) hS.2.2 jd_L_text_113 hlk)
  rw [hag2 z ?_, hag z hz]
  obtain ⟨y, hy⟩ : ∃ y, σ.1[z]? = some y := ⟨_, List.getElem?_eq_getElem hz⟩
  exact (List.getElem?_eq_some_iff.mp (hex z y hy)).1
