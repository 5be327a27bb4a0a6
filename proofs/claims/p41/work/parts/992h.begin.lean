/-! printed by mks.py: what holds at the start (classes, arrays, constants, links) -/
theorem nt_0 : Cond.methodLinkNest "FloatTowns" 11 yX10_init "FloatTowns" ∈ lw_tbl := ch_1 _ (List.mem_of_getElem? (i := 35) (by decide +kernel))
theorem nt_1 : Cond.methodLinkNest "FloatTowns" 29 yX7_init "FloatTowns" ∈ lw_tbl := ch_1 _ (List.mem_of_getElem? (i := 99) (by decide +kernel))
theorem nt_2 : Cond.methodLinkNest "FloatTowns" 59 yX8_init "FloatTowns" ∈ lw_tbl := ch_2 _ (List.mem_of_getElem? (i := 69) (by decide +kernel))
theorem nt_3 : Cond.methodLinkNest "FloatTowns" 66 yX4_init "FloatTowns" ∈ lw_tbl := ch_2 _ (List.mem_of_getElem? (i := 72) (by decide +kernel))
theorem nt_4 : Cond.methodLinkNest "FloatTowns$Course" 17 yX8_init "FloatTowns" ∈ lw_tbl := ch_1 _ (List.mem_of_getElem? (i := 177) (by decide +kernel))
theorem nt_5 : Cond.methodLinkNest "FloatTowns$History" 15 yX8_init "FloatTowns" ∈ lw_tbl := ch_2 _ (List.mem_of_getElem? (i := 51) (by decide +kernel))
theorem nt_6 : Cond.methodLinkNest "FloatTowns$Ledger" 62 yX11_one "FloatTowns" ∈ lw_tbl := ch_3 _ (List.mem_of_getElem? (i := 1) (by decide +kernel))
theorem nt_7 : Cond.methodLinkNest "FloatTowns$Ledger" 79 yX11_sizeOf "FloatTowns" ∈ lw_tbl := ch_3 _ (List.mem_of_getElem? (i := 20) (by decide +kernel))
theorem nt_8 : Cond.methodLinkNest "FloatTowns$Ledger" 85 yX11_part "FloatTowns" ∈ lw_tbl := ch_3 _ (List.mem_of_getElem? (i := 26) (by decide +kernel))
theorem nt_9 : Cond.methodLinkNest "FloatTowns$Plan" 32 yX6_init "FloatTowns" ∈ lw_tbl := ch_2 _ (List.mem_of_getElem? (i := 78) (by decide +kernel))
theorem nt_10 : Cond.methodLinkNest "FloatTowns$Plan" 39 yX1_init "FloatTowns" ∈ lw_tbl := ch_2 _ (List.mem_of_getElem? (i := 116) (by decide +kernel))
theorem nt_11 : Cond.methodLinkNest "FloatTowns$Plan" 84 yX11_one "FloatTowns" ∈ lw_tbl := ch_5 _ (List.mem_of_getElem? (i := 178) (by decide +kernel))
theorem nt_12 : Cond.methodLinkNest "FloatTowns$Plan" 103 yX11_part "FloatTowns" ∈ lw_tbl := ch_3 _ (List.mem_of_getElem? (i := 19) (by decide +kernel))
theorem nt_13 : Cond.methodLinkNest "FloatTowns$Plan" 110 yX11_sizeOf "FloatTowns" ∈ lw_tbl := ch_3 _ (List.mem_of_getElem? (i := 12) (by decide +kernel))
theorem nt_14 : Cond.methodLinkNest "FloatTowns$Sailing" 11 yX3_init "FloatTowns" ∈ lw_tbl := ch_1 _ (List.mem_of_getElem? (i := 105) (by decide +kernel))
theorem nt_15 : Cond.methodLinkNest "FloatTowns$Sailing" 74 yX11_one "FloatTowns" ∈ lw_tbl := ch_3 _ (List.mem_of_getElem? (i := 139) (by decide +kernel))
theorem nt_16 : Cond.methodLinkNest "FloatTowns$Sailing" 84 yX11_part "FloatTowns" ∈ lw_tbl := ch_3 _ (List.mem_of_getElem? (i := 199) (by decide +kernel))
theorem nt_17 : Cond.methodLinkNest "FloatTowns$Sailing" 125 yX11_covers "FloatTowns" ∈ lw_tbl := ch_4 _ (List.mem_of_getElem? (i := 12) (by decide +kernel))
theorem nt_18 : Cond.methodLinkNest "FloatTowns$Sailing" 139 yX11_sizeOf "FloatTowns" ∈ lw_tbl := ch_4 _ (List.mem_of_getElem? (i := 41) (by decide +kernel))
theorem nt_19 : Cond.methodLinkNest "FloatTowns$Survey" 17 yX8_init "FloatTowns" ∈ lw_tbl := ch_2 _ (List.mem_of_getElem? (i := 4) (by decide +kernel))
theorem nt_20 : Cond.methodLinkNest "FloatTowns$Survey" 113 yX11_part "FloatTowns" ∈ lw_tbl := ch_4 _ (List.mem_of_getElem? (i := 149) (by decide +kernel))
theorem nt_21 : Cond.methodLinkNest "FloatTowns$Survey" 116 yX11_one "FloatTowns" ∈ lw_tbl := ch_4 _ (List.mem_of_getElem? (i := 150) (by decide +kernel))
set_option maxRecDepth 100000 in
theorem a_nest : ∀ q ∈ aNest, Cond.methodLinkNest q.1 q.2.1 q.2.2.1 q.2.2.2 ∈ lw_tbl := List.forall_mem_cons.mpr ⟨nt_0, List.forall_mem_cons.mpr ⟨nt_1, List.forall_mem_cons.mpr ⟨nt_2, List.forall_mem_cons.mpr ⟨nt_3, List.forall_mem_cons.mpr ⟨nt_4, List.forall_mem_cons.mpr ⟨nt_5, List.forall_mem_cons.mpr ⟨nt_6, List.forall_mem_cons.mpr ⟨nt_7, List.forall_mem_cons.mpr ⟨nt_8, List.forall_mem_cons.mpr ⟨nt_9, List.forall_mem_cons.mpr ⟨nt_10, List.forall_mem_cons.mpr ⟨nt_11, List.forall_mem_cons.mpr ⟨nt_12, List.forall_mem_cons.mpr ⟨nt_13, List.forall_mem_cons.mpr ⟨nt_14, List.forall_mem_cons.mpr ⟨nt_15, List.forall_mem_cons.mpr ⟨nt_16, List.forall_mem_cons.mpr ⟨nt_17, List.forall_mem_cons.mpr ⟨nt_18, List.forall_mem_cons.mpr ⟨nt_19, List.forall_mem_cons.mpr ⟨nt_20, List.forall_mem_cons.mpr ⟨nt_21, fun _ h => absurd h List.not_mem_nil⟩⟩⟩⟩⟩⟩⟩⟩⟩⟩⟩⟩⟩⟩⟩⟩⟩⟩⟩⟩⟩⟩
theorem sw_ao : (Cond.arrayOver (.object RX8) : Cond) ∈ lw_tbl := ch_2 _ (List.mem_of_getElem? (i := 50) (by decide +kernel))
theorem sw_acI : (Cond.arrayClass .int : Cond) ∈ lw_tbl := ch_1 _ (List.mem_of_getElem? (i := 83) (by decide +kernel))
theorem sw_acL : (Cond.arrayClass .long : Cond) ∈ lw_tbl := ch_1 _ (List.mem_of_getElem? (i := 130) (by decide +kernel))
theorem sw_acB : (Cond.arrayClass .byte : Cond) ∈ lw_tbl := ch_6 _ (List.mem_of_getElem? (i := 55) (by decide +kernel))
theorem sw_str : (Cond.stringRef "FloatTowns$Tokens" 93 "good float wants like town gives votes bound ask ground storm members many cost pays own " : Cond) ∈ lw_tbl := ch_5 _ (List.mem_of_getElem? (i := 120) (by decide +kernel))
theorem sw_lsC : (Cond.laysStatic "java/lang/String" "COMPACT_STRINGS" "Z" : Cond) ∈ lw_tbl := ch_5 _ (List.mem_of_getElem? (i := 19) (by decide +kernel))
theorem sw_lsS : (Cond.laysStatic "jdk/internal/util/Preconditions" "SIOOBE_FORMATTER" "Ljava/util/function/BiFunction;" : Cond) ∈ lw_tbl := ch_5 _ (List.mem_of_getElem? (i := 35) (by decide +kernel))
theorem sw_lsO : (Cond.laysStatic "java/lang/Integer" "DigitOnes" "[B" : Cond) ∈ lw_tbl := ch_6 _ (List.mem_of_getElem? (i := 196) (by decide +kernel))
theorem sw_lsT : (Cond.laysStatic "java/lang/Integer" "DigitTens" "[B" : Cond) ∈ lw_tbl := ch_6 _ (List.mem_of_getElem? (i := 198) (by decide +kernel))
theorem sw_inS : (Cond.initialized "java/lang/String" : Cond) ∈ lw_tbl := ch_1 _ (List.mem_of_getElem? (i := 16) (by decide +kernel))
theorem sw_inP : (Cond.initialized "jdk/internal/util/Preconditions" : Cond) ∈ lw_tbl := ch_1 _ (List.mem_of_getElem? (i := 21) (by decide +kernel))
theorem sw_inI : (Cond.initialized "java/lang/Integer" : Cond) ∈ lw_tbl := ch_1 _ (List.mem_of_getElem? (i := 24) (by decide +kernel))
theorem sw_cl : (Cond.castable "[B" "java/lang/Cloneable" : Cond) ∈ lw_tbl := ch_6 _ (List.mem_of_getElem? (i := 123) (by decide +kernel))
theorem sw_sbi : (Cond.instantiable "java/lang/StringBuilder" 4 : Cond) ∈ lw_tbl := ch_6 _ (List.mem_of_getElem? (i := 58) (by decide +kernel))
theorem sp_sm_0 : (Cond.sameMethod yJ5_newCapacity_0f7a4.cls yJ5_newCapacity_0f7a4.cls yJ5_newCapacity_0f7a4.name yJ5_newCapacity_0f7a4.desc : Cond) ∈ lw_tbl := ch_7 _ (List.mem_of_getElem? (i := 53) (by decide +kernel))
theorem sp_pm_0 : (Cond.privateMethod yJ5_newCapacity_0f7a4 : Cond) ∈ lw_tbl := ch_6 _ (List.mem_of_getElem? (i := 103) (by decide +kernel))
theorem sp_im_0 : (Cond.instanceMethod yJ5_newCapacity_0f7a4 : Cond) ∈ lw_tbl := ch_6 _ (List.mem_of_getElem? (i := 104) (by decide +kernel))
theorem sp_sm_1 : (Cond.sameMethod yJ5_ensureCapacityInternal_d00df.cls yJ5_ensureCapacityInternal_d00df.cls yJ5_ensureCapacityInternal_d00df.name yJ5_ensureCapacityInternal_d00df.desc : Cond) ∈ lw_tbl := ch_7 _ (List.mem_of_getElem? (i := 52) (by decide +kernel))
theorem sp_pm_1 : (Cond.privateMethod yJ5_ensureCapacityInternal_d00df : Cond) ∈ lw_tbl := ch_6 _ (List.mem_of_getElem? (i := 99) (by decide +kernel))
theorem sp_im_1 : (Cond.instanceMethod yJ5_ensureCapacityInternal_d00df : Cond) ∈ lw_tbl := ch_6 _ (List.mem_of_getElem? (i := 100) (by decide +kernel))
theorem sp_sm_2 : (Cond.sameMethod yJ5_inflateIfNeededFor_a7421.cls yJ5_inflateIfNeededFor_a7421.cls yJ5_inflateIfNeededFor_a7421.name yJ5_inflateIfNeededFor_a7421.desc : Cond) ∈ lw_tbl := ch_7 _ (List.mem_of_getElem? (i := 55) (by decide +kernel))
theorem sp_pm_2 : (Cond.privateMethod yJ5_inflateIfNeededFor_a7421 : Cond) ∈ lw_tbl := ch_6 _ (List.mem_of_getElem? (i := 153) (by decide +kernel))
theorem sp_im_2 : (Cond.instanceMethod yJ5_inflateIfNeededFor_a7421 : Cond) ∈ lw_tbl := ch_6 _ (List.mem_of_getElem? (i := 154) (by decide +kernel))
theorem sp_sm_3 : (Cond.sameMethod yJ5_putStringAt_47b60.cls yJ5_putStringAt_47b60.cls yJ5_putStringAt_47b60.name yJ5_putStringAt_47b60.desc : Cond) ∈ lw_tbl := ch_7 _ (List.mem_of_getElem? (i := 54) (by decide +kernel))
theorem sp_pm_3 : (Cond.privateMethod yJ5_putStringAt_47b60 : Cond) ∈ lw_tbl := ch_6 _ (List.mem_of_getElem? (i := 149) (by decide +kernel))
theorem sp_im_3 : (Cond.instanceMethod yJ5_putStringAt_47b60 : Cond) ∈ lw_tbl := ch_6 _ (List.mem_of_getElem? (i := 150) (by decide +kernel))
theorem sl_47 : (Cond.stringRef "FloatTownsLaw" 47 "good w 0;float a " : Cond) ∈ lw_tbl := ch_7 _ (List.mem_of_getElem? (i := 24) (by decide +kernel))
theorem sl_56 : (Cond.stringRef "FloatTownsLaw" 56 " 3 " : Cond) ∈ lw_tbl := ch_7 _ (List.mem_of_getElem? (i := 25) (by decide +kernel))
theorem sl_58 : (Cond.stringRef "FloatTownsLaw" 58 " " : Cond) ∈ lw_tbl := ch_7 _ (List.mem_of_getElem? (i := 26) (by decide +kernel))
theorem sl_60 : (Cond.stringRef "FloatTownsLaw" 60 " wants w " : Cond) ∈ lw_tbl := ch_7 _ (List.mem_of_getElem? (i := 27) (by decide +kernel))
theorem sl_62 : (Cond.stringRef "FloatTownsLaw" 62 ";town t gives w ask " : Cond) ∈ lw_tbl := ch_7 _ (List.mem_of_getElem? (i := 28) (by decide +kernel))
theorem sl_64 : (Cond.stringRef "FloatTownsLaw" 64 ";" : Cond) ∈ lw_tbl := ch_7 _ (List.mem_of_getElem? (i := 29) (by decide +kernel))
theorem sl_140 : (Cond.stringRef "FloatTownsLaw" 140 "float hunt 1 0 0 0;float flee 1 0 0 0;like hunt flee " : Cond) ∈ lw_tbl := ch_7 _ (List.mem_of_getElem? (i := 31) (by decide +kernel))
theorem sl_142 : (Cond.stringRef "FloatTownsLaw" 142 ";like flee hunt - " : Cond) ∈ lw_tbl := ch_7 _ (List.mem_of_getElem? (i := 32) (by decide +kernel))
theorem sl_144 : (Cond.stringRef "FloatTownsLaw" 144 ";town a ask - 30;town b ask -30;" : Cond) ∈ lw_tbl := ch_7 _ (List.mem_of_getElem? (i := 33) (by decide +kernel))
theorem sl_156 : (Cond.stringRef "FloatTownsLaw" 156 "good w " : Cond) ∈ lw_tbl := ch_7 _ (List.mem_of_getElem? (i := 35) (by decide +kernel))
theorem sl_158 : (Cond.stringRef "FloatTownsLaw" 158 ";float a " : Cond) ∈ lw_tbl := ch_7 _ (List.mem_of_getElem? (i := 36) (by decide +kernel))
theorem sl_160 : (Cond.stringRef "FloatTownsLaw" 160 " 1 0 0 wants w 99;town t gives w ask cost/members;town u ask cost;" : Cond) ∈ lw_tbl := ch_7 _ (List.mem_of_getElem? (i := 37) (by decide +kernel))
theorem sl_173 : (Cond.stringRef "FloatTownsLaw" 173 " 1 0 0 wants w " : Cond) ∈ lw_tbl := ch_7 _ (List.mem_of_getElem? (i := 38) (by decide +kernel))
theorem sl_175 : (Cond.stringRef "FloatTownsLaw" 175 ";town t gives w votes ask 0;" : Cond) ∈ lw_tbl := ch_7 _ (List.mem_of_getElem? (i := 39) (by decide +kernel))
theorem sl_177 : (Cond.stringRef "FloatTownsLaw" 177 "float a " : Cond) ∈ lw_tbl := ch_7 _ (List.mem_of_getElem? (i := 40) (by decide +kernel))
theorem sl_179 : (Cond.stringRef "FloatTownsLaw" 179 " 0 0 0;float b " : Cond) ∈ lw_tbl := ch_7 _ (List.mem_of_getElem? (i := 41) (by decide +kernel))
theorem sl_181 : (Cond.stringRef "FloatTownsLaw" 181 " 0 0 0;like a b -" : Cond) ∈ lw_tbl := ch_7 _ (List.mem_of_getElem? (i := 42) (by decide +kernel))
theorem sl_183 : (Cond.stringRef "FloatTownsLaw" 183 ";like b a -" : Cond) ∈ lw_tbl := ch_7 _ (List.mem_of_getElem? (i := 43) (by decide +kernel))
theorem sl_185 : (Cond.stringRef "FloatTownsLaw" 185 ";town t ask 0;town u ask 0;" : Cond) ∈ lw_tbl := ch_7 _ (List.mem_of_getElem? (i := 44) (by decide +kernel))
theorem sl_196 : (Cond.stringRef "FloatTownsLaw" 196 "town t ask 0;ground t 5 31 17 21 17 31;ground t 1;" : Cond) ∈ lw_tbl := ch_7 _ (List.mem_of_getElem? (i := 48) (by decide +kernel))
theorem sl_201 : (Cond.stringRef "FloatTownsLaw" 201 "town t ask 0;ground t 5 31 17 21 17 31;" : Cond) ∈ lw_tbl := ch_7 _ (List.mem_of_getElem? (i := 49) (by decide +kernel))
theorem a_inst : ∀ ci, ci < 12 → Cond.instantiable (aC1 ci) (aNf ci) ∈ aTB := by
  intro ci h
  match ci, h with
  | 0, _ => exact q631
  | 1, _ => exact q302
  | 2, _ => exact q643
  | 3, _ => exact q523
  | 4, _ => exact q652
  | 5, _ => exact q620
  | 6, _ => exact q297
  | 7, _ => exact q626
  | 8, _ => exact q9
  | 9, _ => exact q637
  | 10, _ => exact q615
  | 11, _ => exact q836
theorem a_htb {args : Array Value} {s : State} (hts : ∀ w ∈ lw_tbl, w.before args s = true) : ∀ w ∈ aTB, w.before args s = true := fun w hw => hts w (List.mem_filter.mp hw).1
theorem j_hts {args : Array Value} {s : State} (hts : ∀ w ∈ lw_tbl, w.before args s = true) : ∀ w ∈ jTB, w.before args s = true := by
  intro w hw
  rcases List.mem_append.mp hw with h | h
  · obtain ⟨y, hy, rfl⟩ := List.mem_map.mp h
    have hm : jPv = [yJ5_newCapacity_0f7a4, yJ5_ensureCapacityInternal_d00df, yJ5_inflateIfNeededFor_a7421, yJ5_putStringAt_47b60] := rfl
    rw [hm] at hy
    simp only [List.mem_cons, List.not_mem_nil, or_false] at hy
    rcases hy with rfl | rfl | rfl | rfl
    · exact j_selP ⟨by decide +kernel, by decide +kernel⟩ (hts _ sw_sbi) (hts _ sp_sm_0) (hts _ sp_pm_0) (hts _ sp_im_0)
    · exact j_selP ⟨by decide +kernel, by decide +kernel⟩ (hts _ sw_sbi) (hts _ sp_sm_1) (hts _ sp_pm_1) (hts _ sp_im_1)
    · exact j_selP ⟨by decide +kernel, by decide +kernel⟩ (hts _ sw_sbi) (hts _ sp_sm_2) (hts _ sp_pm_2) (hts _ sp_im_2)
    · exact j_selP ⟨by decide +kernel, by decide +kernel⟩ (hts _ sw_sbi) (hts _ sp_sm_3) (hts _ sp_pm_3) (hts _ sp_im_3)
  · exact a_htb hts w h
theorem a_start_K {args : Array Value} {s : State} (hts : ∀ w ∈ lw_tbl, w.before args s = true) : ∃ (D : va_G) (cI cL cS cB : ClassId), va_K D vwCl (aTys cI cL cS) s ∧ va_K D vwCl [(cB, .byte)] s := by
  have htb := a_htb hts
  have htj := j_hts hts
  have h0 : ∀ ci : Nat, ∃ q : ClassId × (Nat → Nat), ∀ r, vwCl[ci]? = some r → u_Kn s r.1 r.2.1 r.2.2 q.1 q.2 := by
    intro ci
    by_cases h : ci < 12
    · obtain ⟨r, hr, ty, -, e1, e2, e3, -⟩ := aT_ty ci h 0 ((by decide : ∀ ci, ci < 12 → 0 < aNf ci) ci h)
      obtain ⟨cC, iS, hk⟩ := u_known htb (aT_in ci h) (htb _ (a_inst ci h))
      refine ⟨(cC, iS), fun r' hr' => ?_⟩
      obtain rfl := Option.some.inj (hr.symm.trans hr')
      rw [e1, e2, e3]
      exact hk
    · by_cases h2 : ci = 12
      · subst h2
        obtain ⟨cC, iS, hk⟩ := u_known (C := RJ0) (T := TJ0) (N := 4) (n := 4) htj jin0 (htj _ (jin jq_143))
        exact ⟨(cC, iS), fun r hr => by cases hr; exact hk⟩
      · by_cases h3 : ci = 13
        · subst h3
          obtain ⟨cC, iS, hk⟩ := u_known (C := RJ4) (T := TJ4) (N := 4) (n := 4) htj jin4 (hts _ sw_sbi)
          exact ⟨(cC, iS), fun r hr => by cases hr; exact hk⟩
        · have : vwCl[ci]? = none := List.getElem?_eq_none (by show 14 ≤ ci; omega)
          exact ⟨(0, fun _ => 0), fun r hr => by rw [this] at hr; cases hr⟩
  obtain ⟨g, hg⟩ := Classical.axiomOfChoice h0
  obtain ⟨cI, kI, pI, i1, i2, i3⟩ := Cond.arrayClass_spec (hts _ sw_acI)
  obtain ⟨cL, kL, pL, l1, l2, l3⟩ := Cond.arrayClass_spec (hts _ sw_acL)
  obtain ⟨cB, kB, pB, b1, b2, b3⟩ := Cond.arrayClass_spec (hts _ sw_acB)
  obtain ⟨pS, cS, kS, s1, s2, s3, s4, s5⟩ := Cond.arrayOver_spec (hts _ sw_ao)
  refine ⟨(fun c => (g c).1, fun c => (g c).2), cI, cL, cS, cB, ⟨fun c q hq => hg c q hq, ?_⟩, fun c q hq => hg c q hq, ?_⟩
  · intro k q hk
    match k, hk with
    | 0, hk => cases hk; exact ⟨fun n z => ⟨(by intro k h; cases h), kI, i2, pI, i3⟩, i1⟩
    | 1, hk => cases hk; exact ⟨fun n z => ⟨(by intro k h; cases h), kL, l2, pL, l3⟩, l1⟩
    | 2, hk => cases hk; exact ⟨fun n z => ⟨(by intro k h; cases h), kS, s3, pS, s4⟩, kS, pS, s3, s4, s1, s5⟩
  · intro k q hk
    match k, hk with
    | 0, hk => cases hk; exact ⟨fun n z => ⟨(by intro k h; cases h), kB, b2, pB, b3⟩, b1⟩
theorem a_start_N {args : Array Value} {s : State} (hts : ∀ w ∈ lw_tbl, w.before args s = true) : aNx s :=
  ⟨fun q hq => va_Nw.of rfl (hts _ (a_nest q hq)), va_AO.of (hts _ sw_ao)⟩
abbrev FL : List Cond := flatC (Jvm.Cond.and given_1 narrow_1)
def tkL : List Int32 := [103, 111, 111, 100, 32, 102, 108, 111, 97, 116, 32, 119, 97, 110, 116, 115, 32, 108, 105, 107, 101, 32, 116, 111, 119, 110, 32, 103, 105, 118, 101, 115, 32, 118, 111, 116, 101, 115, 32, 98, 111, 117, 110, 100, 32, 97, 115, 107, 32, 103, 114, 111, 117, 110, 100, 32, 115, 116, 111, 114, 109, 32, 109, 101, 109, 98, 101, 114, 115, 32, 109, 97, 110, 121, 32, 99, 111, 115, 116, 32, 112, 97, 121, 115, 32, 111, 119, 110, 32]
theorem nar_el : ∀ j, j < 89 → FL[219 + j]? = some (Cond.eq (.elem (.field (.string "FloatTowns$Tokens" 93) "java/lang/String" "value" "[B") (.int (Int32.ofNat j))) (.int (tkL.getD j 0))) := by decide +kernel
theorem nar_o : ∀ j, j < 100 → FL[12 + j]? = some (Cond.eq (.elem (.static "java/lang/Integer" "DigitOnes" "[B") (.int (Int32.ofNat j))) (.int (nI (48 + j % 10)))) := by decide +kernel
theorem nar_t : ∀ j, j < 100 → FL[115 + j]? = some (Cond.eq (.elem (.static "java/lang/Integer" "DigitTens" "[B") (.int (Int32.ofNat j))) (.int (nI (48 + j / 10)))) := by decide +kernel
section SST
variable {args : Array Value} {s : State} {A : Nat → Prop}
theorem a_start_S (hts : ∀ w ∈ lw_tbl, w.before args s = true) (hgv : (Jvm.Cond.and given_1 narrow_1).before args s = true) (hA : ∀ a : Nat, a < s.heap.size → ¬ A a) : ∃ sa, aStr sa A s s.heap := by
  have hs := flat_of_before _ hgv
  have h1 : ∀ i : Nat, i < 1 → i = 0 := fun i h => by omega
  obtain ⟨adK, adV, hS, hE⟩ := vk_Sof (args := args) (s := s) (N := 1) (tm := fun _ => .string "FloatTowns$Tokens" 93) (len := [89]) (byt := [tkL]) (A := A) (fun i h => by cases h1 i h; decide)
    (fun i h => hs _ (List.mem_of_getElem? (i := 215) (by decide +kernel))) (fun i h => hs _ (List.mem_of_getElem? (i := 216) (by decide +kernel))) (fun i h => hs _ (List.mem_of_getElem? (i := 217) (by decide +kernel)))
    (fun i h => by cases h1 i h; exact hs _ (List.mem_of_getElem? (i := 218) (by decide +kernel))) (fun i h j hj => by cases h1 i h; exact hs _ (List.mem_of_getElem? (nar_el j hj))) (fun i j h h' hn => absurd ((h1 i h).trans (h1 j h').symm) hn) hA
  exact ⟨adK, _, [89], [tkL], adV, vk_R.of (hts _ sw_str) (hE 0 (by decide)), hS,
    va_Zof (hts _ sw_lsC) (hts _ sw_inS) (va_eqt (hs _ (List.mem_of_getElem? (i := 4) (by decide +kernel)))) hA,
    va_Zqof (hts _ sw_lsS) (hts _ sw_inP) (hs _ (List.mem_of_getElem? (i := 5) (by decide +kernel))) hA, rfl, rfl⟩
theorem j_start (hts : ∀ w ∈ lw_tbl, w.before args s = true) (hgv : (Jvm.Cond.and given_1 narrow_1).before args s = true) (hA : ∀ a : Nat, a < s.heap.size → ¬ A a) : jC A s s.heap := by
  have hs := flat_of_before _ hgv
  obtain ⟨t1, ht1, hT1⟩ := va_Tof (args := args) (s := s) (tm := .static "java/lang/Integer" "DigitOnes" "[B") (ty := .byte) (N := 100) (f := fun j => .int (nI (48 + j % 10))) (A := A) (by decide) (hs _ (List.mem_of_getElem? (i := 10) (by decide +kernel))) (va_eqt (hs _ (List.mem_of_getElem? (i := 11) (by decide +kernel)))) (fun j hj => va_eqt (hs _ (List.mem_of_getElem? (nar_o j hj)))) hA
  obtain ⟨t2, ht2, hT2⟩ := va_Tof (args := args) (s := s) (tm := .static "java/lang/Integer" "DigitTens" "[B") (ty := .byte) (N := 100) (f := fun j => .int (nI (48 + j / 10))) (A := A) (by decide) (hs _ (List.mem_of_getElem? (i := 113) (by decide +kernel))) (va_eqt (hs _ (List.mem_of_getElem? (i := 114) (by decide +kernel)))) (fun j hj => va_eqt (hs _ (List.mem_of_getElem? (nar_t j hj)))) hA
  exact ⟨va_Zof (hts _ sw_lsC) (hts _ sw_inS) (va_eqt (hs _ (List.mem_of_getElem? (i := 4) (by decide +kernel)))) hA,
    va_Zqof (hts _ sw_lsS) (hts _ sw_inP) (hs _ (List.mem_of_getElem? (i := 5) (by decide +kernel))) hA,
    t1, t2, va_Zof (hts _ sw_lsO) (hts _ sw_inI) ht1 hA, hT1, va_Zof (hts _ sw_lsT) (hts _ sw_inI) ht2 hA, hT2, va_Nw.of rfl (hts _ sw_cl)⟩
theorem lst_gen {idx k : Nat} {w : List Nat} {tx : String} (hs : ∀ c ∈ FL, c.before args s = true) (hR : (Cond.stringRef "FloatTownsLaw" idx tx).before args s = true) (hA : ∀ a : Nat, a < s.heap.size → ¬ A a) (hl : w.length < 2 ^ 31)
    (h0 : FL[k]? = some (.exactly (.string "FloatTownsLaw" idx) "java/lang/String")) (h1 : FL[k + 1]? = some (Cond.eq (.field (.string "FloatTownsLaw" idx) "java/lang/String" "coder" "B") (.int 0))) (h2 : FL[k + 2]? = some (Cond.arrayOf (.field (.string "FloatTownsLaw" idx) "java/lang/String" "value" "[B") .byte))
    (h3 : FL[k + 3]? = some (Cond.eq (.length (.field (.string "FloatTownsLaw" idx) "java/lang/String" "value" "[B")) (.int (Int32.ofNat w.length)))) (h4 : ∀ j, j < w.length → FL[k + 4 + j]? = some (Cond.eq (.elem (.field (.string "FloatTownsLaw" idx) "java/lang/String" "value" "[B") (.int (Int32.ofNat j))) (.int ((w.map nI).getD j 0)))) : lst idx w A s := by
  have hz : ∀ i : Nat, i < 1 → i = 0 := fun i h => by omega
  obtain ⟨adK, adV, hS, hE⟩ := vk_Sof (args := args) (s := s) (N := 1) (tm := fun _ => .string "FloatTownsLaw" idx) (len := [w.length]) (byt := [w.map nI]) (A := A) (fun i h => by cases hz i h; exact hl)
    (fun i h => hs _ (List.mem_of_getElem? h0)) (fun i h => hs _ (List.mem_of_getElem? h1)) (fun i h => hs _ (List.mem_of_getElem? h2))
    (fun i h => by cases hz i h; exact hs _ (List.mem_of_getElem? h3)) (fun i h j hj => by cases hz i h; exact hs _ (List.mem_of_getElem? (h4 j hj))) (fun i j h h' hn => absurd ((hz i h).trans (hz j h').symm) hn) hA
  obtain ⟨c1, c2, c3, c4⟩ := hS.1 0 (by decide)
  have hr : rdS (adK 0) (adV 0) w.length (fun j => (w.map nI).getD j 0) A s s.heap := ⟨c1, c2, c3, c4⟩
  exact ⟨tx, adK 0, adV 0, vk_R.of hR (hE 0 (by decide)), rdS_congr hr (fun j hj => by
    show (w.map nI).getD j 0 = nI (w.getD j 0)
    rw [List.getD_eq_getElem?_getD, List.getD_eq_getElem?_getD, List.getElem?_map, List.getElem?_eq_getElem hj]
    rfl)⟩
set_option maxRecDepth 100000 in
theorem l_start (hts : ∀ w ∈ lw_tbl, w.before args s = true) (hgv : (Jvm.Cond.and given_1 narrow_1).before args s = true) (hA : ∀ a : Nat, a < s.heap.size → ¬ A a) : ∀ x ∈ lwL, lst x.1 x.2 A s := by
  have hs := flat_of_before _ hgv
  exact List.forall_mem_cons.mpr ⟨lst_gen (k := 308) hs (hts _ sl_47) hA (by decide) (by decide +kernel) (by decide +kernel) (by decide +kernel) (by decide +kernel) (by decide +kernel), List.forall_mem_cons.mpr ⟨lst_gen (k := 330) hs (hts _ sl_56) hA (by decide) (by decide +kernel) (by decide +kernel) (by decide +kernel) (by decide +kernel) (by decide +kernel), List.forall_mem_cons.mpr ⟨lst_gen (k := 339) hs (hts _ sl_58) hA (by decide) (by decide +kernel) (by decide +kernel) (by decide +kernel) (by decide +kernel) (by decide +kernel), List.forall_mem_cons.mpr ⟨lst_gen (k := 347) hs (hts _ sl_60) hA (by decide) (by decide +kernel) (by decide +kernel) (by decide +kernel) (by decide +kernel) (by decide +kernel), List.forall_mem_cons.mpr ⟨lst_gen (k := 364) hs (hts _ sl_62) hA (by decide) (by decide +kernel) (by decide +kernel) (by decide +kernel) (by decide +kernel) (by decide +kernel), List.forall_mem_cons.mpr ⟨lst_gen (k := 393) hs (hts _ sl_64) hA (by decide) (by decide +kernel) (by decide +kernel) (by decide +kernel) (by decide +kernel) (by decide +kernel), List.forall_mem_cons.mpr ⟨lst_gen (k := 404) hs (hts _ sl_140) hA (by decide) (by decide +kernel) (by decide +kernel) (by decide +kernel) (by decide +kernel) (by decide +kernel), List.forall_mem_cons.mpr ⟨lst_gen (k := 468) hs (hts _ sl_142) hA (by decide) (by decide +kernel) (by decide +kernel) (by decide +kernel) (by decide +kernel) (by decide +kernel), List.forall_mem_cons.mpr ⟨lst_gen (k := 498) hs (hts _ sl_144) hA (by decide) (by decide +kernel) (by decide +kernel) (by decide +kernel) (by decide +kernel) (by decide +kernel), List.forall_mem_cons.mpr ⟨lst_gen (k := 543) hs (hts _ sl_156) hA (by decide) (by decide +kernel) (by decide +kernel) (by decide +kernel) (by decide +kernel) (by decide +kernel), List.forall_mem_cons.mpr ⟨lst_gen (k := 564) hs (hts _ sl_158) hA (by decide) (by decide +kernel) (by decide +kernel) (by decide +kernel) (by decide +kernel) (by decide +kernel), List.forall_mem_cons.mpr ⟨lst_gen (k := 588) hs (hts _ sl_160) hA (by decide) (by decide +kernel) (by decide +kernel) (by decide +kernel) (by decide +kernel) (by decide +kernel), List.forall_mem_cons.mpr ⟨lst_gen (k := 670) hs (hts _ sl_173) hA (by decide) (by decide +kernel) (by decide +kernel) (by decide +kernel) (by decide +kernel) (by decide +kernel), List.forall_mem_cons.mpr ⟨lst_gen (k := 702) hs (hts _ sl_175) hA (by decide) (by decide +kernel) (by decide +kernel) (by decide +kernel) (by decide +kernel) (by decide +kernel), List.forall_mem_cons.mpr ⟨lst_gen (k := 748) hs (hts _ sl_177) hA (by decide) (by decide +kernel) (by decide +kernel) (by decide +kernel) (by decide +kernel) (by decide +kernel), List.forall_mem_cons.mpr ⟨lst_gen (k := 775) hs (hts _ sl_179) hA (by decide) (by decide +kernel) (by decide +kernel) (by decide +kernel) (by decide +kernel) (by decide +kernel), List.forall_mem_cons.mpr ⟨lst_gen (k := 810) hs (hts _ sl_181) hA (by decide) (by decide +kernel) (by decide +kernel) (by decide +kernel) (by decide +kernel) (by decide +kernel), List.forall_mem_cons.mpr ⟨lst_gen (k := 848) hs (hts _ sl_183) hA (by decide) (by decide +kernel) (by decide +kernel) (by decide +kernel) (by decide +kernel) (by decide +kernel), List.forall_mem_cons.mpr ⟨lst_gen (k := 881) hs (hts _ sl_185) hA (by decide) (by decide +kernel) (by decide +kernel) (by decide +kernel) (by decide +kernel) (by decide +kernel), List.forall_mem_cons.mpr ⟨lst_gen (k := 931) hs (hts _ sl_196) hA (by decide) (by decide +kernel) (by decide +kernel) (by decide +kernel) (by decide +kernel) (by decide +kernel), List.forall_mem_cons.mpr ⟨lst_gen (k := 1005) hs (hts _ sl_201) hA (by decide) (by decide +kernel) (by decide +kernel) (by decide +kernel) (by decide +kernel) (by decide +kernel), fun _ h => absurd h List.not_mem_nil⟩⟩⟩⟩⟩⟩⟩⟩⟩⟩⟩⟩⟩⟩⟩⟩⟩⟩⟩⟩⟩
end SST
