/-! printed by mk50.py: what holds at the start (classes, arrays, the constant, links) -/
theorem nt_0 : Cond.methodLinkNest "FloatTowns" 11 yX10_init "FloatTowns" ∈ lw_tbl := ch_1 _ (List.mem_of_getElem? (i := 36) (by decide +kernel))
theorem nt_1 : Cond.methodLinkNest "FloatTowns" 29 yX7_init "FloatTowns" ∈ lw_tbl := ch_1 _ (List.mem_of_getElem? (i := 100) (by decide +kernel))
theorem nt_2 : Cond.methodLinkNest "FloatTowns" 59 yX8_init "FloatTowns" ∈ lw_tbl := ch_2 _ (List.mem_of_getElem? (i := 72) (by decide +kernel))
theorem nt_3 : Cond.methodLinkNest "FloatTowns" 66 yX4_init "FloatTowns" ∈ lw_tbl := ch_2 _ (List.mem_of_getElem? (i := 75) (by decide +kernel))
theorem nt_4 : Cond.methodLinkNest "FloatTowns$Course" 17 yX8_init "FloatTowns" ∈ lw_tbl := ch_1 _ (List.mem_of_getElem? (i := 180) (by decide +kernel))
theorem nt_5 : Cond.methodLinkNest "FloatTowns$History" 15 yX8_init "FloatTowns" ∈ lw_tbl := ch_2 _ (List.mem_of_getElem? (i := 54) (by decide +kernel))
theorem nt_6 : Cond.methodLinkNest "FloatTowns$Ledger" 62 yX11_one "FloatTowns" ∈ lw_tbl := ch_3 _ (List.mem_of_getElem? (i := 10) (by decide +kernel))
theorem nt_7 : Cond.methodLinkNest "FloatTowns$Ledger" 79 yX11_sizeOf "FloatTowns" ∈ lw_tbl := ch_3 _ (List.mem_of_getElem? (i := 29) (by decide +kernel))
theorem nt_8 : Cond.methodLinkNest "FloatTowns$Ledger" 85 yX11_part "FloatTowns" ∈ lw_tbl := ch_3 _ (List.mem_of_getElem? (i := 35) (by decide +kernel))
theorem nt_9 : Cond.methodLinkNest "FloatTowns$Plan" 32 yX6_init "FloatTowns" ∈ lw_tbl := ch_2 _ (List.mem_of_getElem? (i := 81) (by decide +kernel))
theorem nt_10 : Cond.methodLinkNest "FloatTowns$Plan" 39 yX1_init "FloatTowns" ∈ lw_tbl := ch_2 _ (List.mem_of_getElem? (i := 120) (by decide +kernel))
theorem nt_11 : Cond.methodLinkNest "FloatTowns$Plan" 84 yX11_one "FloatTowns" ∈ lw_tbl := ch_4 _ (List.mem_of_getElem? (i := 24) (by decide +kernel))
theorem nt_12 : Cond.methodLinkNest "FloatTowns$Plan" 103 yX11_part "FloatTowns" ∈ lw_tbl := ch_3 _ (List.mem_of_getElem? (i := 28) (by decide +kernel))
theorem nt_13 : Cond.methodLinkNest "FloatTowns$Plan" 110 yX11_sizeOf "FloatTowns" ∈ lw_tbl := ch_3 _ (List.mem_of_getElem? (i := 21) (by decide +kernel))
theorem nt_14 : Cond.methodLinkNest "FloatTowns$Sailing" 11 yX3_init "FloatTowns" ∈ lw_tbl := ch_1 _ (List.mem_of_getElem? (i := 106) (by decide +kernel))
theorem nt_15 : Cond.methodLinkNest "FloatTowns$Sailing" 74 yX11_one "FloatTowns" ∈ lw_tbl := ch_4 _ (List.mem_of_getElem? (i := 216) (by decide +kernel))
theorem nt_16 : Cond.methodLinkNest "FloatTowns$Sailing" 84 yX11_part "FloatTowns" ∈ lw_tbl := ch_5 _ (List.mem_of_getElem? (i := 36) (by decide +kernel))
theorem nt_17 : Cond.methodLinkNest "FloatTowns$Sailing" 125 yX11_covers "FloatTowns" ∈ lw_tbl := ch_5 _ (List.mem_of_getElem? (i := 89) (by decide +kernel))
theorem nt_18 : Cond.methodLinkNest "FloatTowns$Sailing" 139 yX11_sizeOf "FloatTowns" ∈ lw_tbl := ch_5 _ (List.mem_of_getElem? (i := 118) (by decide +kernel))
theorem nt_19 : Cond.methodLinkNest "FloatTowns$Survey" 17 yX8_init "FloatTowns" ∈ lw_tbl := ch_2 _ (List.mem_of_getElem? (i := 7) (by decide +kernel))
theorem nt_20 : Cond.methodLinkNest "FloatTowns$Survey" 113 yX11_part "FloatTowns" ∈ lw_tbl := ch_5 _ (List.mem_of_getElem? (i := 235) (by decide +kernel))
theorem nt_21 : Cond.methodLinkNest "FloatTowns$Survey" 116 yX11_one "FloatTowns" ∈ lw_tbl := ch_5 _ (List.mem_of_getElem? (i := 236) (by decide +kernel))
set_option maxRecDepth 100000 in
theorem a_nest : ∀ q ∈ aNest, Cond.methodLinkNest q.1 q.2.1 q.2.2.1 q.2.2.2 ∈ lw_tbl := List.forall_mem_cons.mpr ⟨nt_0, List.forall_mem_cons.mpr ⟨nt_1, List.forall_mem_cons.mpr ⟨nt_2, List.forall_mem_cons.mpr ⟨nt_3, List.forall_mem_cons.mpr ⟨nt_4, List.forall_mem_cons.mpr ⟨nt_5, List.forall_mem_cons.mpr ⟨nt_6, List.forall_mem_cons.mpr ⟨nt_7, List.forall_mem_cons.mpr ⟨nt_8, List.forall_mem_cons.mpr ⟨nt_9, List.forall_mem_cons.mpr ⟨nt_10, List.forall_mem_cons.mpr ⟨nt_11, List.forall_mem_cons.mpr ⟨nt_12, List.forall_mem_cons.mpr ⟨nt_13, List.forall_mem_cons.mpr ⟨nt_14, List.forall_mem_cons.mpr ⟨nt_15, List.forall_mem_cons.mpr ⟨nt_16, List.forall_mem_cons.mpr ⟨nt_17, List.forall_mem_cons.mpr ⟨nt_18, List.forall_mem_cons.mpr ⟨nt_19, List.forall_mem_cons.mpr ⟨nt_20, List.forall_mem_cons.mpr ⟨nt_21, fun _ h => absurd h List.not_mem_nil⟩⟩⟩⟩⟩⟩⟩⟩⟩⟩⟩⟩⟩⟩⟩⟩⟩⟩⟩⟩⟩⟩
theorem sw_ao : (Cond.arrayOver (.object RX8) : Cond) ∈ lw_tbl := ch_2 _ (List.mem_of_getElem? (i := 53) (by decide +kernel))
theorem sw_acI : (Cond.arrayClass .int : Cond) ∈ lw_tbl := ch_1 _ (List.mem_of_getElem? (i := 84) (by decide +kernel))
theorem sw_acL : (Cond.arrayClass .long : Cond) ∈ lw_tbl := ch_1 _ (List.mem_of_getElem? (i := 131) (by decide +kernel))
theorem sw_str : (Cond.stringRef "FloatTowns$Tokens" 93 "good float wants like town gives votes bound ask ground storm members many cost pays own " : Cond) ∈ lw_tbl := ch_3 _ (List.mem_of_getElem? (i := 160) (by decide +kernel))
theorem sw_lsC : (Cond.laysStatic "java/lang/String" "COMPACT_STRINGS" "Z" : Cond) ∈ lw_tbl := ch_3 _ (List.mem_of_getElem? (i := 170) (by decide +kernel))
theorem sw_lsS : (Cond.laysStatic "jdk/internal/util/Preconditions" "SIOOBE_FORMATTER" "Ljava/util/function/BiFunction;" : Cond) ∈ lw_tbl := ch_3 _ (List.mem_of_getElem? (i := 186) (by decide +kernel))
theorem sw_inS : (Cond.initialized "java/lang/String" : Cond) ∈ lw_tbl := ch_1 _ (List.mem_of_getElem? (i := 16) (by decide +kernel))
theorem sw_inP : (Cond.initialized "jdk/internal/util/Preconditions" : Cond) ∈ lw_tbl := ch_1 _ (List.mem_of_getElem? (i := 18) (by decide +kernel))
theorem a_inst : ∀ ci, ci < 13 → Cond.instantiable (aC1 ci) (aNf ci) ∈ aTB := by
  intro ci h
  match ci, h with
  | 0, _ => exact q640
  | 1, _ => exact q306
  | 2, _ => exact q652
  | 3, _ => exact q527
  | 4, _ => exact q661
  | 5, _ => exact q629
  | 6, _ => exact q301
  | 7, _ => exact q635
  | 8, _ => exact q9
  | 9, _ => exact q646
  | 10, _ => exact q624
  | 11, _ => exact q1300
  | 12, _ => exact q1305
theorem a_start_K {args : Array Value} {s : State} (hts : ∀ w ∈ lw_tbl, w.before args s = true) : ∃ (D : va_G) (cI cL cS : ClassId), va_K D vwCl (aTys cI cL cS) s := by
  have htb : ∀ w ∈ aTB, w.before args s = true := fun w hw => hts w (List.mem_filter.mp hw).1
  have h0 : ∀ ci : Nat, ∃ q : ClassId × (Nat → Nat), ∀ r, vwCl[ci]? = some r → u_Kn s r.1 r.2.1 r.2.2 q.1 q.2 := by
    intro ci
    by_cases h : ci < 13
    · obtain ⟨r, hr, ty, -, e1, e2, e3, -⟩ := aT_ty ci h 0 ((by decide : ∀ ci, ci < 13 → 0 < aNf ci) ci h)
      obtain ⟨cC, iS, hk⟩ := u_known htb (aT_in ci h) (htb _ (a_inst ci h))
      refine ⟨(cC, iS), fun r' hr' => ?_⟩
      obtain rfl := Option.some.inj (hr.symm.trans hr')
      rw [e1, e2, e3]
      exact hk
    · have : vwCl[ci]? = none := List.getElem?_eq_none (by show 13 ≤ ci; omega)
      exact ⟨(0, fun _ => 0), fun r hr => by rw [this] at hr; cases hr⟩
  obtain ⟨g, hg⟩ := Classical.axiomOfChoice h0
  obtain ⟨cI, kI, pI, i1, i2, i3⟩ := Cond.arrayClass_spec (hts _ sw_acI)
  obtain ⟨cL, kL, pL, l1, l2, l3⟩ := Cond.arrayClass_spec (hts _ sw_acL)
  obtain ⟨pS, cS, kS, s1, s2, s3, s4, s5⟩ := Cond.arrayOver_spec (hts _ sw_ao)
  refine ⟨(fun c => (g c).1, fun c => (g c).2), cI, cL, cS, fun c q hq => hg c q hq, ?_⟩
  intro k q hk
  match k, hk with
  | 0, hk => cases hk; exact ⟨fun n z => ⟨(by intro k h; cases h), kI, i2, pI, i3⟩, i1⟩
  | 1, hk => cases hk; exact ⟨fun n z => ⟨(by intro k h; cases h), kL, l2, pL, l3⟩, l1⟩
  | 2, hk => cases hk; exact ⟨fun n z => ⟨(by intro k h; cases h), kS, s3, pS, s4⟩, kS, pS, s3, s4, s1, s5⟩
theorem a_start_N {args : Array Value} {s : State} (hts : ∀ w ∈ lw_tbl, w.before args s = true) : aNx s :=
  ⟨fun q hq => va_Nw.of rfl (hts _ (a_nest q hq)), va_AO.of (hts _ sw_ao)⟩
theorem nar_el : ∀ j, j < 89 → (flatC (Jvm.Cond.and given_1 narrow_1))[43 + j]? = some (Cond.eq (.elem (.field (.string "FloatTowns$Tokens" 93) "java/lang/String" "value" "[B") (.int (Int32.ofNat j))) (.int (tXs.getD j 0))) := by decide +kernel
theorem a_start_S {args : Array Value} {s : State} {A : Nat → Prop} (hts : ∀ w ∈ lw_tbl, w.before args s = true) (hgv : (Jvm.Cond.and given_1 narrow_1).before args s = true) (hA : ∀ a : Nat, a < s.heap.size → ¬ A a) : ∃ sa, aStr sa A s s.heap := by
  have hs := flat_of_before _ hgv
  have h1 : ∀ i : Nat, i < 1 → i = 0 := fun i h => by omega
  obtain ⟨adK, adV, hS, hE⟩ := vk_Sof (args := args) (s := s) (N := 1) (tm := fun _ => .string "FloatTowns$Tokens" 93) (len := [89]) (byt := [tXs]) (A := A) (fun i h => by cases h1 i h; decide)
    (fun i h => hs _ (List.mem_of_getElem? (i := 39) (by decide +kernel))) (fun i h => hs _ (List.mem_of_getElem? (i := 40) (by decide +kernel))) (fun i h => hs _ (List.mem_of_getElem? (i := 41) (by decide +kernel)))
    (fun i h => by cases h1 i h; exact hs _ (List.mem_of_getElem? (i := 42) (by decide +kernel))) (fun i h j hj => by cases h1 i h; exact hs _ (List.mem_of_getElem? (nar_el j hj))) (fun i j h h' hn => absurd ((h1 i h).trans (h1 j h').symm) hn) hA
  exact ⟨adK, _, [89], [tXs], adV, vk_R.of (hts _ sw_str) (hE 0 (by decide)), hS,
    va_Zof (hts _ sw_lsC) (hts _ sw_inS) (va_eqt (hs _ (List.mem_of_getElem? (i := 4) (by decide +kernel)))) hA,
    va_Zqof (hts _ sw_lsS) (hts _ sw_inP) (hs _ (List.mem_of_getElem? (i := 5) (by decide +kernel))) hA, rfl, rfl⟩

