/-! law.look: hands 0, 1 or 2 back -/
theorem lld_0 : decode cL_look 0 = .ok (.aload_n 3, 1) := by decide +kernel
theorem lld_1 : decode cL_look 1 = .ok (.iconst 0, 1) := by decide +kernel
theorem lld_2 : decode cL_look 2 = .ok (.aload_n 0, 1) := by decide +kernel
theorem lld_3 : decode cL_look 3 = .ok (.iload_n 1, 1) := by decide +kernel
theorem lld_4 : decode cL_look 4 = .ok (.iload_n 2, 1) := by decide +kernel
theorem lld_5 : decode cL_look 5 = .ok (.invokevirtual 7, 3) := by decide +kernel
theorem lld_8 : decode cL_look 8 = .ok (.i2l, 1) := by decide +kernel
theorem lld_9 : decode cL_look 9 = .ok (.lastore, 1) := by decide +kernel
theorem lld_10 : decode cL_look 10 = .ok (.goto 11, 3) := by decide +kernel
theorem lld_13 : decode cL_look 13 = .ok (.astore 4, 2) := by decide +kernel
theorem lld_15 : decode cL_look 15 = .ok (.iconst 1, 1) := by decide +kernel
theorem lld_16 : decode cL_look 16 = .ok (.ireturn, 1) := by decide +kernel
theorem lld_17 : decode cL_look 17 = .ok (.astore 4, 2) := by decide +kernel
theorem lld_19 : decode cL_look 19 = .ok (.iconst 2, 1) := by decide +kernel
theorem lld_20 : decode cL_look 20 = .ok (.ireturn, 1) := by decide +kernel
theorem lld_21 : decode cL_look 21 = .ok (.iconst 0, 1) := by decide +kernel
theorem lld_22 : decode cL_look 22 = .ok (.ireturn, 1) := by decide +kernel
theorem ll_ml7 : (Cond.methodLink "FloatTownsLaw" 7 yX11_look : Cond) ∈ aTB := ch_in (ch_6 _ (List.mem_of_getElem? (i := 113) (by decide +kernel))) (by decide +kernel)
theorem ll_im : (Cond.instanceMethod yX11_look : Cond) ∈ aTB := ch_in (ch_6 _ (List.mem_of_getElem? (i := 114) (by decide +kernel))) (by decide +kernel)
theorem ll_sel : (Cond.selects "FloatTowns" yX11_look yX11_look : Cond) ∈ aTB := ch_in (ch_6 _ (List.mem_of_getElem? (i := 115) (by decide +kernel))) (by decide +kernel)
def hhL : List (Nat × Nat × Nat × Nat) := [(0, 10, 13, 13), (0, 10, 17, 15)]
theorem ll_cw : (Cond.codeWith yL_look cL_look 5 (some .int) hhL : Cond) ∈ aTB := ch_in (ch_6 _ (List.mem_of_getElem? (i := 110) (rfl))) (by decide +kernel)
theorem ll_13 : Cond.classLink "FloatTownsLaw" 13 tIO ∈ aTB := List.mem_filter.mpr ⟨lk_l13, by decide +kernel⟩
theorem ll_15 : Cond.classLink "FloatTownsLaw" 15 tNS ∈ aTB := List.mem_filter.mpr ⟨lk_l15, by decide +kernel⟩
theorem ll_inF : Cond.initialized "FloatTowns" ∈ aTB := w_cl_in _ (by decide +kernel)
def k_ll : List aE := [(0, .aload_n 3, 1, [], 0, none), (1, .iconst 0, 1, [], 0, none), (2, .aload_n 0, 1, [], 0, none), (3, .iload_n 1, 1, [], 0, none), (4, .iload_n 2, 1, [], 0, none), (5, .invokevirtual 7, 3, [9998], 0, none), (8, .i2l, 1, [], 0, some ([(0, 21), (1, 0), (2, 0), (3, 3)], [0, 0, 3])), (9, .lastore, 1, [3], 0, none), (10, .goto 11, 3, [], 0, none), (13, .astore 4, 2, [], 0, none), (15, .iconst 1, 1, [], 0, none), (16, .ireturn, 1, [], 0, none), (17, .astore 4, 2, [], 0, none), (19, .iconst 2, 1, [], 0, none), (20, .ireturn, 1, [], 0, none), (21, .iconst 0, 1, [], 0, none), (22, .ireturn, 1, [0], 0, none)]
def m_ll : aM := (yL_look, cL_look, 5, (some .int), [21, 0, 0, 3], 9, 330, [], k_ll)
theorem ll_mok : aMok aMs m_ll = true := by decide +kernel
theorem ll_seg (v x i q out : Int) (σ : aS) : aseg F aX0 5 k_ll 8 [v, 0, out, x, i, q, out] σ = (if (0 : Int) ≤ 0 ∧ 0 < alen σ out then some (0, [0], aput σ out 0 v) else none) := rfl
