/-! the two methods of String that the class calls, over the one constant: length and charAt -/
def tXs : List Int32 := [103, 111, 111, 100, 32, 102, 108, 111, 97, 116, 32, 119, 97, 110, 116, 115, 32, 108, 105, 107, 101, 32, 116, 111, 119, 110, 32, 103, 105, 118, 101, 115, 32, 118, 111, 116, 101, 115, 32, 98, 111, 117, 110, 100, 32, 97, 115, 107, 32, 103, 114, 111, 117, 110, 100, 32, 115, 116, 111, 114, 109, 32, 109, 101, 109, 98, 101, 114, 115, 32, 109, 97, 110, 121, 32, 99, 111, 115, 116, 32, 112, 97, 121, 115, 32, 111, 119, 110, 32]
def tB (ak av : Nat) (U : State) : Prop := va_O "java/lang/String" ak (fun _ => False) U U.heap ∧ va_OF "java/lang/String" "coder" "B" (.int 0) ak (fun _ => False) U U.heap ∧ va_OF "java/lang/String" "value" "[B" (.ref av) ak (fun _ => False) U U.heap ∧
  va_T .byte av 89 (fun j => .int (tXs.getD j 0)) (fun _ => False) U U.heap ∧ va_Z "java/lang/String" "COMPACT_STRINGS" "Z" (.int 1) (fun _ => False) U U.heap ∧ va_Zq "jdk/internal/util/Preconditions" "SIOOBE_FORMATTER" "Ljava/util/function/BiFunction;" (fun _ => False) U U.heap
theorem tB.moved {ak av : Nat} {s U : State} (h : tB ak av s) (hh : U.heap = s.heap) (hv : s.vm.Alike U.vm) : tB ak av U := by
  unfold tB
  rw [hh]
  exact ⟨va_O.moved hv h.1, va_OF.moved hv h.2.1, va_OF.moved hv h.2.2.1, va_T.moved hv h.2.2.2.1, va_Z.moved hv h.2.2.2.2.1, va_Zq.moved hv h.2.2.2.2.2⟩
def tPc (av : List Value) (ak vv : Nat) : Array Value → State → Prop := va_Pc av (fun U => tB ak vv U)
def tQc (r : Option Value) : Array Value → State → Outcome → State → Prop := fun _ st o t => o = .returned r ∧ t.heap = st.heap
def tWs (y : MethodName) (c : ByteArray) (n : Nat) (r : Option FieldType) : List Cond := Cond.code y c n r :: aTB
theorem tPc_blind {av : List Value} {ak vv : Nat} : FrameBlind (tPc av ak vv) := by
  rintro a U g mk ⟨h1, h2⟩
  exact ⟨h1, tB.moved (s := U) (U := U.calling g mk a) h2 rfl (Vm.Alike.refl U.vm)⟩
theorem tGood {y : MethodName} {c : ByteArray} {n : Nat} {r : Option FieldType} (h : Cond.code y c n r ∈ aTB) : GoodIn aTB (tWs y c n r) := by
  intro w hw
  rcases List.mem_cons.mp hw with rfl | hw
  · exact ⟨h, aTB_good h⟩
  · exact ⟨hw, aTB_good hw⟩
section TX
variable {p : Program} {l : Launch} {e : Env} {R : Room} {s : State} {m : MethodId} {args : Array Value} {below : List Frame} {meth : Method} {c : Code} {Q : State → Prop}
/-- behind a call of a method that only reads -/
theorem t_call {H : Heap} {cells slots pc : Nat} {ls : Array Slot} {st0 rest : List Value} {v : Option Value} (hr : va_Run p l e R s m args below meth c H [] cells slots 0 0 (F0 m pc ls st0) rest (fun st o t => tQc v #[] st o t) (fun _ => False))
    (kk : W p l e R s m args below meth c H [] cells slots Q (F0 m (pc + 3) ls (v.toList ++ rest))) : W p l e R s m args below meth c H [] cells slots Q (F0 m pc ls st0) := by
  intro T hT X
  obtain ⟨v', st₀, t, T', L, h0, X', hL, e1, e2, ⟨hv, hh⟩, st⟩ := hr T hT X
  cases hv
  have hL0 : L = [] := by
    cases L with
    | nil => rfl
    | cons q L => exact (hL q List.mem_cons_self).elim
  subst hL0
  obtain ⟨t2, a1, b1⟩ := kk T' (by rw [e1, hh, h0]) X'
  exact ⟨t2, st t2 a1, b1⟩
end TX
theorem t_by : ∀ i, i < 89 → narrow .char (.int (((tXs.getD i 0 &&& 255).toUInt32 % 65536).toInt32)) = .int (((tXs.getD i 0 &&& 255).toUInt32 % 65536).toInt32) ∧ ((tXs.getD i 0 &&& 255).toUInt32 % 65536).toInt32 = Int32.ofInt (wtext.getD i 0) ∧ -2147483648 ≤ wtext.getD i 0 ∧ wtext.getD i 0 < 2147483648 := by decide +kernel

theorem t_coder {l : Launch} {ak vv : Nat} : Met l yJ0_coder_7d493 (tWs yJ0_coder_7d493 cJ0_coder_7d493 1 (some .byte)) ({ frames := 0, cells := 0, slots := 0, locals := 0 }) (tPc ([.ref ak]) ak vv) (tQc (some (.int 0))) 0 0 (fun _ => False) := by
  refine Met.ofW (cc := cJ0_coder_7d493) (maxL := 1) (ret := (some .byte)) (by decide +kernel) rfl ?_
  intro p e s m args below meth c s₁ B hml hv
  obtain ⟨rfl, hB⟩ := hv
  have hx := B.exec
  have hb := B.bytes
  have hr := B.returns
  have hts0 := atoms_spec (ws := tWs yJ0_coder_7d493 cJ0_coder_7d493 1 (some .byte)) B.pre
  have hts : ∀ w ∈ aTB, w.before ([.ref ak] : List Value).toArray s = true := fun w hw => hts0 w (List.mem_cons_of_mem _ hw)
  have hown : s.vm.findClass "java/lang/String" = some m.cls := findClass_of_methodNamed B.named
  have hlocks := B.notSynchronized
  have hS : CallFix p m c cJ0_coder_7d493 1 s ([.ref ak] : List Value).toArray aTB "java/lang/String" := ⟨hx, hb, hml, hown, hts⟩
  have hl := lv_entry ([.ref ak]) (n := 1) (by first | decide | simp [lg_sl, Value.category])
  rw [lg_entry_eq]
  generalize (lg_sl ([.ref ak]) ++ List.replicate (1 - (lg_sl ([.ref ak])).length) Slot.unset).toArray = ls at hl ⊢
  refine va_gets hx hb hB.2.2.2.2.1 va_S.rf hown (hts _ tq_fl38) (fun _ h => h) td_J0coder_0 ?_
  refine lv_if_eq hx hb td_J0coder_3 (tgt := 13) rfl (fun h => absurd h (by decide)) (fun _ => ?_)
  refine lv_aload_n hx hb td_J0coder_6 rfl (hl.2.2 (0, .ref ak) (by simp [lv_args, Value.category])) ?_
  refine vk_getf hx hb hB.2.1 va_S.rf hown (hts _ tq_fl15) (fun _ h => h) td_J0coder_7 ?_
  refine lv_goto hx hb td_J0coder_10 (tgt := 14) rfl ?_
  exact W.zret hx hb hr rfl (fun t ht _ => ⟨rfl, ht⟩) (fun _ h => by cases h) td_J0coder_14
theorem t_isL {l : Launch} {ak vv : Nat} : Met l yJ0_isLatin1_aae02 (tWs yJ0_isLatin1_aae02 cJ0_isLatin1_aae02 1 (some .boolean)) ({ frames := 0, cells := 0, slots := 0, locals := 0 }) (tPc ([.ref ak]) ak vv) (tQc (some (.int 1))) 0 0 (fun _ => False) := by
  refine Met.ofW (cc := cJ0_isLatin1_aae02) (maxL := 1) (ret := (some .boolean)) (by decide +kernel) rfl ?_
  intro p e s m args below meth c s₁ B hml hv
  obtain ⟨rfl, hB⟩ := hv
  have hx := B.exec
  have hb := B.bytes
  have hr := B.returns
  have hts0 := atoms_spec (ws := tWs yJ0_isLatin1_aae02 cJ0_isLatin1_aae02 1 (some .boolean)) B.pre
  have hts : ∀ w ∈ aTB, w.before ([.ref ak] : List Value).toArray s = true := fun w hw => hts0 w (List.mem_cons_of_mem _ hw)
  have hown : s.vm.findClass "java/lang/String" = some m.cls := findClass_of_methodNamed B.named
  have hlocks := B.notSynchronized
  have hS : CallFix p m c cJ0_isLatin1_aae02 1 s ([.ref ak] : List Value).toArray aTB "java/lang/String" := ⟨hx, hb, hml, hown, hts⟩
  have hl := lv_entry ([.ref ak]) (n := 1) (by first | decide | simp [lg_sl, Value.category])
  rw [lg_entry_eq]
  generalize (lg_sl ([.ref ak]) ++ List.replicate (1 - (lg_sl ([.ref ak])).length) Slot.unset).toArray = ls at hl ⊢
  refine va_gets hx hb hB.2.2.2.2.1 va_S.rf hown (hts _ tq_fl38) (fun _ h => h) td_J0isLatin1_0 ?_
  refine lv_if_eq hx hb td_J0isLatin1_3 (tgt := 17) rfl (fun h => absurd h (by decide)) (fun _ => ?_)
  refine lv_aload_n hx hb td_J0isLatin1_6 rfl (hl.2.2 (0, .ref ak) (by simp [lv_args, Value.category])) ?_
  refine vk_getf hx hb hB.2.1 va_S.rf hown (hts _ tq_fl15) (fun _ h => h) td_J0isLatin1_7 ?_
  refine lv_if_ne hx hb td_J0isLatin1_10 (tgt := 17) rfl (fun h => absurd rfl h) (fun _ => ?_)
  refine lv_iconst hx hb td_J0isLatin1_13 (v := 1) rfl ?_
  refine lv_goto hx hb td_J0isLatin1_14 (tgt := 18) rfl ?_
  exact W.zret hx hb hr rfl (fun t ht _ => ⟨rfl, ht⟩) (fun _ h => by cases h) td_J0isLatin1_18
theorem t_sl3 {i n : Int32} {v : Value} (hv : v.category = 1) : (lg_sl [.int i, .int n, v]).length ≤ 3 := by
  have : ∀ v : Value, v.category = 1 → (if v.category = 2 then [Slot.val v, .second] else [Slot.val v]) = [.val v] := fun v h => if_neg (by omega)
  unfold lg_sl
  simp only [List.flatMap_cons, List.flatMap_nil, this v hv, this (.int i) rfl, this (.int n) rfl]
  exact Nat.le_refl 3

theorem t_pci {l : Launch} {ak vv : Nat} {i n : Int32} {v : Value} (hv1 : v.category = 1) (h0 : ¬ i < 0) (hn : i < n) : Met l yJ3_checkIndex_8e157 (tWs yJ3_checkIndex_8e157 cJ3_checkIndex_8e157 3 (some .int)) ({ frames := 0, cells := 0, slots := 0, locals := 0 }) (tPc ([.int i, .int n, v]) ak vv) (tQc (some (.int i))) 0 0 (fun _ => False) := by
  refine Met.ofW (cc := cJ3_checkIndex_8e157) (maxL := 3) (ret := (some .int)) (by decide +kernel) rfl ?_
  intro p e s m args below meth c s₁ B hml hv
  obtain ⟨rfl, hB⟩ := hv
  have hx := B.exec
  have hb := B.bytes
  have hr := B.returns
  have hts0 := atoms_spec (ws := tWs yJ3_checkIndex_8e157 cJ3_checkIndex_8e157 3 (some .int)) B.pre
  have hts : ∀ w ∈ aTB, w.before ([.int i, .int n, v] : List Value).toArray s = true := fun w hw => hts0 w (List.mem_cons_of_mem _ hw)
  have hown : s.vm.findClass "jdk/internal/util/Preconditions" = some m.cls := findClass_of_methodNamed B.named
  have hlocks := B.notSynchronized
  have hS : CallFix p m c cJ3_checkIndex_8e157 3 s ([.int i, .int n, v] : List Value).toArray aTB "jdk/internal/util/Preconditions" := ⟨hx, hb, hml, hown, hts⟩
  have hl := lv_entry ([.int i, .int n, v]) (n := 3) (t_sl3 hv1)
  rw [lg_entry_eq]
  generalize (lg_sl ([.int i, .int n, v]) ++ List.replicate (3 - (lg_sl ([.int i, .int n, v])).length) Slot.unset).toArray = ls at hl ⊢
  refine lv_iload_n hx hb td_J3checkIndex_0 rfl (hl.2.2 (0, .int i) (by simp [lv_args, Value.category])) ?_
  refine lv_if_lt hx hb td_J3checkIndex_1 (tgt := 9) rfl (fun h => absurd h h0) (fun _ => ?_)
  refine lv_iload_n hx hb td_J3checkIndex_4 rfl (hl.2.2 (0, .int i) (by simp [lv_args, Value.category])) ?_
  refine lv_iload_n hx hb td_J3checkIndex_5 rfl (hl.2.2 (1, .int n) (by simp [lv_args, Value.category])) ?_
  refine lv_icmp_lt hx hb td_J3checkIndex_6 (tgt := 16) rfl (fun _ => ?_) (fun h => absurd hn h)
  refine lv_iload_n hx hb td_J3checkIndex_16 rfl (hl.2.2 (0, .int i) (by simp [lv_args, Value.category])) ?_
  exact W.iret hx hb hr (fun t ht _ => ⟨rfl, ht⟩) (fun _ h => by cases h) td_J3checkIndex_17
theorem t_ci {l : Launch} {ak vv : Nat} {i n : Int32} (h0 : ¬ i < 0) (hn : i < n) : Met l yJ0_checkIndex_df160 (tWs yJ0_checkIndex_df160 cJ0_checkIndex_df160 2 none) ({ frames := 1, cells := 0, slots := 0, locals := 40 }) (tPc ([.int i, .int n]) ak vv) (tQc (none)) 0 0 (fun _ => False) := by
  refine Met.ofW (cc := cJ0_checkIndex_df160) (maxL := 2) (ret := none) (by decide +kernel) rfl ?_
  intro p e s m args below meth c s₁ B hml hv
  obtain ⟨rfl, hB⟩ := hv
  have hx := B.exec
  have hb := B.bytes
  have hr := B.returns
  have hts0 := atoms_spec (ws := tWs yJ0_checkIndex_df160 cJ0_checkIndex_df160 2 none) B.pre
  have hts : ∀ w ∈ aTB, w.before ([.int i, .int n] : List Value).toArray s = true := fun w hw => hts0 w (List.mem_cons_of_mem _ hw)
  have hown : s.vm.findClass "java/lang/String" = some m.cls := findClass_of_methodNamed B.named
  have hlocks := B.notSynchronized
  have hS : CallFix p m c cJ0_checkIndex_df160 2 s ([.int i, .int n] : List Value).toArray aTB "java/lang/String" := ⟨hx, hb, hml, hown, hts⟩
  have hl := lv_entry ([.int i, .int n]) (n := 2) (by first | decide | simp [lg_sl, Value.category])
  rw [lg_entry_eq]
  generalize (lg_sl ([.int i, .int n]) ++ List.replicate (2 - (lg_sl ([.int i, .int n])).length) Slot.unset).toArray = ls at hl ⊢
  have hgo : ∀ v : Value, v.category = 1 → W p l e (headSpec (tWs yJ0_checkIndex_df160 cJ0_checkIndex_df160 2 none) ({ frames := 1, cells := 0, slots := 0, locals := 40 })).room s m ([.int i, .int n] : List Value).toArray below meth c s.heap [] 0 0 (MQ below (tQc none) ([.int i, .int n] : List Value).toArray s 0 0 (fun _ => False)) (F0 m 5 ls [v, .int n, .int i]) := by
    intro v hv1
    refine t_call (va_runS hS (t_pci (ak := ak) (vv := vv) hv1 h0 hn) ⟨callB_of (ws' := aTB) 3 hts (tGood tq_code_pci) rfl rfl rfl (hts _ tq_iniP) (hts _ tq_ml1059) ⟨by decide +kernel, by decide +kernel, by decide +kernel⟩ ⟨by show _ ≤ _; decide, by show _ ≤ _; decide⟩, hts _ tq_st_pci⟩ (As := [.int i, .int n, v]) (rest := []) ⟨tPc_blind, fun U hU hW => ⟨rfl, hB.moved hU hW.alike⟩⟩ rfl rfl hl.1 rfl (lv_room (by decide)) td_J0checkIndex_5 ⟨Nat.le_refl _, Nat.le_refl _⟩) ?_
    refine lv_pop hx hb td_J0checkIndex_8 rfl ?_
    exact W.vret hx hb hr (fun t ht _ => ⟨rfl, ht⟩) (fun _ h => by cases h) td_J0checkIndex_9
  refine lv_iload_n hx hb td_J0checkIndex_0 rfl (hl.2.2 (0, .int i) (by simp [lv_args, Value.category])) ?_
  refine lv_iload_n hx hb td_J0checkIndex_1 rfl (hl.2.2 (1, .int n) (by simp [lv_args, Value.category])) ?_
  rcases hB.2.2.2.2.2 with hz | ⟨t, hz⟩
  · exact va_gets hx hb hz va_S.rf hown (hts _ tq_fl1053) (fun _ h => h) td_J0checkIndex_2 (hgo _ rfl)
  · exact va_gets hx hb hz va_S.rf hown (hts _ tq_fl1053) (fun _ h => h) td_J0checkIndex_2 (hgo _ rfl)
theorem t_in {i : Int32} (h0 : ¬ i < 0) (hn : i < 89) : vp_in i 89 ∧ i.toNatClampNeg < 89 := by
  have hh : (89 : Int32) = Int32.ofNat 89 := rfl
  have h : 0 ≤ i.toInt ∧ i.toInt < 89 := by
    rw [Int32.lt_iff_toInt_lt] at h0 hn
    have e1 : (0 : Int32).toInt = 0 := rfl
    have e2 : (89 : Int32).toInt = 89 := rfl
    rw [e1] at h0; rw [e2] at hn
    omega
  have : i.toNatClampNeg = i.toInt.toNat := rfl
  refine ⟨?_, by rw [this]; omega⟩
  unfold vp_in
  rintro (q | q)
  · exact h0 q
  · rw [this] at q; omega

theorem t_lat {l : Launch} {ak vv : Nat} {i : Int32} (h0 : ¬ i < 0) (hn : i < 89) : Met l yJ1_charAt_3b067 (tWs yJ1_charAt_3b067 cJ1_charAt_3b067 2 (some .char)) ({ frames := 2, cells := 0, slots := 0, locals := 80 }) (tPc ([.ref vv, .int i]) ak vv) (tQc (some (.int (((tXs.getD i.toNatClampNeg 0 &&& 255).toUInt32 % 65536).toInt32)))) 0 0 (fun _ => False) := by
  refine Met.ofW (cc := cJ1_charAt_3b067) (maxL := 2) (ret := (some .char)) (by decide +kernel) rfl ?_
  intro p e s m args below meth c s₁ B hml hv
  obtain ⟨rfl, hB⟩ := hv
  have hx := B.exec
  have hb := B.bytes
  have hr := B.returns
  have hts0 := atoms_spec (ws := tWs yJ1_charAt_3b067 cJ1_charAt_3b067 2 (some .char)) B.pre
  have hts : ∀ w ∈ aTB, w.before ([.ref vv, .int i] : List Value).toArray s = true := fun w hw => hts0 w (List.mem_cons_of_mem _ hw)
  have hown : s.vm.findClass "java/lang/StringLatin1" = some m.cls := findClass_of_methodNamed B.named
  have hlocks := B.notSynchronized
  have hS : CallFix p m c cJ1_charAt_3b067 2 s ([.ref vv, .int i] : List Value).toArray aTB "java/lang/StringLatin1" := ⟨hx, hb, hml, hown, hts⟩
  have hl := lv_entry ([.ref vv, .int i]) (n := 2) (by first | decide | simp [lg_sl, Value.category])
  rw [lg_entry_eq]
  generalize (lg_sl ([.ref vv, .int i]) ++ List.replicate (2 - (lg_sl ([.ref vv, .int i])).length) Slot.unset).toArray = ls at hl ⊢
  refine lv_iload_n hx hb td_J1charAt_0 rfl (hl.2.2 (1, .int i) (by simp [lv_args, Value.category])) ?_
  refine lv_aload_n hx hb td_J1charAt_1 rfl (hl.2.2 (0, .ref vv) (by simp [lv_args, Value.category])) ?_
  refine va_tlen hx hb hB.2.2.2.1 va_S.rf (v := 89) rfl td_J1charAt_2 ?_
  refine t_call (va_runS hS (t_ci (ak := ak) (vv := vv) h0 hn) ⟨callB_of (ws' := aTB) 2 hts (tGood tq_code_ci) rfl rfl rfl (hts _ tq_iniS) (hts _ tq_ml9) ⟨by decide +kernel, by decide +kernel, by decide +kernel⟩ ⟨by show _ ≤ _; decide, by show _ ≤ _; decide⟩, hts _ tq_st_ci⟩ (As := [.int i, .int 89]) (rest := []) ⟨tPc_blind, fun U hU hW => ⟨rfl, hB.moved hU hW.alike⟩⟩ rfl rfl hl.1 rfl (lv_room (by decide)) td_J1charAt_3 ⟨Nat.le_refl _, Nat.le_refl _⟩) ?_
  refine lv_aload_n hx hb td_J1charAt_6 rfl (hl.2.2 (0, .ref vv) (by simp [lv_args, Value.category])) ?_
  refine lv_iload_n hx hb td_J1charAt_7 rfl (hl.2.2 (1, .int i) (by simp [lv_args, Value.category])) ?_
  refine va_tb hx hb hB.2.2.2.1 va_S.rf (t_in h0 hn).1 (v := .int (tXs.getD i.toNatClampNeg 0)) rfl td_J1charAt_8 ?_
  refine lv_sipush hx hb td_J1charAt_9 (v := 255) rfl ?_
  refine lv_iand hx hb td_J1charAt_12 ?_
  refine lv_i2c hx hb td_J1charAt_13 rfl ?_
  exact W.zret hx hb hr (t_by _ (t_in h0 hn).2).1 (fun t ht _ => ⟨rfl, ht⟩) (fun _ h => by cases h) td_J1charAt_14
theorem good_jlength : aGoodj 174 := by
  have hj : F 174 = aU1 jlength := rfl
  constructor
  · intro xs σ vs σ' h
    rw [hj] at h
    unfold aU1 at h
    split at h
    · cases h; exact ⟨Nat.le_refl _, Nat.le_refl _⟩
    · cases h
  intro M hM
  obtain rfl : m_jlength = M := Option.some.inj (Eq.trans (Eq.symm rfl) hM)
  intro l d ad sz xs σ vs σ' hfl hG harg hF
  rw [hj] at hF
  unfold aU1 at hF
  split at hF
  case h_2 => cases hF
  rename_i x0
  cases hF
  obtain rfl : x0 = 0 := (harg.2 (5, x0) (by simp [aMp, m_jlength])).2.2.1 rfl
  simp only [Nat.sub_self]
  refine Met.ofW (cc := cJ0_length_8abf5) (maxL := 1) (ret := (some .int)) (by decide +kernel) rfl ?_
  intro p e s m args below meth c s₁ B hml hv
  obtain ⟨rfl, hsz, hP, hK, hD0, hstr, hNx⟩ := hv
  have hx := B.exec
  have hb := B.bytes
  have hr := B.returns
  have hts0 := atoms_spec (ws := aWords m_jlength) B.pre
  have hts : ∀ w ∈ aTB, w.before (aArgv d.2.2.2.2 ad (aMp m_jlength) [0]).toArray s = true := fun w hw => hts0 w (List.mem_cons_of_mem _ hw)
  have hown : s.vm.findClass "java/lang/String" = some m.cls := findClass_of_methodNamed B.named
  have hlocks := B.notSynchronized
  have hS : CallFix p m c cJ0_length_8abf5 1 s (aArgv d.2.2.2.2 ad (aMp m_jlength) [0]).toArray aTB "java/lang/String" := ⟨hx, hb, hml, hown, hts⟩
  subst hsz
  obtain ⟨tx, len, byt, adV, -, hvs, hz1, hz2, rfl, rfl⟩ := hstr
  obtain ⟨k1, k2, k3, k4⟩ := hvs.1 0 (by decide)
  have hB : tB (d.2.2.2.2 0) (adV 0) s := ⟨va_O.narrow k1 (fun _ h => h.elim), va_OF.narrow k2 (fun _ h => h.elim), va_OF.narrow k3 (fun _ h => h.elim), va_T.narrow k4 (fun _ h => h.elim), va_Z.narrow hz1 (fun _ h => h.elim), va_Zq.narrow hz2 (fun _ h => h.elim)⟩
  have hcell : ∃ cell : Cell, s.heap[d.2.2.2.2 0]? = some cell ∧ cell.vm.isStatics = false ∧ s.vm.findClass "java/lang/String" = some cell.cls := by
    obtain ⟨cell, h1, h2, h3, -⟩ := k1
    exact ⟨cell, h1, h2, h3⟩
  have hD := hD0.self (sz := s.heap.size)
  have hl := lv_entry (aArgv d.2.2.2.2 ad (aMp m_jlength) [0]) (n := 1) (by first | decide | simp [lg_sl, Value.category, aArgv, aMp, m_jlength, aconc])
  rw [lg_entry_eq]
  generalize (lg_sl (aArgv d.2.2.2.2 ad (aMp m_jlength) [0]) ++ List.replicate (1 - (lg_sl (aArgv d.2.2.2.2 ad (aMp m_jlength) [0])).length) Slot.unset).toArray = ls at hl ⊢
  have hend : ∀ (t : State) (v : Option Value) (kg : Prop), kg → t.heap = s.heap → aPost d ad σ σ kg v s.heap.size s (.returned v) t := by
    intro t v kg hkg ht
    exact ⟨⟨⟨hG, aExt.rf _, Nat.le_refl _, Nat.le_refl _⟩, hkg⟩, ⟨ad, fun _ _ => rfl, rfl, by rw [ht]; exact hP, hD⟩, va_S.rf.F ht⟩
  refine lv_aload_n hx hb td_J0length_0 rfl (hl.2.2 (0, .ref (d.2.2.2.2 0)) (by simp [lv_args, aArgv, aMp, m_jlength, aconc])) ?_
  refine vk_getf hx hb hB.2.2.1 va_S.rf hown (hts _ tq_fl9) (fun _ h => h) td_J0length_1 ?_
  refine va_tlen hx hb hB.2.2.2.1 va_S.rf (v := 89) rfl td_J0length_4 ?_
  refine lv_aload_n hx hb td_J0length_5 rfl (hl.2.2 (0, .ref (d.2.2.2.2 0)) (by simp [lv_args, aArgv, aMp, m_jlength, aconc])) ?_
  refine t_call (va_runV hS (t_coder (ak := d.2.2.2.2 0) (vv := adV 0)) ⟨callB_of (ws' := aTB) 0 hts (tGood tq_code_coder) rfl rfl rfl (hts _ tq_iniS) (hts _ tq_ml335) ⟨by decide +kernel, by decide +kernel, by decide +kernel⟩ ⟨by show 1 ≤ 3; decide, by show _ ≤ 120; decide⟩, hts _ tq_in_coder, hts _ tq_sel_coder⟩ (As := []) (rest := [.int 89]) ⟨tPc_blind, hcell, fun U hU hW => ⟨rfl, hB.moved hU hW.alike⟩⟩ rfl rfl hl.1 rfl (lv_room (by simp [Value.category])) td_J0length_6 ⟨by show 0 + 0 ≤ _; omega, by show 0 + 0 ≤ _; omega⟩) ?_
  refine lv_ishr hx hb td_J0length_9 ?_
  exact W.iret hx hb hr (fun t ht _ => hend t _ _ (by show ar32 89; unfold ar32; omega) ht) (fun _ h => by cases h) td_J0length_10

theorem t_i32 {x : Int} (h : 0 ≤ x ∧ x < 89) : (¬ Int32.ofInt x < 0 ∧ Int32.ofInt x < 89) ∧ (Int32.ofInt x).toNatClampNeg = x.toNat := by
  have e : (Int32.ofInt x).toInt = x := Int32.toInt_ofInt_of_le (by omega) (by omega)
  have e1 : (0 : Int32).toInt = 0 := rfl
  have e2 : (89 : Int32).toInt = 89 := rfl
  refine ⟨⟨?_, ?_⟩, ?_⟩
  · rw [Int32.lt_iff_toInt_lt, e, e1]; omega
  · rw [Int32.lt_iff_toInt_lt, e, e2]; omega
  · show (Int32.ofInt x).toInt.toNat = _
    rw [e]
theorem good_jcharAt : aGoodj 175 := by
  have hj : F 175 = aU2 jcharAt := rfl
  constructor
  · intro xs σ vs σ' h
    rw [hj] at h
    unfold aU2 at h
    split at h
    · unfold jcharAt at h
      split at h
      · cases h; exact ⟨Nat.le_refl _, Nat.le_refl _⟩
      · cases h
    · cases h
  intro M hM
  obtain rfl : m_jcharAt = M := Option.some.inj (Eq.trans (Eq.symm rfl) hM)
  intro l d ad sz xs σ vs σ' hfl hG harg hF
  rw [hj] at hF
  unfold aU2 at hF
  split at hF
  case h_2 => cases hF
  rename_i x0 x1
  unfold jcharAt at hF
  split at hF
  case isFalse => cases hF
  rename_i h01
  cases hF
  obtain ⟨hh, hn⟩ := t_i32 h01
  obtain rfl : x0 = 0 := (harg.2 (5, x0) (by simp [aMp, m_jcharAt])).2.2.1 rfl
  simp only [Nat.sub_self]
  refine Met.ofW (cc := cJ0_charAt_5068e) (maxL := 2) (ret := (some .char)) (by decide +kernel) rfl ?_
  intro p e s m args below meth c s₁ B hml hv
  obtain ⟨rfl, hsz, hP, hK, hD0, hstr, hNx⟩ := hv
  have hx := B.exec
  have hb := B.bytes
  have hr := B.returns
  have hts0 := atoms_spec (ws := aWords m_jcharAt) B.pre
  have hts : ∀ w ∈ aTB, w.before (aArgv d.2.2.2.2 ad (aMp m_jcharAt) [0, x1]).toArray s = true := fun w hw => hts0 w (List.mem_cons_of_mem _ hw)
  have hown : s.vm.findClass "java/lang/String" = some m.cls := findClass_of_methodNamed B.named
  have hlocks := B.notSynchronized
  have hS : CallFix p m c cJ0_charAt_5068e 2 s (aArgv d.2.2.2.2 ad (aMp m_jcharAt) [0, x1]).toArray aTB "java/lang/String" := ⟨hx, hb, hml, hown, hts⟩
  subst hsz
  obtain ⟨tx, len, byt, adV, -, hvs, hz1, hz2, rfl, rfl⟩ := hstr
  obtain ⟨k1, k2, k3, k4⟩ := hvs.1 0 (by decide)
  have hB : tB (d.2.2.2.2 0) (adV 0) s := ⟨va_O.narrow k1 (fun _ h => h.elim), va_OF.narrow k2 (fun _ h => h.elim), va_OF.narrow k3 (fun _ h => h.elim), va_T.narrow k4 (fun _ h => h.elim), va_Z.narrow hz1 (fun _ h => h.elim), va_Zq.narrow hz2 (fun _ h => h.elim)⟩
  have hcell : ∃ cell : Cell, s.heap[d.2.2.2.2 0]? = some cell ∧ cell.vm.isStatics = false ∧ s.vm.findClass "java/lang/String" = some cell.cls := by
    obtain ⟨cell, h1, h2, h3, -⟩ := k1
    exact ⟨cell, h1, h2, h3⟩
  have hD := hD0.self (sz := s.heap.size)
  have hl := lv_entry (aArgv d.2.2.2.2 ad (aMp m_jcharAt) [0, x1]) (n := 2) (by first | decide | simp [lg_sl, Value.category, aArgv, aMp, m_jcharAt, aconc])
  rw [lg_entry_eq]
  generalize (lg_sl (aArgv d.2.2.2.2 ad (aMp m_jcharAt) [0, x1]) ++ List.replicate (2 - (lg_sl (aArgv d.2.2.2.2 ad (aMp m_jcharAt) [0, x1])).length) Slot.unset).toArray = ls at hl ⊢
  have hend : ∀ (t : State) (v : Option Value) (kg : Prop), kg → t.heap = s.heap → aPost d ad σ σ kg v s.heap.size s (.returned v) t := by
    intro t v kg hkg ht
    exact ⟨⟨⟨hG, aExt.rf _, Nat.le_refl _, Nat.le_refl _⟩, hkg⟩, ⟨ad, fun _ _ => rfl, rfl, by rw [ht]; exact hP, hD⟩, va_S.rf.F ht⟩
  refine lv_aload_n hx hb td_J0charAt_0 rfl (hl.2.2 (0, .ref (d.2.2.2.2 0)) (by simp [lv_args, aArgv, aMp, m_jcharAt, aconc])) ?_
  refine t_call (va_runV hS (t_isL (ak := d.2.2.2.2 0) (vv := adV 0)) ⟨callB_of (ws' := aTB) 0 hts (tGood tq_code_isL) rfl rfl rfl (hts _ tq_iniS) (hts _ tq_ml492) ⟨by decide +kernel, by decide +kernel, by decide +kernel⟩ ⟨by show 1 ≤ 6; decide, by show _ ≤ 300; decide⟩, hts _ tq_in_isL, hts _ tq_sel_isL⟩ (As := []) (rest := []) ⟨tPc_blind, hcell, fun U hU hW => ⟨rfl, hB.moved hU hW.alike⟩⟩ rfl rfl hl.1 rfl (lv_room (by simp [Value.category])) td_J0charAt_1 ⟨by show 0 + 0 ≤ _; omega, by show 0 + 0 ≤ _; omega⟩) ?_
  refine lv_if_eq hx hb td_J0charAt_4 (tgt := 16) rfl (fun h => absurd h (by decide)) (fun _ => ?_)
  refine lv_aload_n hx hb td_J0charAt_7 rfl (hl.2.2 (0, .ref (d.2.2.2.2 0)) (by simp [lv_args, aArgv, aMp, m_jcharAt, aconc])) ?_
  refine vk_getf hx hb hB.2.2.1 va_S.rf hown (hts _ tq_fl9) (fun _ h => h) td_J0charAt_8 ?_
  refine lv_iload_n hx hb td_J0charAt_11 rfl (hl.2.2 (1, .int (Int32.ofInt x1)) (by simp [lv_args, aArgv, aMp, m_jcharAt, aconc, Value.category])) ?_
  refine t_call (va_runS hS (t_lat (ak := d.2.2.2.2 0) (vv := adV 0) hh.1 hh.2) ⟨callB_of (ws' := aTB) 2 hts (tGood tq_code_lat) rfl rfl rfl (hts _ tq_iniL) (hts _ tq_ml495) ⟨by decide +kernel, by decide +kernel, by decide +kernel⟩ ⟨by show 3 ≤ 6; decide, by show _ ≤ 300; decide⟩, hts _ tq_st_lat⟩ (As := [.ref (adV 0), .int (Int32.ofInt x1)]) (rest := []) ⟨tPc_blind, fun U hU hW => ⟨rfl, hB.moved hU hW.alike⟩⟩ rfl rfl hl.1 rfl (lv_room (by decide)) td_J0charAt_12 ⟨by show 0 + 0 ≤ _; omega, by show 0 + 0 ≤ _; omega⟩) ?_
  have ht9 := t_by x1.toNat (by omega)
  rw [hn]
  have hend2 := fun (t : State) (ht : t.heap = s.heap) => hend t (some (.int (Int32.ofInt (wtext.getD x1.toNat 0)))) (aRg (some .char) [wtext.getD x1.toNat 0]) (by show ar32 _; exact ht9.2.2) ht
  rw [← ht9.2.1] at hend2
  exact W.zret hx hb hr ht9.1 (fun t ht _ => by show aPost d ad σ σ _ (some (.int (Int32.ofInt (wtext.getD x1.toNat 0)))) _ _ _ _; rw [← ht9.2.1]; exact hend2 t ht) (fun _ h => by cases h) td_J0charAt_15
--(fun t ht _ => hend t _ _ (by show ar32 _; exact ht9.2.2) ht) (fun _ h => by cases h) td_J0charAt_15

