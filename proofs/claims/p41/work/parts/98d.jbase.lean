/-! the JDK's string building: what a state holds, calls, ends -/
def jC (A : Nat → Prop) (U : State) (H : Heap) : Prop :=
  va_Z "java/lang/String" "COMPACT_STRINGS" "Z" (.int 1) A U H ∧ va_Zq "jdk/internal/util/Preconditions" "SIOOBE_FORMATTER" "Ljava/util/function/BiFunction;" A U H ∧
  ∃ t1 t2, va_Z "java/lang/Integer" "DigitOnes" "[B" (.ref t1) A U H ∧ va_T .byte t1 100 (fun j => .int (nI (48 + j % 10))) A U H ∧ va_Z "java/lang/Integer" "DigitTens" "[B" (.ref t2) A U H ∧ va_T .byte t2 100 (fun j => .int (nI (48 + j / 10))) A U H ∧ va_Nw (.castable "[B" "java/lang/Cloneable") U
theorem jC.to {A B : Nat → Prop} {s U : State} {H H1 : Heap} (h : jC A s H) (hv : s.vm.Alike U.vm) (hq : ∀ a : Nat, a < H.size → ¬ A a → H1[a]? = H[a]?) (hAB : ∀ q, B q → A q) : jC B U H1 := by
  obtain ⟨h1, h2, t1, t2, h3, h4, h5, h6, h7⟩ := h
  exact ⟨((h1.kept hq).narrow hAB).moved hv, ((h2.kept hq).narrow hAB).moved hv, t1, t2, ((h3.kept hq).narrow hAB).moved hv, ((h4.kept hq).narrow hAB).moved hv, ((h5.kept hq).narrow hAB).moved hv, ((h6.kept hq).narrow hAB).moved hv, va_tabs rfl (rfl : (s.setVm U.vm).vm = U.vm) (by rw [Cond.castable_setVm hv]; exact h7)⟩
/-- a String that nobody writes: its address, its bytes' address, their number, the bytes -/
def rdS (q av L : Nat) (f : Nat → Int32) (A : Nat → Prop) (U : State) (H : Heap) : Prop := va_O "java/lang/String" q A U H ∧ va_OF "java/lang/String" "coder" "B" (.int 0) q A U H ∧ va_OF "java/lang/String" "value" "[B" (.ref av) q A U H ∧ va_T .byte av L (fun j => .int (f j)) A U H
abbrev jX : Type := (Nat → Prop) → State → Heap → Prop
def jst (X : jX) : Prop := ∀ {A B : Nat → Prop} {s U : State} {H H1 : Heap}, X A s H → s.vm.Alike U.vm → (∀ a : Nat, a < H.size → ¬ A a → H1[a]? = H[a]?) → (∀ q, B q → A q) → X B U H1
def jT : jX := fun _ _ _ => True
theorem jst_T : jst jT := fun _ _ _ _ => trivial
theorem jst_S {q av L : Nat} {f : Nat → Int32} : jst (rdS q av L f) := by
  intro A B s U H H1 h hv hq hAB
  obtain ⟨h1, h2, h3, h4⟩ := h
  exact ⟨((h1.kept hq).narrow hAB).moved hv, ((h2.kept hq).narrow hAB).moved hv, ((h3.kept hq).narrow hAB).moved hv, ((h4.kept hq).narrow hAB).moved hv⟩
def jP (D : va_G) (cB : ClassId) (ws : va_W) (sz : Nat) (X : jX) : State → Prop := fun U => U.heap.size = sz ∧ va_P D vwCl ws U.heap ∧ va_K D vwCl [(cB, .byte)] U ∧ va_D (fun _ => True) ws ∧ jC (va_A ws sz) U U.heap ∧ X (va_A ws sz) U U.heap
def jQ (D : va_G) (ws : va_W) (sz : Nat) (Rr : Option Value → va_W → Prop) : Array Value → State → Outcome → State → Prop := fun _ st o t => (∃ v w1, o = .returned v ∧ Rr v w1 ∧ va_P D vwCl w1 t.heap ∧ va_D (va_A ws sz) w1) ∧ va_F (va_A ws sz) st t
/-- private members of the class above: a StringBuilder's too -/
def jPv : List MethodName := [yJ5_newCapacity_0f7a4, yJ5_ensureCapacityInternal_d00df, yJ5_inflateIfNeededFor_a7421, yJ5_putStringAt_47b60]
def jTB : List Cond := jPv.map (fun y => Cond.selects "java/lang/StringBuilder" y y) ++ aTB
theorem jin {w : Cond} (h : w ∈ aTB) : w ∈ jTB := List.mem_append_right _ h
theorem jsel {y : MethodName} (h : y ∈ jPv) : Cond.selects "java/lang/StringBuilder" y y ∈ jTB := List.mem_append_left _ (List.mem_map.mpr ⟨y, h, rfl⟩)
theorem jTB_good {w : Cond} (h : w ∈ jTB) : (w.onTables && w.keeps) = true ∨ ∃ ty, w = .arrayClass ty := by
  rcases List.mem_append.mp h with h | h
  · obtain ⟨y, -, rfl⟩ := List.mem_map.mp h
    exact Or.inl rfl
  · exact aTB_good h
def jWs (y : MethodName) (c : ByteArray) (n : Nat) (r : Option FieldType) : List Cond := Cond.code y c n r :: jTB
theorem jGood {y : MethodName} {c : ByteArray} {n : Nat} {r : Option FieldType} (h : Cond.code y c n r ∈ aTB) : GoodIn jTB (jWs y c n r) := by
  intro w hw
  rcases List.mem_cons.mp hw with rfl | hw
  · exact ⟨jin h, aTB_good h⟩
  · exact ⟨hw, jTB_good hw⟩
theorem jBlind {av : List Value} {D : va_G} {cB : ClassId} {ws : va_W} {sz : Nat} {X : jX} (hX : jst X) : FrameBlind (va_Pc av (jP D cB ws sz X)) := by
  rintro a U g mk ⟨h1, h2, h3, h4, h5, h6, h7⟩
  exact ⟨h1, h2, h3, va_K.moved (u := U) (U := U.calling g mk a) (Vm.Alike.refl U.vm) h4, h5, jC.to (s := U) (U := U.calling g mk a) h6 (Vm.Alike.refl U.vm) (fun _ _ _ => rfl) (fun _ h => h), hX (s := U) (U := U.calling g mk a) h7 (Vm.Alike.refl U.vm) (fun _ _ _ => rfl) (fun _ h => h)⟩
abbrev jMet (l : Launch) (y : MethodName) (cc : ByteArray) (n : Nat) (r : Option FieldType) (fr mc ms lo : Nat) (av : List Value) (D : va_G) (cB : ClassId) (ws : va_W) (sz : Nat) (X : jX) (Rr : Option Value → va_W → Prop) : Prop :=
  Met l y (jWs y cc n r) ({ frames := fr, cells := mc, slots := ms, locals := lo }) (va_Pc av (jP D cB ws sz X)) (jQ D ws sz Rr) mc ms (va_A ws sz)
/-- what a method reads of a String alone: nothing changes -/
def jR (cx : Prop) (v : Option Value) : Array Value → State → Outcome → State → Prop := fun _ st o t => o = .returned v ∧ t.heap = st.heap
def jPr (X : jX) : State → Prop := fun U => jC (fun _ => False) U U.heap ∧ X (fun _ => False) U U.heap
theorem jBlindR {av : List Value} {X : jX} (hX : jst X) : FrameBlind (va_Pc av (jPr X)) := by
  rintro a U g mk ⟨h1, h6, h7⟩
  exact ⟨h1, jC.to (s := U) (U := U.calling g mk a) h6 (Vm.Alike.refl U.vm) (fun _ _ _ => rfl) (fun _ h => h), hX (s := U) (U := U.calling g mk a) h7 (Vm.Alike.refl U.vm) (fun _ _ _ => rfl) (fun _ h => h)⟩
abbrev jMetR (l : Launch) (y : MethodName) (cc : ByteArray) (n : Nat) (r : Option FieldType) (fr lo : Nat) (av : List Value) (X : jX) (v : Option Value) : Prop :=
  Met l y (jWs y cc n r) ({ frames := fr, cells := 0, slots := 0, locals := lo }) (va_Pc av (jPr X)) (jR True v) 0 0 (fun _ => False)
theorem j_of {l : Launch} {y : MethodName} {cc : ByteArray} {n : Nat} {r : Option FieldType} {fr mc ms lo : Nat} {av : List Value} {D : va_G} {cB : ClassId} {ws : va_W} {sz : Nat} {X : jX} {Rr : Option Value → va_W → Prop} (hy : plainFor y = true) (hav : (lg_sl av).length ≤ n)
    (body : ∀ (p : Program) (e : Env) (s : State) (m : MethodId) (below : List Frame) (meth : Method) (c : Code) (ls : Array Slot), CallFix p m c cc n s av.toArray jTB y.cls → meth.sig.returnType = r → meth.locks = false → meth.name = y.name → s.heap.size = sz → va_P D vwCl ws s.heap → va_K D vwCl [(cB, .byte)] s → va_D (va_A ws sz) ws → jC (va_A ws sz) s s.heap → X (va_A ws sz) s s.heap → lv_has ls n (lv_args 0 av) →
      W p l e { frames := fr, cells := mc, slots := ms, locals := lo } s m av.toArray below meth c s.heap [] 0 0 (MQ below (jQ D ws sz Rr) av.toArray s mc ms (va_A ws sz)) (F0 m 0 ls [])) : jMet l y cc n r fr mc ms lo av D cB ws sz X Rr := by
  refine a_MetW (cc := cc) (maxL := n) (ret := r) hy rfl ?_
  intro p e s m args below meth c s₁ B hml hv
  obtain ⟨rfl, hsz, hP, hK, hD, hC, hX⟩ := hv
  have hts0 := atoms_spec (ws := jWs y cc n r) B.pre
  have hts : ∀ w ∈ jTB, w.before av.toArray s = true := fun w hw => hts0 w (List.mem_cons_of_mem _ hw)
  have hown : s.vm.findClass y.cls = some m.cls := findClass_of_methodNamed B.named
  have hl := lv_entry av (n := n) hav
  rw [lg_entry_eq]
  generalize (lg_sl av ++ List.replicate (n - (lg_sl av).length) Slot.unset).toArray = ls at hl ⊢
  exact body p e s m below meth c ls ⟨B.exec, B.bytes, hml, hown, hts⟩ B.returns B.notSynchronized (name_of_methodNamed B.named B.method).1 hsz hP hK hD.self hC hX hl
theorem j_ofR {l : Launch} {y : MethodName} {cc : ByteArray} {n : Nat} {r : Option FieldType} {fr lo : Nat} {av : List Value} {X : jX} {v : Option Value} (hy : plainFor y = true) (hav : (lg_sl av).length ≤ n)
    (body : ∀ (p : Program) (e : Env) (s : State) (m : MethodId) (below : List Frame) (meth : Method) (c : Code) (ls : Array Slot), CallFix p m c cc n s av.toArray jTB y.cls → meth.sig.returnType = r → meth.locks = false → jC (fun _ => False) s s.heap → X (fun _ => False) s s.heap → lv_has ls n (lv_args 0 av) →
      W p l e { frames := fr, cells := 0, slots := 0, locals := lo } s m av.toArray below meth c s.heap [] 0 0 (MQ below (jR True v) av.toArray s 0 0 (fun _ => False)) (F0 m 0 ls [])) : jMetR l y cc n r fr lo av X v := by
  refine a_MetW (cc := cc) (maxL := n) (ret := r) hy rfl ?_
  intro p e s m args below meth c s₁ B hml hv
  obtain ⟨rfl, hC, hX⟩ := hv
  have hts0 := atoms_spec (ws := jWs y cc n r) B.pre
  have hts : ∀ w ∈ jTB, w.before av.toArray s = true := fun w hw => hts0 w (List.mem_cons_of_mem _ hw)
  have hown : s.vm.findClass y.cls = some m.cls := findClass_of_methodNamed B.named
  have hl := lv_entry av (n := n) hav
  rw [lg_entry_eq]
  generalize (lg_sl av ++ List.replicate (n - (lg_sl av).length) Slot.unset).toArray = ls at hl ⊢
  exact body p e s m below meth c ls ⟨B.exec, B.bytes, hml, hown, hts⟩ B.returns B.notSynchronized hC hX hl
theorem va_A_sub {A : Nat → Prop} {ws : va_W} {n0 n1 : Nat} (hD : va_D A ws) (hA : ∀ q, n0 ≤ q → A q) (h : n0 ≤ n1) : ∀ q, va_A ws n1 q → A q := by
  rintro q (⟨k, e, hk⟩ | h1)
  · exact hD.2 k (q, e) hk
  · exact hA q (Nat.le_trans h h1)
section JB
variable {p : Program} {l : Launch} {e : Env} {R : Room} {s : State} {m : MethodId} {args : Array Value} {below : List Frame} {meth : Method} {c : Code} {Q : State → Prop} {H : Heap} {locs : List Loc} {cells slots pc : Nat} {ls : Array Slot} {rest st0 : List Value}
variable {D : va_G} {cB : ClassId} {ws ws1 w1 : va_W} {sz mc ms : Nat} {X : jX} {Rr R1 : Option Value → va_W → Prop} {A : Nat → Prop} {cc : ByteArray} {n : Nat} {own : String}
theorem w_top {x y : Int32} (h : x = y) (k : W p l e R s m args below meth c H locs cells slots Q (F0 m pc ls (.int y :: rest))) : W p l e R s m args below meth c H locs cells slots Q (F0 m pc ls (.int x :: rest)) := by subst h; exact k
theorem jP.pre (hP : va_P D vwCl ws1 H) (hK : va_K D vwCl [(cB, .byte)] s) (hD : va_D A ws1) (hC : jC A s s.heap) (hX : X A s s.heap) (hst : jst X) (hS : va_S A s.heap H locs) (hA : ∀ q, s.heap.size ≤ q → A q) : ∀ U : State, U.heap = H → s.WarmedH U.vm → jP D cB ws1 H.size X U := by
  intro U hU hW
  have hsub := va_A_sub hD hA hS.1
  exact ⟨by rw [hU], by rw [hU]; exact hP, va_K.moved hW.alike hK, hD.weaken (fun _ _ _ _ => trivial), by rw [hU]; exact hC.to hW.alike hS.2.1 hsub, by rw [hU]; exact hst hX hW.alike hS.2.1 hsub⟩
theorem jPr.pre (hC : jC A s s.heap) (hX : X A s s.heap) (hst : jst X) (hS : va_S A s.heap H locs) : ∀ U : State, U.heap = H → s.WarmedH U.vm → jPr X U := by
  intro U hU hW
  exact ⟨by rw [hU]; exact hC.to hW.alike hS.2.1 (fun _ h => h.elim), by rw [hU]; exact hst hX hW.alike hS.2.1 (fun _ h => h.elim)⟩
theorem j_call {a : Array Value} (hr : va_Run p l e R s m args below meth c H locs cells slots mc ms (F0 m pc ls st0) rest (jQ D ws1 H.size R1 a) (va_A ws1 H.size)) (hD : va_D A ws1) (hS : va_S A s.heap H locs) (hA : ∀ q, s.heap.size ≤ q → A q)
    (kk : ∀ (v : Option Value) (w1 : va_W) (H1 : Heap) (locs1 : List Loc), R1 v w1 → va_P D vwCl w1 H1 → va_D A w1 → va_S A s.heap H1 locs1 → H.size ≤ H1.size → (∀ q : Nat, q < H.size → ¬ va_A ws1 H.size q → H1[q]? = H[q]?) → W p l e R s m args below meth c H1 locs1 (cells + mc) (slots + ms) Q (F0 m (pc + 3) ls (v.toList ++ rest))) : W p l e R s m args below meth c H locs cells slots Q (F0 m pc ls st0) := by
  have hsub := va_A_sub hD hA hS.1
  intro T hT X
  obtain ⟨v', st₀, t, T', L, h0, X', hL, e1, e2, ⟨⟨v, w1, hv, hR, hP1, hD1⟩, hz, hk⟩, st⟩ := hr T hT X
  cases hv
  rw [h0] at hz hk
  have hS1 : va_S A s.heap T'.heap (locs ++ L) := ⟨Nat.le_trans hS.1 (by rw [e1]; exact hz), fun q h1 h2 => by rw [e1, hk q (Nat.lt_of_lt_of_le h1 hS.1) (fun z => h2 (hsub q z))]; exact hS.2.1 q h1 h2, fun q hq => by
      rcases List.mem_append.mp hq with h | h
      · exact hS.2.2 q h
      · exact hsub _ (hL q h)⟩
  obtain ⟨t2, a1, b1⟩ := kk v' w1 T'.heap (locs ++ L) hR (by rw [e1]; exact hP1) (hD1.weaken (fun _ _ _ h => hsub _ h)) hS1 (by rw [e1]; exact hz) (fun q h1 h2 => by rw [e1]; exact hk q h1 h2) T' rfl X'
  exact ⟨t2, st t2 a1, b1⟩
theorem j_callR {a : Array Value} {v : Option Value} (hr : va_Run p l e R s m args below meth c H locs cells slots 0 0 (F0 m pc ls st0) rest (jR True v a) (fun _ => False))
    (kk : W p l e R s m args below meth c H locs cells slots Q (F0 m (pc + 3) ls (v.toList ++ rest))) : W p l e R s m args below meth c H locs cells slots Q (F0 m pc ls st0) := by
  intro T hT X
  obtain ⟨v', st₀, t, T', L, h0, X', hL, e1, e2, ⟨hv, hh⟩, st⟩ := hr T hT X
  cases hv
  have hL0 : L = [] := by
    cases L with
    | nil => rfl
    | cons q L => exact (hL q List.mem_cons_self).elim
  subst hL0
  rw [List.append_nil] at X'
  obtain ⟨t2, a1, b1⟩ := kk T' (by rw [e1, hh, h0]) X'
  exact ⟨t2, st t2 a1, b1⟩
theorem j_iret {v : Int32} (S : CallFix p m c cc n s args jTB own) (hr : meth.sig.returnType = some .int) (hlk : meth.locks = false) (hR : Rr (some (.int v)) w1) (hP1 : va_P D vwCl w1 H) (hD1 : va_D (va_A ws sz) w1) (hS1 : va_S (va_A ws sz) s.heap H locs) (hc : cells ≤ mc) (hs : slots ≤ ms) (hdg : decode cc pc = .ok (.ireturn, 1)) :
    W p l e R s m args below meth c H locs cells slots (MQ below (jQ D ws sz Rr) args s mc ms (va_A ws sz)) (F0 m pc ls [.int v]) :=
  W.widen hc hs (W.iret S.1 S.2.1 hr (fun t ht _ => ⟨⟨_, w1, rfl, hR, by rw [ht]; exact hP1, hD1⟩, hS1.F ht⟩) hS1.2.2 hdg hlk)
theorem j_zret {v : Int32} {ty : FieldType} (S : CallFix p m c cc n s args jTB own) (hr : meth.sig.returnType = some ty) (hn : narrow ty (.int v) = .int v) (hlk : meth.locks = false) (hR : Rr (some (.int v)) w1) (hP1 : va_P D vwCl w1 H) (hD1 : va_D (va_A ws sz) w1) (hS1 : va_S (va_A ws sz) s.heap H locs) (hc : cells ≤ mc) (hs : slots ≤ ms) (hdg : decode cc pc = .ok (.ireturn, 1)) :
    W p l e R s m args below meth c H locs cells slots (MQ below (jQ D ws sz Rr) args s mc ms (va_A ws sz)) (F0 m pc ls [.int v]) :=
  W.widen hc hs (W.zret S.1 S.2.1 hr hn (fun t ht _ => ⟨⟨_, w1, rfl, hR, by rw [ht]; exact hP1, hD1⟩, hS1.F ht⟩) hS1.2.2 hdg hlk)
theorem j_vret (S : CallFix p m c cc n s args jTB own) (hr : meth.sig.returnType = none) (hlk : meth.locks = false) (hR : Rr none w1) (hP1 : va_P D vwCl w1 H) (hD1 : va_D (va_A ws sz) w1) (hS1 : va_S (va_A ws sz) s.heap H locs) (hc : cells ≤ mc) (hs : slots ≤ ms) (hdg : decode cc pc = .ok (.return_, 1)) :
    W p l e R s m args below meth c H locs cells slots (MQ below (jQ D ws sz Rr) args s mc ms (va_A ws sz)) (F0 m pc ls []) :=
  W.widen hc hs (W.vret S.1 S.2.1 hr (fun t ht _ => ⟨⟨_, w1, rfl, hR, by rw [ht]; exact hP1, hD1⟩, hS1.F ht⟩) hS1.2.2 hdg hlk)
theorem j_aret {x : Nat} {rt : FieldType} (S : CallFix p m c cc n s args jTB own) (hr : meth.sig.returnType = some rt) (hrt : (∃ n, rt = .object n) ∨ ∃ t, rt = .array t) (hlk : meth.locks = false) (hR : Rr (some (.ref x)) w1) (hP1 : va_P D vwCl w1 H) (hD1 : va_D (va_A ws sz) w1) (hS1 : va_S (va_A ws sz) s.heap H locs) (hc : cells ≤ mc) (hs : slots ≤ ms) (hdg : decode cc pc = .ok (.areturn, 1)) :
    W p l e R s m args below meth c H locs cells slots (MQ below (jQ D ws sz Rr) args s mc ms (va_A ws sz)) (F0 m pc ls [.ref x]) :=
  W.widen hc hs (W.aret S.1 S.2.1 hr hrt (Or.inr ⟨x, rfl⟩) (fun t ht _ => ⟨⟨_, w1, rfl, hR, by rw [ht]; exact hP1, hD1⟩, hS1.F ht⟩) hS1.2.2 hdg hlk)
/-- the array class of bytes is one -/
theorem cB_one {cA : ClassId} {tys : List (ClassId × FieldType)} (h0 : va_K D vwCl ((cB, .byte) :: tys) s) (h1 : va_K D vwCl (((cB, .byte) :: tys) ++ [(cA, .byte)]) s) : cA = cB := by
  have a := (h0.2 0 (cB, .byte) rfl).2
  have b := (h1.2 (tys.length + 1) (cA, .byte) (by simp)).2
  exact Option.some.inj (b.symm.trans a)
end JB
theorem j_selP {C : String} {y : MethodName} {n : Nat} {args : Array Value} {s : State} (hy : y.cls ≠ "java/lang/invoke/MethodHandle" ∧ y.cls ≠ "java/lang/invoke/VarHandle") (hins : (Cond.instantiable C n).before args s = true) (hsame : (Cond.sameMethod y.cls y.cls y.name y.desc).before args s = true) (hpriv : (Cond.privateMethod y).before args s = true) (hinst : (Cond.instanceMethod y).before args s = true) :
    (Cond.selects C y y).before args s = true := by
  obtain ⟨c, k, hc, hk, -, -, -, -⟩ := Cond.instantiable_spec hins
  obtain ⟨mk, methM, hnamed, hmethM, -, -⟩ := Cond.instanceMethod_spec hinst
  have hfound : s.methodFound? y.cls y.name y.desc = some mk := State.methodFound?_of_named hnamed hy
  obtain ⟨hn2, k2, hk2, hni⟩ := Cond.sameMethod_spec (findClass_of_methodNamed hnamed) hfound hsame
  have hsel : selectMethod {} s.vm c mk = .method mk := selectMethod_private hmethM (Cond.privateMethod_at hpriv mk methM hnamed hmethM)
  simp only [Cond.before, Cond.holds, Cond.value, hc, hfound, hnamed, hsel, hk2]
  simp; exact hni
section JCALL
variable {p : Program} {l : Launch} {e : Env} {R : Room} {s : State} {m : MethodId} {args : Array Value} {below : List Frame} {meth : Method} {c : Code} {Q : State → Prop} {H : Heap} {locs : List Loc} {cells slots pc : Nat} {ls : Array Slot} {rest st0 : List Value}
variable {D : va_G} {cB : ClassId} {ws1 : va_W} {X : jX} {R1 : Option Value → va_W → Prop} {A : Nat → Prop} {cc cy : ByteArray} {n ny fr lo mc ms idx b : Nat} {own C : String} {y x : MethodName} {ry : Option FieldType} {v : Option Value} {As : List Value}
abbrev jHd (y : MethodName) (n : Nat) : Prop := y.cls ≠ "java/lang/invoke/MethodHandle" ∧ y.cls ≠ "java/lang/invoke/VarHandle" ∧ (parseMethodDescriptor y.desc).map (fun d => d.parameters.length) = some n
theorem j_cS (S : CallFix p m c cc n s args jTB own) (hM : jMetR l y cy ny ry fr lo As X v) (h1 : Cond.code y cy ny ry ∈ aTB) (h2 : Cond.static y ∈ aTB) (h3 : Cond.initialized y.cls ∈ aTB) (h4 : Cond.methodLink own idx y ∈ aTB) (hd : jHd y As.length) (hR : fr + 1 ≤ R.frames ∧ 8 + (ny + 11) + lo ≤ R.locals)
    (hj : jst X) (hC : jC A s s.heap) (hX : X A s s.heap) (hS : va_S A s.heap H locs) (hsz : ls.size = n) (hc : cells ≤ R.cells ∧ slots ≤ R.slots) (hrm : (rest.map fun v => v.category).sum ≤ 8) (he : st0 = As.reverse ++ rest) (hdg : decode cc pc = .ok (.invokestatic idx, 3))
    (kk : W p l e R s m args below meth c H locs cells slots Q (F0 m (pc + 3) ls (v.toList ++ rest))) : W p l e R s m args below meth c H locs cells slots Q (F0 m pc ls st0) :=
  j_callR (va_runS S hM ⟨callB_of (ws' := jTB) As.length S.2.2.2.2 (jGood h1) rfl rfl rfl (S.2.2.2.2 _ (jin h3)) (S.2.2.2.2 _ (jin h4)) hd hR, S.2.2.2.2 _ (jin h2)⟩ (As := As) (rest := rest) ⟨jBlindR hj, fun U hU hW => ⟨rfl, jPr.pre hC hX hj hS U hU hW⟩⟩ rfl rfl hsz he (lv_room hrm) hdg hc) kk
theorem j_cV (S : CallFix p m c cc n s args jTB own) (hM : jMetR l y cy ny ry fr lo (.ref b :: As) X v) (h1 : Cond.code y cy ny ry ∈ aTB) (h2 : Cond.instanceMethod y ∈ aTB) (h5 : (Cond.selects C y y).before args s = true) (h3 : Cond.initialized y.cls ∈ aTB) (h4 : Cond.methodLink own idx y ∈ aTB) (hd : jHd y As.length) (hR : fr + 1 ≤ R.frames ∧ 8 + (ny + 11) + lo ≤ R.locals)
    (hrc : ∃ cell : Cell, H[b]? = some cell ∧ cell.vm.isStatics = false ∧ s.vm.findClass C = some cell.cls) (hj : jst X) (hC : jC A s s.heap) (hX : X A s s.heap) (hS : va_S A s.heap H locs) (hsz : ls.size = n) (hc : cells ≤ R.cells ∧ slots ≤ R.slots) (hrm : (rest.map fun v => v.category).sum ≤ 8) (he : st0 = As.reverse ++ .ref b :: rest) (hdg : decode cc pc = .ok (.invokevirtual idx, 3))
    (kk : W p l e R s m args below meth c H locs cells slots Q (F0 m (pc + 3) ls (v.toList ++ rest))) : W p l e R s m args below meth c H locs cells slots Q (F0 m pc ls st0) :=
  j_callR (va_runV S hM ⟨callB_of (ws' := jTB) As.length S.2.2.2.2 (jGood h1) rfl rfl rfl (S.2.2.2.2 _ (jin h3)) (S.2.2.2.2 _ (jin h4)) hd hR, S.2.2.2.2 _ (jin h2), h5⟩ (As := As) (rest := rest) ⟨jBlindR hj, hrc, fun U hU hW => ⟨rfl, jPr.pre hC hX hj hS U hU hW⟩⟩ rfl rfl hsz he (lv_room hrm) hdg hc) kk
theorem j_wS (S : CallFix p m c cc n s args jTB own) (hM : jMet l y cy ny ry fr mc ms lo As D cB ws1 H.size X R1) (h1 : Cond.code y cy ny ry ∈ aTB) (h2 : Cond.static y ∈ aTB) (h3 : Cond.initialized y.cls ∈ aTB) (h4 : Cond.methodLink own idx y ∈ aTB) (hd : jHd y As.length) (hR : fr + 1 ≤ R.frames ∧ 8 + (ny + 11) + lo ≤ R.locals)
    (hj : jst X) (hP : va_P D vwCl ws1 H) (hK : va_K D vwCl [(cB, .byte)] s) (hD : va_D A ws1) (hC : jC A s s.heap) (hX : X A s s.heap) (hS : va_S A s.heap H locs) (hA : ∀ q, s.heap.size ≤ q → A q) (hsz : ls.size = n) (hc : cells + mc ≤ R.cells ∧ slots + ms ≤ R.slots) (hrm : (rest.map fun v => v.category).sum ≤ 8) (he : st0 = As.reverse ++ rest) (hdg : decode cc pc = .ok (.invokestatic idx, 3))
    (kk : ∀ (v : Option Value) (w1 : va_W) (H1 : Heap) (locs1 : List Loc), R1 v w1 → va_P D vwCl w1 H1 → va_D A w1 → va_S A s.heap H1 locs1 → H.size ≤ H1.size → (∀ q : Nat, q < H.size → ¬ va_A ws1 H.size q → H1[q]? = H[q]?) → W p l e R s m args below meth c H1 locs1 (cells + mc) (slots + ms) Q (F0 m (pc + 3) ls (v.toList ++ rest))) : W p l e R s m args below meth c H locs cells slots Q (F0 m pc ls st0) :=
  j_call (va_runS S hM ⟨callB_of (ws' := jTB) As.length S.2.2.2.2 (jGood h1) rfl rfl rfl (S.2.2.2.2 _ (jin h3)) (S.2.2.2.2 _ (jin h4)) hd hR, S.2.2.2.2 _ (jin h2)⟩ (As := As) (rest := rest) ⟨jBlind hj, fun U hU hW => ⟨rfl, jP.pre hP hK hD hC hX hj hS hA U hU hW⟩⟩ rfl rfl hsz he (lv_room hrm) hdg hc) hD hS hA kk
theorem j_wV (S : CallFix p m c cc n s args jTB own) (hM : jMet l y cy ny ry fr mc ms lo (.ref b :: As) D cB ws1 H.size X R1) (h1 : Cond.code y cy ny ry ∈ aTB) (h2 : Cond.instanceMethod y ∈ aTB) (h5 : (Cond.selects C y y).before args s = true) (h3 : Cond.initialized y.cls ∈ aTB) (h4 : Cond.methodLink own idx y ∈ aTB) (hd : jHd y As.length) (hR : fr + 1 ≤ R.frames ∧ 8 + (ny + 11) + lo ≤ R.locals)
    (hrc : ∃ cell : Cell, H[b]? = some cell ∧ cell.vm.isStatics = false ∧ s.vm.findClass C = some cell.cls) (hj : jst X) (hP : va_P D vwCl ws1 H) (hK : va_K D vwCl [(cB, .byte)] s) (hD : va_D A ws1) (hC : jC A s s.heap) (hX : X A s s.heap) (hS : va_S A s.heap H locs) (hA : ∀ q, s.heap.size ≤ q → A q) (hsz : ls.size = n) (hc : cells + mc ≤ R.cells ∧ slots + ms ≤ R.slots) (hrm : (rest.map fun v => v.category).sum ≤ 8) (he : st0 = As.reverse ++ .ref b :: rest) (hdg : decode cc pc = .ok (.invokevirtual idx, 3))
    (kk : ∀ (v : Option Value) (w1 : va_W) (H1 : Heap) (locs1 : List Loc), R1 v w1 → va_P D vwCl w1 H1 → va_D A w1 → va_S A s.heap H1 locs1 → H.size ≤ H1.size → (∀ q : Nat, q < H.size → ¬ va_A ws1 H.size q → H1[q]? = H[q]?) → W p l e R s m args below meth c H1 locs1 (cells + mc) (slots + ms) Q (F0 m (pc + 3) ls (v.toList ++ rest))) : W p l e R s m args below meth c H locs cells slots Q (F0 m pc ls st0) :=
  j_call (va_runV S hM ⟨callB_of (ws' := jTB) As.length S.2.2.2.2 (jGood h1) rfl rfl rfl (S.2.2.2.2 _ (jin h3)) (S.2.2.2.2 _ (jin h4)) hd hR, S.2.2.2.2 _ (jin h2), h5⟩ (As := As) (rest := rest) ⟨jBlind hj, hrc, fun U hU hW => ⟨rfl, jP.pre hP hK hD hC hX hj hS hA U hU hW⟩⟩ rfl rfl hsz he (lv_room hrm) hdg hc) hD hS hA kk
theorem j_wI (S : CallFix p m c cc n s args jTB own) (hM : jMet l y cy ny none fr mc ms lo (.ref b :: As) D cB ws1 H.size X R1) (h1 : Cond.code y cy ny none ∈ aTB) (h2 : Cond.instanceMethod y ∈ aTB) (hn : y.name = "<init>") (h3 : Cond.initialized y.cls ∈ aTB) (h4 : Cond.methodLink own idx y ∈ aTB) (hd : jHd y As.length) (hR : fr + 1 ≤ R.frames ∧ 8 + (ny + 11) + lo ≤ R.locals)
    (hj : jst X) (hP : va_P D vwCl ws1 H) (hK : va_K D vwCl [(cB, .byte)] s) (hD : va_D A ws1) (hC : jC A s s.heap) (hX : X A s s.heap) (hS : va_S A s.heap H locs) (hA : ∀ q, s.heap.size ≤ q → A q) (hsz : ls.size = n) (hc : cells + mc ≤ R.cells ∧ slots + ms ≤ R.slots) (hrm : (rest.map fun v => v.category).sum ≤ 8) (he : st0 = As.reverse ++ .ref b :: rest) (hdg : decode cc pc = .ok (.invokespecial idx, 3))
    (kk : ∀ (v : Option Value) (w1 : va_W) (H1 : Heap) (locs1 : List Loc), R1 v w1 → va_P D vwCl w1 H1 → va_D A w1 → va_S A s.heap H1 locs1 → H.size ≤ H1.size → (∀ q : Nat, q < H.size → ¬ va_A ws1 H.size q → H1[q]? = H[q]?) → W p l e R s m args below meth c H1 locs1 (cells + mc) (slots + ms) Q (F0 m (pc + 3) ls (v.toList ++ rest))) : W p l e R s m args below meth c H locs cells slots Q (F0 m pc ls st0) :=
  j_call (va_runI S hM ⟨callB_of (ws' := jTB) As.length S.2.2.2.2 (jGood h1) rfl rfl rfl (S.2.2.2.2 _ (jin h3)) (S.2.2.2.2 _ (jin h4)) hd hR, hn, S.2.2.2.2 _ (jin h2)⟩ (As := As) (rest := rest) ⟨jBlind hj, fun U hU hW => ⟨rfl, jP.pre hP hK hD hC hX hj hS hA U hU hW⟩⟩ rfl rfl hsz he (lv_room hrm) hdg hc) hD hS hA kk
end JCALL
section JSUP
variable {p : Program} {l : Launch} {e : Env} {R : Room} {s : State} {m : MethodId} {args : Array Value} {below : List Frame} {meth : Method} {c : Code} {Q : State → Prop} {H : Heap} {locs : List Loc} {cells slots pc : Nat} {ls : Array Slot} {rest st0 : List Value}
variable {D : va_G} {cB cC : ClassId} {ws1 : va_W} {X : jX} {R1 : Option Value → va_W → Prop} {A : Nat → Prop} {cc cy : ByteArray} {n ny fr lo mc ms idx b : Nat} {own C : String} {y : MethodName} {ry : Option FieldType} {As : List Value}
/-- super.y(..) -/
theorem j_wU (S : CallFix p m c cc n s args jTB own) (hat : ClassAt s C cC) (hM : jMet l y cy ny ry fr mc ms lo (.ref b :: As) D cB ws1 H.size X R1) (h1 : Cond.code y cy ny ry ∈ aTB) (h2 : Cond.instanceMethod y ∈ aTB) (h3 : Cond.initialized y.cls ∈ aTB) (h4 : Cond.methodLink own idx y ∈ aTB) (h6 : Cond.sameMethod y.cls y.cls y.name y.desc ∈ aTB) (h7 : Cond.superclass own y.cls ∈ aTB) (hd : y.name ≠ "<init>" ∧ (parseMethodDescriptor y.desc).map (fun d => d.parameters.length) = some As.length) (hR : fr + 1 ≤ R.frames ∧ 8 + (ny + 11) + lo ≤ R.locals)
    (hrc : ∃ cell : Cell, H[b]? = some cell ∧ cell.vm.isStatics = false ∧ s.vm.findClass C = some cell.cls) (hj : jst X) (hP : va_P D vwCl ws1 H) (hK : va_K D vwCl [(cB, .byte)] s) (hD : va_D A ws1) (hC : jC A s s.heap) (hX : X A s s.heap) (hS : va_S A s.heap H locs) (hA : ∀ q, s.heap.size ≤ q → A q) (hsz : ls.size = n) (hc : cells + mc ≤ R.cells ∧ slots + ms ≤ R.slots) (hrm : (rest.map fun v => v.category).sum ≤ 8) (he : st0 = As.reverse ++ .ref b :: rest) (hdg : decode cc pc = .ok (.invokespecial idx, 3))
    (kk : ∀ (v : Option Value) (w1 : va_W) (H1 : Heap) (locs1 : List Loc), R1 v w1 → va_P D vwCl w1 H1 → va_D A w1 → va_S A s.heap H1 locs1 → H.size ≤ H1.size → (∀ q : Nat, q < H.size → ¬ va_A ws1 H.size q → H1[q]? = H[q]?) → W p l e R s m args below meth c H1 locs1 (cells + mc) (slots + ms) Q (F0 m (pc + 3) ls (v.toList ++ rest))) : W p l e R s m args below meth c H locs cells slots Q (F0 m pc ls st0) := by
  have hT : GoodIn jTB (va_wsSU own idx y (jWs y cy ny ry)) := by
    intro w hw
    unfold va_wsSU at hw
    rcases List.mem_append.mp hw with hw | hw
    · have : w ∈ aTB := by
        simp only [List.mem_cons, List.not_mem_nil, or_false] at hw
        rcases hw with rfl | rfl | rfl | rfl | rfl <;> assumption
      exact ⟨jin this, aTB_good this⟩
    · exact jGood h1 w hw
  exact j_call (va_runSU hat S hM (va_cwSU As.length S.2.2.2.2 hT rfl rfl rfl hd hR) (As := As) (rest := rest) ⟨jBlind hj, hrc, fun U hU hW => ⟨rfl, jP.pre hP hK hD hC hX hj hS hA U hU hW⟩⟩ rfl rfl hsz he (lv_room hrm) hdg hc) hD hS hA kk
/-- an overriding method: the reference names x, the receiver's class selects y -/
theorem j_wO {x : MethodName} {b0 : ByteArray} {m0 : Nat} {r0 : Option FieldType} (S : CallFix p m c cc n s args jTB own) (hM : jMet l y cy ny ry fr mc ms lo (.ref b :: As) D cB ws1 H.size X R1) (h1 : Cond.code y cy ny ry ∈ aTB) (h2 : Cond.instanceMethod y ∈ aTB) (h3 : Cond.initialized y.cls ∈ aTB) (h4 : Cond.methodLink own idx x ∈ aTB) (h5 : Cond.selects C x y ∈ aTB) (h6 : Cond.sameMethod x.cls x.cls x.name x.desc ∈ aTB) (h7 : Cond.instanceMethod x ∈ aTB) (h0 : Cond.code x b0 m0 r0 ∈ aTB) (hd : jHd x As.length) (hR : fr + 1 ≤ R.frames ∧ 8 + (ny + 11) + lo ≤ R.locals)
    (hrc : ∃ cell : Cell, H[b]? = some cell ∧ cell.vm.isStatics = false ∧ s.vm.findClass C = some cell.cls) (hj : jst X) (hP : va_P D vwCl ws1 H) (hK : va_K D vwCl [(cB, .byte)] s) (hD : va_D A ws1) (hC : jC A s s.heap) (hX : X A s s.heap) (hS : va_S A s.heap H locs) (hA : ∀ q, s.heap.size ≤ q → A q) (hsz : ls.size = n) (hc : cells + mc ≤ R.cells ∧ slots + ms ≤ R.slots) (hrm : (rest.map fun v => v.category).sum ≤ 8) (he : st0 = As.reverse ++ .ref b :: rest) (hdg : decode cc pc = .ok (.invokevirtual idx, 3))
    (kk : ∀ (v : Option Value) (w1 : va_W) (H1 : Heap) (locs1 : List Loc), R1 v w1 → va_P D vwCl w1 H1 → va_D A w1 → va_S A s.heap H1 locs1 → H.size ≤ H1.size → (∀ q : Nat, q < H.size → ¬ va_A ws1 H.size q → H1[q]? = H[q]?) → W p l e R s m args below meth c H1 locs1 (cells + mc) (slots + ms) Q (F0 m (pc + 3) ls (v.toList ++ rest))) : W p l e R s m args below meth c H locs cells slots Q (F0 m pc ls st0) := by
  have hT : GoodIn jTB (va_wsO own idx C x.cls x y (jWs y cy ny ry)) := by
    intro w hw
    unfold va_wsO at hw
    rcases List.mem_append.mp hw with hw | hw
    · have : w ∈ aTB := by
        simp only [List.mem_cons, List.not_mem_nil, or_false] at hw
        rcases hw with rfl | rfl | rfl | rfl | rfl | rfl <;> assumption
      exact ⟨jin this, aTB_good this⟩
    · exact jGood h1 w hw
  exact j_call (va_runU S hM (va_cwO As.length S.2.2.2.2 hT rfl rfl rfl (jin h0) hd hR) (As := As) (rest := rest) ⟨jBlind hj, hrc, fun U hU hW => ⟨rfl, jP.pre hP hK hD hC hX hj hS hA U hU hW⟩⟩ rfl rfl hsz he (lv_room hrm) hdg hc) hD hS hA kk
end JSUP
