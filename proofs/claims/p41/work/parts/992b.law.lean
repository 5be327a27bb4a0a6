/-! printed by mkn.py: the law's strings: a builder beside the object's world -/
theorem lq_0 : (Cond.code yJ4_append_15ec4 cJ4_append_15ec4 2 (some (.object "java/lang/StringBuilder")) : Cond) ∈ aTB := ch_in (ch_6 _ (List.mem_of_getElem? (i := 90) (rfl))) (by decide +kernel)
theorem lq_1 : (Cond.instanceMethod yJ4_append_15ec4 : Cond) ∈ aTB := ch_in (ch_6 _ (List.mem_of_getElem? (i := 88) (by decide +kernel))) (by decide +kernel)
theorem lq_2 : (Cond.initialized "java/lang/StringBuilder" : Cond) ∈ aTB := ch_in (ch_1 _ (List.mem_of_getElem? (i := 15) (by decide +kernel))) (by decide +kernel)
theorem lq_3 : (Cond.methodLink "FloatTownsLaw" 49 yJ4_append_15ec4 : Cond) ∈ aTB := ch_in (ch_6 _ (List.mem_of_getElem? (i := 87) (by decide +kernel))) (by decide +kernel)
theorem lq_4 : (Cond.code yJ4_append_bf812 cJ4_append_bf812 2 (some (.object "java/lang/StringBuilder")) : Cond) ∈ aTB := ch_in (ch_6 _ (List.mem_of_getElem? (i := 185) (rfl))) (by decide +kernel)
theorem lq_5 : (Cond.instanceMethod yJ4_append_bf812 : Cond) ∈ aTB := ch_in (ch_6 _ (List.mem_of_getElem? (i := 183) (by decide +kernel))) (by decide +kernel)
theorem lq_6 : (Cond.methodLink "FloatTownsLaw" 53 yJ4_append_bf812 : Cond) ∈ aTB := ch_in (ch_6 _ (List.mem_of_getElem? (i := 182) (by decide +kernel))) (by decide +kernel)
theorem lq_7 : (Cond.code yJ4_init_da8c8 cJ4_init_da8c8 1 none : Cond) ∈ aTB := ch_in (ch_6 _ (List.mem_of_getElem? (i := 61) (rfl))) (by decide +kernel)
theorem lq_8 : (Cond.instanceMethod yJ4_init_da8c8 : Cond) ∈ aTB := ch_in (ch_6 _ (List.mem_of_getElem? (i := 60) (by decide +kernel))) (by decide +kernel)
theorem lq_9 : (Cond.methodLink "FloatTownsLaw" 46 yJ4_init_da8c8 : Cond) ∈ aTB := ch_in (ch_6 _ (List.mem_of_getElem? (i := 59) (by decide +kernel))) (by decide +kernel)
theorem lq_10 : (Cond.code yJ4_toString_0e30d cJ4_toString_0e30d 1 (some (.object "java/lang/String")) : Cond) ∈ aTB := ch_in (ch_6 _ (List.mem_of_getElem? (i := 210) (rfl))) (by decide +kernel)
theorem lq_11 : (Cond.instanceMethod yJ4_toString_0e30d : Cond) ∈ aTB := ch_in (ch_6 _ (List.mem_of_getElem? (i := 208) (by decide +kernel))) (by decide +kernel)
theorem lq_12 : (Cond.methodLink "FloatTownsLaw" 66 yJ4_toString_0e30d : Cond) ∈ aTB := ch_in (ch_6 _ (List.mem_of_getElem? (i := 207) (by decide +kernel))) (by decide +kernel)
theorem lq_13 : (Cond.code yL_text cL_text 5 (some .int) : Cond) ∈ aTB := ch_in (ch_5 _ (List.mem_of_getElem? (i := 9) (rfl))) (by decide +kernel)
theorem lq_14 : (Cond.initialized "FloatTownsLaw" : Cond) ∈ aTB := ch_in (ch_1 _ (List.mem_of_getElem? (i := 0) (by decide +kernel))) (by decide +kernel)
theorem lq_15 : (Cond.methodLink "FloatTownsLaw" 70 yL_text : Cond) ∈ aTB := ch_in (ch_5 _ (List.mem_of_getElem? (i := 7) (by decide +kernel))) (by decide +kernel)
theorem lq_16 : (Cond.selects "java/lang/StringBuilder" yJ4_append_15ec4 yJ4_append_15ec4 : Cond) ∈ aTB := ch_in (ch_6 _ (List.mem_of_getElem? (i := 89) (by decide +kernel))) (by decide +kernel)
theorem lq_17 : (Cond.selects "java/lang/StringBuilder" yJ4_append_bf812 yJ4_append_bf812 : Cond) ∈ aTB := ch_in (ch_6 _ (List.mem_of_getElem? (i := 184) (by decide +kernel))) (by decide +kernel)
theorem lq_18 : (Cond.selects "java/lang/StringBuilder" yJ4_toString_0e30d yJ4_toString_0e30d : Cond) ∈ aTB := ch_in (ch_6 _ (List.mem_of_getElem? (i := 209) (by decide +kernel))) (by decide +kernel)
theorem lq_19 : (Cond.static yL_text : Cond) ∈ aTB := ch_in (ch_5 _ (List.mem_of_getElem? (i := 8) (by decide +kernel))) (by decide +kernel)
theorem lq_20 : (Cond.classLink "FloatTownsLaw" 44 "java/lang/StringBuilder" : Cond) ∈ aTB := ch_in (ch_6 _ (List.mem_of_getElem? (i := 57) (by decide +kernel))) (by decide +kernel)
theorem lq_21 : (Cond.instantiable "java/lang/StringBuilder" 4 : Cond) ∈ aTB := ch_in (ch_6 _ (List.mem_of_getElem? (i := 58) (by decide +kernel))) (by decide +kernel)
theorem jdf4 : ∀ j, j < 4 → defaultValue (tyJ4 j) = vp_V [.null, .int 0, .int 0, .int 0] j := by
  intro j h
  match j, h with
  | 0, _ => rfl
  | 1, _ => rfl
  | 2, _ => rfl
  | 3, _ => rfl
theorem P_suf {D : va_G} {w r : va_W} {H : Heap} (h : va_P D vwCl (w ++ r) H) : va_P D vwCl r H := fun k q hk => h (w.length + k) q (by rw [List.getElem?_append_right (Nat.le_add_right _ _), Nat.add_sub_cancel_left]; exact hk)
theorem D_suf {A : Nat → Prop} {w r : va_W} (h : va_D A (w ++ r)) : va_D A r := by
  have e : ∀ (k : Nat) (q : Nat × va_E), r[k]? = some q → (w ++ r)[w.length + k]? = some q := fun k q hk => by rw [List.getElem?_append_right (Nat.le_add_right _ _), Nat.add_sub_cancel_left]; exact hk
  refine ⟨fun i j a b ha hb hab => ?_, fun k q hk => h.2 _ q (e k q hk)⟩
  have := h.1 _ _ a b (e i a ha) (e j b hb) hab
  omega
theorem A_out {D : va_G} {A : Nat → Prop} {w r : va_W} {H : Heap} {i : Nat} {q : Nat × va_E} (hP : va_P D vwCl (w ++ r) H) (hD : va_D A (w ++ r)) (h : r[i]? = some q) : ¬ va_A w H.size q.1 := by
  have e1 : (w ++ r)[w.length + i]? = some q := by rw [List.getElem?_append_right (Nat.le_add_right _ _), Nat.add_sub_cancel_left]; exact h
  rintro (⟨k, e, hk⟩ | h2)
  · have hl := (List.getElem?_eq_some_iff.mp hk).1
    have e2 : (w ++ r)[k]? = some (q.1, e) := by rw [List.getElem?_append_left hl]; exact hk
    have := hD.1 _ _ _ _ e2 e1 rfl
    omega
  · have := (hP _ _ e1).lt
    omega
theorem A_out2 {D : va_G} {A : Nat → Prop} {w r : va_W} {H : Heap} {i : Nat} {q : Nat × va_E} (hP : va_P D vwCl (w ++ r) H) (hD : va_D A (w ++ r)) (h : w[i]? = some q) : ¬ va_A r H.size q.1 := by
  have hl := (List.getElem?_eq_some_iff.mp h).1
  have e1 : (w ++ r)[i]? = some q := by rw [List.getElem?_append_left hl]; exact h
  rintro (⟨k, e, hk⟩ | h2)
  · have e2 : (w ++ r)[w.length + k]? = some (q.1, e) := by rw [List.getElem?_append_right (Nat.le_add_right _ _), Nat.add_sub_cancel_left]; exact hk
    have := hD.1 _ _ _ _ e2 e1 rfl
    omega
  · have := (hP _ _ e1).lt
    omega
theorem PD_app {D : va_G} {A : Nat → Prop} {w r w1 : va_W} {H H1 : Heap} (hP : va_P D vwCl (w ++ r) H) (hD : va_D A (w ++ r)) (hP1 : va_P D vwCl w1 H1) (hD1 : va_D (va_A r H.size) w1) (hA : ∀ q, va_A r H.size q → A q) (hk : ∀ q : Nat, q < H.size → ¬ va_A r H.size q → H1[q]? = H[q]?) : va_P D vwCl (w ++ w1) H1 ∧ va_D A (w ++ w1) := by
  refine ⟨((P_pre hP).kept (fun k q h => hk q.1 ((P_pre hP) k q h).lt (A_out2 hP hD h))).app hP1, (D_pre hD).app (hD1.weaken (fun _ _ _ h => hA _ h)) (fun i j x y hx hy hxy => ?_)⟩
  have h2 := hD1.2 j y hy
  rw [← hxy] at h2
  exact A_out2 hP hD hx h2
section LWB
variable {p : Program} {l : Launch} {e : Env} {s : State} {m : MethodId} {args : Array Value} {below : List Frame} {meth : Method} {c : Code} {Q : State → Prop} {H : Heap} {locs : List Loc} {cells slots pc : Nat} {ls : Array Slot} {rest st0 : List Value}
variable {d : aD} {ad : Nat → Nat} {σ : aS} {A : Nat → Prop} {cB : ClassId} {sb : Nat} {u w : List Nat} {idx : Nat}
theorem j_callP {R : Room} {D : va_G} {w0 ws1 : va_W} {mc ms : Nat} {R1 : Option Value → va_W → Prop} {a : Array Value} (hr : va_Run p l e R s m args below meth c H locs cells slots mc ms (F0 m pc ls st0) rest (jQ D ws1 H.size R1 a) (va_A ws1 H.size)) (hP : va_P D vwCl (w0 ++ ws1) H) (hD : va_D A (w0 ++ ws1)) (hS : va_S A s.heap H locs) (hA : ∀ q, s.heap.size ≤ q → A q)
    (kk : ∀ (v : Option Value) (w1 : va_W) (H1 : Heap) (locs1 : List Loc), R1 v w1 → va_P D vwCl (w0 ++ w1) H1 → va_D A (w0 ++ w1) → va_S A s.heap H1 locs1 → W p l e R s m args below meth c H1 locs1 (cells + mc) (slots + ms) Q (F0 m (pc + 3) ls (v.toList ++ rest))) : W p l e R s m args below meth c H locs cells slots Q (F0 m pc ls st0) := by
  have hsub := va_A_sub (D_suf hD) hA hS.1
  intro T hT X
  obtain ⟨v', st₀, t, T', L, h0, X', hL, e1, e2, ⟨⟨v, w1, hv, hR, hP1, hD1⟩, hz, hk⟩, st⟩ := hr T hT X
  cases hv
  rw [h0] at hz hk
  have hS1 : va_S A s.heap T'.heap (locs ++ L) := ⟨Nat.le_trans hS.1 (by rw [e1]; exact hz), fun q h1 h2 => by rw [e1, hk q (Nat.lt_of_lt_of_le h1 hS.1) (fun z => h2 (hsub q z))]; exact hS.2.1 q h1 h2, fun q hq => by
      rcases List.mem_append.mp hq with h | h
      · exact hS.2.2 q h
      · exact hsub _ (hL q h)⟩
  have hPD := PD_app hP hD hP1 hD1 hsub hk
  obtain ⟨t2, a1, b1⟩ := kk v' w1 T'.heap (locs ++ L) hR (by rw [e1]; exact hPD.1) hPD.2 hS1 T' rfl X'
  exact ⟨t2, st t2 a1, b1⟩
/-- a builder with these letters beside the object's world -/
def BB (d : aD) (ad : Nat → Nat) (σ : aS) (cB : ClassId) (A : Nat → Prop) (sb : Nat) (H : Heap) (u : List Nat) : Prop :=
  ∃ (av k : Nat) (a : Nat → Int32), u.length ≤ k ∧ k ≤ 700 ∧ sb_Fit a ∧ (∀ (j v : Nat), u[j]? = some v → a j = nI v) ∧ va_P d.1 vwCl (aW0 d ad σ ++ jw cB sb av k u.length 0 a) H ∧ va_D A (aW0 d ad σ ++ jw cB sb av k u.length 0 a)
/-- a literal of the law -/
def lst (idx : Nat) (w : List Nat) (A : Nat → Prop) (s : State) : Prop := ∃ (tx : String) (a av : Nat), vk_R "FloatTownsLaw" idx tx a s ∧ rdS a av w.length (fun j => nI (w.getD j 0)) A s s.heap
theorem lt_128 {w : List Nat} (h : w.all (fun z => Nat.blt z 128) = true) (j : Nat) : w.getD j 0 < 128 := by
  rw [List.getD_eq_getElem?_getD]
  cases e : w[j]? with
  | none => exact Nat.le_of_ble_eq_true rfl
  | some v =>
    have := List.all_eq_true.mp h v (List.mem_of_getElem? e)
    exact Nat.le_of_ble_eq_true this
theorem app_get {u w : List Nat} {a a2 : Nat → Int32} (h4 : ∀ (j v : Nat), u[j]? = some v → a j = nI v) (g4 : ∀ j, j < u.length → a2 j = a j) (g5 : ∀ j, j < w.length → a2 (u.length + j) = nI (w.getD j 0)) : ∀ (j v : Nat), (u ++ w)[j]? = some v → a2 j = nI v := by
  intro j v hj
  by_cases q : j < u.length
  · rw [List.getElem?_append_left q] at hj
    rw [g4 j q]
    exact h4 j v hj
  · rw [List.getElem?_append_right (Nat.le_of_not_lt q)] at hj
    have h5 := g5 (j - u.length) (List.getElem?_eq_some_iff.mp hj).1
    rw [show u.length + (j - u.length) = j by omega, List.getD_eq_getElem?_getD, hj] at h5
    exact h5
set_option maxHeartbeats 2000000 in
theorem l_new (S : CallFix p m c cL_law 18 s args jTB "FloatTownsLaw") (hC : jC A s s.heap) (hKb : va_K d.1 vwCl [(cB, .byte)] s) (hA : ∀ q, s.heap.size ≤ q → A q) (hP : va_P d.1 vwCl (aW0 d ad σ) H) (hD : va_D A (aW0 d ad σ)) (hS : va_S A s.heap H locs) (hsz : ls.size = 18) (hc : cells + 2 ≤ room_1.cells ∧ slots + 20 ≤ room_1.slots) (hrm : (rest.map fun v => v.category).sum ≤ 3)
    (hd1 : decode cL_law pc = .ok (.new 44, 3)) (hd2 : decode cL_law (pc + 3) = .ok (.dup, 1)) (hd3 : decode cL_law (pc + 4) = .ok (.invokespecial 46, 3))
    (kk : ∀ (sb : Nat) (H1 : Heap) (l1 : List Loc), BB d ad σ cB A sb H1 [] → va_S A s.heap H1 l1 → W p l e room_1 s m args below meth c H1 l1 (cells + 2) (slots + 20) Q (F0 m (pc + 7) ls (.ref sb :: rest))) : W p l e room_1 s m args below meth c H locs cells slots Q (F0 m pc ls rest) := by
  refine va_new (C := RJ4) (T := TJ4) (N := 4) (ci := 13) (fs := [.null, .int 0, .int 0, .int 0]) S.1 S.2.1 S.2.2.2.2 jin4 tyJ4 tyJ4_ok S.2.2.2.1 (S.2.2.2.2 _ (jin lq_20)) (S.2.2.2.2 _ (jin lq_21)) (S.2.2.2.2 _ (jin lq_2)) hKb hP hD hS hA rfl jdf4 (by omega) (by omega) hd1 (fun sb H1 hP hD hS => ?_)
  refine lv_dup S.1 S.2.1 hd2 rfl ?_
  refine j_callP (rest := .ref sb :: rest) (w0 := aW0 d ad σ) (ws1 := [(sb, .inr (13, [.null, .int 0, .int 0, .int 0]))]) (mc := 1) (ms := 16) (va_runI (b := sb) S j_init4 ⟨callB_of (ws' := jTB) 0 S.2.2.2.2 (jGood lq_7) rfl rfl rfl (S.2.2.2.2 _ (jin lq_2)) (S.2.2.2.2 _ (jin lq_9)) ⟨by decide +kernel, by decide +kernel, (by show _ = some 0; decide +kernel)⟩ ⟨by decide +kernel, by decide +kernel⟩, rfl, S.2.2.2.2 _ (jin lq_8)⟩ (As := []) (rest := .ref sb :: rest) ⟨jBlind jst_T, fun U hU hW => ⟨rfl, jP.pre (P_suf hP) hKb (D_suf hD) hC trivial jst_T hS hA U hU hW⟩⟩ rfl rfl hsz rfl (lv_room (show 1 + (rest.map fun v => v.category).sum ≤ 8 by omega)) hd3 ⟨by omega, by omega⟩) hP hD hS hA (fun v w1 H2 l2 hR hP2 hD2 hS2 => ?_)
  obtain ⟨rfl, x, rfl⟩ := hR
  exact kk sb H2 l2 ⟨x, 16, fun _ => 0, Nat.zero_le _, by decide, sb_fit0, (fun j v hj => by cases hj), hP2, hD2⟩ hS2
set_option maxHeartbeats 2000000 in
theorem l_apS (S : CallFix p m c cL_law 18 s args jTB "FloatTownsLaw") (hC : jC A s s.heap) (hKb : va_K d.1 vwCl [(cB, .byte)] s) (hA : ∀ q, s.heap.size ≤ q → A q) (hB : BB d ad σ cB A sb H u) (hS : va_S A s.heap H locs) (hsz : ls.size = 18) (hw : lst idx w A s) (h8 : w.all (fun z => Nat.blt z 128) = true) (hl : u.length + w.length ≤ 300) (hc : cells + 1 ≤ room_1.cells ∧ slots + 700 ≤ room_1.slots) (hrm : (rest.map fun v => v.category).sum ≤ 3)
    (hd1 : decode cL_law pc = .ok (.ldc idx, 2)) (hd2 : decode cL_law (pc + 2) = .ok (.invokevirtual 49, 3))
    (kk : ∀ (H1 : Heap) (l1 : List Loc), BB d ad σ cB A sb H1 (u ++ w) → va_S A s.heap H1 l1 → W p l e room_1 s m args below meth c H1 l1 (cells + 1) (slots + 700) Q (F0 m (pc + 5) ls (.ref sb :: rest))) : W p l e room_1 s m args below meth c H locs cells slots Q (F0 m pc ls (.ref sb :: rest)) := by
  obtain ⟨tx, q, sv, hR, hX⟩ := hw
  obtain ⟨av, k, a, h1, h2, h3, h4, hP, hD⟩ := hB
  refine va_ldcS S.1 S.2.1 S.2.2.2.1 hR hd1 ?_
  refine j_callP (rest := rest) (w0 := aW0 d ad σ) (ws1 := jw cB sb av k u.length 0 a) (mc := 1) (ms := 700) (va_runV (b := sb) (C := "java/lang/StringBuilder") S (j_sbS h1 h2 hl h3 (fun j => nb_fit (lt_128 h8 j))) ⟨callB_of (ws' := jTB) 1 S.2.2.2.2 (jGood lq_0) rfl rfl rfl (S.2.2.2.2 _ (jin lq_2)) (S.2.2.2.2 _ (jin lq_3)) ⟨by decide +kernel, by decide +kernel, (by show _ = some 1; decide +kernel)⟩ ⟨by decide +kernel, by decide +kernel⟩, S.2.2.2.2 _ (jin lq_1), S.2.2.2.2 _ (jin lq_16)⟩ (As := [.ref q]) (rest := rest) ⟨jBlind jst_S, sb_rc (r := []) hKb (P_suf hP), fun U hU hW => ⟨rfl, jP.pre (P_suf hP) hKb (D_suf hD) hC hX jst_S hS hA U hU hW⟩⟩ rfl rfl hsz rfl (lv_room (by omega)) hd2 hc) hP hD hS hA (fun v w1 H2 l2 hR hP2 hD2 hS2 => ?_)
  obtain ⟨rfl, av2, k2, a2, rfl, g1, g2, g3, g4, g5⟩ := hR
  have el : (u ++ w).length = u.length + w.length := List.length_append
  exact kk H2 l2 ⟨av2, k2, a2, by rw [el]; exact g1, g2, g3, app_get h4 g4 g5, by rw [el]; exact hP2, by rw [el]; exact hD2⟩ hS2
set_option maxHeartbeats 2000000 in
theorem l_apI {x : Nat} (S : CallFix p m c cL_law 18 s args jTB "FloatTownsLaw") (hC : jC A s s.heap) (hKb : va_K d.1 vwCl [(cB, .byte)] s) (hA : ∀ q, s.heap.size ≤ q → A q) (hB : BB d ad σ cB A sb H u) (hS : va_S A s.heap H locs) (hsz : ls.size = 18) (hx : x < 1000) (hl : u.length + 3 ≤ 300) (hc : cells + 1 ≤ room_1.cells ∧ slots + 700 ≤ room_1.slots) (hrm : (rest.map fun v => v.category).sum ≤ 3)
    (hd2 : decode cL_law pc = .ok (.invokevirtual 53, 3))
    (kk : ∀ (H1 : Heap) (l1 : List Loc), BB d ad σ cB A sb H1 (u ++ dgs x) → va_S A s.heap H1 l1 → W p l e room_1 s m args below meth c H1 l1 (cells + 1) (slots + 700) Q (F0 m (pc + 3) ls (.ref sb :: rest))) : W p l e room_1 s m args below meth c H locs cells slots Q (F0 m pc ls (.int (nI x) :: .ref sb :: rest)) := by
  obtain ⟨av, k, a, h1, h2, h3, h4, hP, hD⟩ := hB
  refine j_callP (rest := rest) (w0 := aW0 d ad σ) (ws1 := jw cB sb av k u.length 0 a) (mc := 1) (ms := 700) (va_runV (b := sb) (C := "java/lang/StringBuilder") S (j_sbI h1 h2 hl h3 hx) ⟨callB_of (ws' := jTB) 1 S.2.2.2.2 (jGood lq_4) rfl rfl rfl (S.2.2.2.2 _ (jin lq_2)) (S.2.2.2.2 _ (jin lq_6)) ⟨by decide +kernel, by decide +kernel, (by show _ = some 1; decide +kernel)⟩ ⟨by decide +kernel, by decide +kernel⟩, S.2.2.2.2 _ (jin lq_5), S.2.2.2.2 _ (jin lq_17)⟩ (As := [.int (nI x)]) (rest := rest) ⟨jBlind jst_T, sb_rc (r := []) hKb (P_suf hP), fun U hU hW => ⟨rfl, jP.pre (P_suf hP) hKb (D_suf hD) hC trivial jst_T hS hA U hU hW⟩⟩ rfl rfl hsz rfl (lv_room (by omega)) hd2 hc) hP hD hS hA (fun v w1 H2 l2 hR hP2 hD2 hS2 => ?_)
  obtain ⟨rfl, av2, k2, a2, rfl, g1, g2, g3, g4, g5⟩ := hR
  have el : (u ++ dgs x).length = u.length + dgl x := List.length_append
  exact kk H2 l2 ⟨av2, k2, a2, by rw [el]; exact g1, g2, g3, app_get h4 g4 g5, by rw [el]; exact hP2, by rw [el]; exact hD2⟩ hS2
/-- a string made: read-only for what comes after -/
theorem rdS_made {st x n : Nat} {b : Nat → Int32} {w0 : va_W} {D : va_G} (hts : ∀ w ∈ jTB, w.before args s = true) (hKb : va_K D vwCl [(cB, .byte)] s) (hP : va_P D vwCl (w0 ++ [(st, .inr (12, [.ref x, .int 0, .int 0, .int 0])), (x, .inl (cB, n, .inl b))]) H) (hD : va_D A (w0 ++ [(st, .inr (12, [.ref x, .int 0, .int 0, .int 0])), (x, .inl (cB, n, .inl b))])) : rdS st x n b (va_A w0 H.size) s H := by
  have o0 : ¬ va_A w0 H.size st := A_out (i := 0) hP hD rfl
  have o1 : ¬ va_A w0 H.size x := A_out (i := 1) hP hD rfl
  have hP2 := P_suf hP
  have h1 : H[x]? = some (arrV cB n (fun j => .int (b j))) := hP2 1 _ rfl
  obtain ⟨r, e1, cell, q1, q2, q3, q4⟩ := hP2 0 _ rfl
  have hr : r = (RJ0, TJ0, 4) := Option.some.inj (e1.symm.trans rfl)
  subst hr
  obtain ⟨hS, hfc, kC, hkC, hkind⟩ := hKb.1 12 _ rfl
  refine ⟨⟨cell, q1, by rw [q3]; rfl, by rw [q2]; exact hfc, o0⟩, ?_, ?_, ?_⟩
  · obtain ⟨cf, kf, fi, f, hi, hsl⟩ := hS 1 (by decide)
    exact ⟨cf, kf, fi, f, cell, hi, (u_facts hfc hkC (u_lays hts jin0 (k := 1) (by decide)) hi).1, q1, (by rw [q3]; exact fun h => by cases h), by rw [hsl, q4 1 (by decide)]; rfl, o0⟩
  · obtain ⟨cf, kf, fi, f, hi, hsl⟩ := hS 0 (by decide)
    exact ⟨cf, kf, fi, f, cell, hi, (u_facts hfc hkC (u_lays hts jin0 (k := 0) (by decide)) hi).1, q1, (by rw [q3]; exact fun h => by cases h), by rw [hsl, q4 0 (by decide)]; rfl, o0⟩
  · exact ⟨_, h1, (hKb.2 0 _ rfl).1 n _, (fun h => by cases h), by rw [arrV_size]; exact Nat.le_refl _, by rw [arrV_size], fun j hj => arrV_read cB _ hj, o1⟩
set_option maxHeartbeats 2000000 in
theorem l_toS (S : CallFix p m c cL_law 18 s args jTB "FloatTownsLaw") (hC : jC A s s.heap) (hKb : va_K d.1 vwCl [(cB, .byte)] s) (hA : ∀ q, s.heap.size ≤ q → A q) (hB : BB d ad σ cB A sb H u) (hS : va_S A s.heap H locs) (hsz : ls.size = 18) (hc : cells + 2 ≤ room_1.cells ∧ slots + 704 ≤ room_1.slots) (hrm : (rest.map fun v => v.category).sum ≤ 3)
    (hd2 : decode cL_law pc = .ok (.invokevirtual 66, 3))
    (kk : ∀ (st x : Nat) (b : Nat → Int32) (H1 : Heap) (l1 : List Loc), (∀ (j v : Nat), u[j]? = some v → b j = nI v) → rdS st x u.length b (va_A (aW0 d ad σ) H1.size) s H1 → va_P d.1 vwCl (aW0 d ad σ) H1 → va_D A (aW0 d ad σ) → va_S A s.heap H1 l1 → W p l e room_1 s m args below meth c H1 l1 (cells + 2) (slots + 704) Q (F0 m (pc + 3) ls (.ref st :: rest))) : W p l e room_1 s m args below meth c H locs cells slots Q (F0 m pc ls (.ref sb :: rest)) := by
  obtain ⟨av, k, a, h1, h2, h3, h4, hP, hD⟩ := hB
  refine j_callP (rest := rest) (w0 := aW0 d ad σ) (ws1 := jw cB sb av k u.length 0 a) (mc := 2) (ms := 704) (va_runV (b := sb) (C := "java/lang/StringBuilder") S (j_toS h1 h2 h3) ⟨callB_of (ws' := jTB) 0 S.2.2.2.2 (jGood lq_10) rfl rfl rfl (S.2.2.2.2 _ (jin lq_2)) (S.2.2.2.2 _ (jin lq_12)) ⟨by decide +kernel, by decide +kernel, (by show _ = some 0; decide +kernel)⟩ ⟨by decide +kernel, by decide +kernel⟩, S.2.2.2.2 _ (jin lq_11), S.2.2.2.2 _ (jin lq_18)⟩ (As := []) (rest := rest) ⟨jBlind jst_T, sb_rc (r := []) hKb (P_suf hP), fun U hU hW => ⟨rfl, jP.pre (P_suf hP) hKb (D_suf hD) hC trivial jst_T hS hA U hU hW⟩⟩ rfl rfl hsz rfl (lv_room (by omega)) hd2 hc) hP hD hS hA (fun v w1 H2 l2 hR hP2 hD2 hS2 => ?_)
  obtain ⟨st, x, b, rfl, rfl, g1, g2⟩ := hR
  exact kk st x b H2 l2 (fun j v hj => by rw [g2 j (List.getElem?_eq_some_iff.mp hj).1]; exact h4 j v hj) (rdS_made S.2.2.2.2 hKb hP2 hD2) (P_pre hP2) (D_pre hD2) hS2
set_option maxHeartbeats 2000000 in
/-- the helper text, called by the law -/
theorem l_text {q av L n : Nat} {t : Nat → Nat} {v : Int} {σ1 υ : aS} (hfl : l.flags = flags0) (hg1 : aGoodj 128) (hg2 : aGoodj 129) (S : CallFix p m c cL_law 18 s args jTB "FloatTownsLaw") (hC : jC A s s.heap) (hK : va_K d.1 vwCl (aTy0 d) s) (hStr : aStr d.2.2.2.2 A s s.heap) (hNx : aNx s) (hA : ∀ q, s.heap.size ≤ q → A q) (hG : aGood σ) (h0 : σ.1[0]? = some (21, 11)) (hL : L ≤ 300) (ht : ∀ j, j < L → t j < 128) (hn : n ≤ 20) (hF : FD t L n 0 σ σ1) (hT : c11_text 1 (L : Int) σ1 = some (0, [v], υ)) (hcnt : υ.2.2 = σ1.2.2)
    (hX : ∀ U : State, U.heap = H → s.WarmedH U.vm → rdS q av L (fun j => nI (t j)) (va_A (aW0 d ad σ) H.size) U H) (hP : va_P d.1 vwCl (aW0 d ad σ) H) (hD : va_D A (aW0 d ad σ)) (hS : va_S A s.heap H locs) (hsz : ls.size = 18) (hc : cells + 20 ≤ room_1.cells ∧ slots + 100 ≤ room_1.slots) (hd2 : decode cL_law pc = .ok (.invokestatic 70, 3))
    (kk : ∀ (ad' : Nat → Nat) (H1 : Heap) (l1 : List Loc), aGood υ → aExt σ.1 υ.1 → (∀ k, k < σ.1.length → ad' k = ad k) → va_P d.1 vwCl (aW0 d ad' υ) H1 → va_D A (aW0 d ad' υ) → va_S A s.heap H1 l1 → ar32 v → W p l e room_1 s m args below meth c H1 l1 (cells + 20) (slots + 100) Q (F0 m (pc + 3) ls [.int (Int32.ofInt v)])) : W p l e room_1 s m args below meth c H locs cells slots Q (F0 m pc ls [.ref q, .ref (ad 0)]) := by
  have hsub := va_A_sub hD hA hS.1
  have hbl : FrameBlind (va_Pc [.ref (ad 0), .ref q] (tP d ad σ H.size q av L t)) := by
    rintro a U g mk ⟨h1, h2, h3, h4, h5, h6, h7, h8, h9⟩
    exact ⟨h1, h2, h3, va_K.moved (u := U) (U := U.calling g mk a) (Vm.Alike.refl U.vm) h4, h5, h6.calling, aNx.calling h7, jst_S (s := U) (U := U.calling g mk a) h8 (Vm.Alike.refl U.vm) (fun _ _ _ => rfl) (fun _ h => h), jC.to (s := U) (U := U.calling g mk a) h9 (Vm.Alike.refl U.vm) (fun _ _ _ => rfl) (fun _ h => h)⟩
  have hr := va_runS (rest := []) (As := [.ref (ad 0), .ref q]) (g := F0 m pc ls [.ref q, .ref (ad 0)]) (cells := cells) (slots := slots) (locs := locs) (H := H) (e := e) (below := below) (meth := meth) (R := room_1) S (h_text (sz := H.size) (av := av) hfl hg1 hg2 hG h0 hL ht hn hF hT hcnt)
    ⟨callB_of (ws' := jTB) 2 S.2.2.2.2 (jGood lq_13) rfl rfl rfl (S.2.2.2.2 _ (jin lq_14)) (S.2.2.2.2 _ (jin lq_15)) ⟨by decide +kernel, by decide +kernel, (by show _ = some 2; decide +kernel)⟩ ⟨by decide +kernel, by decide +kernel⟩, S.2.2.2.2 _ (jin lq_19)⟩
    ⟨hbl, fun U hU hW => ⟨rfl, by rw [hU], by rw [hU]; exact hP, va_K.moved hW.alike hK, hD.weaken (fun _ _ _ _ => trivial), by rw [hU]; exact hStr.to hW hS.2.1 hsub, hNx.warm hW, by rw [hU]; exact hX U hU hW, by rw [hU]; exact hC.to hW.alike hS.2.1 hsub⟩⟩ rfl rfl hsz rfl (lv_room (by show (0 : Nat) ≤ 8; decide)) hd2 hc
  intro T hT0 X
  obtain ⟨v', st₀, t9, T', L9, e0, X', hL9, e1, e2, ⟨⟨⟨hG', hex, -, -⟩, hkg⟩, ⟨ad', hag, hv, hP1, hD1⟩, hz, hk⟩, st⟩ := hr T hT0 X
  cases hv
  rw [e0] at hz hk
  have hS1 : va_S A s.heap T'.heap (locs ++ L9) := ⟨Nat.le_trans hS.1 (by rw [e1]; exact hz), fun q h1 h2 => by rw [e1, hk q (Nat.lt_of_lt_of_le h1 hS.1) (fun z => h2 (hsub q z))]; exact hS.2.1 q h1 h2, fun q hq => by
      rcases List.mem_append.mp hq with h | h
      · exact hS.2.2 q h
      · exact hsub _ (hL9 q h)⟩
  obtain ⟨t2, a1, b1⟩ := kk ad' T'.heap (locs ++ L9) hG' hex hag (by rw [e1]; exact hP1) (hD1.weaken (fun _ _ _ h => hsub _ h)) hS1 hkg T' rfl X'
  exact ⟨t2, st t2 a1, b1⟩
end LWB
