section TLL
variable {p : Program} {l : Launch} {e : Env} {R : Room} {s : State} {m : MethodId} {args : Array Value} {below : List Frame} {meth : Method} {c : Code} {Q : State → Prop}
theorem t_caught {H : Heap} {mc ms pc : Nat} {ls : Array Slot} {st0 rest : List Value} {Qa : State → Outcome → State → Prop} {XC : String → State → State → Prop} {free : Addr → Prop}
    (hR : vx_Run p l e R s m args below meth c H [] 0 0 mc ms (F0 m pc ls st0) rest Qa XC free) (hno : ∀ st t v, ¬ Qa st (.returned v) t)
    (kk : ∀ (qq : Addr) (st₀ t : State) (Lc : List Loc) (E : String) (ce : Cell), st₀.heap = H → (∀ z ∈ Lc, free z.base) → XC E st₀ t → t.heap[qq]? = some ce → ce.vm = .none → s.vm.findClass E = some ce.cls → vx_W p l e R s m args below meth c t.heap ([] ++ Lc) (0 + mc) (0 + ms) Q (F0 m pc ls rest) qq) :
    W p l e R s m args below meth c H [] 0 0 Q (F0 m pc ls st0) := by
  intro T hT2 X
  rcases hR T hT2 X with ⟨v', st₀, t, T', Lc, h0, X', hLf, e1, e2, hq, st⟩ | ⟨qq, st₀, t, T', Lc, E, ce, h0, X', hLf, e1, e2, hXC, hce, hcv, hcl, st⟩
  · exact absurd hq (hno _ _ _)
  · obtain ⟨t2, a1, b1⟩ := kk qq st₀ t Lc E ce h0 hLf hXC hce hcv hcl T' e1 X'
    exact ⟨t2, st.trans a1, b1⟩
theorem t_handed {H : Heap} {mc ms pc : Nat} {ls : Array Slot} {st0 rest : List Value} {Qa : State → Outcome → State → Prop} {XC : String → State → State → Prop} {free : Addr → Prop}
    (hR : vx_Run p l e R s m args below meth c H [] 0 0 mc ms (F0 m pc ls st0) rest Qa XC free) (hno : ∀ E st t, ¬ XC E st t) :
    va_Run p l e R s m args below meth c H [] 0 0 mc ms (F0 m pc ls st0) rest Qa free := by
  intro T hT2 X
  rcases hR T hT2 X with ⟨v', st₀, t, T', Lc, h0, X', hLf, e1, e2, hq, st⟩ | ⟨qq, st₀, t, T', Lc, E, ce, h0, X', hLf, e1, e2, hXC, hce, hcv, hcl, st⟩
  · exact ⟨v', st₀, t, T', Lc, h0, X', hLf, e1, e2, hq, st⟩
  · exact absurd hXC (hno _ _ _)
end TLL
set_option maxHeartbeats 4000000 in
theorem t_llook {l : Launch} (hfl : l.flags = flags0) {d : aD} {ad : Nat → Nat} {sz s1 s2 : Nat} {x i q out : Int} {σ σ' : aS} (hG : aGood σ) (harg : aArg σ.1 [21, 0, 0, 3] [x, i, q, out]) (K : Nat) (v r : Int) (hv32 : K = 0 → ar32 v) 
    (hK : aseg F aX0 3 k_cl 0 [x, i, q] σ = some (if K = 1 then (9, [x, i, q], σ) else if K = 2 then (28, [x, i, q], σ) else (0, [v], σ))) (hK3 : K = 0 ∧ r = 0 ∧ 0 < alen σ out ∧ σ' = aput σ out 0 v ∨ K = 1 ∧ r = 1 ∧ σ' = aexn σ 1 6 ∨ K = 2 ∧ r = 2 ∧ σ' = aexn σ 1 6) :
    Met l yL_look (Cond.codeWith yL_look cL_look 5 (some .int) hhL :: aTB) { frames := 9, cells := σ'.2.2.1 - σ.2.2.1, slots := σ'.2.2.2 - σ.2.2.2, locals := 330 } (lPc d ad σ (aArgv d.2.2.2.2 ad [21, 0, 0, 3] [x, i, q, out]) sz s1 s2) (fun _ st oc t => aPost d ad σ σ' (ar32 r) (some (.int (Int32.ofInt r))) sz st oc t) (σ'.2.2.1 - σ.2.2.1) (σ'.2.2.2 - σ.2.2.2) (va_A (aW0 d ad σ) sz) := by
  refine va_MetW (cc := cL_look) (maxL := 5) (ret := some .int) (hh := hhL) (by decide +kernel) rfl ?_
  intro p e s m args below meth c s₁ B hml hv
  obtain ⟨⟨rfl, hsz, hP, hK2, hD0, hstr, hNx⟩, hT⟩ := hv
  have hx := B.exec
  have hb := B.bytes
  have hr := B.returns
  have hts0 := atoms_spec (ws := Cond.codeWith yL_look cL_look 5 (some .int) hhL :: aTB) B.pre
  have hts : ∀ w ∈ aTB, w.before (aArgv d.2.2.2.2 ad [21, 0, 0, 3] [x, i, q, out]).toArray s = true := fun w hw => hts0 w (List.mem_cons_of_mem _ hw)
  have htab : c.exceptionTable.toList = tableOf hhL := vx_table (x := yL_look) B (hts0 _ List.mem_cons_self)
  have hown : s.vm.findClass "FloatTownsLaw" = some m.cls := findClass_of_methodNamed B.named
  have hname : meth.name = (aMy m_ll).name := (name_of_methodNamed B.named B.method).1
  have hlocks := B.notSynchronized
  have hS : CallFix p m c cL_look 5 s (aArgv d.2.2.2.2 ad [21, 0, 0, 3] [x, i, q, out]).toArray aTB "FloatTownsLaw" := ⟨hx, hb, hml, hown, hts⟩
  subst hsz
  have hD := hD0.self (sz := s.heap.size)
  have hA : ∀ q : Nat, s.heap.size ≤ q → va_A (aW0 d ad σ) s.heap.size q := fun q h => Or.inr h
  have hl := lv_entry (aArgv d.2.2.2.2 ad [21, 0, 0, 3] [x, i, q, out]) (n := 5) (by unfold aArgv; rw [lg_len _ _ rfl]; decide)
  rw [lg_entry_eq]
  generalize (lg_sl (aArgv d.2.2.2.2 ad [21, 0, 0, 3] [x, i, q, out]) ++ List.replicate (5 - (lg_sl (aArgv d.2.2.2.2 ad [21, 0, 0, 3] [x, i, q, out])).length) Slot.unset).toArray = ls at hl ⊢
  obtain ⟨L, hL1, hL2, hL3⟩ := aPl_s (sa := d.2.2.2.2) (ad := ad) (b := 0) [21, 0, 0, 3] [x, i, q, out] 0 (List.replicate 5 none) rfl
  have hL4 : ∀ (k : Nat) (v : aV), L[k]? = some (some v) → (k, aconc d.2.2.2.2 ad 0 v) ∈ lv_args 0 (aArgv d.2.2.2.2 ad [21, 0, 0, 3] [x, i, q, out]) ∧ v ∈ [21, 0, 0, 3].zip [x, i, q, out] := by
    intro k v hv
    rcases hL3 k v hv with q | q
    · rw [List.getElem?_replicate] at q
      split at q <;> cases q
    · exact q
  have hgx : aGv σ.1 False (21, x) := harg.2 (21, x) (by simp)
  have hgo : aGv σ.1 False (3, out) := harg.2 (3, out) (by simp)
  have hx0 : aconc d.2.2.2.2 ad 0 (21, x) = .ref (ad (x.toNat - 1)) := by
    have : 0 < x := (hgx.2.2.2.2.1 (by simp [aisR])).1
    show (if x = 0 then Value.null else .ref (ad (x.toNat - 1))) = _
    rw [if_neg (by omega)]
  have ho0 : aconc d.2.2.2.2 ad 0 (3, out) = .ref (ad (out.toNat - 1)) := by
    have : 0 < out := (hgo.2.2.2.2.1 (by simp [aisR])).1
    show (if out = 0 then Value.null else .ref (ad (out.toNat - 1))) = _
    rw [if_neg (by omega)]
  have hav : aArgv d.2.2.2.2 ad [21, 0, 0, 3] [x, i, q, out] = [.ref (ad (x.toNat - 1)), .int (Int32.ofInt i), .int (Int32.ofInt q), .ref (ad (out.toNat - 1))] := by
    unfold aArgv
    simp only [List.zip_cons_cons, List.zip_nil_right, List.map_cons, List.map_nil, hx0, ho0]
    rfl
  have hav3 : aArgv d.2.2.2.2 ad [21, 0, 0] [x, i, q] = [.ref (ad (x.toNat - 1)), .int (Int32.ofInt i), .int (Int32.ofInt q)] := by
    unfold aArgv
    simp only [List.zip_cons_cons, List.zip_nil_right, List.map_cons, List.map_nil, hx0]
    rfl
  have hl0 : ls[0]? = some (.val (.ref (ad (x.toNat - 1)))) := hl.2.2 (0, _) (by rw [hav]; simp [lv_args, Value.category])
  have hl1 : ls[1]? = some (.val (.int (Int32.ofInt i))) := hl.2.2 (1, _) (by rw [hav]; simp [lv_args, Value.category])
  have hl2 : ls[2]? = some (.val (.int (Int32.ofInt q))) := hl.2.2 (2, _) (by rw [hav]; simp [lv_args, Value.category])
  have hl3 : ls[3]? = some (.val (.ref (ad (out.toNat - 1)))) := hl.2.2 (3, _) (by rw [hav]; simp [lv_args, Value.category])
  have harg3 : aArg σ.1 [21, 0, 0] [x, i, q] := ⟨rfl, fun u hu => harg.2 u (by simp only [List.zip_cons_cons, List.zip_nil_right, List.mem_cons, List.not_mem_nil, or_false] at hu ⊢; rcases hu with h | h | h <;> simp [h])⟩
  have hcell : ∃ cell : Cell, s.heap[ad (x.toNat - 1)]? = some cell ∧ cell.vm.isStatics = false ∧ s.vm.findClass "FloatTowns" = some cell.cls := by
    obtain ⟨k, n, x1, hk1⟩ := aGv_ref hgx (aisR_10 11)
    have hw := aWs_get (cI := d.2.1) (cL := d.2.2.1) (cS := d.2.2.2.1) (sa := d.2.2.2.2) (ad := ad) hk1
    rw [show (21 : Nat) = 10 + 11 from rfl, aCell_obj] at hw
    have := va_recv (q := (aC1 11, (aT 11, aNf 11))) hK2 hP rfl hw
    have hk : x.toNat - 1 = k := by
      have : x = (k : Int) + 1 := x1
      omega
    rw [hk]
    exact this
  refine lv_aload_n hx hb lld_0 rfl hl3 ?_
  refine lv_iconst hx hb lld_1 (v := 0) rfl ?_
  refine lv_aload_n hx hb lld_2 rfl hl0 ?_
  refine lv_iload_n hx hb lld_3 rfl hl1 ?_
  refine lv_iload_n hx hb lld_4 rfl hl2 ?_
  have hM := t_clook (l := l) hfl (d := d) (ad := ad) (sz := s.heap.size) (s1 := s1) (s2 := s2) hG harg3 K v (σ'.2.2.1 - σ.2.2.1) (σ'.2.2.2 - σ.2.2.2) hv32 (by
    intro hk
    rcases hK3 with ⟨h, -⟩ | ⟨-, -, rfl⟩ | ⟨-, -, rfl⟩
    · omega
    · exact ⟨by show σ.2.2.1 + 1 - σ.2.2.1 = 1; omega, by show σ.2.2.2 + 6 - σ.2.2.2 = 6; omega⟩
    · exact ⟨by show σ.2.2.1 + 1 - σ.2.2.1 = 1; omega, by show σ.2.2.2 + 6 - σ.2.2.2 = 6; omega⟩) hK (by rcases hK3 with h | h | h; exact Or.inl h.1; exact Or.inr (Or.inl h.1); exact Or.inr (Or.inr h.1))
  rw [hav3] at hM
  have hR := vx_runV hS hM ⟨callB_of (R := (headSpec (Cond.codeWith yL_look cL_look 5 (some .int) hhL :: aTB) ({ frames := 9, cells := σ'.2.2.1 - σ.2.2.1, slots := σ'.2.2.2 - σ.2.2.2, locals := 330 })).room) (ws' := aTB) 2 hts (tGood lq_code) rfl rfl rfl (hts _ ll_inF) (hts _ ll_ml7) ⟨by decide +kernel, by decide +kernel, by decide +kernel⟩ ⟨by show 6 + 1 ≤ 9; decide, by show 8 + (3 + 11) + 82 ≤ 330; decide⟩, hts _ ll_im, hts _ ll_sel⟩ (H := s.heap) (locs := []) (cells := 0) (slots := 0) (e := e) (below := below) (meth := meth) (g := F0 m 5 ls [.int (Int32.ofInt q), .int (Int32.ofInt i), .ref (ad (x.toNat - 1)), .int 0, .ref (ad (out.toNat - 1))]) (b := ad (x.toNat - 1)) (As := [.int (Int32.ofInt i), .int (Int32.ofInt q)]) (rest := [.int 0, .ref (ad (out.toNat - 1))])
    ⟨lPc_blind, hcell, fun U hU hW => ⟨⟨rfl, by rw [hU], by rw [hU]; exact hP, hK2.moved hW.alike, hD0, hstr.to hW (fun a _ _ => by rw [hU]) (fun q h => h), hNx.warm hW⟩, hT.to hW (fun a _ _ => by rw [hU]) (fun q h => h)⟩⟩ rfl rfl hl.1 rfl (lv_room (by show 1 + (1 + 0) ≤ 8; decide)) lld_5 ⟨by show 0 + _ ≤ _; exact Nat.le_of_eq (Nat.zero_add _), by show 0 + _ ≤ _; exact Nat.le_of_eq (Nat.zero_add _)⟩
  have hlh : lv_has ls 5 (lv_args 0 (aArgv d.2.2.2.2 ad [21, 0, 0, 3] [x, i, q, out])) := hl
  rcases hK3 with ⟨rfl, rfl, hlen, rfl⟩ | ⟨rfl, rfl, rfl⟩ | ⟨rfl, rfl, rfl⟩
  · have hst : aSt s 5 d (va_A (aW0 d ad σ) s.heap.size) 0 False σ.2.2.1 σ.2.2.2 ad σ.1 ad ls s.heap [] L [(0, q), (0, i), (21, x), (0, 0), (3, out)] σ :=
      ⟨hP, hD, va_S.rf, hG, ⟨hl.1, by rw [hL2, List.length_replicate], hl.2.1, fun k v hv => hl.2.2 _ (hL4 k v hv).1⟩, fun k v hv => harg.2 v (hL4 k v hv).2, (by
        intro u hu
        simp only [List.mem_cons, List.not_mem_nil, or_false] at hu
        rcases hu with rfl | rfl | rfl | rfl | rfl
        · exact harg.2 _ (by simp)
        · exact harg.2 _ (by simp)
        · exact hgx
        · exact aGv_int (by unfold ar32; omega)
        · exact hgo), ⟨Nat.le_refl _, Nat.le_refl _⟩, fun _ _ => rfl, aExt.rf _⟩
    have C : aCx p l (headSpec (Cond.codeWith yL_look cL_look 5 (some .int) hhL :: aTB) ({ frames := 9, cells := (aput σ out 0 v).2.2.1 - σ.2.2.1, slots := (aput σ out 0 v).2.2.2 - σ.2.2.2, locals := 330 })).room s m (aArgv d.2.2.2.2 ad [21, 0, 0, 3] [x, i, q, out]).toArray meth c m_ll d (va_A (aW0 d ad σ) s.heap.size) 0 False aX0 :=
      ⟨hx, hb, hml, hown, hts, (fun w hw => absurd hw List.not_mem_nil), hname, hA, hK2, hstr, Nat.le_refl _, Nat.le_refl _, fun h => h.elim, hlocks, hfl, hNx⟩
    have hrun0 : va_Run p l e (headSpec (Cond.codeWith yL_look cL_look 5 (some .int) hhL :: aTB) ({ frames := 9, cells := (aput σ out 0 v).2.2.1 - σ.2.2.1, slots := (aput σ out 0 v).2.2.2 - σ.2.2.2, locals := 330 })).room s m (aArgv d.2.2.2.2 ad [21, 0, 0, 3] [x, i, q, out]).toArray below meth c s.heap [] (σ.2.2.1 - σ.2.2.1) (σ.2.2.2 - σ.2.2.2) (σ.2.2.1 - σ.2.2.1) (σ.2.2.2 - σ.2.2.2) (F0 m 5 ls [.int (Int32.ofInt q), .int (Int32.ofInt i), .ref (ad (x.toNat - 1)), .int 0, .ref (ad (out.toNat - 1))]) (([(0, 0), (3, out)] : List aV).map (aconc d.2.2.2.2 ad 0)) (aPost d ad σ σ (ar32 v) (some (.int (Int32.ofInt v))) s.heap.size) (va_A (aW0 d ad σ) s.heap.size) := by
      have e9 : (([(0, 0), (3, out)] : List aV).map (aconc d.2.2.2.2 ad 0)) = [.int 0, .ref (ad (out.toNat - 1))] := by
        rw [List.map_cons, List.map_cons, List.map_nil, ho0]
        rfl
      rw [e9, Nat.sub_self, Nat.sub_self]
      have hR2 := t_handed hR (fun E st t h => by rcases h.1 with h | h <;> exact absurd h.2 (by decide))
      have hR3 := va_Run_mono hR2 (fun st oc t h9 => h9.2)
      have z1 : (aput σ out 0 v).2.2.1 - σ.2.2.1 = 0 := Nat.sub_self _
      have z2 : (aput σ out 0 v).2.2.2 - σ.2.2.2 = 0 := Nat.sub_self _
      rw [z1, z2] at hR3 ⊢
      exact hR3
    have hgo9 := a_after (Q := MQ below (fun _ st oc t => aPost d ad σ (aput σ out 0 v) (ar32 0) (some (.int (Int32.ofInt 0))) s.heap.size st oc t) (aArgv d.2.2.2.2 ad [21, 0, 0, 3] [x, i, q, out]).toArray s ((aput σ out 0 v).2.2.1 - σ.2.2.1) ((aput σ out 0 v).2.2.2 - σ.2.2.2) (va_A (aW0 d ad σ) s.heap.size)) (S' := [(0, 0), (3, out)]) hA hst (fun u hu => by simp only [List.mem_cons, List.not_mem_nil, or_false] at hu ⊢; rcases hu with h | h <;> simp [h]) ⟨Nat.le_refl _, Nat.le_refl _⟩ hrun0 (fun hkg ad' H1 locs1 hst1 => ?_)
    · have z1 : σ.2.2.1 - σ.2.2.1 = 0 := Nat.sub_self _
      have z2 : σ.2.2.2 - σ.2.2.2 = 0 := Nat.sub_self _
      rw [z1, z2] at hgo9
      exact hgo9
    · have hL5 : L = [some (21, x), some (0, i), some (0, q), some (3, out), none] := by
        have h := hL1
        simp only [aPl, aentl] at h
        exact (Option.some.inj h).symm
      have hk : aseg F aX0 5 k_ll 8 [v, 0, out, x, i, q, out] σ = some (0, [0], aput σ out 0 v) := by rw [ll_seg, if_pos ⟨by decide, hlen⟩]
      have hrun : arun F aX0 (aMc m_ll) 3000 (afrom 8 k_ll) L [(0, v), (0, 0), (3, out)] σ = some (0, [0], aput σ out 0 v) := by
        rw [hL5]
        exact hk
      obtain ⟨ea, rest, hea, he8, pre, hpre⟩ : ∃ ea rest, afrom 8 k_ll = ea :: rest ∧ ea.1 = 8 ∧ ∃ pre, k_ll = pre ++ ea :: rest := ⟨_, _, rfl, rfl, k_ll.take 6, rfl⟩
      rw [hea] at hrun
      have hno : ∀ ea ∈ aMc m_ll, aInv ea.2.1 = true → ∀ (f kk : Nat) (ts : List Nat), ea.2.2.2.1 = f :: kk :: ts → False := by
        intro ea he hi f kk ts ha
        have h := aCalls_in he hi ha
        rw [show aCalls m_ll = [] by decide +kernel] at h
        cases h
      have hst2 := hst1.stk (S' := [(0, v), (0, 0), (3, out)]) (List.forall_mem_cons.mpr ⟨aGv_int hkg, hst1.2.2.2.2.2.2.1⟩)
      have hres := a_run (F := F) (X := aX0) (ms := aMs) (Q := MQ below (fun _ st oc t => aPost d ad σ (aput σ out 0 v) (ar32 0) (some (.int (Int32.ofInt 0))) s.heap.size st oc t) (aArgv d.2.2.2.2 ad [21, 0, 0, 3] [x, i, q, out]).toArray s ((aput σ out 0 v).2.2.1 - σ.2.2.1) ((aput σ out 0 v).2.2.2 - σ.2.2.2) (va_A (aW0 d ad σ) s.heap.size)) (e := e) (below := below) (ks0 := σ.1) (ad0 := ad) (c0 := σ.2.2.1) (s0 := σ.2.2.2) (r := (0, [0], aput σ out 0 v)) (rf := (0, [0], aput σ out 0 v)) C ll_mok (fun ea he hi f kk ts ha => (hno ea he hi f kk ts ha).elim)
        ⟨Nat.le_add_right _ _, Nat.le_add_right _ _⟩ ⟨Nat.le_refl _, Nat.le_refl _⟩ ?_ (fun _ => ⟨rfl, ?_⟩) ?_ 3000 ea rest L [(0, v), (0, 0), (3, out)] σ ad' ls H1 locs1 ⟨pre, hpre⟩ hrun hst2
      · rw [he8] at hres
        exact hres
      · intro ea he cf sf ad' ls' H locs L' S σ1 f kk ts q vs' σ2 h1 h2 hst' haux hkind hq hwd hF' h3 h4
        have hinv : aInv ea.2.1 = true := by
          rcases hkind with ⟨i, h, -⟩ | ⟨i, h⟩ | ⟨i, h⟩ <;> rw [h] <;> rfl
        exact (hno ea he hinv f kk ts haux).elim
      · intro ea he ad' ls' H locs L' S σ1 hst'
        refine ⟨?_, fun x _ _ _ _ hm => by (cases hm), fun x _ _ _ _ hm => by (cases hm), fun _ _ _ hm => by (cases hm)⟩
        intro y hy hr1 hS2 hd hm
        obtain ⟨hy0, hσ⟩ : y = 0 ∧ σ1 = aput σ out 0 v := by
          have h := hr1
          rw [Prod.mk.injEq, Prod.mk.injEq] at h
          exact ⟨by have := List.cons.inj h.2.1; exact this.1.symm, h.2.2.symm⟩
        subst hy0
        subst hS2
        subst hσ
        refine W.iret hx hb hr (fun t ht hW => ?_) hst'.2.2.1.2.2 hd
        obtain ⟨g1, g2, g3, g4, g5, g6, g7, g8, g9, g10⟩ := hst'
        exact ⟨⟨⟨g4, g10, g8.1, g8.2⟩, hy⟩, ⟨ad', g9, rfl, by rw [ht]; exact g1, g2⟩, g3.F ht⟩
      · intro ea he cc hc ad' ls' H locs L' S σ1 h hst'
        unfold aleaf at h
        split at h
        · split at h
          · cases h
          · cases h
        · cases h
  · refine t_caught hR (fun st t v h => absurd h.1 (by decide)) (fun qq st₀ t Lc E ce h0 hLf hXC hce hcv hcl => ?_)
    obtain ⟨hE, hfa, ad', z1, z2, z3, z4⟩ := hXC
    obtain rfl : E = tIO := by
      rcases hE with h | h
      · exact h.1
      · exact absurd h.2 (by decide)
    refine vx_catch (own := "FloatTownsLaw") (name := tIO) (E := tIO) (ce := ce) hown [] _ _ htab (fun z hz => by cases hz) rfl (by decide) (hts _ ll_13) (hT.bad (by decide +kernel)) hce hcv hcl ?_
    refine lv_astore hx hb lld_13 hlh (by decide) rfl (fun ls' hl' => ?_)
    refine lv_iconst hx hb lld_15 (v := 1) rfl ?_
    refine W.widen (k := (aexn σ 1 6).2.2.1 - σ.2.2.1) (n := (aexn σ 1 6).2.2.2 - σ.2.2.2) (Nat.le_of_eq (Nat.zero_add _)) (Nat.le_of_eq (Nat.zero_add _)) ?_
    refine W.iret hx hb hr (fun t2 ht2 _ => ?_) (fun z hz => hLf z (by simpa using hz)) lld_16
    unfold va_F at z4
    rw [h0] at z4
    exact ⟨⟨⟨hG, aExt.rf _, Nat.le_add_right _ _, Nat.le_add_right _ _⟩, by unfold ar32; omega⟩, ⟨ad', z1, rfl, by rw [ht2]; exact z2, z3⟩, by unfold va_F; rw [ht2]; exact z4⟩
  · refine t_caught hR (fun st t v h => absurd h.1 (by decide)) (fun qq st₀ t Lc E ce h0 hLf hXC hce hcv hcl => ?_)
    obtain ⟨hE, hfa, ad', z1, z2, z3, z4⟩ := hXC
    obtain rfl : E = tNS := by
      rcases hE with h | h
      · exact absurd h.2 (by decide)
      · exact h.1
    refine vx_catch (own := "FloatTownsLaw") (name := tNS) (E := tNS) (ce := ce) hown [_] _ _ htab (fun z hz => ?_) rfl (by decide) (hts _ ll_15) (hT.bad (by decide +kernel)) hce hcv hcl ?_
    · obtain rfl := List.mem_singleton.mp hz
      exact Or.inr ⟨by decide, tIO, hts _ ll_13, hT.2.2.2.2.1⟩
    refine lv_astore hx hb lld_17 hlh (by decide) rfl (fun ls' hl' => ?_)
    refine lv_iconst hx hb lld_19 (v := 2) rfl ?_
    refine W.widen (k := (aexn σ 1 6).2.2.1 - σ.2.2.1) (n := (aexn σ 1 6).2.2.2 - σ.2.2.2) (Nat.le_of_eq (Nat.zero_add _)) (Nat.le_of_eq (Nat.zero_add _)) ?_
    refine W.iret hx hb hr (fun t2 ht2 _ => ?_) (fun z hz => hLf z (by simpa using hz)) lld_20
    unfold va_F at z4
    rw [h0] at z4
    exact ⟨⟨⟨hG, aExt.rf _, Nat.le_add_right _ _, Nat.le_add_right _ _⟩, by unfold ar32; omega⟩, ⟨ad', z1, rfl, by rw [ht2]; exact z2, z3⟩, by unfold va_F; rw [ht2]; exact z4⟩
