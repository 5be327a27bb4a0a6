/-! a call of a method that keeps its contract -/
theorem aTB_good {w : Cond} (h : w ∈ aTB) : (w.onTables && w.keeps) = true ∨ ∃ ty, w = .arrayClass ty := good_of_word (List.mem_filter.mp h).2
theorem aWords_in {M : aM} (h : Cond.code (aMy M) (aMb M) (aMn M) (aMr M) ∈ aTB) : GoodIn aTB (aWords M) := by
  intro w hw
  rcases List.mem_cons.mp hw with rfl | hw
  · exact ⟨h, aTB_good h⟩
  · exact ⟨hw, aTB_good hw⟩
theorem aPre_blind {d : aD} {ad : Nat → Nat} {σ : aS} {av : List Value} {sz : Nat} : FrameBlind (aPre d ad σ av sz) := by
  rintro a U g mk ⟨h1, h2, h3, h4, h5, h6, h7⟩
  exact ⟨h1, h2, h3, va_K.moved (u := U) (U := U.calling g mk a) (Vm.Alike.refl U.vm) h4, h5, h6.calling, h7.calling⟩
theorem aKv_of {r : Option FieldType} {k : Nat} {vs : List Int} (h : aRk r k = true) (hg : aRg r vs) : aKv k vs = aRv r vs ∧ aKg k vs := by
  unfold aRk at h
  split at h
  · unfold aRg at hg; split at hg <;> simp_all [aKv, aRv, aKg]
  · unfold aRg at hg; split at hg <;> simp_all [aKv, aRv, aKg]
  · unfold aRg at hg; split at hg <;> simp_all [aKv, aRv, aKg]
    unfold ar32; omega
  · unfold aRg at hg; split at hg <;> simp_all [aKv, aRv, aKg]
  · unfold aRg at hg; split at hg <;> simp_all [aKv, aRv, aKg]
  · cases h
theorem aRk0 {r : Option FieldType} (h : aRk r 0 = true) : r = none := by
  cases r with
  | none => rfl
  | some t => cases t <;> simp [aRk] at h
theorem aPost_kv {d : aD} {ad : Nat → Nat} {σ σ' : aS} {k1 k2 : Prop} {v1 v2 : Option Value} {sz : Nat} {st t : State} {oc : Outcome} (h : k1 → v2 = v1 ∧ k2) (h9 : aPost d ad σ σ' k1 v1 sz st oc t) : aPost d ad σ σ' k2 v2 sz st oc t := by
  obtain ⟨⟨h1, h2⟩, h3⟩ := h9
  obtain ⟨h4, h5⟩ := h h2
  rw [h4]
  exact ⟨⟨h1, h5⟩, h3⟩
section ACALL
variable {p : Program} {l : Launch} {e : Env} {R : Room} {s : State} {m : MethodId} {args : Array Value} {below : List Frame} {meth : Method} {c : Code}
variable {ms : List aM} {M : aM} {d : aD} {A : Nat → Prop} {b : Nat} {hX : Prop} {X : aX} {c0 s0 : Nat} {ad0 : Nat → Nat} {ks0 : aK} {F : Nat → List Int → aS → aR}
theorem va_Run_mono {H : Heap} {locs : List Loc} {cells slots mc mss : Nat} {g : JFrame} {rest : List Value} {Qa Qb : State → Outcome → State → Prop} {free : Addr → Prop} (h : va_Run p l e R s m args below meth c H locs cells slots mc mss g rest Qa free) (hq : ∀ st oc t, Qa st oc t → Qb st oc t) : va_Run p l e R s m args below meth c H locs cells slots mc mss g rest Qb free := by
  intro T hT X
  obtain ⟨v, st₀, t, T', L, h0, X', hL, e1, e2, q, st⟩ := h T hT X
  exact ⟨v, st₀, t, T', L, h0, X', hL, e1, e2, hq _ _ _ q, st⟩
set_option maxHeartbeats 4000000 in
set_option maxRecDepth 100000 in
theorem a_callOK {r : Nat × List Int × aS} (C : aCx p l R s m args meth c M d A b hX X) (hb1 : r.2.2.2.2.1 ≤ c0 + R.cells ∧ r.2.2.2.2.2 ≤ s0 + R.slots) {ea : aE} (hok : aEok ms M ea = true)
    {ad : Nat → Nat} {ls : Array Slot} {H : Heap} {locs : List Loc} {L : aL} {S : List aV} {σ : aS} (hst : aSt s (aMn M) d A b hX c0 s0 ad0 ks0 ad ls H locs L S σ)
    {f kk : Nat} {ts : List Nat} {q : List Int × List aV} {vs : List Int} {σ' : aS} (hOK : ∀ M', ms[f]? = some M' → aOK F M' f) (hsm : (ms[f]?).isSome = true) (hgr : aGrow F f) (haux : ea.2.2.2.1 = f :: kk :: ts)
    (hkind : (∃ i, ea.2.1 = .invokespecial i ∧ kk = 0) ∨ (∃ i, ea.2.1 = .invokevirtual i) ∨ (∃ i, ea.2.1 = .invokestatic i)) (hq : apops ts S = some q) (hwd : Nat.ble (awid q.2) 8 = true) (hF : F f q.1 σ = some (0, vs, σ')) (hm1 : σ'.2.2.1 ≤ r.2.2.2.2.1) (hm2 : σ'.2.2.2 ≤ r.2.2.2.2.2) :
    (σ.2.2.1 ≤ σ'.2.2.1 ∧ σ.2.2.2 ≤ σ'.2.2.2) ∧ va_Run p l e R s m args below meth c H locs (σ.2.2.1 - c0) (σ.2.2.2 - s0) (σ'.2.2.1 - σ.2.2.1) (σ'.2.2.2 - σ.2.2.2) (F0 m ea.1 ls (S.map (aconc d.2.2.2.2 ad b))) (q.2.map (aconc d.2.2.2.2 ad b)) (aPost d ad σ σ' (aKg kk vs) (aKv kk vs) H.size) (va_A (aW0 d ad σ) H.size) := by
  obtain ⟨hx, hb, hml, hown, hts, hMw, hname, hA, hK, hstr, hRf, hRo, hXs, hlk, hfl, hNx⟩ := id C
  obtain ⟨pc, ins, len, aux, cst, cut⟩ := ea
  dsimp only at haux hkind
  subst haux
  unfold aEok at hok
  simp only [Bool.and_eq_true, decide_eq_true_eq] at hok
  obtain ⟨⟨hdec, hil⟩, hok⟩ := hok
  have hg : ∀ v ∈ S, aGv σ.1 hX v := hst.2.2.2.2.2.2.1
  have hLo : aLok d.2.2.2.2 ad b ls (aMn M) L := hst.2.2.2.2.1
  obtain ⟨hlen, hS⟩ := apops_s hq
  have hwd := Nat.le_of_ble_eq_true hwd
  have hct := hst.2.2.2.2.2.2.2.1
  have hgro := hgr _ _ _ _ hF
  refine ⟨hgro, ?_⟩
  -- what every kind of call shares
  have hcore : ∀ M', ms[f]? = some M' → aCok M M' 0 kk ts (aMw M) = true → ∀ (n : Nat), aArity (aMy M') n = true →
      (aRg (aMr M') vs → aKv kk vs = aRv (aMr M') vs ∧ aKg kk vs) ∧
      Met l (aMy M') (aWords M') ({ frames := aMf M', cells := σ'.2.2.1 - σ.2.2.1, slots := σ'.2.2.2 - σ.2.2.2, locals := aMo M' }) (aPre d ad σ (aArgv d.2.2.2.2 ad (aMp M') q.1) H.size) (fun _ st oc t => aPost d ad σ σ' (aRg (aMr M') vs) (aRv (aMr M') vs) H.size st oc t) (σ'.2.2.1 - σ.2.2.1) (σ'.2.2.2 - σ.2.2.2) (va_A (aW0 d ad σ) H.size) ∧
      (aArgv d.2.2.2.2 ad (aMp M') q.1 = ((aMp M').zip q.1).map (aconc d.2.2.2.2 ad b)) ∧ S = ((aMp M').zip q.1).reverse ++ q.2 ∧ (aMp M').length = q.1.length ∧
      (∀ U : State, U.heap = H → s.WarmedH U.vm → aPre d ad σ (aArgv d.2.2.2.2 ad (aMp M') q.1) H.size (aArgv d.2.2.2.2 ad (aMp M') q.1).toArray U) ∧ ts = (aMp M').reverse ∧
      GoodIn aTB (aWords M') ∧ (Cond.initialized (aMy M').cls).before args s = true ∧ ((aMy M').cls ≠ "java/lang/invoke/MethodHandle" ∧ (aMy M').cls ≠ "java/lang/invoke/VarHandle" ∧ (parseMethodDescriptor (aMy M').desc).map (fun d => d.parameters.length) = some n) ∧ (aMf M' + 1 ≤ R.frames ∧ 8 + (aMn M' + 11) + aMo M' ≤ R.locals) ∧ (σ.2.2.1 - c0 + (σ'.2.2.1 - σ.2.2.1) ≤ R.cells ∧ σ.2.2.2 - s0 + (σ'.2.2.2 - σ.2.2.2) ≤ R.slots) := by
    intro M' hM' hc n har
    unfold aCok at hc
    simp only [Bool.and_eq_true, decide_eq_true_eq, List.all_eq_true] at hc
    obtain ⟨⟨⟨⟨⟨⟨⟨⟨h1, h2⟩, h3⟩, h4⟩, h5⟩, h6⟩, h7⟩, h8⟩, h9⟩ := hc
    have hrev : ts.reverse = aMp M' := by rw [h7, List.reverse_reverse]
    rw [hrev] at hS
    have hl2 : (aMp M').length = q.1.length := by rw [hlen, h7, List.length_reverse]
    have hz : ∀ z ∈ (aMp M').zip q.1, aGv σ.1 hX z ∧ z.1 ≠ 6 := by
      intro z hz
      refine ⟨hg z (by rw [hS]; exact List.mem_append_left _ (List.mem_reverse.mpr hz)), ?_⟩
      have ht : z.1 ∈ aMp M' := (List.of_mem_zip (a := z.1) (b := z.2) hz).1
      have := h9 z.1 (by rw [h7]; exact List.mem_reverse.mpr ht)
      intro e6
      rw [e6] at this
      cases this
    have harg : aArg σ.1 (aMp M') q.1 := ⟨hl2, fun z hzz => aGv_no6 (hz z hzz).1 (hz z hzz).2⟩
    have hMet := hOK M' hM' l d ad H.size q.1 σ vs σ' hfl hst.2.2.2.1 harg hF
    have hav : aArgv d.2.2.2.2 ad (aMp M') q.1 = ((aMp M').zip q.1).map (aconc d.2.2.2.2 ad b) := List.map_congr_left fun z hzz => aconc_b (hz z hzz).1 (hz z hzz).2
    have h4 := Nat.le_of_ble_eq_true h4
    have h5 := Nat.le_of_ble_eq_true h5
    have hfree : ∀ z, va_A (aW0 d ad σ) H.size z → A z := by
      rintro z (⟨k, x, hk⟩ | h)
      · exact hst.2.1.2 k _ hk
      · exact hA z (Nat.le_trans hst.2.2.1.1 h)
    unfold aArity at har
    simp only [decide_eq_true_eq] at har
    refine ⟨aKv_of h6, hMet, hav, hS, hl2, fun U hU hW => ⟨rfl, by rw [hU], by rw [hU]; exact hst.1, va_K.moved hW.alike hK, hst.2.1.weaken (fun _ _ _ _ => trivial), ?_, hNx.warm hW⟩, h7, aWords_in (hMw _ h1), hts _ (hMw _ h2), ⟨h3.1, h3.2, har⟩, ⟨by omega, by omega⟩, ?_⟩
    · rw [hU]
      exact hstr.to hW (fun a h1 h2 => hst.2.2.1.2.1 a h1 h2) hfree
    · have := hgro.1
      have := hgro.2
      omega
  -- the receiver
  have hrecv : ∀ M', ms[f]? = some M' → S = ((aMp M').zip q.1).reverse ++ q.2 → (aMp M').length = q.1.length → ts = (aMp M').reverse → 1 ≤ ts.length → (∀ t0 ∈ ts.getLast?, 2 ≤ t0) →
      ∃ (t0 : Nat) (x0 : Int) (zs : List aV) (a : Nat), (aMp M').zip q.1 = (t0, x0) :: zs ∧ ts.getLast? = some t0 ∧ aconc d.2.2.2.2 ad b (t0, x0) = .ref a ∧ aGv σ.1 hX (t0, x0) ∧ zs.length + 1 = ts.length := by
    intro M' hM' hS2 hl2 hts2 h1 ht0
    cases hp : aMp M' with
    | nil => rw [hts2, hp] at h1; simp at h1
    | cons t0 pp =>
      cases hq1 : q.1 with
      | nil => rw [hp, hq1] at hl2; simp at hl2
      | cons x0 xx =>
        have hgl : ts.getLast? = some t0 := by rw [hts2, hp]; simp
        have hgz : aGv σ.1 hX (t0, x0) := hg _ (by rw [hS2, hp, hq1]; simp)
        obtain ⟨a, ha⟩ := aGv_isref (sa := d.2.2.2.2) (ad := ad) (b := b) hgz (ht0 t0 hgl)
        refine ⟨t0, x0, pp.zip xx, a, rfl, hgl, ha, hgz, ?_⟩
        rw [hp, hq1] at hl2
        simp at hl2
        rw [hts2, hp]
        simp [hl2]
  rcases hkind with ⟨i, rfl, rfl⟩ | ⟨i, rfl⟩ | ⟨i, rfl⟩
  · have hok : (match ms[f]? with
      | some M' => aCok M M' i 0 ts (aMw M) && aLink (aMy M).cls i (aMy M') (aMw M) && decide (Cond.instanceMethod (aMy M') ∈ aMw M) && decide ((aMy M').name = "<init>") && aArity (aMy M') (ts.length - 1) && Nat.ble 1 ts.length && ts.getLast?.any (fun t => Nat.ble 2 t)
      | none => false) = true := hok
    cases hM' : ms[f]? with
    | none => rw [hM'] at hok; cases hok
    | some M' =>
      rw [hM'] at hok
      simp only [Bool.and_eq_true, decide_eq_true_eq] at hok
      obtain ⟨⟨⟨⟨⟨⟨hc, hlink⟩, hin⟩, hini⟩, har⟩, h1⟩, hlk2⟩ := hok
      obtain ⟨hkv, hMet, hav, hS2, hl2, hpre, hts2, hG, hinit, hd, hR, hbnd⟩ := hcore M' hM' hc _ har
      have h1 := Nat.le_of_ble_eq_true h1
      refine va_Run_mono ?_ (fun st oc t h9 => aPost_kv hkv h9)
      have hret : aMr M' = none := by
        unfold aCok at hc
        simp only [Bool.and_eq_true] at hc
        exact aRk0 hc.1.1.1.2
      have hlast : ∀ t0 ∈ ts.getLast?, 2 ≤ t0 := by
        intro t0 ht0
        have : ts.getLast? = some t0 := ht0
        rw [this] at hlk2
        simp only [Option.any_some] at hlk2
        exact Nat.le_of_ble_eq_true hlk2
      obtain ⟨t0, x0, zs, a, e1, e2, e3, e4, e5⟩ := hrecv M' hM' hS2 hl2 hts2 h1 hlast
      rw [e1, List.map_cons, e3] at hav
      have hst2 : S.map (aconc d.2.2.2.2 ad b) = (zs.map (aconc d.2.2.2.2 ad b)).reverse ++ .ref a :: q.2.map (aconc d.2.2.2.2 ad b) := by
        rw [hS2, e1]; simp [e3]
      rw [hav] at hMet hpre
      have hn : (zs.map (aconc d.2.2.2.2 ad b)).length = ts.length - 1 := by rw [List.length_map]; omega
      have hwd2 : 2 * (F0 m pc ls (S.map (aconc d.2.2.2.2 ad b))).monitorRoom + ((q.2.map (aconc d.2.2.2.2 ad b)).map fun v => v.category).sum ≤ 8 := lv_room (by rw [awid_eq]; exact hwd)
      obtain rfl := Nat.eq_of_beq_eq_true hil
      unfold aLink at hlink
      simp only [Bool.or_eq_true, decide_eq_true_eq] at hlink
      rcases hlink with hlink | hlink
      · have cw := callB_of (maxL := aMn M') (bytes := aMb M') (ret := aMr M') (rm := ({ frames := aMf M', cells := σ'.2.2.1 - σ.2.2.1, slots := σ'.2.2.2 - σ.2.2.2, locals := aMo M' } : Room)) (ts.length - 1) hts hG rfl rfl rfl hinit (hts _ (hMw _ hlink)) hd hR
        rw [hret] at cw
        exact va_runI (As := zs.map (aconc d.2.2.2.2 ad b)) ⟨hx, hb, hml, hown, hts⟩ hMet ⟨cw, hini, hts _ (hMw _ hin)⟩ ⟨aPre_blind, hpre⟩ rfl hn hLo.1 hst2 hwd2 hdec hbnd
      · have cw := va_cnB (maxL := aMn M') (bytes := aMb M') (ret := aMr M') (rm := ({ frames := aMf M', cells := σ'.2.2.1 - σ.2.2.1, slots := σ'.2.2.2 - σ.2.2.2, locals := aMo M' } : Room)) (ts.length - 1) hts hG rfl rfl rfl (hNx.1 _ hlink) hinit hd hR
        rw [hret] at cw
        exact va_runIN (As := zs.map (aconc d.2.2.2.2 ad b)) ⟨hx, hb, hml, hown, hts⟩ hMet ⟨cw, hini, hts _ (hMw _ hin)⟩ ⟨aPre_blind, hpre⟩ rfl hn hLo.1 hst2 hwd2 hdec hbnd
  · dsimp only at hok
    cases hM' : ms[f]? with
    | none => rw [hM'] at hok; cases hok
    | some M' =>
      rw [hM'] at hok
      simp only [Bool.and_eq_true, decide_eq_true_eq, Bool.or_eq_true] at hok
      obtain ⟨⟨⟨⟨⟨hc, hlink⟩, hin⟩, hsel⟩, har⟩, hrc⟩ := hok
      obtain ⟨hkv, hMet, hav, hS2, hl2, hpre, hts2, hG, hinit, hd, hR, hbnd⟩ := hcore M' hM' hc _ har
      refine va_Run_mono ?_ (fun st oc t h9 => aPost_kv hkv h9)
      have hlast : ∀ t0 ∈ ts.getLast?, 2 ≤ t0 := by
        intro t0 ht0
        have : ts.getLast? = some t0 := ht0
        rcases hrc with ⟨z, -⟩ | ⟨z, -⟩
        · rw [this] at z; have := Option.some.inj z; omega
        · rw [this] at z; have := Option.some.inj z; omega
      have h1 : 1 ≤ ts.length := by
        cases hts3 : ts with
        | nil => rw [hts3] at hrc; simp at hrc
        | cons _ _ => simp
      obtain ⟨t0, x0, zs, a, e1, e2, e3, e4, e5⟩ := hrecv M' hM' hS2 hl2 hts2 h1 hlast
      rw [e1, List.map_cons, e3] at hav
      have hst2 : S.map (aconc d.2.2.2.2 ad b) = (zs.map (aconc d.2.2.2.2 ad b)).reverse ++ .ref a :: q.2.map (aconc d.2.2.2.2 ad b) := by
        rw [hS2, e1]; simp [e3]
      rw [hav] at hMet hpre
      have hn : (zs.map (aconc d.2.2.2.2 ad b)).length = ts.length - 1 := by rw [List.length_map]; omega
      have hwd2 : 2 * (F0 m pc ls (S.map (aconc d.2.2.2.2 ad b))).monitorRoom + ((q.2.map (aconc d.2.2.2.2 ad b)).map fun v => v.category).sum ≤ 8 := lv_room (by rw [awid_eq]; exact hwd)
      obtain rfl := Nat.eq_of_beq_eq_true hil
      have hcell : ∃ cellB : Cell, H[a]? = some cellB ∧ cellB.vm.isStatics = false ∧ s.vm.findClass (aMy M').cls = some cellB.cls := by
        rcases hrc with ⟨z, z2, z3⟩ | ⟨z, z2⟩
        · rw [e2] at z
          have ht0 : t0 = 10 + (ts.getLastD 0 - 10) := Option.some.inj z
          obtain ⟨k, n, x1, hk1⟩ := aGv_ref e4 (by rw [ht0]; exact aisR_10 _)
          have hca : a = ad k := by
            rw [aconc_ref (by rw [ht0]; exact aisR_10 _) (by omega), x1] at e3
            have := Value.ref.inj e3
            rw [← this]
            congr 1
          have hw := aWs_get (cI := d.2.1) (cL := d.2.2.1) (cS := d.2.2.2.1) (sa := d.2.2.2.2) (ad := ad) hk1
          rw [ht0, aCell_obj] at hw
          have hcl : vwCl[ts.getLastD 0 - 10]? = some (aC1 (ts.getLastD 0 - 10), (aT (ts.getLastD 0 - 10), aNf (ts.getLastD 0 - 10))) := by
            generalize ts.getLastD 0 - 10 = ci at z3
            rcases (show ci = 0 ∨ ci = 1 ∨ ci = 2 ∨ ci = 3 ∨ ci = 4 ∨ ci = 5 ∨ ci = 6 ∨ ci = 7 ∨ ci = 8 ∨ ci = 9 ∨ ci = 10 ∨ ci = 11 by omega) with rfl | rfl | rfl | rfl | rfl | rfl | rfl | rfl | rfl | rfl | rfl | rfl <;> rfl
          have := va_recv (q := (aC1 (ts.getLastD 0 - 10), (aT (ts.getLastD 0 - 10), aNf (ts.getLastD 0 - 10)))) hK hst.1 hcl hw
          rw [hca, ← z2]
          exact this
        · rw [e2] at z
          have ht0 : t0 = 5 := Option.some.inj z
          subst ht0
          obtain ⟨tx, ln, byt, adV, -, hs1, -⟩ := hstr
          have hx0 : x0 = 0 := e4.2.2.1 rfl
          subst hx0
          have hca : a = d.2.2.2.2 0 := (Value.ref.inj e3).symm
          have := vk_recv (i := 0) hs1 (by decide) hst.2.2.1
          rw [hca, z2]
          exact this
      unfold aLink at hlink
      simp only [Bool.or_eq_true, decide_eq_true_eq] at hlink
      rcases hlink with hlink | hlink
      · have cw := callB_of (maxL := aMn M') (bytes := aMb M') (ret := aMr M') (rm := ({ frames := aMf M', cells := σ'.2.2.1 - σ.2.2.1, slots := σ'.2.2.2 - σ.2.2.2, locals := aMo M' } : Room)) (ts.length - 1) hts hG rfl rfl rfl hinit (hts _ (hMw _ hlink)) hd hR
        exact va_runV (C := (aMy M').cls) (As := zs.map (aconc d.2.2.2.2 ad b)) ⟨hx, hb, hml, hown, hts⟩ hMet ⟨cw, hts _ (hMw _ hin), hts _ (hMw _ hsel)⟩ ⟨aPre_blind, hcell, hpre⟩ rfl hn hLo.1 hst2 hwd2 hdec hbnd
      · have cw := va_cnB (maxL := aMn M') (bytes := aMb M') (ret := aMr M') (rm := ({ frames := aMf M', cells := σ'.2.2.1 - σ.2.2.1, slots := σ'.2.2.2 - σ.2.2.2, locals := aMo M' } : Room)) (ts.length - 1) hts hG rfl rfl rfl (hNx.1 _ hlink) hinit hd hR
        exact va_runVN (C := (aMy M').cls) (As := zs.map (aconc d.2.2.2.2 ad b)) ⟨hx, hb, hml, hown, hts⟩ hMet ⟨cw, hts _ (hMw _ hin), hts _ (hMw _ hsel)⟩ ⟨aPre_blind, hcell, hpre⟩ rfl hn hLo.1 hst2 hwd2 hdec hbnd
  · dsimp only at hok
    ·
      cases hM' : ms[f]? with
      | none => rw [hM'] at hsm; cases hsm
      | some M' =>
        rw [hM'] at hok
        simp only [Bool.and_eq_true, decide_eq_true_eq] at hok
        obtain ⟨⟨⟨hc, hlink⟩, hstc⟩, har⟩ := hok
        obtain ⟨hkv, hMet, hav, hS2, hl2, hpre, hts2, hG, hinit, hd, hR, hbnd⟩ := hcore M' hM' hc _ har
        refine va_Run_mono ?_ (fun st oc t h9 => aPost_kv hkv h9)
        have hst2 : S.map (aconc d.2.2.2.2 ad b) = (aArgv d.2.2.2.2 ad (aMp M') q.1).reverse ++ q.2.map (aconc d.2.2.2.2 ad b) := by
          rw [hav]; conv => lhs; rw [hS2]
          simp
        have hn : (aArgv d.2.2.2.2 ad (aMp M') q.1).length = ts.length := by
          unfold aArgv
          rw [List.length_map, List.length_zip, hlen, hts2, List.length_reverse]
          omega
        have hwd2 : 2 * (F0 m pc ls (S.map (aconc d.2.2.2.2 ad b))).monitorRoom + ((q.2.map (aconc d.2.2.2.2 ad b)).map fun v => v.category).sum ≤ 8 := lv_room (by rw [awid_eq]; exact hwd)
        obtain rfl := Nat.eq_of_beq_eq_true hil
        unfold aLink at hlink
        simp only [Bool.or_eq_true, decide_eq_true_eq] at hlink
        rcases hlink with hlink | hlink
        · have cw := callB_of (maxL := aMn M') (bytes := aMb M') (ret := aMr M') (rm := ({ frames := aMf M', cells := σ'.2.2.1 - σ.2.2.1, slots := σ'.2.2.2 - σ.2.2.2, locals := aMo M' } : Room)) ts.length hts hG rfl rfl rfl hinit (hts _ (hMw _ hlink)) hd hR
          exact va_runS (As := aArgv d.2.2.2.2 ad (aMp M') q.1) ⟨hx, hb, hml, hown, hts⟩ hMet ⟨cw, hts _ (hMw _ hstc)⟩ ⟨aPre_blind, hpre⟩ rfl hn hLo.1 hst2 hwd2 hdec hbnd
        · have cw := va_cnB (maxL := aMn M') (bytes := aMb M') (ret := aMr M') (rm := ({ frames := aMf M', cells := σ'.2.2.1 - σ.2.2.1, slots := σ'.2.2.2 - σ.2.2.2, locals := aMo M' } : Room)) ts.length hts hG rfl rfl rfl (hNx.1 _ hlink) hinit hd hR
          exact va_runSN (As := aArgv d.2.2.2.2 ad (aMp M') q.1) ⟨hx, hb, hml, hown, hts⟩ hMet ⟨cw, hts _ (hMw _ hstc), trivial⟩ ⟨aPre_blind, hpre⟩ rfl hn hLo.1 hst2 hwd2 hdec hbnd
end ACALL
