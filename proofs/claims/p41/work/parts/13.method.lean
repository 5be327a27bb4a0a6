/-! a method whose pieces come to what F says keeps its contract -/
def aPl : List Nat → Nat → List (Nat × Nat)
  | [], _ => []
  | t :: ts, i => (i, t) :: aPl ts (i + acat (t, 0))
def aPw (ts : List Nat) : Nat := (ts.map fun t => acat (t, 0)).sum
def aEnt (M : aM) : Bool := match aMc M with
  | ea :: _ => Nat.beq ea.1 0 && decide (ea.2.2.2.2.2 = some (aPl (aMp M) 0, [])) && Nat.ble (aPw (aMp M)) (aMn M) && (aMp M).all (fun t => !(Nat.beq t 6))
  | [] => false
theorem acat_t (t : Nat) (x y : Int) : acat (t, x) = acat (t, y) := rfl
theorem lg_len {sa ad : Nat → Nat} {b : Nat} : ∀ (ts : List Nat) (xs : List Int), ts.length = xs.length → (lg_sl ((ts.zip xs).map (aconc sa ad b))).length = aPw ts := by
  intro ts
  induction ts with
  | nil => intro xs h; rfl
  | cons t ts ih =>
    intro xs h
    cases xs with
    | nil => simp at h
    | cons x xs =>
      have := ih xs (by simpa using h)
      unfold lg_sl at this ⊢
      rw [List.zip_cons_cons, List.map_cons, List.flatMap_cons, List.length_append, this]
      unfold aPw
      rw [List.map_cons, List.sum_cons, aconc_cat]
      have h1 : acat (t, x) = 1 ∨ acat (t, x) = 2 := by unfold acat; split <;> simp
      rw [acat_t t 0 x]
      rcases h1 with h1 | h1 <;> rw [h1] <;> simp
theorem aPl_s {sa ad : Nat → Nat} {b : Nat} : ∀ (ts : List Nat) (xs : List Int) (i : Nat) (acc : aL), ts.length = xs.length → ∃ L, aentl (aPl ts i) xs acc = some L ∧ L.length = acc.length ∧ ∀ (k : Nat) (v : aV), L[k]? = some (some v) → acc[k]? = some (some v) ∨ ((k, aconc sa ad b v) ∈ lv_args i ((ts.zip xs).map (aconc sa ad b)) ∧ v ∈ ts.zip xs) := by
  intro ts
  induction ts with
  | nil =>
    intro xs i acc h
    cases xs with
    | nil => exact ⟨acc, rfl, rfl, fun k v hv => Or.inl hv⟩
    | cons _ _ => simp at h
  | cons t ts ih =>
    intro xs i acc h
    cases xs with
    | nil => simp at h
    | cons x xs =>
      obtain ⟨L, h1, h2, h3⟩ := ih xs (i + acat (t, 0)) (acc.set i (some (t, x))) (by simpa using h)
      refine ⟨L, h1, by rw [h2, List.length_set], fun k v hv => ?_⟩
      have hlv : lv_args i (((t :: ts).zip (x :: xs)).map (aconc sa ad b)) = (i, aconc sa ad b (t, x)) :: lv_args (i + acat (t, 0)) ((ts.zip xs).map (aconc sa ad b)) := by
        rw [List.zip_cons_cons, List.map_cons]
        rw [show ∀ (v : Value) (vs : List Value), lv_args i (v :: vs) = (i, v) :: lv_args (if v.category = 2 then i + 2 else i + 1) vs from fun _ _ => rfl, aconc_cat, acat_t t x 0]
        have h1 : acat (t, 0) = 1 ∨ acat (t, 0) = 2 := by unfold acat; split <;> simp
        rcases h1 with h1 | h1 <;> rw [h1] <;> simp
      rw [hlv]
      rcases h3 k v hv with q | ⟨q1, q2⟩
      · by_cases e : i = k
        · subst e
          rw [List.getElem?_set] at q
          simp at q
          rw [← q.2]
          exact Or.inr ⟨List.mem_cons_self, List.mem_cons_self⟩
        · rw [List.getElem?_set_ne e] at q
          exact Or.inl q
      · exact Or.inr ⟨List.mem_cons_of_mem _ q1, List.mem_cons_of_mem _ q2⟩
theorem aCalls_in {M : aM} {ea : aE} (h : ea ∈ aMc M) (hi : aInv ea.2.1 = true) {f kk : Nat} {ts : List Nat} (ha : ea.2.2.2.1 = f :: kk :: ts) : f ∈ aCalls M := by
  unfold aCalls
  refine List.mem_filterMap.mpr ⟨ea, h, ?_⟩
  obtain ⟨pc, ins, len, aux, cst, cut⟩ := ea
  dsimp only at ha hi
  subst ha
  cases ins <;> first | rfl | (simp [aInv] at hi)
/-- as Met.ofW, of a method that no entry stands in for, though its class has such -/
theorem a_MetW {l : Launch} {y : MethodName} {ws ws' : List Cond} {rm : Room} {Pc : Array Value → State → Prop} {Qc : Array Value → State → Outcome → State → Prop} {mc ms : Nat} {free : Addr → Prop} {cc : ByteArray} {maxL : Nat} {ret : Option FieldType}
    (hy : plainFor y = true) (hw : ws = Cond.code y cc maxL ret :: ws')
    (body : ∀ p e s m args below meth c s₁, BodyLoose p l y (headSpec ws rm) cc maxL ret e s m args below meth c s₁ → c.maxLocals = maxL → Pc args s →
      W p l e (headSpec ws rm).room s m args below meth c s.heap [] 0 0 (MQ below Qc args s mc ms free) (entryFrame m args maxL)) : Met l y ws rm Pc Qc mc ms free := by
  refine MetFree.of_bodySF (code := cc) (maxLocals := maxL) (ret := ret) hy ?_ ?_
  · intro args s m h hn
    obtain ⟨meth, c, h1, h2, h3, h4, h5, h6, -, -⟩ := Cond.code_spec hn (atoms_spec (ws := ws) h _ (by rw [hw]; exact List.mem_cons_self))
    exact ⟨meth, c, h1, h2, h3, h4, h5, h6⟩
  · intro p e s m args below meth c s₁ B hml hP _
    have hh0 : s₁.heap = s.heap := by rw [B.state]; rfl
    obtain ⟨t, a1, o, b1, b2, b3⟩ := body p e s m args below meth c s₁ B hml hP s₁ hh0 (Stand.of_body B)
    exact ⟨t, o, a1, b1, b2, ⟨b3.1, b3.2⟩⟩
set_option maxHeartbeats 4000000 in
set_option maxRecDepth 100000 in
theorem a_method {F : Nat → List Int → aS → aR} {ms : List aM} {M : aM} {j : Nat} (hmok : aMok ms M = true) (hW : ∀ w ∈ aMw M, w ∈ aTB) (hent : aEnt M = true) (hgrow : ∀ f ∈ aCalls M, aGrow F f) (hOK : ∀ f ∈ aCalls M, ∀ M', ms[f]? = some M' → aOK F M' f) (hms : ∀ f ∈ aCalls M, (ms[f]?).isSome = true)
    (hsim : ∀ (xs : List Int) (σ : aS) (vs : List Int) (σ' : aS), F j xs σ = some (0, vs, σ') → ∃ n, aiter F aX0 (aMn M) (aMc M) n (1, xs, σ) = some (0, vs, σ')) : aOK F M j ∧ aGrow F j := by
  have hgr : ∀ ea ∈ aMc M, aInv ea.2.1 = true → ∀ f kk ts, ea.2.2.2.1 = f :: kk :: ts → aGrow F f := fun ea he hi f kk ts ha => hgrow f (aCalls_in he hi ha)
  have hgj : aGrow F j := by
    intro xs σ vs σ' h
    obtain ⟨n, hn⟩ := hsim xs σ vs σ' h
    exact aiter_mono hgr n _ _ hn
  refine ⟨?_, hgj⟩
  intro l d ad sz xs σ vs σ' hfl hG harg hF
  obtain ⟨n, hn⟩ := hsim xs σ vs σ' hF
  have hpl : plainFor (aMy M) = true := by
    unfold aMok at hmok
    simp only [Bool.and_eq_true] at hmok
    exact hmok.1.2
  have hrows : ∀ ea ∈ aMc M, aEok ms M ea = true := by
    unfold aMok at hmok
    simp only [Bool.and_eq_true, List.all_eq_true] at hmok
    exact hmok.1.1.1
  obtain ⟨ea0, q0, hcode, hpc0, hcut0, hwid, hno6⟩ : ∃ ea0 q0, aMc M = ea0 :: q0 ∧ ea0.1 = 0 ∧ ea0.2.2.2.2.2 = some (aPl (aMp M) 0, []) ∧ aPw (aMp M) ≤ aMn M ∧ ∀ t ∈ aMp M, t ≠ 6 := by
    unfold aEnt at hent
    split at hent
    · rename_i ea q hc
      simp only [Bool.and_eq_true, decide_eq_true_eq, List.all_eq_true] at hent
      obtain ⟨⟨⟨h1, h2⟩, h3⟩, h4⟩ := hent
      refine ⟨ea, q, hc, Nat.eq_of_beq_eq_true h1, h2, Nat.le_of_ble_eq_true h3, fun t ht e6 => ?_⟩
      have := h4 t ht
      rw [e6] at this
      cases this
    · cases hent
  refine a_MetW (cc := aMb M) (maxL := aMn M) (ret := aMr M) hpl rfl ?_
  intro p e s m args below meth c s₁ B hml hv
  obtain ⟨rfl, hsz, hP, hK, hD0, hstr, hNx⟩ := hv
  have hx := B.exec
  have hb := B.bytes
  have hr := B.returns
  have hts0 := atoms_spec (ws := aWords M) B.pre
  have hts : ∀ w ∈ aTB, w.before (aArgv d.2.2.2.2 ad (aMp M) xs).toArray s = true := fun w hw => hts0 w (List.mem_cons_of_mem _ hw)
  have hown : s.vm.findClass (aMy M).cls = some m.cls := findClass_of_methodNamed B.named
  have hname : meth.name = (aMy M).name := (name_of_methodNamed B.named B.method).1
  have hlocks := B.notSynchronized
  subst hsz
  have hD := hD0.self (sz := s.heap.size)
  have hA : ∀ q : Nat, s.heap.size ≤ q → va_A (aW0 d ad σ) s.heap.size q := fun q h => Or.inr h
  have hl := lv_entry (aArgv d.2.2.2.2 ad (aMp M) xs) (n := aMn M) (by unfold aArgv; rw [lg_len _ _ harg.1]; exact hwid)
  rw [lg_entry_eq]
  generalize (lg_sl (aArgv d.2.2.2.2 ad (aMp M) xs) ++ List.replicate (aMn M - (lg_sl (aArgv d.2.2.2.2 ad (aMp M) xs)).length) Slot.unset).toArray = ls at hl ⊢
  obtain ⟨L, hL1, hL2, hL3⟩ := aPl_s (sa := d.2.2.2.2) (ad := ad) (b := 0) (aMp M) xs 0 (List.replicate (aMn M) none) harg.1
  have hL4 : ∀ (k : Nat) (v : aV), L[k]? = some (some v) → (k, aconc d.2.2.2.2 ad 0 v) ∈ lv_args 0 (aArgv d.2.2.2.2 ad (aMp M) xs) ∧ v ∈ (aMp M).zip xs := by
    intro k v hv
    rcases hL3 k v hv with q | q
    · rw [List.getElem?_replicate] at q
      split at q <;> cases q
    · exact q
  have hst : aSt s (aMn M) d (va_A (aW0 d ad σ) s.heap.size) 0 False σ.2.2.1 σ.2.2.2 ad σ.1 ad ls s.heap [] L [] σ :=
    ⟨hP, hD, va_S.rf, hG, ⟨hl.1, by rw [hL2, List.length_replicate], hl.2.1, fun k v hv => hl.2.2 _ (hL4 k v hv).1⟩, fun k v hv => harg.2 v (hL4 k v hv).2, (fun v hv => by cases hv), ⟨Nat.le_refl _, Nat.le_refl _⟩, fun _ _ => rfl, aExt.rf _⟩
  have C : aCx p l (headSpec (aWords M) ({ frames := aMf M, cells := σ'.2.2.1 - σ.2.2.1, slots := σ'.2.2.2 - σ.2.2.2, locals := aMo M })).room s m (aArgv d.2.2.2.2 ad (aMp M) xs).toArray meth c M d (va_A (aW0 d ad σ) s.heap.size) 0 False aX0 :=
    ⟨hx, hb, hml, hown, hts, hW, hname, hA, hK, hstr, Nat.le_refl _, Nat.le_refl _, fun h => h.elim, hlocks, hfl, hNx⟩
  have hgm := hgj xs σ vs σ' hF
  have hres := a_iter (Q := MQ below (fun _ st oc t => aPost d ad σ σ' (aRg (aMr M) vs) (aRv (aMr M) vs) s.heap.size st oc t) (aArgv d.2.2.2.2 ad (aMp M) xs).toArray s (σ'.2.2.1 - σ.2.2.1) (σ'.2.2.2 - σ.2.2.2) (va_A (aW0 d ad σ) s.heap.size))
    (e := e) (below := below) (ks0 := σ.1) (ad0 := ad) (c0 := σ.2.2.1) (s0 := σ.2.2.2) (rf := (0, vs, σ')) C hmok hgr
    ⟨by show σ'.2.2.1 ≤ σ.2.2.1 + (σ'.2.2.1 - σ.2.2.1); omega, by show σ'.2.2.2 ≤ σ.2.2.2 + (σ'.2.2.2 - σ.2.2.2); omega⟩ ?_ ?_ n 0 xs σ hn ea0 q0 (aPl (aMp M) 0, []) L [] ad ls s.heap [] (by rw [hcode]; unfold afrom; rw [hpc0]) hcut0 (by unfold aent; show (match aentl (aPl (aMp M) 0) xs (List.replicate (aMn M) none) with | some L => some (L, ([] : List aV)) | none => none) = _; rw [hL1]) hst
  · rw [hpc0] at hres
    show W _ _ _ _ _ _ _ _ _ _ _ _ 0 0 _ _
    have e1 : σ.2.2.1 - σ.2.2.1 = 0 := Nat.sub_self _
    have e2 : σ.2.2.2 - σ.2.2.2 = 0 := Nat.sub_self _
    unfold aW at hres
    rw [e1, e2] at hres
    exact hres
  · intro ea he cf sf ad' ls' H locs L' S σ1 f kk ts q vs' σ2 h1 h2 hst' haux hkind hq hwd hF' h3 h4
    have hinv : aInv ea.2.1 = true := by
      rcases hkind with ⟨i, h, -⟩ | ⟨i, h⟩ | ⟨i, h⟩ <;> rw [h] <;> rfl
    exact a_callOK (ms := ms) (X := aX0) (r := (0, [], (σ1.1, σ1.2.1, cf, sf))) C ⟨h1, h2⟩ (hrows ea he) hst' (hOK f (aCalls_in he hinv haux)) (hms f (aCalls_in he hinv haux)) (hgr ea he hinv f kk ts haux) haux hkind hq hwd hF' h3 h4
  · intro ea he ad' ls' H locs L' S σ1 hst'
    have hend : ∀ (t : State) (v : Option Value) (kg : Prop), kg → t.heap = H → σ1 = σ' → aPost d ad σ σ' kg v s.heap.size s (.returned v) t := by
      intro t v kg hkg ht hσ
      subst hσ
      obtain ⟨g1, g2, g3, g4, g5, g6, g7, g8, g9, g10⟩ := hst'
      exact ⟨⟨⟨g4, g10, g8.1, g8.2⟩, hkg⟩, ⟨ad', g9, rfl, by rw [ht]; exact g1, g2⟩, g3.F ht⟩
    refine ⟨?_, ?_, ?_, ?_⟩
    · intro x hx1 hr1 hS hd hm
      cases hr1
      subst hS
      exact W.iret hx hb (hr.trans hm) (fun t ht hW => by rw [hm]; exact hend t _ _ hx1 ht rfl) hst'.2.2.1.2.2 hd
    · intro x hx1 hr1 hS hd hm
      cases hr1
      subst hS
      refine W.zret hx hb (hr.trans hm) (by rcases hx1 with z | z <;> rw [z] <;> rfl) (fun t ht hW => by rw [hm]; exact hend t _ _ hx1 ht rfl) hst'.2.2.1.2.2 hd
    · intro x hx1 hr1 hS hd hm
      cases hr1
      subst hS
      exact W.lret hx hb (hr.trans hm) (fun t ht hW => by rw [hm]; exact hend t _ _ hx1 ht rfl) hst'.2.2.1.2.2 hd
    · intro hr1 hS hd hm
      cases hr1
      subst hS
      exact W.vret hx hb (hr.trans hm) (fun t ht hW => by rw [hm]; exact hend t _ _ trivial ht rfl) hst'.2.2.1.2.2 hd
