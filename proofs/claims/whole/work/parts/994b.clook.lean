/-! FloatTowns.look: what it hands back, what it throws -/
theorem lc_0 : (Cond.fieldLink "FloatTowns" 67 "FloatTowns" "plan" "LFloatTowns$Plan;" : Cond) ∈ aTB := q664
theorem lc_1 : (Cond.methodLink "FloatTowns" 124 yX11_isSort : Cond) ∈ aTB := q712
theorem lc_2 : (Cond.code yX11_isSort cX11_isSort 2 (some .boolean) : Cond) ∈ aTB := q713
theorem lc_3 : (Cond.initialized "FloatTowns" : Cond) ∈ aTB := q29
theorem lc_4 : (Cond.instanceMethod yX11_isSort : Cond) ∈ aTB := q714
theorem lc_5 : (Cond.selects "FloatTowns" yX11_isSort yX11_isSort : Cond) ∈ aTB := q715
theorem lc_6 : (Cond.methodLink "FloatTowns" 139 yX4_figure : Cond) ∈ aTB := ch_in (ch_6 _ (List.mem_of_getElem? (i := 199) (by decide +kernel))) (by decide +kernel)
theorem lc_7 : (Cond.code yX4_figure cX4_figure 3 (some .int) : Cond) ∈ aTB := q66
theorem lc_8 : (Cond.initialized "FloatTowns$Plan" : Cond) ∈ aTB := q20
theorem lc_9 : (Cond.instanceMethod yX4_figure : Cond) ∈ aTB := q67
theorem lc_10 : (Cond.selects "FloatTowns$Plan" yX4_figure yX4_figure : Cond) ∈ aTB := q68
def w_cl : List Cond := [.fieldLink "FloatTowns" 67 "FloatTowns" "plan" "LFloatTowns$Plan;", .methodLink "FloatTowns" 124 yX11_isSort, .code yX11_isSort cX11_isSort 2 (some .boolean), .initialized "FloatTowns", .instanceMethod yX11_isSort, .selects "FloatTowns" yX11_isSort yX11_isSort, .methodLink "FloatTowns" 139 yX4_figure, .code yX4_figure cX4_figure 3 (some .int), .initialized "FloatTowns$Plan", .instanceMethod yX4_figure, .selects "FloatTowns$Plan" yX4_figure yX4_figure]
theorem w_cl_in : ∀ w ∈ w_cl, w ∈ aTB := List.forall_mem_cons.mpr ⟨lc_0, List.forall_mem_cons.mpr ⟨lc_1, List.forall_mem_cons.mpr ⟨lc_2, List.forall_mem_cons.mpr ⟨lc_3, List.forall_mem_cons.mpr ⟨lc_4, List.forall_mem_cons.mpr ⟨lc_5, List.forall_mem_cons.mpr ⟨lc_6, List.forall_mem_cons.mpr ⟨lc_7, List.forall_mem_cons.mpr ⟨lc_8, List.forall_mem_cons.mpr ⟨lc_9, List.forall_mem_cons.mpr ⟨lc_10, fun _ h => absurd h List.not_mem_nil⟩⟩⟩⟩⟩⟩⟩⟩⟩⟩⟩
def k_cl : List aE := [(0, .aload_n 0, 1, [], 0, some ([(0, 21), (1, 0), (2, 0)], [])), (1, .iload_n 1, 1, [], 0, none), (2, .invokevirtual 124, 3, [169, 1, 0, 21], 0, none), (5, .ifCond .ne 13, 3, [], 0, none), (8, .new 127, 3, [], 0, some ([(0, 21), (1, 0), (2, 0)], [])), (11, .dup, 1, [], 0, none), (12, .ldc 129, 2, [], 0, none), (14, .invokespecial 131, 3, [5], 0, none), (17, .athrow, 1, [], 0, none), (18, .iload_n 2, 1, [], 0, none), (19, .ifCond .lt 8, 3, [], 0, none), (22, .iload_n 2, 1, [], 0, none), (23, .iconst 4, 1, [], 0, none), (24, .if_icmp .lt 13, 3, [], 0, none), (27, .new 134, 3, [], 0, some ([(0, 21), (1, 0), (2, 0)], [])), (30, .dup, 1, [], 0, none), (31, .ldc 136, 2, [], 0, none), (33, .invokespecial 138, 3, [5], 0, none), (36, .athrow, 1, [], 0, none), (37, .aload_n 0, 1, [], 0, none), (38, .getfield 67, 3, [11, 7, 14], 0, none), (41, .iload_n 1, 1, [], 0, none), (42, .iload_n 2, 1, [], 0, none), (43, .invokevirtual 139, 3, [39, 1, 0, 0, 14], 0, none), (46, .ireturn, 1, [0], 0, none)]
def m_cl : aM := (yX11_look, cX11_look, 3, (some .int), [21, 0, 0], 6, 82, w_cl, k_cl)
theorem cl_mok : aMok aMs m_cl = true := by decide +kernel
theorem lq_code : (Cond.code yX11_look cX11_look 3 (some .int) : Cond) ∈ aTB := ch_in (ch_6 _ (List.mem_of_getElem? (i := 116) (rfl))) (by decide +kernel)
theorem cld_8 : decode cX11_look 8 = .ok (.new 127, 3) := by decide +kernel
theorem cld_11 : decode cX11_look 11 = .ok (.dup, 1) := by decide +kernel
theorem cld_12 : decode cX11_look 12 = .ok (.ldc 129, 2) := by decide +kernel
theorem cld_14 : decode cX11_look 14 = .ok (.invokespecial 131, 3) := by decide +kernel
theorem cld_17 : decode cX11_look 17 = .ok (.athrow, 1) := by decide +kernel
theorem cld_27 : decode cX11_look 27 = .ok (.new 134, 3) := by decide +kernel
theorem cld_30 : decode cX11_look 30 = .ok (.dup, 1) := by decide +kernel
theorem cld_31 : decode cX11_look 31 = .ok (.ldc 136, 2) := by decide +kernel
theorem cld_33 : decode cX11_look 33 = .ok (.invokespecial 138, 3) := by decide +kernel
theorem cld_36 : decode cX11_look 36 = .ok (.athrow, 1) := by decide +kernel
theorem cl_seg (x i q : Int) (σ : aS) : aseg F aX0 3 k_cl 0 [x, i, q] σ = (acall1 (F 169 [x, i] σ) fun v1 σ1 => (if v1 = 0 then some (9, [x, i, q], σ1) else (if q < 0 then some (28, [x, i, q], σ1) else (if q < 4 then (if aget σ1 x 7 = 0 then none else (acall1 (F 39 [aget σ1 x 7, i, q] σ1) fun v2 σ2 => some (0, [v2], σ2))) else some (28, [x, i, q], σ1))))) := rfl

theorem lt_127 : Cond.classLink "FloatTowns" 127 tIO ∈ aTB := List.mem_filter.mpr ⟨lk_cl127, by decide +kernel⟩
theorem lt_134 : Cond.classLink "FloatTowns" 134 tNS ∈ aTB := List.mem_filter.mpr ⟨lk_cl134, by decide +kernel⟩
theorem lt_inIO : Cond.initialized tIO ∈ aTB := List.mem_filter.mpr ⟨lk_inIO, by decide +kernel⟩
theorem lt_inNS : Cond.initialized tNS ∈ aTB := List.mem_filter.mpr ⟨lk_inNS, by decide +kernel⟩
def lPc (d : aD) (ad : Nat → Nat) (σ : aS) (av : List Value) (sz s1 s2 : Nat) : Array Value → State → Prop := fun v U => aPre d ad σ av sz v U ∧ tX s1 s2 (va_A (aW0 d ad σ) sz) U U.heap
theorem lPc_blind {d : aD} {ad : Nat → Nat} {σ : aS} {av : List Value} {sz s1 s2 : Nat} : FrameBlind (lPc d ad σ av sz s1 s2) := by
  rintro a U g mk ⟨h1, h2⟩
  exact ⟨aPre_blind a U g mk h1, tX.calling (U := U) h2⟩
/-- where a throw of class look leaves the world -/
def lXC (d : aD) (ad : Nat → Nat) (σ : aS) (sz K : Nat) : String → State → State → Prop := fun E st t => ((E = tIO ∧ K = 1) ∨ (E = tNS ∧ K = 2)) ∧ aFacts σ σ ∧ ∃ ad' : Nat → Nat, (∀ k, k < σ.1.length → ad' k = ad k) ∧ va_P d.1 vwCl (aW0 d ad' σ) t.heap ∧ va_D (va_A (aW0 d ad σ) sz) (aW0 d ad' σ) ∧ va_F (va_A (aW0 d ad σ) sz) st t
def lQc (d : aD) (ad : Nat → Nat) (σ : aS) (sz K : Nat) (v : Int) : Array Value → State → Outcome → State → Prop := fun _ st oc t => K = 0 ∧ aPost d ad σ σ (ar32 v) (some (.int (Int32.ofInt v))) sz st oc t
theorem lflag {l : Launch} (h : l.flags = flags0) : l.stackTraces = false := by
  unfold Launch.stackTraces
  rw [h]
  decide +kernel
set_option maxHeartbeats 4000000 in
theorem t_clook {l : Launch} (hfl : l.flags = flags0) {d : aD} {ad : Nat → Nat} {sz s1 s2 : Nat} {x i q : Int} {σ : aS} (hG : aGood σ) (harg : aArg σ.1 [21, 0, 0] [x, i, q]) (K : Nat) (v : Int) (mc ms : Nat) (hv32 : K = 0 → ar32 v) (hms : 1 ≤ K → mc = 1 ∧ ms = 6)
    (hK : aseg F aX0 3 k_cl 0 [x, i, q] σ = some (if K = 1 then (9, [x, i, q], σ) else if K = 2 then (28, [x, i, q], σ) else (0, [v], σ))) (hK3 : K = 0 ∨ K = 1 ∨ K = 2) :
    vx_Met l yX11_look (Cond.code yX11_look cX11_look 3 (some .int) :: aTB) { frames := 6, cells := mc, slots := ms, locals := 82 } (lPc d ad σ (aArgv d.2.2.2.2 ad [21, 0, 0] [x, i, q]) sz s1 s2) (lQc d ad σ sz K v) (lXC d ad σ sz K) mc ms (va_A (aW0 d ad σ) sz) := by
  refine vx_ofW (cc := cX11_look) (maxL := 3) (ret := some .int) (by decide +kernel) rfl ?_
  intro p e s m args below meth c s₁ B hml htab hv
  obtain ⟨⟨rfl, hsz, hP, hK2, hD0, hstr, hNx⟩, hT⟩ := hv
  have hx := B.exec
  have hb := B.bytes
  have hr := B.returns
  have hts0 := atoms_spec (ws := Cond.code yX11_look cX11_look 3 (some .int) :: aTB) B.pre
  have hts : ∀ w ∈ aTB, w.before (aArgv d.2.2.2.2 ad [21, 0, 0] [x, i, q]).toArray s = true := fun w hw => hts0 w (List.mem_cons_of_mem _ hw)
  have hown : s.vm.findClass "FloatTowns" = some m.cls := findClass_of_methodNamed B.named
  have hname : meth.name = (aMy m_cl).name := (name_of_methodNamed B.named B.method).1
  have hlocks := B.notSynchronized
  subst hsz
  have hD := hD0.self (sz := s.heap.size)
  have hA : ∀ q : Nat, s.heap.size ≤ q → va_A (aW0 d ad σ) s.heap.size q := fun q h => Or.inr h
  have hl := lv_entry (aArgv d.2.2.2.2 ad [21, 0, 0] [x, i, q]) (n := 3) (by unfold aArgv; rw [lg_len _ _ rfl]; decide)
  rw [lg_entry_eq]
  generalize (lg_sl (aArgv d.2.2.2.2 ad [21, 0, 0] [x, i, q]) ++ List.replicate (3 - (lg_sl (aArgv d.2.2.2.2 ad [21, 0, 0] [x, i, q])).length) Slot.unset).toArray = ls at hl ⊢
  obtain ⟨L, hL1, hL2, hL3⟩ := aPl_s (sa := d.2.2.2.2) (ad := ad) (b := 0) [21, 0, 0] [x, i, q] 0 (List.replicate 3 none) rfl
  have hL4 : ∀ (k : Nat) (v : aV), L[k]? = some (some v) → (k, aconc d.2.2.2.2 ad 0 v) ∈ lv_args 0 (aArgv d.2.2.2.2 ad [21, 0, 0] [x, i, q]) ∧ v ∈ [21, 0, 0].zip [x, i, q] := by
    intro k v hv
    rcases hL3 k v hv with q | q
    · rw [List.getElem?_replicate] at q
      split at q <;> cases q
    · exact q
  have hst : aSt s 3 d (va_A (aW0 d ad σ) s.heap.size) 0 False σ.2.2.1 σ.2.2.2 ad σ.1 ad ls s.heap [] L [] σ :=
    ⟨hP, hD, va_S.rf, hG, ⟨hl.1, by rw [hL2, List.length_replicate], hl.2.1, fun k v hv => hl.2.2 _ (hL4 k v hv).1⟩, fun k v hv => harg.2 v (hL4 k v hv).2, (fun v hv => by cases hv), ⟨Nat.le_refl _, Nat.le_refl _⟩, fun _ _ => rfl, aExt.rf _⟩
  have C : aCx p l (headSpec (Cond.code yX11_look cX11_look 3 (some .int) :: aTB) ({ frames := 6, cells := mc, slots := ms, locals := 82 })).room s m (aArgv d.2.2.2.2 ad [21, 0, 0] [x, i, q]).toArray meth c m_cl d (va_A (aW0 d ad σ) s.heap.size) 0 False aX0 :=
    ⟨hx, hb, hml, hown, hts, w_cl_in, hname, hA, hK2, hstr, Nat.le_refl _, Nat.le_refl _, fun h => h.elim, hlocks, hfl, hNx⟩
  have hrows : ∀ ea ∈ aMc m_cl, aEok aMs m_cl ea = true := by
    have h := cl_mok
    unfold aMok at h
    simp only [Bool.and_eq_true, List.all_eq_true] at h
    exact h.1.1.1
  have hcalls : ∀ f ∈ aCalls m_cl, aGoodj f ∧ (aMs[f]?).isSome = true := by
    intro f hf
    have : aCalls m_cl = [169, 39] := by decide +kernel
    rw [this] at hf
    rcases List.mem_cons.mp hf with rfl | hf
    · exact ⟨good_c11_isSort, by decide +kernel⟩
    · obtain rfl := List.mem_singleton.mp hf
      exact ⟨good_c4_figure, by decide +kernel⟩
  have hgr : ∀ ea ∈ aMc m_cl, aInv ea.2.1 = true → ∀ f kk ts, ea.2.2.2.1 = f :: kk :: ts → aGrow F f := fun ea he hi f kk ts ha => (hcalls f (aCalls_in he hi ha)).1.1
  have hL5 : L = [some (21, x), some (0, i), some (0, q)] := by
    have h := hL1
    simp only [aPl, aentl] at h
    exact (Option.some.inj h).symm
  have hrun : arun F aX0 (aMc m_cl) 3000 (aMc m_cl) L [] σ = some (if K = 1 then (9, [x, i, q], σ) else if K = 2 then (28, [x, i, q], σ) else (0, [v], σ)) := by
    rw [hL5]
    exact hK
  have hcal : aCalOK p l e (headSpec (Cond.code yX11_look cX11_look 3 (some .int) :: aTB) ({ frames := 6, cells := mc, slots := ms, locals := 82 })).room s m (aArgv d.2.2.2.2 ad [21, 0, 0] [x, i, q]).toArray below meth c m_cl d (va_A (aW0 d ad σ) s.heap.size) 0 False σ.2.2.1 σ.2.2.2 ad σ.1 F := by
    intro ea he cf sf ad' ls' H locs L' S σ1 f kk ts q vs' σ2 h1 h2 hst' haux hkind hq hwd hF' h3 h4
    have hinv : aInv ea.2.1 = true := by
      rcases hkind with ⟨i, h, -⟩ | ⟨i, h⟩ | ⟨i, h⟩ <;> rw [h] <;> rfl
    have hg := hcalls f (aCalls_in he hinv haux)
    exact a_callOK (ms := aMs) (X := aX0) (r := (0, [], (σ1.1, σ1.2.1, cf, sf))) C ⟨h1, h2⟩ (hrows ea he) hst' hg.1.2 hg.2 hg.1.1 haux hkind hq hwd hF' h3 h4
  have hpl : ∀ (ad' : Nat → Nat) (ls' : Array Slot) (H : Heap) (locs : List Loc) (L' : aL) (S : List aV), aSt s 3 d (va_A (aW0 d ad σ) s.heap.size) 0 False σ.2.2.1 σ.2.2.2 ad σ.1 ad' ls' H locs L' S σ → ∀ t : State, H.size ≤ t.heap.size → (∀ q : Nat, q < H.size → t.heap[q]? = H[q]?) →
      aFacts σ σ ∧ ∃ ad' : Nat → Nat, (∀ k, k < σ.1.length → ad' k = ad k) ∧ va_P d.1 vwCl (aW0 d ad' σ) t.heap ∧ va_D (va_A (aW0 d ad σ) s.heap.size) (aW0 d ad' σ) ∧ va_F (va_A (aW0 d ad σ) s.heap.size) s t := by
    intro ad' ls' H locs L' S hst' t hz hk
    obtain ⟨g1, g2, g3, g4, g5, g6, g7, g8, g9, g10⟩ := hst'
    refine ⟨⟨g4, g10, g8.1, g8.2⟩, ad', g9, g1.kept (fun k q hq => hk q.1 (g1 k q hq).lt), g2, Nat.le_trans g3.1 hz, fun q h1 h2 => ?_⟩
    rw [hk q (Nat.lt_of_lt_of_le h1 g3.1)]
    exact g3.2.1 q h1 h2
  have hcut : ∀ ea ∈ aMc m_cl, ea.1 = 8 ∨ ea.1 = 27 → ea.2.2.2.2.2 = some ([(0, 21), (1, 0), (2, 0)], []) := by decide +kernel
  have hlf : ∀ (pc : Nat), pc = 8 ∨ pc = 27 → ∀ ea ∈ aMc m_cl, ∀ cc, ea.2.2.2.2.2 = some cc → ∀ (L' : aL) (S : List aV) (σ1 : aS), aleaf ea.1 cc L' S σ1 = some (pc + 1, [x, i, q], σ) → ea.1 = pc ∧ S = [] ∧ σ1 = σ := by
    intro pc hpc ea he cc hc L' S σ1 h
    obtain ⟨z1, z2, -⟩ := aleaf_s h
    have h1 : ea.1 = pc := by
      have : pc + 1 = ea.1 + 1 := z1
      omega
    have h2 := hcut ea he (by rw [h1]; exact hpc)
    rw [hc] at h2
    cases h2
    unfold aleaf at h
    cases S with
    | nil =>
      exact ⟨h1, rfl, z2.symm⟩
    | cons a S => simp [astks] at h
  have hra : ∀ (n : Nat), n ≤ 2 ^ 31 → n ≤ n := fun n _ => Nat.le_refl n
  rcases hK3 with rfl | rfl | rfl
  · have hres := a_run (F := F) (X := aX0) (ms := aMs) (Q := vx_MQ below (lQc d ad σ s.heap.size 0 v) (lXC d ad σ s.heap.size 0) (aArgv d.2.2.2.2 ad [21, 0, 0] [x, i, q]).toArray s mc ms (va_A (aW0 d ad σ) s.heap.size)) (e := e) (below := below) (ks0 := σ.1) (ad0 := ad) (c0 := σ.2.2.1) (s0 := σ.2.2.2) (r := (0, [v], σ)) (rf := (0, [v], σ)) C cl_mok hgr
      ⟨Nat.le_add_right _ _, Nat.le_add_right _ _⟩ ⟨Nat.le_refl _, Nat.le_refl _⟩ hcal (fun _ => ⟨rfl, ?_⟩) ?_ 3000 _ _ L [] σ ad ls s.heap [] ⟨[], rfl⟩ hrun hst
    · have e1 : σ.2.2.1 - σ.2.2.1 = 0 := Nat.sub_self _
      have e2 : σ.2.2.2 - σ.2.2.2 = 0 := Nat.sub_self _
      unfold aW at hres
      rw [e1, e2] at hres
      exact hres
    · intro ea he ad' ls' H locs L' S σ1 hst'
      refine ⟨?_, fun x _ _ _ _ hm => by (cases hm), fun x _ _ _ _ hm => by (cases hm), fun _ _ _ hm => by (cases hm)⟩
      intro y hy hr1 hS2 hd hm
      cases hr1
      subst hS2
      refine vx_ret (W.widen (k := mc) (n := ms) (by omega) (by omega) (W.iret hx hb hr (fun t ht hW => ⟨rfl, ?_⟩) hst'.2.2.1.2.2 hd))
      obtain ⟨g1, g2, g3, g4, g5, g6, g7, g8, g9, g10⟩ := hst'
      exact ⟨⟨⟨g4, g10, g8.1, g8.2⟩, hv32 rfl⟩, ⟨ad', g9, rfl, by rw [ht]; exact g1, g2⟩, g3.F ht⟩
    · intro ea he cc hc ad' ls' H locs L' S σ1 h hst'
      unfold aleaf at h
      split at h
      · split at h
        · cases h
        · cases h
      · cases h
  · have hres := a_run (F := F) (X := aX0) (ms := aMs) (Q := vx_MQ below (lQc d ad σ s.heap.size 1 v) (lXC d ad σ s.heap.size 1) (aArgv d.2.2.2.2 ad [21, 0, 0] [x, i, q]).toArray s mc ms (va_A (aW0 d ad σ) s.heap.size)) (e := e) (below := below) (ks0 := σ.1) (ad0 := ad) (c0 := σ.2.2.1) (s0 := σ.2.2.2) (r := (8 + 1, [x, i, q], σ)) (rf := (0, [v], σ)) C cl_mok hgr
      ⟨Nat.le_add_right _ _, Nat.le_add_right _ _⟩ ⟨Nat.le_refl _, Nat.le_refl _⟩ hcal (fun h => by cases h) ?_ 3000 _ _ L [] σ ad ls s.heap [] ⟨[], rfl⟩ hrun hst
    · have e1 : σ.2.2.1 - σ.2.2.1 = 0 := Nat.sub_self _
      have e2 : σ.2.2.2 - σ.2.2.2 = 0 := Nat.sub_self _
      unfold aW at hres
      rw [e1, e2] at hres
      exact hres
    · intro ea he cc hc ad' ls' H locs L' S σ1 h hst'
      obtain ⟨q1, q2, q3⟩ := hlf 8 (Or.inl rfl) ea he cc hc L' S σ1 h
      subst q2; subst q3
      rw [q1]
      obtain ⟨rfl, rfl⟩ := hms (Nat.le_refl _)
      refine vx_throwS hx hb (lflag hfl) (own := "FloatTowns") (cls := tIO) (text := "no such sort") (names := tNm) (ik := 127) (is := 129) (ic := 131) (sa := s1) (A := va_A (aW0 d ad σ1) s.heap.size) hown (by decide +kernel) (by decide +kernel) (hts _ lt_127) (hts _ lt_inIO) hT.1
        (fun w hw => ?_) (fun w hw => ?_) hT.2.2.1 hT.2.2.2.1 hst'.2.2.1 (hst'.2.2.2.2.1.1.trans hml.symm) cld_8 cld_11 cld_12 cld_14 cld_17 (fun x hx => (htab x hx).elim) (by decide) (by show 0 + (13 * (2 + 1) + 43) ≤ 82; decide) (by show σ1.2.2.1 - σ1.2.2.1 + 1 ≤ 1; omega) (by show σ1.2.2.2 - σ1.2.2.2 + 6 ≤ 6; omega) hlocks
        (fun t _ hz hk => ⟨Or.inl ⟨rfl, rfl⟩, hpl ad' ls' H locs L' [] hst' t hz hk⟩) hst'.2.2.1.2.2 (by omega) (by omega)
      · cases hg : goodWord w with
        | true => exact hts _ (tGet_all _ tLI_p hw hg)
        | false => exact hT.bad (tLI_b w hw hg)
      · unfold vx_ot
        rcases List.mem_cons.mp hw with rfl | hw
        · decide +kernel
        rcases List.mem_cons.mp hw with rfl | hw
        · decide +kernel
        cases hg : goodWord w with
        | true => simp
        | false => rw [tBad_ot w (tLI_b w hw hg)]; rfl
  · have hres := a_run (F := F) (X := aX0) (ms := aMs) (Q := vx_MQ below (lQc d ad σ s.heap.size 2 v) (lXC d ad σ s.heap.size 2) (aArgv d.2.2.2.2 ad [21, 0, 0] [x, i, q]).toArray s mc ms (va_A (aW0 d ad σ) s.heap.size)) (e := e) (below := below) (ks0 := σ.1) (ad0 := ad) (c0 := σ.2.2.1) (s0 := σ.2.2.2) (r := (27 + 1, [x, i, q], σ)) (rf := (0, [v], σ)) C cl_mok hgr
      ⟨Nat.le_add_right _ _, Nat.le_add_right _ _⟩ ⟨Nat.le_refl _, Nat.le_refl _⟩ hcal (fun h => by cases h) ?_ 3000 _ _ L [] σ ad ls s.heap [] ⟨[], rfl⟩ hrun hst
    · have e1 : σ.2.2.1 - σ.2.2.1 = 0 := Nat.sub_self _
      have e2 : σ.2.2.2 - σ.2.2.2 = 0 := Nat.sub_self _
      unfold aW at hres
      rw [e1, e2] at hres
      exact hres
    · intro ea he cc hc ad' ls' H locs L' S σ1 h hst'
      obtain ⟨q1, q2, q3⟩ := hlf 27 (Or.inr rfl) ea he cc hc L' S σ1 h
      subst q2; subst q3
      rw [q1]
      obtain ⟨rfl, rfl⟩ := hms (by decide)
      refine vx_throwSX hx hb (lflag hfl) (own := "FloatTowns") (cls := tNS) (text := "no such figure of a sort") (names := tNm) (ik := 134) (is := 136) (ic := 138) (sa := s2) (ix := 13) (rx := prog_30_method_4_code) (A := va_A (aW0 d ad σ1) s.heap.size) (by decide +kernel) (by decide +kernel) (by decide +kernel) (by decide +kernel) hown (by decide +kernel) (by decide +kernel) (hts _ lt_134) (hts _ lt_inNS) hT.2.1
        (fun w hw => ?_) (fun w hw => ?_) hT.2.2.1 hT.2.2.2.1 hst'.2.2.1 (hst'.2.2.2.2.1.1.trans hml.symm) cld_27 cld_30 cld_31 cld_33 cld_36 (fun x hx => (htab x hx).elim) (by decide) (by show 0 + (13 * (2 + 1) + 43) ≤ 82; decide) (by show σ1.2.2.1 - σ1.2.2.1 + 1 ≤ 1; omega) (by show σ1.2.2.2 - σ1.2.2.2 + 6 ≤ 6; omega) hlocks
        (fun t _ hz hk => ⟨Or.inr ⟨rfl, rfl⟩, hpl ad' ls' H locs L' [] hst' t hz hk⟩) hst'.2.2.1.2.2 (by omega) (by omega)
      · cases hg : goodWord w with
        | true => exact hts _ (tGet_all _ tLN_p hw hg)
        | false => exact hT.bad (tLN_b w hw hg)
      · unfold vx_ot
        rcases List.mem_cons.mp hw with rfl | hw
        · decide +kernel
        rcases List.mem_cons.mp hw with rfl | hw
        · decide +kernel
        cases hg : goodWord w with
        | true => simp
        | false => rw [tBad_ot w (tLN_b w hw hg)]; rfl
