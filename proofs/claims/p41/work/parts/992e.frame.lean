/-! printed by mkq.py: the law's frame: calls, segments between the stops, what is taken in -/
theorem law_calls_ok : (aCalls m_law).all (fun f => law_calls.contains f && (aMs[f]?).isSome) = true := by decide +kernel
theorem law_gr {ea : aE} (he : ea ∈ aMc m_law) (hi : aInv ea.2.1 = true) {f kk : Nat} {ts : List Nat} (ha : ea.2.2.2.1 = f :: kk :: ts) : f ∈ law_calls ∧ (aMs[f]?).isSome = true := by
  have h1 := List.all_eq_true.mp law_calls_ok f (aCalls_in he hi ha)
  simp only [Bool.and_eq_true, List.contains_iff_mem] at h1
  exact h1
theorem law_grow : ∀ ea ∈ aMc m_law, aInv ea.2.1 = true → ∀ f kk ts, ea.2.2.2.1 = f :: kk :: ts → aGrow F f := fun _ he hi _ _ _ ha => (law_good _ (law_gr he hi ha).1).1
theorem law_rows_ok : ∀ ea ∈ aMc m_law, aEok aMs m_law ea = true := by
  have h := law_mok
  unfold aMok at h
  simp only [Bool.and_eq_true, List.all_eq_true] at h
  exact h.1.1.1
def stopB (pc : Nat) (cc : List (Nat × Nat) × List Nat) : Prop := ∀ ea ∈ aMc m_law, ea.1 = pc → ea.2.2.2.2.2 = some cc
theorem stop_of {pc : Nat} {cc : List (Nat × Nat) × List Nat} (h : (aMc m_law).all (fun ea => !(Nat.beq ea.1 pc) || decide (ea.2.2.2.2.2 = some cc)) = true) : stopB pc cc := by
  intro ea he hp
  have := List.all_eq_true.mp h ea he
  rw [hp, Nat.beq_refl] at this
  exact of_decide_eq_true (by simpa using this)
section LFR
variable {p : Program} {l0 : Launch} {e : Env} {s : State} {mi : MethodId} {args : Array Value} {below : List Frame} {meth : Method} {cc : Code} {Q : State → Prop} {H : Heap} {locs : List Loc} {ls : Array Slot}
variable {d : aD} {ad : Nat → Nat} {σ υ : aS} {A : Nat → Prop} {cB : ClassId} {b L : Nat} {xs : Nat → Int32} {X : aX}
theorem law_cal (C : aCx p l0 room_1 s mi args meth cc m_law d A b True X) : aCalOK p l0 e room_1 s mi args below meth cc m_law d A b True 0 0 (fun _ => 0) [] F := by
  intro ea he cf sf ad' ls' H locs L' S σ1 f kk ts q vs' σ2 h1 h2 hst' haux hkind hq hwd hF' h3 h4
  have hinv : aInv ea.2.1 = true := by
    rcases hkind with ⟨i, h, -⟩ | ⟨i, h⟩ | ⟨i, h⟩ <;> rw [h] <;> rfl
  have h := law_gr he hinv haux
  exact a_callOK (ms := aMs) (r := (0, [], (σ1.1, σ1.2.1, cf, sf))) C ⟨h1, h2⟩ (law_rows_ok ea he) hst' (law_good f h.1).2 h.2 (law_good f h.1).1 haux hkind hq hwd hF' h3 h4
/-- from stop to stop -/
theorem l_seg {pc pc' : Nat} {vs vs' : List Int} {L L' : aL} {S S' : List aV} {ea : aE} {q : List aE} {c1 c2 : List (Nat × Nat) × List Nat} {t : aR} (C : aCx p l0 room_1 s mi args meth cc m_law d A b True X) (hto : aTo F X 18 k_law (pc + 1, vs, σ) t) (ht : t = some (pc' + 1, vs', υ)) (hb : υ.2.2.1 ≤ 600000 ∧ υ.2.2.2 ≤ 7302250)
    (h1 : afrom pc k_law = ea :: q) (h2 : ea.2.2.2.2.2 = some c1) (h3 : aent 18 c1 vs = some (L, S)) (h4 : stopB pc' c2) (h5 : aent 18 c2 vs' = some (L', S')) (hpc : ea.1 = pc) (hst : aSt s 18 d A b True 0 0 (fun _ => 0) [] ad ls H locs L S σ)
    (kk : ∀ (ad' : Nat → Nat) (ls' : Array Slot) (H1 : Heap) (l1 : List Loc), aSt s 18 d A b True 0 0 (fun _ => 0) [] ad' ls' H1 l1 L' S' υ → aW p l0 e room_1 s mi args below meth cc Q d b 0 0 pc' ad' ls' H1 l1 S' υ) : aW p l0 e room_1 s mi args below meth cc Q d b 0 0 pc ad ls H locs S σ := by
  obtain ⟨n, hn⟩ := hto _ ht
  have := a_stop (ms := aMs) (F := F) (r := (pc' + 1, vs', υ)) (Q := Q) (e := e) (below := below) (c0 := 0) (s0 := 0) (ad0 := fun _ => 0) (ks0 := []) C law_mok law_grow ⟨by show υ.2.2.1 ≤ 0 + 600000; omega, by show υ.2.2.2 ≤ 0 + 7302250; omega⟩ (law_cal C) (Nat.succ_ne_zero _) (fun e9 he9 c9 L9 S9 ad9 ls9 H9 lo9 g1 g2 g3 g4 => by
    have g5 : e9.1 = pc' := (Nat.succ.inj g1).symm
    have g6 := (h4 e9 he9 g5).symm.trans g2
    cases g6
    have g7 := g3.symm.trans h5
    cases g7
    rw [g5]
    exact kk ad9 ls9 H9 lo9 g4) n pc vs σ hn ea q c1 L S ad ls H locs h1 h2 h3 hst
  rw [hpc] at this
  exact this
/-- the last segment, to the law's end -/
theorem l_end {pc : Nat} {vs : List Int} {L : aL} {S : List aV} {ea : aE} {q : List aE} {c1 : List (Nat × Nat) × List Nat} {t : aR} (C : aCx p l0 room_1 s mi args meth cc m_law d A b True X) (hto : aTo F X 18 k_law (pc + 1, vs, σ) t) (ht : t = some (0, [1], υ)) (hb : υ.2.2.1 ≤ 600000 ∧ υ.2.2.2 ≤ 7302250)
    (h1 : afrom pc k_law = ea :: q) (h2 : ea.2.2.2.2.2 = some c1) (h3 : aent 18 c1 vs = some (L, S)) (hpc : ea.1 = pc) (hst : aSt s 18 d A b True 0 0 (fun _ => 0) [] ad ls H locs L S σ)
    (hA2 : ∀ q, A q → s.heap.size ≤ q) (hret : ∀ (pc : Nat) (H : Heap) (ls : Array Slot), decode code pc = .ok (.ireturn, 1) → W p l0 e room_1 s mi args below meth cc H [] 600000 7302250 Q (F0 mi pc ls [.int 1])) : aW p l0 e room_1 s mi args below meth cc Q d b 0 0 pc ad ls H locs S σ := by
  obtain ⟨n, hn⟩ := hto _ ht
  have hres := a_iter (F := F) (ms := aMs) (Q := Q) (e := e) (below := below) (ks0 := []) (ad0 := fun _ => 0) (c0 := 0) (s0 := 0) (rf := (0, [1], υ)) C law_mok law_grow ⟨by show υ.2.2.1 ≤ 0 + 600000; omega, by show υ.2.2.2 ≤ 0 + 7302250; omega⟩ (law_cal C) (fun ea he ad' ls' H locs L' S σ1 hst' => by
    refine ⟨fun x _ _ _ _ hm => by (cases hm), ?_, fun x _ _ _ _ hm => by (cases hm), fun _ _ _ hm => by (cases hm)⟩
    intro x hx1 hr1 hS hd hm
    cases hr1
    subst hS
    exact va_forget (fun q hq => hA2 _ (hst'.2.2.1.2.2 q hq)) (W.widen (k := 600000) (n := 7302250) (by omega) (by omega) (hret _ _ _ hd))) (n + 1) pc vs σ (astepn_iter n _ _ _ hn) ea q c1 L S ad ls H locs h1 h2 h3 hst
  rw [hpc] at hres
  exact hres
theorem e1i (i : Nat) (h : i < 1000) : w32 ((1 : Int) + (i : Int)) = ((1 + i : Nat) : Int) := by rw [wq (by omega) (by omega)]; omega
theorem ls_b {L : aL} (hst : aSt s 18 d A b True 0 0 (fun _ => 0) [] ad ls H locs L [] σ ∨ ∃ S, aSt s 18 d A b True 0 0 (fun _ => 0) [] ad ls H locs L S σ) (h : L[0]? = some (some (6, 0))) : ls.size = 18 ∧ ls[0]? = some (.val (.ref b)) := by
  rcases hst with hst | ⟨S, hst⟩
  · exact ⟨hst.2.2.2.2.1.1, hst.2.2.2.2.1.2.2.2 0 _ h⟩
  · exact ⟨hst.2.2.2.2.1.1, hst.2.2.2.2.1.2.2.2 0 _ h⟩
theorem stk_i {L : aL} {S : List aV} {i : Nat} (hst : aSt s 18 d A b True 0 0 (fun _ => 0) [] ad ls H locs L S σ) (hi : i < 1000) : aSt s 18 d A b True 0 0 (fun _ => 0) [] ad ls H locs L ((0, (i : Int)) :: S) σ := by
  refine hst.stk (fun v hv => ?_)
  rcases List.mem_cons.mp hv with rfl | hv
  · exact aGv_int ⟨by omega, by omega⟩
  · exact hst.2.2.2.2.2.2.1 v hv
theorem li_9 {Lc : aL} {S : List aV} (X0 : lwX p l0 s mi args cc d A cB) (hI : jI b L xs A s s.heap) (hL : L ≤ 260) (hst : aSt s 18 d A b True 0 0 (fun _ => 0) [] ad ls H locs Lc S σ) (h0 : Lc[0]? = some (some (6, 0))) (hb : σ.2.2.1 ≤ 600000 ∧ σ.2.2.2 ≤ 7302250) (hrm : ((S.map (aconc d.2.2.2.2 ad b)).map fun v => v.category).sum ≤ 5)
    (kk : aSt s 18 d A b True 0 0 (fun _ => 0) [] ad ls H locs Lc ((0, (inV L xs 0 6 : Int)) :: S) σ → aW p l0 e room_1 s mi args below meth cc Q d b 0 0 19 ad ls H locs ((0, (inV L xs 0 6 : Int)) :: S) σ) : aW p l0 e room_1 s mi args below meth cc Q d b 0 0 9 ad ls H locs S σ := by
  obtain ⟨g1, g2⟩ := ls_b (Or.inr ⟨S, hst⟩) h0
  have hlt : inV L xs 0 6 < 6 := inV_lt (by decide)
  exact inp_9 X0.1 X0.2.1 hI hst.2.2.1 hL g1 g2 ⟨by show σ.2.2.1 - 0 ≤ 600000; omega, by show σ.2.2.2 - 0 ≤ 7302250; omega⟩ hrm (w_top (nI_ofInt _).symm (kk (stk_i hst (by omega))))
theorem li_21 {Lc : aL} {S : List aV} (X0 : lwX p l0 s mi args cc d A cB) (hI : jI b L xs A s s.heap) (hL : L ≤ 260) (hst : aSt s 18 d A b True 0 0 (fun _ => 0) [] ad ls H locs Lc S σ) (h0 : Lc[0]? = some (some (6, 0))) (hb : σ.2.2.1 ≤ 600000 ∧ σ.2.2.2 ≤ 7302250) (hrm : ((S.map (aconc d.2.2.2.2 ad b)).map fun v => v.category).sum ≤ 5)
    (kk : aSt s 18 d A b True 0 0 (fun _ => 0) [] ad ls H locs Lc ((0, (inV L xs 1 50 : Int)) :: S) σ → aW p l0 e room_1 s mi args below meth cc Q d b 0 0 31 ad ls H locs ((0, (inV L xs 1 50 : Int)) :: S) σ) : aW p l0 e room_1 s mi args below meth cc Q d b 0 0 21 ad ls H locs S σ := by
  obtain ⟨g1, g2⟩ := ls_b (Or.inr ⟨S, hst⟩) h0
  have hlt : inV L xs 1 50 < 50 := inV_lt (by decide)
  exact inp_21 X0.1 X0.2.1 hI hst.2.2.1 hL g1 g2 ⟨by show σ.2.2.1 - 0 ≤ 600000; omega, by show σ.2.2.2 - 0 ≤ 7302250; omega⟩ hrm (w_top (nI_ofInt _).symm (kk (stk_i hst (by omega))))
theorem li_32 {Lc : aL} {S : List aV} (X0 : lwX p l0 s mi args cc d A cB) (hI : jI b L xs A s s.heap) (hL : L ≤ 260) (hst : aSt s 18 d A b True 0 0 (fun _ => 0) [] ad ls H locs Lc S σ) (h0 : Lc[0]? = some (some (6, 0))) (hb : σ.2.2.1 ≤ 600000 ∧ σ.2.2.2 ≤ 7302250) (hrm : ((S.map (aconc d.2.2.2.2 ad b)).map fun v => v.category).sum ≤ 5)
    (kk : aSt s 18 d A b True 0 0 (fun _ => 0) [] ad ls H locs Lc ((0, (inV L xs 2 20 : Int)) :: S) σ → aW p l0 e room_1 s mi args below meth cc Q d b 0 0 42 ad ls H locs ((0, (inV L xs 2 20 : Int)) :: S) σ) : aW p l0 e room_1 s mi args below meth cc Q d b 0 0 32 ad ls H locs S σ := by
  obtain ⟨g1, g2⟩ := ls_b (Or.inr ⟨S, hst⟩) h0
  have hlt : inV L xs 2 20 < 20 := inV_lt (by decide)
  exact inp_32 X0.1 X0.2.1 hI hst.2.2.1 hL g1 g2 ⟨by show σ.2.2.1 - 0 ≤ 600000; omega, by show σ.2.2.2 - 0 ≤ 7302250; omega⟩ hrm (w_top (nI_ofInt _).symm (kk (stk_i hst (by omega))))
theorem li_45 {Lc : aL} {S : List aV} (X0 : lwX p l0 s mi args cc d A cB) (hI : jI b L xs A s s.heap) (hL : L ≤ 260) (hst : aSt s 18 d A b True 0 0 (fun _ => 0) [] ad ls H locs Lc S σ) (h0 : Lc[0]? = some (some (6, 0))) (hb : σ.2.2.1 ≤ 600000 ∧ σ.2.2.2 ≤ 7302250) (hrm : ((S.map (aconc d.2.2.2.2 ad b)).map fun v => v.category).sum ≤ 5)
    (kk : aSt s 18 d A b True 0 0 (fun _ => 0) [] ad ls H locs Lc ((0, (inV L xs 3 40 : Int)) :: S) σ → aW p l0 e room_1 s mi args below meth cc Q d b 0 0 55 ad ls H locs ((0, (inV L xs 3 40 : Int)) :: S) σ) : aW p l0 e room_1 s mi args below meth cc Q d b 0 0 45 ad ls H locs S σ := by
  obtain ⟨g1, g2⟩ := ls_b (Or.inr ⟨S, hst⟩) h0
  have hlt : inV L xs 3 40 < 40 := inV_lt (by decide)
  exact inp_45 X0.1 X0.2.1 hI hst.2.2.1 hL g1 g2 ⟨by show σ.2.2.1 - 0 ≤ 600000; omega, by show σ.2.2.2 - 0 ≤ 7302250; omega⟩ hrm (w_top (nI_ofInt _).symm (kk (stk_i hst (by omega))))
theorem li_58 {Lc : aL} {S : List aV} (X0 : lwX p l0 s mi args cc d A cB) (hI : jI b L xs A s s.heap) (hL : L ≤ 260) (hst : aSt s 18 d A b True 0 0 (fun _ => 0) [] ad ls H locs Lc S σ) (h0 : Lc[0]? = some (some (6, 0))) (hb : σ.2.2.1 ≤ 600000 ∧ σ.2.2.2 ≤ 7302250) (hrm : ((S.map (aconc d.2.2.2.2 ad b)).map fun v => v.category).sum ≤ 5)
    (kk : aSt s 18 d A b True 0 0 (fun _ => 0) [] ad ls H locs Lc ((0, (inV L xs 4 30 : Int)) :: S) σ → aW p l0 e room_1 s mi args below meth cc Q d b 0 0 68 ad ls H locs ((0, (inV L xs 4 30 : Int)) :: S) σ) : aW p l0 e room_1 s mi args below meth cc Q d b 0 0 58 ad ls H locs S σ := by
  obtain ⟨g1, g2⟩ := ls_b (Or.inr ⟨S, hst⟩) h0
  have hlt : inV L xs 4 30 < 30 := inV_lt (by decide)
  exact inp_58 X0.1 X0.2.1 hI hst.2.2.1 hL g1 g2 ⟨by show σ.2.2.1 - 0 ≤ 600000; omega, by show σ.2.2.2 - 0 ≤ 7302250; omega⟩ hrm (w_top (nI_ofInt _).symm (kk (stk_i hst (by omega))))
theorem li_636 {Lc : aL} {S : List aV} (X0 : lwX p l0 s mi args cc d A cB) (hI : jI b L xs A s s.heap) (hL : L ≤ 260) (hst : aSt s 18 d A b True 0 0 (fun _ => 0) [] ad ls H locs Lc S σ) (h0 : Lc[0]? = some (some (6, 0))) (hb : σ.2.2.1 ≤ 600000 ∧ σ.2.2.2 ≤ 7302250) (hrm : ((S.map (aconc d.2.2.2.2 ad b)).map fun v => v.category).sum ≤ 5)
    (kk : aSt s 18 d A b True 0 0 (fun _ => 0) [] ad ls H locs Lc ((0, (inV L xs 5 20 : Int)) :: S) σ → aW p l0 e room_1 s mi args below meth cc Q d b 0 0 646 ad ls H locs ((0, (inV L xs 5 20 : Int)) :: S) σ) : aW p l0 e room_1 s mi args below meth cc Q d b 0 0 636 ad ls H locs S σ := by
  obtain ⟨g1, g2⟩ := ls_b (Or.inr ⟨S, hst⟩) h0
  have hlt : inV L xs 5 20 < 20 := inV_lt (by decide)
  exact inp_636 X0.1 X0.2.1 hI hst.2.2.1 hL g1 g2 ⟨by show σ.2.2.1 - 0 ≤ 600000; omega, by show σ.2.2.2 - 0 ≤ 7302250; omega⟩ hrm (w_top (nI_ofInt _).symm (kk (stk_i hst (by omega))))
theorem li_740 {Lc : aL} {S : List aV} (X0 : lwX p l0 s mi args cc d A cB) (hI : jI b L xs A s s.heap) (hL : L ≤ 260) (hst : aSt s 18 d A b True 0 0 (fun _ => 0) [] ad ls H locs Lc S σ) (h0 : Lc[0]? = some (some (6, 0))) (hb : σ.2.2.1 ≤ 600000 ∧ σ.2.2.2 ≤ 7302250) (hrm : ((S.map (aconc d.2.2.2.2 ad b)).map fun v => v.category).sum ≤ 5)
    (kk : aSt s 18 d A b True 0 0 (fun _ => 0) [] ad ls H locs Lc ((0, (inV L xs 6 40 : Int)) :: S) σ → aW p l0 e room_1 s mi args below meth cc Q d b 0 0 751 ad ls H locs ((0, (inV L xs 6 40 : Int)) :: S) σ) : aW p l0 e room_1 s mi args below meth cc Q d b 0 0 740 ad ls H locs S σ := by
  obtain ⟨g1, g2⟩ := ls_b (Or.inr ⟨S, hst⟩) h0
  have hlt : inV L xs 6 40 < 40 := inV_lt (by decide)
  exact inp_740 X0.1 X0.2.1 hI hst.2.2.1 hL g1 g2 ⟨by show σ.2.2.1 - 0 ≤ 600000; omega, by show σ.2.2.2 - 0 ≤ 7302250; omega⟩ hrm (w_top (nI_ofInt _).symm (kk (stk_i hst (by omega))))
theorem li_791 {Lc : aL} {S : List aV} (X0 : lwX p l0 s mi args cc d A cB) (hI : jI b L xs A s s.heap) (hL : L ≤ 260) (hst : aSt s 18 d A b True 0 0 (fun _ => 0) [] ad ls H locs Lc S σ) (h0 : Lc[0]? = some (some (6, 0))) (hb : σ.2.2.1 ≤ 600000 ∧ σ.2.2.2 ≤ 7302250) (hrm : ((S.map (aconc d.2.2.2.2 ad b)).map fun v => v.category).sum ≤ 5)
    (kk : aSt s 18 d A b True 0 0 (fun _ => 0) [] ad ls H locs Lc ((0, (inV L xs 7 1000 : Int)) :: S) σ → aW p l0 e room_1 s mi args below meth cc Q d b 0 0 803 ad ls H locs ((0, (inV L xs 7 1000 : Int)) :: S) σ) : aW p l0 e room_1 s mi args below meth cc Q d b 0 0 791 ad ls H locs S σ := by
  obtain ⟨g1, g2⟩ := ls_b (Or.inr ⟨S, hst⟩) h0
  have hlt : inV L xs 7 1000 < 1000 := inV_lt (by decide)
  exact inp_791 X0.1 X0.2.1 hI hst.2.2.1 hL g1 g2 ⟨by show σ.2.2.1 - 0 ≤ 600000; omega, by show σ.2.2.2 - 0 ≤ 7302250; omega⟩ hrm (w_top (nI_ofInt _).symm (kk (stk_i hst (by omega))))
theorem li_946 {Lc : aL} {S : List aV} (X0 : lwX p l0 s mi args cc d A cB) (hI : jI b L xs A s s.heap) (hL : L ≤ 260) (hst : aSt s 18 d A b True 0 0 (fun _ => 0) [] ad ls H locs Lc S σ) (h0 : Lc[0]? = some (some (6, 0))) (hb : σ.2.2.1 ≤ 600000 ∧ σ.2.2.2 ≤ 7302250) (hrm : ((S.map (aconc d.2.2.2.2 ad b)).map fun v => v.category).sum ≤ 5)
    (kk : aSt s 18 d A b True 0 0 (fun _ => 0) [] ad ls H locs Lc ((0, (inV L xs 8 100 : Int)) :: S) σ → aW p l0 e room_1 s mi args below meth cc Q d b 0 0 957 ad ls H locs ((0, (inV L xs 8 100 : Int)) :: S) σ) : aW p l0 e room_1 s mi args below meth cc Q d b 0 0 946 ad ls H locs S σ := by
  obtain ⟨g1, g2⟩ := ls_b (Or.inr ⟨S, hst⟩) h0
  have hlt : inV L xs 8 100 < 100 := inV_lt (by decide)
  exact inp_946 X0.1 X0.2.1 hI hst.2.2.1 hL g1 g2 ⟨by show σ.2.2.1 - 0 ≤ 600000; omega, by show σ.2.2.2 - 0 ≤ 7302250; omega⟩ hrm (w_top (nI_ofInt _).symm (kk (stk_i hst (by omega))))
theorem li_1106 {Lc : aL} {S : List aV} (X0 : lwX p l0 s mi args cc d A cB) (hI : jI b L xs A s s.heap) (hL : L ≤ 260) (hst : aSt s 18 d A b True 0 0 (fun _ => 0) [] ad ls H locs Lc S σ) (h0 : Lc[0]? = some (some (6, 0))) (hb : σ.2.2.1 ≤ 600000 ∧ σ.2.2.2 ≤ 7302250) (hrm : ((S.map (aconc d.2.2.2.2 ad b)).map fun v => v.category).sum ≤ 5)
    (kk : aSt s 18 d A b True 0 0 (fun _ => 0) [] ad ls H locs Lc ((0, (inV L xs 9 6 : Int)) :: S) σ → aW p l0 e room_1 s mi args below meth cc Q d b 0 0 1117 ad ls H locs ((0, (inV L xs 9 6 : Int)) :: S) σ) : aW p l0 e room_1 s mi args below meth cc Q d b 0 0 1106 ad ls H locs S σ := by
  obtain ⟨g1, g2⟩ := ls_b (Or.inr ⟨S, hst⟩) h0
  have hlt : inV L xs 9 6 < 6 := inV_lt (by decide)
  exact inp_1106 X0.1 X0.2.1 hI hst.2.2.1 hL g1 g2 ⟨by show σ.2.2.1 - 0 ≤ 600000; omega, by show σ.2.2.2 - 0 ≤ 7302250; omega⟩ hrm (w_top (nI_ofInt _).symm (kk (stk_i hst (by omega))))
theorem st_9 : stopB 9 ([(0, 6), (1, 21)], [0]) := stop_of (by decide +kernel)
theorem st_21 : stopB 21 ([(0, 6), (1, 21), (2, 0)], []) := stop_of (by decide +kernel)
theorem st_32 : stopB 32 ([(0, 6), (1, 21), (2, 0), (3, 0)], []) := stop_of (by decide +kernel)
theorem st_45 : stopB 45 ([(0, 6), (1, 21), (2, 0), (3, 0), (4, 0)], [0]) := stop_of (by decide +kernel)
theorem st_58 : stopB 58 ([(0, 6), (1, 21), (2, 0), (3, 0), (4, 0), (5, 0)], []) := stop_of (by decide +kernel)
theorem st_117 : stopB 117 ([(0, 6), (1, 21), (2, 0), (3, 0), (4, 0), (5, 0), (6, 0), (7, 0)], []) := stop_of (by decide +kernel)
theorem st_636 : stopB 636 ([(0, 6), (1, 21), (2, 0)], [0]) := stop_of (by decide +kernel)
theorem st_649 : stopB 649 ([(0, 6), (1, 21), (2, 0), (10, 0)], []) := stop_of (by decide +kernel)
theorem st_740 : stopB 740 ([(0, 6), (1, 21), (2, 0), (10, 0)], [0, 21]) := stop_of (by decide +kernel)
theorem st_791 : stopB 791 ([(0, 6), (1, 21), (2, 0), (10, 0)], []) := stop_of (by decide +kernel)
theorem st_805 : stopB 805 ([(0, 6), (1, 21), (2, 0), (10, 0), (12, 0)], []) := stop_of (by decide +kernel)
theorem st_946 : stopB 946 ([(0, 6), (1, 21), (2, 0), (10, 0), (12, 0)], []) := stop_of (by decide +kernel)
theorem st_959 : stopB 959 ([(0, 6), (1, 21), (2, 0), (10, 0), (12, 0), (13, 0)], []) := stop_of (by decide +kernel)
theorem st_1106 : stopB 1106 ([(0, 6), (1, 21), (2, 0), (10, 0)], [0]) := stop_of (by decide +kernel)
theorem st_1120 : stopB 1120 ([(1, 21), (2, 0), (10, 0), (14, 0)], []) := stop_of (by decide +kernel)
theorem st_1335 : stopB 1335 ([(1, 21)], []) := stop_of (by decide +kernel)
theorem st_1354 : stopB 1354 ([(1, 21)], []) := stop_of (by decide +kernel)
end LFR
