/-! from a method's pieces to its contract -/
theorem astks_s : ∀ {ts : List Nat} {S : List aV} {us : List Int} (ws : List Int), astks ts S = some us → aents ts (us ++ ws) = some (S, ws) := by
  intro ts
  induction ts with
  | nil => intro S us ws h; cases S with
    | nil => cases h; rfl
    | cons _ _ => cases h
  | cons t ts ih =>
    intro S us ws h
    cases S with
    | nil => cases h
    | cons v S =>
      obtain ⟨t', x⟩ := v
      unfold astks at h
      split at h
      · rename_i hb
        split at h
        · rename_i xs hx
          cases h
          show (match aents ts (xs ++ ws) with
            | some (S, q) => some ((t, x) :: S, q)
            | none => none) = _
          rw [ih ws hx, Nat.eq_of_beq_eq_true hb]
        · cases h
      · cases h
theorem aentl_s {L : aL} : ∀ {c : List (Nat × Nat)} {vs : List Int} {acc : aL}, alocs L c = some vs → (∀ (i : Nat) (v : aV), acc[i]? = some (some v) → L[i]? = some (some v)) → ∃ L0, aentl c vs acc = some L0 ∧ L0.length = acc.length ∧ ∀ (i : Nat) (v : aV), L0[i]? = some (some v) → L[i]? = some (some v) := by
  intro c
  induction c with
  | nil => intro vs acc h ha; cases h; exact ⟨acc, rfl, rfl, ha⟩
  | cons q c ih =>
    intro vs acc h ha
    obtain ⟨i, t⟩ := q
    unfold alocs at h
    split at h
    · rename_i x hx
      split at h
      · rename_i xs hxs
        cases h
        obtain ⟨L0, h1, h2, h3⟩ := ih (acc := acc.set i (some (t, x))) hxs (fun j v hj => by
          by_cases e : i = j
          · subst e
            rw [List.getElem?_set] at hj
            simp at hj
            rw [alod_s hx, ← hj.2]
          · rw [List.getElem?_set_ne e] at hj
            exact ha j v hj)
        exact ⟨L0, h1, by rw [h2, List.length_set], h3⟩
      · cases h
    · cases h
/-- a leaf's values give back the stack, and locals that were there -/
theorem aleaf_s {pc : Nat} {c : List (Nat × Nat) × List Nat} {L : aL} {S : List aV} {σ : aS} {r : Nat × List Int × aS} (h : aleaf pc c L S σ = some r) : r.1 = pc + 1 ∧ r.2.2 = σ ∧ ∀ nL, ∃ L0, aent nL c r.2.1 = some (L0, S) ∧ L0.length = nL ∧ ∀ (i : Nat) (v : aV), L0[i]? = some (some v) → L[i]? = some (some v) := by
  unfold aleaf at h
  split at h
  · rename_i us hus
    split at h
    · rename_i vs hvs
      cases h
      refine ⟨rfl, rfl, fun nL => ?_⟩
      obtain ⟨L0, h1, h2, h3⟩ := aentl_s (acc := List.replicate nL none) hvs (fun i v hi => by
        rw [List.getElem?_replicate] at hi
        split at hi <;> cases hi)
      refine ⟨L0, ?_, by rw [h2, List.length_replicate], h3⟩
      unfold aent
      rw [astks_s vs hus]
      dsimp only
      rw [h1]
    · cases h
  · cases h
/-- pieces one after another, until the answer -/
def aiter (F : Nat → List Int → aS → aR) (X : aX) (nL : Nat) (code : List aE) : Nat → Nat × List Int × aS → aR
  | 0, _ => none
  | n + 1, x => match x.1 with
    | 0 => some x
    | pc + 1 => match aseg F X nL code pc x.2.1 x.2.2 with
      | some y => aiter F X nL code n y
      | none => none
theorem aSeq_from : ∀ {code : List aE} {e : aE}, aSeq code = true → e ∈ code → ∃ q, afrom e.1 code = e :: q := by
  have hlt : ∀ {code : List aE} {a : aE}, aSeq (a :: code) = true → ∀ e ∈ code, a.1 < e.1 := by
    intro code
    induction code with
    | nil => intro a h e he; cases he
    | cons b code ih =>
      intro a h e he
      unfold aSeq at h
      simp only [Bool.and_eq_true] at h
      have hab : a.1 < b.1 := by simpa [Nat.blt_eq] using h.1.2
      rcases List.mem_cons.mp he with rfl | he
      · exact hab
      · exact Nat.lt_trans hab (ih h.2 e he)
  intro code
  induction code with
  | nil => intro e h he; cases he
  | cons a code ih =>
    intro e h he
    unfold afrom
    rcases List.mem_cons.mp he with rfl | he'
    · rw [show Nat.beq e.1 e.1 = true from Nat.beq_refl _]
      exact ⟨_, rfl⟩
    · have hne : Nat.beq a.1 e.1 = false := by
        cases hb : Nat.beq a.1 e.1 with
        | false => rfl
        | true => have := hlt h e he'; have := Nat.eq_of_beq_eq_true hb; omega
      rw [hne]
      refine ih ?_ he'
      cases code with
      | nil => rfl
      | cons b code =>
        unfold aSeq at h
        simp only [Bool.and_eq_true] at h
        exact h.2
def aX0 : aX := (0, fun _ => 0)
section ASIM
variable {p : Program} {l : Launch} {e : Env} {R : Room} {s : State} {m : MethodId} {args : Array Value} {below : List Frame} {meth : Method} {c : Code} {Q : State → Prop}
variable {ms : List aM} {M : aM} {d : aD} {A : Nat → Prop} {b : Nat} {hX : Prop} {X : aX} {c0 s0 : Nat} {ad0 : Nat → Nat} {ks0 : aK} {F : Nat → List Int → aS → aR}
/-- the machine comes to Q from an instruction -/
abbrev aW (p : Program) (l : Launch) (e : Env) (R : Room) (s : State) (m : MethodId) (args : Array Value) (below : List Frame) (meth : Method) (c : Code) (Q : State → Prop) (d : aD) (b c0 s0 : Nat) (pc : Nat) (ad : Nat → Nat) (ls : Array Slot) (H : Heap) (locs : List Loc) (S : List aV) (σ : aS) : Prop :=
  W p l e R s m args below meth c H locs (σ.2.2.1 - c0) (σ.2.2.2 - s0) Q (F0 m pc ls (S.map (aconc d.2.2.2.2 ad b)))
/-- the calls of a method's rows, in the frame -/
def aCalOK (p : Program) (l : Launch) (e : Env) (R : Room) (s : State) (m : MethodId) (args : Array Value) (below : List Frame) (meth : Method) (c : Code) (M : aM) (d : aD) (A : Nat → Prop) (b : Nat) (hX : Prop) (c0 s0 : Nat) (ad0 : Nat → Nat) (ks0 : aK) (F : Nat → List Int → aS → aR) : Prop :=
  ∀ ea ∈ aMc M, ∀ (cf sf : Nat) (ad : Nat → Nat) (ls : Array Slot) (H : Heap) (locs : List Loc) (L : aL) (S : List aV) (σ : aS) (f kk : Nat) (ts : List Nat) (q : List Int × List aV) (vs : List Int) (σ' : aS), cf ≤ c0 + R.cells → sf ≤ s0 + R.slots → aSt s (aMn M) d A b hX c0 s0 ad0 ks0 ad ls H locs L S σ → ea.2.2.2.1 = f :: kk :: ts → ((∃ i, ea.2.1 = .invokespecial i ∧ kk = 0) ∨ (∃ i, ea.2.1 = .invokevirtual i) ∨ (∃ i, ea.2.1 = .invokestatic i)) → apops ts S = some q → Nat.ble (awid q.2) 8 = true → F f q.1 σ = some (0, vs, σ') → σ'.2.2.1 ≤ cf → σ'.2.2.2 ≤ sf →
    (σ.2.2.1 ≤ σ'.2.2.1 ∧ σ.2.2.2 ≤ σ'.2.2.2) ∧ va_Run p l e R s m args below meth c H locs (σ.2.2.1 - c0) (σ.2.2.2 - s0) (σ'.2.2.1 - σ.2.2.1) (σ'.2.2.2 - σ.2.2.2) (F0 m ea.1 ls (S.map (aconc d.2.2.2.2 ad b))) (q.2.map (aconc d.2.2.2.2 ad b)) (aPost d ad σ σ' (aKg kk vs) (aKv kk vs) H.size) (va_A (aW0 d ad σ) H.size)
/-- the ends of a method, in the frame -/
def aRetOK (p : Program) (l : Launch) (e : Env) (R : Room) (s : State) (m : MethodId) (args : Array Value) (below : List Frame) (meth : Method) (c : Code) (Q : State → Prop) (M : aM) (d : aD) (A : Nat → Prop) (b : Nat) (hX : Prop) (c0 s0 : Nat) (ad0 : Nat → Nat) (ks0 : aK) (rf : Nat × List Int × aS) : Prop :=
  ∀ ea ∈ aMc M, ∀ (ad : Nat → Nat) (ls : Array Slot) (H : Heap) (locs : List Loc) (L : aL) (S : List aV) (σ : aS), aSt s (aMn M) d A b hX c0 s0 ad0 ks0 ad ls H locs L S σ →
    (∀ x, ar32 x → rf = (0, [x], σ) → S = [(0, x)] → decode (aMb M) ea.1 = .ok (.ireturn, 1) → aMr M = some .int → aW p l e R s m args below meth c Q d b c0 s0 ea.1 ad ls H locs S σ) ∧
    (∀ x, (x = 0 ∨ x = 1) → rf = (0, [x], σ) → S = [(0, x)] → decode (aMb M) ea.1 = .ok (.ireturn, 1) → aMr M = some .boolean → aW p l e R s m args below meth c Q d b c0 s0 ea.1 ad ls H locs S σ) ∧
    (∀ x, ar64 x → rf = (0, [x], σ) → S = [(1, x)] → decode (aMb M) ea.1 = .ok (.lreturn, 1) → aMr M = some .long → aW p l e R s m args below meth c Q d b c0 s0 ea.1 ad ls H locs S σ) ∧
    (rf = (0, [], σ) → S = [] → decode (aMb M) ea.1 = .ok (.return_, 1) → aMr M = none → aW p l e R s m args below meth c Q d b c0 s0 ea.1 ad ls H locs S σ)
set_option maxHeartbeats 4000000 in
set_option maxRecDepth 100000 in
/-- a piece, up to its end: r is where it ends, rf where the method does -/
theorem a_run {r rf : Nat × List Int × aS} (C : aCx p l R s m args meth c M d A b hX X) (hmok : aMok ms M = true) (hgrow : ∀ ea ∈ aMc M, aInv ea.2.1 = true → ∀ f kk ts, ea.2.2.2.1 = f :: kk :: ts → aGrow F f) (hb1 : rf.2.2.2.2.1 ≤ c0 + R.cells ∧ rf.2.2.2.2.2 ≤ s0 + R.slots) (hrf : r.2.2.2.2.1 ≤ rf.2.2.2.2.1 ∧ r.2.2.2.2.2 ≤ rf.2.2.2.2.2)
    (hcal : aCalOK p l e R s m args below meth c M d A b hX c0 s0 ad0 ks0 F) (hret : r.1 = 0 → r = rf ∧ aRetOK p l e R s m args below meth c Q M d A b hX c0 s0 ad0 ks0 rf)
    (hleaf : ∀ ea ∈ aMc M, ∀ cc, ea.2.2.2.2.2 = some cc → ∀ ad ls H locs L S σ, aleaf ea.1 cc L S σ = some r → aSt s (aMn M) d A b hX c0 s0 ad0 ks0 ad ls H locs L S σ → aW p l e R s m args below meth c Q d b c0 s0 ea.1 ad ls H locs S σ) :
    ∀ (n : Nat) (ea : aE) (rest : List aE) (L : aL) (S : List aV) (σ : aS) (ad : Nat → Nat) (ls : Array Slot) (H : Heap) (locs : List Loc), (∃ pre, aMc M = pre ++ ea :: rest) → arun F X (aMc M) n (ea :: rest) L S σ = some r → aSt s (aMn M) d A b hX c0 s0 ad0 ks0 ad ls H locs L S σ → aW p l e R s m args below meth c Q d b c0 s0 ea.1 ad ls H locs S σ := by
  unfold aMok at hmok
  simp only [Bool.and_eq_true, List.all_eq_true] at hmok
  obtain ⟨⟨⟨hrows, hseq⟩, -⟩, -⟩ := hmok
  have lf : ∀ {pc c L S} {σ : aS}, aleaf pc c L S σ = some r → r.2.2 = σ := fun h => (aleaf_s h).2.1
  intro n
  induction n with
  | zero => intro ea rest L S σ ad ls H locs hp h hst; cases h
  | succ n ih =>
    intro ea rest L S σ ad ls H locs hp h hst
    obtain ⟨pre, hpre⟩ := hp
    have hin : ea ∈ aMc M := by rw [hpre]; exact List.mem_append_right _ List.mem_cons_self
    unfold arun at h
    have hmr : ∀ e' ∈ rest, e' ∈ aMc M := fun e' he' => by rw [hpre]; exact List.mem_append_right _ (List.mem_cons_of_mem _ he')
    refine a_row (Q := Q) (ms := ms) (X := X) (F := F) (r := r) C (hrows ea hin) ⟨Nat.le_trans hrf.1 hb1.1, Nat.le_trans hrf.2 hb1.2⟩ ?_ ?_ ?_ ?_ ?_ ?_ ?_ ?_ h hst
    · intro L' S' σ' hk
      split at hk
      · cases hk
      · split at hk
        · rw [lf hk]; exact ⟨Nat.le_refl _, Nat.le_refl _⟩
        · exact arun_mono hgrow _ _ _ _ _ _ hmr hk
    · intro ad ls H locs L' S' σ' hk hst'
      cases rest with
      | nil => cases hk
      | cons e' q =>
        have hpc : e'.1 = ea.1 + ea.2.2.1 := aSeq_s (by rw [hpre] at hseq; exact hseq)
        rw [← hpc]
        dsimp only at hk
        split at hk
        · rename_i cc hcc
          exact hleaf e' (hmr _ List.mem_cons_self) cc hcc ad ls H locs L' S' σ' hk hst'
        · exact ih e' q L' S' σ' ad ls H locs ⟨pre ++ [ea], by rw [hpre]; simp⟩ hk hst'
    · intro t ad ls H locs L' S' σ' hk hst'
      split at hk
      · cases hk
      · rename_i e' q hq
        obtain ⟨hpc, pre', hpre'⟩ := afrom_s hq
        rw [← hpc]
        split at hk
        · rename_i cc hcc
          exact hleaf e' (by rw [hpre']; exact List.mem_append_right _ List.mem_cons_self) cc hcc ad ls H locs L' S' σ' hk hst'
        · exact ih e' q L' S' σ' ad ls H locs ⟨pre', hpre'⟩ hk hst'
    · intro f kk ts q vs σ' haux hkind hq hwd hF h1 h2
      exact hcal ea hin rf.2.2.2.2.1 rf.2.2.2.2.2 ad ls H locs L S σ f kk ts q vs σ' hb1.1 hb1.2 hst haux hkind hq hwd hF (Nat.le_trans h1 hrf.1) (Nat.le_trans h2 hrf.2)
    · intro x hx hr hS hd hm
      obtain ⟨e1, h9⟩ := hret (by rw [hr])
      exact (h9 ea hin ad ls H locs L S σ hst).1 x hx (by rw [← e1]; exact hr) hS hd hm
    · intro x hx hr hS hd hm
      obtain ⟨e1, h9⟩ := hret (by rw [hr])
      exact (h9 ea hin ad ls H locs L S σ hst).2.1 x hx (by rw [← e1]; exact hr) hS hd hm
    · intro x hx hr hS hd hm
      obtain ⟨e1, h9⟩ := hret (by rw [hr])
      exact (h9 ea hin ad ls H locs L S σ hst).2.2.1 x hx (by rw [← e1]; exact hr) hS hd hm
    · intro hr hS hd hm
      obtain ⟨e1, h9⟩ := hret (by rw [hr])
      exact (h9 ea hin ad ls H locs L S σ hst).2.2.2 (by rw [← e1]; exact hr) hS hd hm
theorem aseg_mono (hgrow : ∀ ea ∈ aMc M, aInv ea.2.1 = true → ∀ f kk ts, ea.2.2.2.1 = f :: kk :: ts → aGrow F f) {nL pc : Nat} {vs : List Int} {σ : aS} {r : Nat × List Int × aS} (h : aseg F X nL (aMc M) pc vs σ = some r) : σ.2.2.1 ≤ r.2.2.2.2.1 ∧ σ.2.2.2 ≤ r.2.2.2.2.2 := by
  unfold aseg at h
  split at h
  · cases h
  · rename_i ea q hq
    split at h
    · split at h
      · obtain ⟨-, pre, hc⟩ := afrom_s hq
        exact arun_mono hgrow _ _ _ _ _ _ (fun u hu => by rw [hc]; exact List.mem_append_right _ hu) h
      · cases h
    · cases h
theorem aiter_mono (hgrow : ∀ ea ∈ aMc M, aInv ea.2.1 = true → ∀ f kk ts, ea.2.2.2.1 = f :: kk :: ts → aGrow F f) {nL : Nat} : ∀ (n : Nat) (x rf : Nat × List Int × aS), aiter F X nL (aMc M) n x = some rf → x.2.2.2.2.1 ≤ rf.2.2.2.2.1 ∧ x.2.2.2.2.2 ≤ rf.2.2.2.2.2 := by
  intro n
  induction n with
  | zero => intro x rf h; cases h
  | succ n ih =>
    intro x rf h
    obtain ⟨t, vs, σ⟩ := x
    cases t with
    | zero => cases h; exact ⟨Nat.le_refl _, Nat.le_refl _⟩
    | succ pc =>
      unfold aiter at h
      dsimp only at h
      split at h
      · rename_i y hy
        have h1 := aseg_mono hgrow hy
        have h2 := ih y rf h
        exact ⟨Nat.le_trans h1.1 h2.1, Nat.le_trans h1.2 h2.2⟩
      · cases h
set_option maxHeartbeats 4000000 in
set_option maxRecDepth 100000 in
/-- from a cut to the method's end -/
theorem a_iter {rf : Nat × List Int × aS} (C : aCx p l R s m args meth c M d A b hX X) (hmok : aMok ms M = true) (hgrow : ∀ ea ∈ aMc M, aInv ea.2.1 = true → ∀ f kk ts, ea.2.2.2.1 = f :: kk :: ts → aGrow F f) (hb1 : rf.2.2.2.2.1 ≤ c0 + R.cells ∧ rf.2.2.2.2.2 ≤ s0 + R.slots)
    (hcal : aCalOK p l e R s m args below meth c M d A b hX c0 s0 ad0 ks0 F) (hret : aRetOK p l e R s m args below meth c Q M d A b hX c0 s0 ad0 ks0 rf) :
    ∀ (n : Nat) (pc : Nat) (vs : List Int) (σ : aS), aiter F X (aMn M) (aMc M) n (pc + 1, vs, σ) = some rf →
      ∀ (ea : aE) (q : List aE) (cc : List (Nat × Nat) × List Nat) (L : aL) (S : List aV) (ad : Nat → Nat) (ls : Array Slot) (H : Heap) (locs : List Loc), afrom pc (aMc M) = ea :: q → ea.2.2.2.2.2 = some cc → aent (aMn M) cc vs = some (L, S) → aSt s (aMn M) d A b hX c0 s0 ad0 ks0 ad ls H locs L S σ → aW p l e R s m args below meth c Q d b c0 s0 ea.1 ad ls H locs S σ := by
  intro n
  induction n with
  | zero => intro pc vs σ h; cases h
  | succ n ih =>
    intro pc vs σ h ea q cc L S ad ls H locs hfr hcc hent hst
    unfold aiter at h
    dsimp only at h
    split at h
    · rename_i y hy
      have hm := aiter_mono hgrow _ _ _ h
      unfold aseg at hy
      rw [hfr] at hy
      dsimp only at hy
      rw [hcc] at hy
      dsimp only at hy
      rw [hent] at hy
      dsimp only at hy
      obtain ⟨hpc, pre, hpre⟩ := afrom_s hfr
      have hseq : aSeq (aMc M) = true := by
        unfold aMok at hmok
        simp only [Bool.and_eq_true] at hmok
        exact hmok.1.1.2
      refine a_run (r := y) (rf := rf) C hmok hgrow hb1 hm hcal ?_ ?_ 3000 ea q L S σ ad ls H locs ⟨pre, hpre⟩ hy hst
      · intro h0
        refine ⟨?_, hret⟩
        cases n with
        | zero => cases h
        | succ n =>
          obtain ⟨t, vs', σ'⟩ := y
          dsimp only at h0
          subst h0
          cases h
          rfl
      · intro e' he' c' hc' ad' ls' H' locs' L' S' σ' hlf hst'
        obtain ⟨e1, e2, e3⟩ := aleaf_s hlf
        obtain ⟨L0, h1, h2, h3⟩ := e3 (aMn M)
        obtain ⟨t, vs', σ2⟩ := y
        dsimp only at e1 e2 h1
        subst e1
        subst e2
        -- the row is the first one of its place
        obtain ⟨q', hq'⟩ : ∃ q', afrom e'.1 (aMc M) = e' :: q' := aSeq_from hseq he'
        refine ih e'.1 vs' σ2 h e' q' c' L0 S' ad' ls' H' locs' hq' hc' h1 ?_
        obtain ⟨g1, g2, g3, g4, g5, g6, g7, g8⟩ := hst'
        exact ⟨g1, g2, g3, g4, ⟨g5.1, h2, g5.2.2.1, fun i v hi => g5.2.2.2 i v (h3 i v hi)⟩, fun i v hi => g6 i v (h3 i v hi), g7, g8⟩
    · cases h
end ASIM
