/-! from a cut to a stop: what holds at the stop comes to the cut -/
section STOP
variable {p : Program} {l : Launch} {e : Env} {R : Room} {s : State} {m : MethodId} {args : Array Value} {below : List Frame} {meth : Method} {c : Code} {Q : State → Prop}
variable {ms : List aM} {M : aM} {d : aD} {A : Nat → Prop} {b : Nat} {hX : Prop} {X : aX} {c0 s0 : Nat} {ad0 : Nat → Nat} {ks0 : aK} {F : Nat → List Int → aS → aR}
theorem astepn_mono (hgrow : ∀ ea ∈ aMc M, aInv ea.2.1 = true → ∀ f kk ts, ea.2.2.2.1 = f :: kk :: ts → aGrow F f) {nL : Nat} : ∀ (n : Nat) (x r : Nat × List Int × aS), astepn F X nL (aMc M) n x = some r → x.2.2.2.2.1 ≤ r.2.2.2.2.1 ∧ x.2.2.2.2.2 ≤ r.2.2.2.2.2 := by
  intro n
  induction n with
  | zero => intro x r h; cases h; exact ⟨Nat.le_refl _, Nat.le_refl _⟩
  | succ n ih =>
    intro x r h
    obtain ⟨t, vs, σ⟩ := x
    cases t with
    | zero => cases h
    | succ pc =>
      unfold astepn at h
      dsimp only at h
      split at h
      · rename_i y hy
        have h1 := aseg_mono hgrow hy
        have h2 := ih y r h
        exact ⟨Nat.le_trans h1.1 h2.1, Nat.le_trans h1.2 h2.2⟩
      · cases h
set_option maxHeartbeats 4000000 in
set_option maxRecDepth 100000 in
theorem a_stop {r : Nat × List Int × aS} (C : aCx p l R s m args meth c M d A b hX X) (hmok : aMok ms M = true) (hgrow : ∀ ea ∈ aMc M, aInv ea.2.1 = true → ∀ f kk ts, ea.2.2.2.1 = f :: kk :: ts → aGrow F f) (hb1 : r.2.2.2.2.1 ≤ c0 + R.cells ∧ r.2.2.2.2.2 ≤ s0 + R.slots)
    (hcal : aCalOK p l e R s m args below meth c M d A b hX c0 s0 ad0 ks0 F) (hnz : r.1 ≠ 0)
    (hstop : ∀ ea ∈ aMc M, ∀ (cc : List (Nat × Nat) × List Nat) (L : aL) (S : List aV) (ad : Nat → Nat) (ls : Array Slot) (H : Heap) (locs : List Loc), r.1 = ea.1 + 1 → ea.2.2.2.2.2 = some cc → aent (aMn M) cc r.2.1 = some (L, S) → aSt s (aMn M) d A b hX c0 s0 ad0 ks0 ad ls H locs L S r.2.2 → aW p l e R s m args below meth c Q d b c0 s0 ea.1 ad ls H locs S r.2.2) :
    ∀ (n : Nat) (pc : Nat) (vs : List Int) (σ : aS), astepn F X (aMn M) (aMc M) n (pc + 1, vs, σ) = some r →
      ∀ (ea : aE) (q : List aE) (cc : List (Nat × Nat) × List Nat) (L : aL) (S : List aV) (ad : Nat → Nat) (ls : Array Slot) (H : Heap) (locs : List Loc), afrom pc (aMc M) = ea :: q → ea.2.2.2.2.2 = some cc → aent (aMn M) cc vs = some (L, S) → aSt s (aMn M) d A b hX c0 s0 ad0 ks0 ad ls H locs L S σ → aW p l e R s m args below meth c Q d b c0 s0 ea.1 ad ls H locs S σ := by
  intro n
  induction n with
  | zero =>
    intro pc vs σ h ea q cc L S ad ls H locs hfr hcc hent hst
    cases h
    obtain ⟨hpc, pre, hpre⟩ := afrom_s hfr
    exact hstop ea (by rw [hpre]; exact List.mem_append_right _ List.mem_cons_self) cc L S ad ls H locs (by rw [hpc]) hcc hent hst
  | succ n ih =>
    intro pc vs σ h ea q cc L S ad ls H locs hfr hcc hent hst
    unfold astepn at h
    dsimp only at h
    split at h
    · rename_i y hy
      have hm := astepn_mono hgrow _ _ _ h
      unfold aseg at hy
      rw [hfr] at hy
      dsimp only at hy
      rw [hcc] at hy
      dsimp only at hy
      rw [hent] at hy
      dsimp only at hy
      obtain ⟨hpc, pre, hpre⟩ := afrom_s hfr
      have hseq : aSeq (aMc M) = true := by
        unfold aMok at hmok
        simp only [Bool.and_eq_true] at hmok
        exact hmok.1.1.2
      refine a_run (r := y) (rf := r) C hmok hgrow hb1 hm hcal ?_ ?_ 3000 ea q L S σ ad ls H locs ⟨pre, hpre⟩ hy hst
      · intro h0
        obtain ⟨t, vs', σ'⟩ := y
        dsimp only at h0
        subst h0
        cases n with
        | zero => cases h; exact absurd rfl hnz
        | succ n => cases h
      · intro e' he' c' hc' ad' ls' H' locs' L' S' σ' hlf hst'
        obtain ⟨e1, e2, e3⟩ := aleaf_s hlf
        obtain ⟨L0, h1, h2, h3⟩ := e3 (aMn M)
        obtain ⟨t, vs', σ2⟩ := y
        dsimp only at e1 e2 h1
        subst e1
        subst e2
        obtain ⟨q', hq'⟩ : ∃ q', afrom e'.1 (aMc M) = e' :: q' := aSeq_from hseq he'
        refine ih e'.1 vs' σ2 h e' q' c' L0 S' ad' ls' H' locs' hq' hc' h1 ?_
        obtain ⟨g1, g2, g3, g4, g5, g6, g7, g8⟩ := hst'
        exact ⟨g1, g2, g3, g4, ⟨g5.1, h2, g5.2.2.1, fun i v hi => g5.2.2.2 i v (h3 i v hi)⟩, fun i v hi => g6 i v (h3 i v hi), g7, g8⟩
    · cases h
end STOP
