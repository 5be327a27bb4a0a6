theorem a_lk {r : Nat × List Int × aS} {x : Int} {f : Nat → aR} {pc : Nat} {dd : Int} : ∀ (os : List (Int × Int)), alookup x f pc dd os = some r → f ((pc : Int) + Op.lookupswitch.offset os dd x).toNat = some r ∧ (Op.lookupswitch.offset os dd x = dd ∨ ∃ q ∈ os, Op.lookupswitch.offset os dd x = q.2) := by
  intro os
  induction os with
  | nil => intro h; exact ⟨h, Or.inl rfl⟩
  | cons q os ih =>
    intro h
    obtain ⟨v, o⟩ := q
    unfold alookup at h
    rw [Op.lookupswitch.offset_cons]
    split at h
    · rename_i e
      rw [if_pos e.symm]
      exact ⟨h, Or.inr ⟨_, List.mem_cons_self, rfl⟩⟩
    · rename_i e
      rw [if_neg (fun q => e q.symm)]
      obtain ⟨h1, h2⟩ := ih h
      refine ⟨h1, ?_⟩
      rcases h2 with h2 | ⟨q, hq, h2⟩
      · exact Or.inl h2
      · exact Or.inr ⟨q, List.mem_cons_of_mem _ hq, h2⟩
/-- the answer of a call as the machine's value, by its kind -/
def aKv : Nat → List Int → Option Value
  | 0, [] => none
  | 1, [r] => some (.int (Int32.ofInt r))
  | 2, [r] => some (.long (Int64.ofInt r))
  | _, _ => none
def aKg : Nat → List Int → Prop
  | 0, [] => True
  | 1, [r] => ar32 r
  | 2, [r] => ar64 r
  | _, _ => True
theorem acall0_s {m : aR} {f : aS → aR} {r : Nat × List Int × aS} (h : acall0 m f = some r) : ∃ σ, m = some (0, [], σ) ∧ f σ = some r := by
  unfold acall0 at h
  split at h
  · exact ⟨_, rfl, h⟩
  · cases h
theorem acall1_s {m : aR} {f : Int → aS → aR} {r : Nat × List Int × aS} (h : acall1 m f = some r) : ∃ v σ, m = some (0, [v], σ) ∧ f v σ = some r := by
  unfold acall1 at h
  split at h
  · exact ⟨_, _, rfl, h⟩
  · cases h
theorem apops_sub {ts : List Nat} {S : List aV} {q : List Int × List aV} (h : apops ts S = some q) : ∀ u ∈ q.2, u ∈ S := by
  intro u hu
  rw [(apops_s h).2]
  exact List.mem_append_right _ hu
section AROW
variable {p : Program} {l : Launch} {e : Env} {R : Room} {s : State} {m : MethodId} {args : Array Value} {below : List Frame} {meth : Method} {c : Code} {Q : State → Prop}
variable {ms : List aM} {M : aM} {d : aD} {A : Nat → Prop} {b : Nat} {hX : Prop} {X : aX} {c0 s0 : Nat} {ad0 : Nat → Nat} {ks0 : aK} {F : Nat → List Int → aS → aR}
theorem a_call {H : Heap} {locs : List Loc} {cells slots mc mss pc : Nat} {ls : Array Slot} {st0 rest : List Value} {Qa : State → Outcome → State → Prop} {free : Addr → Prop} (hr : va_Run p l e R s m args below meth c H locs cells slots mc mss (F0 m pc ls st0) rest Qa free) (hf : ∀ q ∈ locs, A q.base) (hfr : ∀ q, free q → A q)
    (kk : ∀ (v : Option Value) (st₀ t : State) (locs1 : List Loc), st₀.heap = H → s.vm.Alike t.vm → Qa st₀ (.returned v) t → (∀ q ∈ locs1, A q.base) → W p l e R s m args below meth c t.heap locs1 (cells + mc) (slots + mss) Q (F0 m (pc + 3) ls (v.toList ++ rest))) : W p l e R s m args below meth c H locs cells slots Q (F0 m pc ls st0) := by
  intro T hT X
  obtain ⟨v, st₀, t, T', L, h0, X', hL, e1, e2, hq, st⟩ := hr T hT X
  obtain ⟨t2, a1, b1⟩ := kk v st₀ t (locs ++ L) h0 (by rw [← e2]; exact X'.warmed.alike) hq (fun q h => (List.mem_append.mp h).elim (hf q) (fun h => hfr _ (hL q h))) T' e1 X'
  exact ⟨t2, st t2 a1, b1⟩
/-- behind a call: the machine at the callee's end -/
theorem a_after {H : Heap} {locs : List Loc} {pc nL : Nat} {ad : Nat → Nat} {ls : Array Slot} {L : aL} {S S' : List aV} {σ σ' : aS} {v : Option Value} {st0 : List Value}
    (hA : ∀ q, s.heap.size ≤ q → A q) (hst : aSt s nL d A b hX c0 s0 ad0 ks0 ad ls H locs L S σ) (hS' : ∀ u ∈ S', u ∈ S) (hgr : σ.2.2.1 ≤ σ'.2.2.1 ∧ σ.2.2.2 ≤ σ'.2.2.2) {kg : Prop}
    (hr : va_Run p l e R s m args below meth c H locs (σ.2.2.1 - c0) (σ.2.2.2 - s0) (σ'.2.2.1 - σ.2.2.1) (σ'.2.2.2 - σ.2.2.2) (F0 m pc ls st0) (S'.map (aconc d.2.2.2.2 ad b)) (aPost d ad σ σ' kg v H.size) (va_A (aW0 d ad σ) H.size))
    (kk : kg → ∀ (ad' : Nat → Nat) (H1 : Heap) (locs1 : List Loc), aSt s nL d A b hX c0 s0 ad0 ks0 ad' ls H1 locs1 L S' σ' → W p l e R s m args below meth c H1 locs1 (σ'.2.2.1 - c0) (σ'.2.2.2 - s0) Q (F0 m (pc + 3) ls (v.toList ++ S'.map (aconc d.2.2.2.2 ad' b)))) :
    W p l e R s m args below meth c H locs (σ.2.2.1 - c0) (σ.2.2.2 - s0) Q (F0 m pc ls st0) := by
  obtain ⟨hP, hD, hSS, hG, hL, hgL, hgS, hc, had, hext⟩ := hst
  obtain ⟨hc1, hc2⟩ := hgr
  have hfree : ∀ q, va_A (aW0 d ad σ) H.size q → A q := by
    rintro q (⟨k, x, hk⟩ | h)
    · exact hD.2 k _ hk
    · exact hA q (Nat.le_trans hSS.1 h)
  refine a_call hr hSS.2.2 hfree (fun v' st₀ t locs1 h0 hvm hq hl1 => ?_)
  obtain ⟨⟨⟨hG', hE, -, -⟩, hkg⟩, ⟨ad', hz, hv, hP1, hD1⟩, hz1, hk1⟩ := hq
  cases hv
  rw [h0] at hz1 hk1
  have hlt : ∀ k, k < ks0.length → k < σ.1.length := fun k hk => by
    obtain ⟨q, hq⟩ : ∃ q, ks0[k]? = some q := ⟨_, List.getElem?_eq_getElem hk⟩
    exact (List.getElem?_eq_some_iff.mp (hext k q hq)).1
  have hgS' : ∀ u ∈ S', aGv σ.1 hX u := fun u hu => hgS u (hS' u hu)
  have key := kk hkg ad' t.heap locs1 ⟨hP1, hD1.weaken (fun _ q _ h => hfree _ h), ⟨Nat.le_trans hSS.1 hz1, fun q h1 h2 => (hk1 q (Nat.lt_of_lt_of_le h1 hSS.1) (fun z => h2 (hfree q z))).trans (hSS.2.1 q h1 h2), hl1⟩, hG',
    hL.ad hgL hz, fun i u hu => (hgL i u hu).ext hE, fun u hu => (hgS' u hu).ext hE, ⟨Nat.le_trans hc.1 hc1, Nat.le_trans hc.2 hc2⟩, fun k hk => (hz k (hlt k hk)).trans (had k hk), hext.tr hE⟩
  rw [amap_ad hgS' hz] at key
  rw [show σ.2.2.1 - c0 + (σ'.2.2.1 - σ.2.2.1) = σ'.2.2.1 - c0 by omega, show σ.2.2.2 - s0 + (σ'.2.2.2 - σ.2.2.2) = σ'.2.2.2 - s0 by omega]
  exact key

set_option maxHeartbeats 4000000 in
set_option maxRecDepth 100000 in
theorem a_row {k : aL → List aV → aS → aR} {j : Nat → aL → List aV → aS → aR} {ea : aE} {L : aL} {S : List aV} {σ : aS} {r : Nat × List Int × aS} {ad : Nat → Nat} {ls : Array Slot} {H : Heap} {locs : List Loc}
    (C : aCx p l R s m args meth c M d A b hX X) (hok : aEok ms M ea = true) (hb1 : r.2.2.2.2.1 ≤ c0 + R.cells ∧ r.2.2.2.2.2 ≤ s0 + R.slots)
    (hmk : ∀ L' S' σ', k L' S' σ' = some r → σ'.2.2.1 ≤ r.2.2.2.2.1 ∧ σ'.2.2.2 ≤ r.2.2.2.2.2)
    (hk : ∀ ad ls H locs L' S' σ', k L' S' σ' = some r → aSt s (aMn M) d A b hX c0 s0 ad0 ks0 ad ls H locs L' S' σ' → W p l e R s m args below meth c H locs (σ'.2.2.1 - c0) (σ'.2.2.2 - s0) Q (F0 m (ea.1 + ea.2.2.1) ls (S'.map (aconc d.2.2.2.2 ad b))))
    (hj : ∀ t ad ls H locs L' S' σ', j t L' S' σ' = some r → aSt s (aMn M) d A b hX c0 s0 ad0 ks0 ad ls H locs L' S' σ' → W p l e R s m args below meth c H locs (σ'.2.2.1 - c0) (σ'.2.2.2 - s0) Q (F0 m t ls (S'.map (aconc d.2.2.2.2 ad b))))
    (hcall : ∀ (f kk : Nat) (ts : List Nat) (q : List Int × List aV) (vs : List Int) (σ' : aS), ea.2.2.2.1 = f :: kk :: ts → ((∃ i, ea.2.1 = .invokespecial i ∧ kk = 0) ∨ (∃ i, ea.2.1 = .invokevirtual i) ∨ (∃ i, ea.2.1 = .invokestatic i)) → apops ts S = some q → Nat.ble (awid q.2) 8 = true → F f q.1 σ = some (0, vs, σ') → σ'.2.2.1 ≤ r.2.2.2.2.1 → σ'.2.2.2 ≤ r.2.2.2.2.2 →
      (σ.2.2.1 ≤ σ'.2.2.1 ∧ σ.2.2.2 ≤ σ'.2.2.2) ∧ va_Run p l e R s m args below meth c H locs (σ.2.2.1 - c0) (σ.2.2.2 - s0) (σ'.2.2.1 - σ.2.2.1) (σ'.2.2.2 - σ.2.2.2) (F0 m ea.1 ls (S.map (aconc d.2.2.2.2 ad b))) (q.2.map (aconc d.2.2.2.2 ad b)) (aPost d ad σ σ' (aKg kk vs) (aKv kk vs) H.size) (va_A (aW0 d ad σ) H.size))
    (hri : ∀ x, ar32 x → r = (0, [x], σ) → S = [(0, x)] → decode (aMb M) ea.1 = .ok (.ireturn, 1) → aMr M = some .int → W p l e R s m args below meth c H locs (σ.2.2.1 - c0) (σ.2.2.2 - s0) Q (F0 m ea.1 ls (S.map (aconc d.2.2.2.2 ad b))))
    (hrz : ∀ x, (x = 0 ∨ x = 1) → r = (0, [x], σ) → S = [(0, x)] → decode (aMb M) ea.1 = .ok (.ireturn, 1) → aMr M = some .boolean → W p l e R s m args below meth c H locs (σ.2.2.1 - c0) (σ.2.2.2 - s0) Q (F0 m ea.1 ls (S.map (aconc d.2.2.2.2 ad b))))
    (hrl : ∀ x, ar64 x → r = (0, [x], σ) → S = [(1, x)] → decode (aMb M) ea.1 = .ok (.lreturn, 1) → aMr M = some .long → W p l e R s m args below meth c H locs (σ.2.2.1 - c0) (σ.2.2.2 - s0) Q (F0 m ea.1 ls (S.map (aconc d.2.2.2.2 ad b))))
    (hrv : r = (0, [], σ) → S = [] → decode (aMb M) ea.1 = .ok (.return_, 1) → aMr M = none → W p l e R s m args below meth c H locs (σ.2.2.1 - c0) (σ.2.2.2 - s0) Q (F0 m ea.1 ls (S.map (aconc d.2.2.2.2 ad b))))
    (h : astep F X k j ea L S σ = some r) (hst : aSt s (aMn M) d A b hX c0 s0 ad0 ks0 ad ls H locs L S σ) :
    W p l e R s m args below meth c H locs (σ.2.2.1 - c0) (σ.2.2.2 - s0) Q (F0 m ea.1 ls (S.map (aconc d.2.2.2.2 ad b))) := by
  obtain ⟨hx, hb, hml, hown, hts, hMw, hname, hA, hK, hstr, hRf, hRo, hXs, hlk, hfl, hNx⟩ := id C
  obtain ⟨pc, ins, len, aux, cst, cut⟩ := ea
  unfold aEok at hok
  simp only [Bool.and_eq_true, decide_eq_true_eq] at hok
  obtain ⟨⟨hdec, hil⟩, hok⟩ := hok
  dsimp only at *
  have hg : ∀ v ∈ S, aGv σ.1 hX v := hst.2.2.2.2.2.2.1
  have hgL : ∀ (i : Nat) (v : aV), L[i]? = some (some v) → aGv σ.1 hX v := hst.2.2.2.2.2.1
  have hLo : aLok d.2.2.2.2 ad b ls (aMn M) L := hst.2.2.2.2.1
  cases ins with
  | iconst n =>
    simp only [astep] at h
    obtain rfl := Nat.eq_of_beq_eq_true hil
    refine lv_iconst hx hb hdec rfl ?_
    exact hk ad ls H locs L ((0, n) :: S) σ h (hst.stk (List.forall_mem_cons.mpr ⟨aGv_int (by simp only [decide_eq_true_eq] at hok; unfold ar32; omega), hg⟩))
  | bipush n =>
    simp only [astep] at h
    obtain rfl := Nat.eq_of_beq_eq_true hil
    refine lv_bipush hx hb hdec (by simp only [decide_eq_true_eq] at hok; exact hok.1) ?_
    exact hk ad ls H locs L ((0, n) :: S) σ h (hst.stk (List.forall_mem_cons.mpr ⟨aGv_int (by simp only [decide_eq_true_eq] at hok; unfold ar32; omega), hg⟩))
  | sipush n =>
    simp only [astep] at h
    obtain rfl := Nat.eq_of_beq_eq_true hil
    refine lv_sipush hx hb hdec (by simp only [decide_eq_true_eq] at hok; exact hok.1) ?_
    exact hk ad ls H locs L ((0, n) :: S) σ h (hst.stk (List.forall_mem_cons.mpr ⟨aGv_int (by simp only [decide_eq_true_eq] at hok; unfold ar32; omega), hg⟩))
  | lconst n =>
    simp only [astep] at h
    obtain rfl := Nat.eq_of_beq_eq_true hil
    refine lv_lconst hx hb hdec (Int64.ofInt_eq_ofNat).symm ?_
    exact hk ad ls H locs L ((1, ((n : Nat) : Int)) :: S) σ h (hst.stk (List.forall_mem_cons.mpr ⟨aGv_long (by unfold ar64; omega), hg⟩))
  | ldc n =>
    simp only [astep] at h
    obtain rfl := Nat.eq_of_beq_eq_true hil
    split at h
    · simp only [Bool.and_eq_true, decide_eq_true_eq] at hok
      refine lv_ldc hx hb hown (hts _ (hMw _ hok.1)) hdec ?_
      exact hk ad ls H locs L ((0, cst) :: S) σ h (hst.stk (List.forall_mem_cons.mpr ⟨aGv_int hok.2, hg⟩))
    · simp only [decide_eq_true_eq] at hok
      obtain ⟨tx, ln, byt, adV, hR, -⟩ := hstr
      obtain ⟨o1, rfl, rfl⟩ := hok
      refine va_ldcS hx hb hown (by rw [o1]; exact hR) hdec ?_
      refine hk ad ls H locs L ((5, 0) :: S) σ h (hst.stk (List.forall_mem_cons.mpr ⟨?_, hg⟩))
      refine ⟨?_, ?_, fun _ => rfl, ?_, ?_, Or.inr (Or.inr (Or.inl rfl))⟩ <;> (intro q; simp [aisR] at q)
    · cases h
  | ldc2_w n =>
    simp only [astep] at h
    obtain rfl := Nat.eq_of_beq_eq_true hil
    simp only [Bool.and_eq_true, decide_eq_true_eq] at hok
    refine lv_ldc2 hx hb hown (hts _ (hMw _ hok.1)) hdec ?_
    exact hk ad ls H locs L ((1, cst) :: S) σ h (hst.stk (List.forall_mem_cons.mpr ⟨aGv_long hok.2, hg⟩))
  | iload_n n =>
    simp only [astep] at h
    obtain rfl := Nat.eq_of_beq_eq_true hil
    obtain ⟨x, hx1, h'⟩ := Option.bind_eq_some_iff.mp h; clear h; have h := h'; clear h'
    have e1 := alod_s hx1
    refine lv_iload_n hx hb hdec rfl (hLo.2.2.2 _ _ e1) ?_
    exact hk ad ls H locs L ((0, x) :: S) σ h (hst.stk (List.forall_mem_cons.mpr ⟨hgL _ _ e1, hg⟩))
  | iload n =>
    simp only [astep] at h
    obtain rfl := Nat.eq_of_beq_eq_true hil
    obtain ⟨x, hx1, h'⟩ := Option.bind_eq_some_iff.mp h; clear h; have h := h'; clear h'
    have e1 := alod_s hx1
    refine lv_iload hx hb hdec (hLo.2.2.2 _ _ e1) ?_
    exact hk ad ls H locs L ((0, x) :: S) σ h (hst.stk (List.forall_mem_cons.mpr ⟨hgL _ _ e1, hg⟩))
  | lload_n n =>
    simp only [astep] at h
    obtain rfl := Nat.eq_of_beq_eq_true hil
    obtain ⟨x, hx1, h'⟩ := Option.bind_eq_some_iff.mp h; clear h; have h := h'; clear h'
    have e1 := alod_s hx1
    refine lv_lload_n hx hb hdec rfl (hLo.2.2.2 _ _ e1) ?_
    exact hk ad ls H locs L ((1, x) :: S) σ h (hst.stk (List.forall_mem_cons.mpr ⟨hgL _ _ e1, hg⟩))
  | lload n =>
    simp only [astep] at h
    obtain rfl := Nat.eq_of_beq_eq_true hil
    obtain ⟨x, hx1, h'⟩ := Option.bind_eq_some_iff.mp h; clear h; have h := h'; clear h'
    have e1 := alod_s hx1
    refine lv_lload hx hb hdec (hLo.2.2.2 _ _ e1) ?_
    exact hk ad ls H locs L ((1, x) :: S) σ h (hst.stk (List.forall_mem_cons.mpr ⟨hgL _ _ e1, hg⟩))
  | aload_n n =>
    simp only [astep] at h
    obtain rfl := Nat.eq_of_beq_eq_true hil
    obtain ⟨v, hx1, h'⟩ := Option.bind_eq_some_iff.mp h; clear h; have h := h'; clear h'
    obtain ⟨e1, e2⟩ := alodR_s hx1
    have g1 := hgL _ _ e1
    obtain ⟨q, hq⟩ := aGv_isref (sa := d.2.2.2.2) (ad := ad) (b := b) g1 e2
    refine lv_aload_n hx hb hdec rfl (by rw [hLo.2.2.2 _ _ e1, hq]) ?_
    rw [← hq]
    exact hk ad ls H locs L (v :: S) σ h (hst.stk (List.forall_mem_cons.mpr ⟨g1, hg⟩))
  | aload n =>
    simp only [astep] at h
    obtain rfl := Nat.eq_of_beq_eq_true hil
    obtain ⟨v, hx1, h'⟩ := Option.bind_eq_some_iff.mp h; clear h; have h := h'; clear h'
    obtain ⟨e1, e2⟩ := alodR_s hx1
    have g1 := hgL _ _ e1
    obtain ⟨q, hq⟩ := aGv_isref (sa := d.2.2.2.2) (ad := ad) (b := b) g1 e2
    refine lv_aload hx hb hdec (by rw [hLo.2.2.2 _ _ e1, hq]) ?_
    rw [← hq]
    exact hk ad ls H locs L (v :: S) σ h (hst.stk (List.forall_mem_cons.mpr ⟨g1, hg⟩))
  | istore_n n =>
    simp only [astep] at h
    obtain rfl := Nat.eq_of_beq_eq_true hil
    obtain ⟨q, hq, h'⟩ := Option.bind_eq_some_iff.mp h; clear h; have h := h'; clear h'
    obtain ⟨L', hL', h'⟩ := Option.bind_eq_some_iff.mp h; clear h; have h := h'; clear h'
    have e1 := apopI_s hq
    subst e1
    refine lv_istore_n hx hb hdec rfl hLo.has (by unfold asto1 at hL'; split at hL'; rename_i z; rw [← hLo.2.1]; simpa [Nat.blt_eq] using z; cases hL') rfl (fun ls' hl' => ?_)
    have hl2 := (hLo.sto1 hL' rfl hl').1
    exact hk ad ls' H locs L' q.2 σ h (hst.sto (fun u hu => List.mem_cons_of_mem _ hu) hl2 (hg _ List.mem_cons_self) (fun i u hu => asto1_sub hL' hu))
  | istore n =>
    simp only [astep] at h
    obtain rfl := Nat.eq_of_beq_eq_true hil
    obtain ⟨q, hq, h'⟩ := Option.bind_eq_some_iff.mp h; clear h; have h := h'; clear h'
    obtain ⟨L', hL', h'⟩ := Option.bind_eq_some_iff.mp h; clear h; have h := h'; clear h'
    have e1 := apopI_s hq
    subst e1
    refine lv_istore hx hb hdec hLo.has (by unfold asto1 at hL'; split at hL'; rename_i z; rw [← hLo.2.1]; simpa [Nat.blt_eq] using z; cases hL') rfl (fun ls' hl' => ?_)
    have hl2 := (hLo.sto1 hL' rfl hl').1
    exact hk ad ls' H locs L' q.2 σ h (hst.sto (fun u hu => List.mem_cons_of_mem _ hu) hl2 (hg _ List.mem_cons_self) (fun i u hu => asto1_sub hL' hu))
  | lstore_n n =>
    simp only [astep] at h
    obtain rfl := Nat.eq_of_beq_eq_true hil
    obtain ⟨q, hq, h'⟩ := Option.bind_eq_some_iff.mp h; clear h; have h := h'; clear h'
    obtain ⟨L', hL', h'⟩ := Option.bind_eq_some_iff.mp h; clear h; have h := h'; clear h'
    have e1 := apopL_s hq
    subst e1
    refine lv_lstore_n hx hb hdec rfl hLo.has (by unfold asto2 at hL'; split at hL'; rename_i z; rw [← hLo.2.1]; simpa [Nat.blt_eq] using z; cases hL') rfl (fun ls' hl' => ?_)
    have hl2 := (hLo.sto2 hL' hl').1
    exact hk ad ls' H locs L' q.2 σ h (hst.sto (fun u hu => List.mem_cons_of_mem _ hu) hl2 (hg _ List.mem_cons_self) (fun i u hu => asto2_sub hL' hu))
  | lstore n =>
    simp only [astep] at h
    obtain rfl := Nat.eq_of_beq_eq_true hil
    obtain ⟨q, hq, h'⟩ := Option.bind_eq_some_iff.mp h; clear h; have h := h'; clear h'
    obtain ⟨L', hL', h'⟩ := Option.bind_eq_some_iff.mp h; clear h; have h := h'; clear h'
    have e1 := apopL_s hq
    subst e1
    refine lv_lstore hx hb hdec hLo.has (by unfold asto2 at hL'; split at hL'; rename_i z; rw [← hLo.2.1]; simpa [Nat.blt_eq] using z; cases hL') rfl (fun ls' hl' => ?_)
    have hl2 := (hLo.sto2 hL' hl').1
    exact hk ad ls' H locs L' q.2 σ h (hst.sto (fun u hu => List.mem_cons_of_mem _ hu) hl2 (hg _ List.mem_cons_self) (fun i u hu => asto2_sub hL' hu))
  | astore_n n =>
    simp only [astep] at h
    obtain rfl := Nat.eq_of_beq_eq_true hil
    cases S with
    | nil => cases h
    | cons v S' =>
      obtain ⟨t, x⟩ := v
      dsimp only at h
      split at h
      · rename_i h2
        obtain ⟨L', hL', h'⟩ := Option.bind_eq_some_iff.mp h; clear h; have h := h'; clear h'
        have g1 := hg _ List.mem_cons_self
        obtain ⟨q, hq⟩ := aGv_isref (sa := d.2.2.2.2) (ad := ad) (b := b) g1 (Nat.le_of_ble_eq_true h2)
        have ht1 : acat (t, x) = 1 := by
          unfold acat
          have := Nat.le_of_ble_eq_true h2
          split
          · rename_i z; have := Nat.eq_of_beq_eq_true z; omega
          · rfl
        rw [show List.map (aconc d.2.2.2.2 ad b) ((t, x) :: S') = .ref q :: S'.map (aconc d.2.2.2.2 ad b) by rw [List.map_cons, hq]]
        refine lv_astore_n hx hb hdec rfl hLo.has (by unfold asto1 at hL'; split at hL'; rename_i z; rw [← hLo.2.1]; simpa [Nat.blt_eq] using z; cases hL') rfl (fun ls' hl' => ?_)
        rw [← hq] at hl'
        have hl2 := (hLo.sto1 hL' ht1 hl').1
        exact hk ad ls' H locs L' S' σ h (hst.sto (fun u hu => List.mem_cons_of_mem _ hu) hl2 g1 (fun i u hu => asto1_sub hL' hu))
      · cases h
  | astore n =>
    simp only [astep] at h
    obtain rfl := Nat.eq_of_beq_eq_true hil
    cases S with
    | nil => cases h
    | cons v S' =>
      obtain ⟨t, x⟩ := v
      dsimp only at h
      split at h
      · rename_i h2
        obtain ⟨L', hL', h'⟩ := Option.bind_eq_some_iff.mp h; clear h; have h := h'; clear h'
        have g1 := hg _ List.mem_cons_self
        obtain ⟨q, hq⟩ := aGv_isref (sa := d.2.2.2.2) (ad := ad) (b := b) g1 (Nat.le_of_ble_eq_true h2)
        have ht1 : acat (t, x) = 1 := by
          unfold acat
          have := Nat.le_of_ble_eq_true h2
          split
          · rename_i z; have := Nat.eq_of_beq_eq_true z; omega
          · rfl
        rw [show List.map (aconc d.2.2.2.2 ad b) ((t, x) :: S') = .ref q :: S'.map (aconc d.2.2.2.2 ad b) by rw [List.map_cons, hq]]
        refine lv_astore hx hb hdec hLo.has (by unfold asto1 at hL'; split at hL'; rename_i z; rw [← hLo.2.1]; simpa [Nat.blt_eq] using z; cases hL') rfl (fun ls' hl' => ?_)
        rw [← hq] at hl'
        have hl2 := (hLo.sto1 hL' ht1 hl').1
        exact hk ad ls' H locs L' S' σ h (hst.sto (fun u hu => List.mem_cons_of_mem _ hu) hl2 g1 (fun i u hu => asto1_sub hL' hu))
      · cases h
  | iinc n w =>
    simp only [astep] at h
    obtain rfl := Nat.eq_of_beq_eq_true hil
    obtain ⟨x, hx1, h'⟩ := Option.bind_eq_some_iff.mp h; clear h; have h := h'; clear h'
    obtain ⟨L', hL', h'⟩ := Option.bind_eq_some_iff.mp h; clear h; have h := h'; clear h'
    have e1 := alod_s hx1
    have hl0 : lv_has ls (aMn M) ((n, .int (Int32.ofInt x)) :: aLl d.2.2.2.2 ad b L) := ⟨hLo.has.1, hLo.has.2.1, List.forall_mem_cons.mpr ⟨hLo.2.2.2 _ _ e1, hLo.has.2.2⟩⟩
    refine lv_iinc (k := 0) hx hb hdec hl0 rfl rfl (by unfold asto1 at hL'; split at hL'; rename_i z; rw [← hLo.2.1]; simpa [Nat.blt_eq] using z; cases hL') rfl (fun ls' hl' => ?_)
    rw [show Int32.ofInt x + Int32.ofInt w = Int32.ofInt (w32 (x + w)) from (n_add x w).symm] at hl'
    have hl3 : lv_has ls' (aMn M) ((n, aconc d.2.2.2.2 ad b (0, w32 (x + w))) :: (aLl d.2.2.2.2 ad b L).filter (fun q => !(q.1 == n) && !(q.1 + 1 == n && q.2.category == 2))) := by
      refine ⟨hl'.1, hl'.2.1, fun q hq => ?_⟩
      rcases List.mem_cons.mp hq with rfl | hq
      · exact hl'.2.2 _ List.mem_cons_self
      · obtain ⟨a1, a2⟩ := List.mem_filter.mp hq
        exact hl'.2.2 q (List.mem_cons_of_mem _ (List.mem_filter.mpr ⟨List.mem_cons_of_mem _ a1, a2⟩))
    have hl2 := (hLo.sto1 hL' rfl hl3).1
    exact hk ad ls' H locs L' S σ h (hst.sto (fun u hu => hu) hl2 (aGv_int (ar32_w _)) (fun i u hu => asto1_sub hL' hu))
  | iadd =>
    simp only [astep] at h
    obtain rfl := Nat.eq_of_beq_eq_true hil
    obtain ⟨y, hy, h'⟩ := Option.bind_eq_some_iff.mp h; clear h; have h := h'; clear h'
    obtain ⟨x, hx1, h'⟩ := Option.bind_eq_some_iff.mp h; clear h; have h := h'; clear h'
    have e1 := apopI_s hy
    have e2 := apopI_s hx1
    rw [e2] at e1
    subst e1
    have gy := (hg _ List.mem_cons_self).1 rfl
    have gx := (hg _ (List.mem_cons_of_mem _ List.mem_cons_self)).1 rfl
    have hg2 : ∀ v ∈ x.2, aGv σ.1 hX v := fun v hv => hg v (List.mem_cons_of_mem _ (List.mem_cons_of_mem _ hv))
    dsimp only at gy gx
    refine lv_iadd hx hb hdec ?_
    rw [← n_add]
    exact hk ad ls H locs L ((0, w32 (x.1 + y.1)) :: x.2) σ h (hst.stk (List.forall_mem_cons.mpr ⟨aGv_int (ar32_w _), hg2⟩))
  | isub =>
    simp only [astep] at h
    obtain rfl := Nat.eq_of_beq_eq_true hil
    obtain ⟨y, hy, h'⟩ := Option.bind_eq_some_iff.mp h; clear h; have h := h'; clear h'
    obtain ⟨x, hx1, h'⟩ := Option.bind_eq_some_iff.mp h; clear h; have h := h'; clear h'
    have e1 := apopI_s hy
    have e2 := apopI_s hx1
    rw [e2] at e1
    subst e1
    have gy := (hg _ List.mem_cons_self).1 rfl
    have gx := (hg _ (List.mem_cons_of_mem _ List.mem_cons_self)).1 rfl
    have hg2 : ∀ v ∈ x.2, aGv σ.1 hX v := fun v hv => hg v (List.mem_cons_of_mem _ (List.mem_cons_of_mem _ hv))
    dsimp only at gy gx
    refine lv_isub hx hb hdec ?_
    rw [← n_sub]
    exact hk ad ls H locs L ((0, w32 (x.1 - y.1)) :: x.2) σ h (hst.stk (List.forall_mem_cons.mpr ⟨aGv_int (ar32_w _), hg2⟩))
  | imul =>
    simp only [astep] at h
    obtain rfl := Nat.eq_of_beq_eq_true hil
    obtain ⟨y, hy, h'⟩ := Option.bind_eq_some_iff.mp h; clear h; have h := h'; clear h'
    obtain ⟨x, hx1, h'⟩ := Option.bind_eq_some_iff.mp h; clear h; have h := h'; clear h'
    have e1 := apopI_s hy
    have e2 := apopI_s hx1
    rw [e2] at e1
    subst e1
    have gy := (hg _ List.mem_cons_self).1 rfl
    have gx := (hg _ (List.mem_cons_of_mem _ List.mem_cons_self)).1 rfl
    have hg2 : ∀ v ∈ x.2, aGv σ.1 hX v := fun v hv => hg v (List.mem_cons_of_mem _ (List.mem_cons_of_mem _ hv))
    dsimp only at gy gx
    refine lv_imul hx hb hdec ?_
    rw [← n_mul]
    exact hk ad ls H locs L ((0, w32 (x.1 * y.1)) :: x.2) σ h (hst.stk (List.forall_mem_cons.mpr ⟨aGv_int (ar32_w _), hg2⟩))
  | idiv =>
    simp only [astep] at h
    obtain rfl := Nat.eq_of_beq_eq_true hil
    obtain ⟨y, hy, h'⟩ := Option.bind_eq_some_iff.mp h; clear h; have h := h'; clear h'
    obtain ⟨x, hx1, h'⟩ := Option.bind_eq_some_iff.mp h; clear h; have h := h'; clear h'
    have e1 := apopI_s hy
    have e2 := apopI_s hx1
    rw [e2] at e1
    subst e1
    have gy := (hg _ List.mem_cons_self).1 rfl
    have gx := (hg _ (List.mem_cons_of_mem _ List.mem_cons_self)).1 rfl
    have hg2 : ∀ v ∈ x.2, aGv σ.1 hX v := fun v hv => hg v (List.mem_cons_of_mem _ (List.mem_cons_of_mem _ hv))
    dsimp only at gy gx
    split at h
    · cases h
    rename_i hne
    refine lv_idiv hx hb hdec (fun z => hne ((n_zero gy).mp z)) ?_
    rw [← n_div gx gy]
    exact hk ad ls H locs L ((0, w32 (x.1.tdiv y.1)) :: x.2) σ h (hst.stk (List.forall_mem_cons.mpr ⟨aGv_int (ar32_w _), hg2⟩))
  | irem =>
    simp only [astep] at h
    obtain rfl := Nat.eq_of_beq_eq_true hil
    obtain ⟨y, hy, h'⟩ := Option.bind_eq_some_iff.mp h; clear h; have h := h'; clear h'
    obtain ⟨x, hx1, h'⟩ := Option.bind_eq_some_iff.mp h; clear h; have h := h'; clear h'
    have e1 := apopI_s hy
    have e2 := apopI_s hx1
    rw [e2] at e1
    subst e1
    have gy := (hg _ List.mem_cons_self).1 rfl
    have gx := (hg _ (List.mem_cons_of_mem _ List.mem_cons_self)).1 rfl
    have hg2 : ∀ v ∈ x.2, aGv σ.1 hX v := fun v hv => hg v (List.mem_cons_of_mem _ (List.mem_cons_of_mem _ hv))
    dsimp only at gy gx
    split at h
    · cases h
    rename_i hne
    refine lv_irem hx hb hdec (fun z => hne ((n_zero gy).mp z)) ?_
    rw [← n_rem gx gy]
    exact hk ad ls H locs L ((0, x.1.tmod y.1) :: x.2) σ h (hst.stk (List.forall_mem_cons.mpr ⟨aGv_int (ar32_rem gx gy), hg2⟩))
  | iand =>
    simp only [astep] at h
    obtain rfl := Nat.eq_of_beq_eq_true hil
    obtain ⟨y, hy, h'⟩ := Option.bind_eq_some_iff.mp h; clear h; have h := h'; clear h'
    obtain ⟨x, hx1, h'⟩ := Option.bind_eq_some_iff.mp h; clear h; have h := h'; clear h'
    have e1 := apopI_s hy
    have e2 := apopI_s hx1
    rw [e2] at e1
    subst e1
    have gy := (hg _ List.mem_cons_self).1 rfl
    have gx := (hg _ (List.mem_cons_of_mem _ List.mem_cons_self)).1 rfl
    have hg2 : ∀ v ∈ x.2, aGv σ.1 hX v := fun v hv => hg v (List.mem_cons_of_mem _ (List.mem_cons_of_mem _ hv))
    dsimp only at gy gx
    refine lv_iand hx hb hdec ?_
    rw [← n_and]
    exact hk ad ls H locs L ((0, aand x.1 y.1) :: x.2) σ h (hst.stk (List.forall_mem_cons.mpr ⟨aGv_int (ar32_t _), hg2⟩))
  | ior =>
    simp only [astep] at h
    obtain rfl := Nat.eq_of_beq_eq_true hil
    obtain ⟨y, hy, h'⟩ := Option.bind_eq_some_iff.mp h; clear h; have h := h'; clear h'
    obtain ⟨x, hx1, h'⟩ := Option.bind_eq_some_iff.mp h; clear h; have h := h'; clear h'
    have e1 := apopI_s hy
    have e2 := apopI_s hx1
    rw [e2] at e1
    subst e1
    have gy := (hg _ List.mem_cons_self).1 rfl
    have gx := (hg _ (List.mem_cons_of_mem _ List.mem_cons_self)).1 rfl
    have hg2 : ∀ v ∈ x.2, aGv σ.1 hX v := fun v hv => hg v (List.mem_cons_of_mem _ (List.mem_cons_of_mem _ hv))
    dsimp only at gy gx
    refine lv_ior hx hb hdec ?_
    rw [← n_or]
    exact hk ad ls H locs L ((0, aor x.1 y.1) :: x.2) σ h (hst.stk (List.forall_mem_cons.mpr ⟨aGv_int (ar32_t _), hg2⟩))
  | ixor =>
    simp only [astep] at h
    obtain rfl := Nat.eq_of_beq_eq_true hil
    obtain ⟨y, hy, h'⟩ := Option.bind_eq_some_iff.mp h; clear h; have h := h'; clear h'
    obtain ⟨x, hx1, h'⟩ := Option.bind_eq_some_iff.mp h; clear h; have h := h'; clear h'
    have e1 := apopI_s hy
    have e2 := apopI_s hx1
    rw [e2] at e1
    subst e1
    have gy := (hg _ List.mem_cons_self).1 rfl
    have gx := (hg _ (List.mem_cons_of_mem _ List.mem_cons_self)).1 rfl
    have hg2 : ∀ v ∈ x.2, aGv σ.1 hX v := fun v hv => hg v (List.mem_cons_of_mem _ (List.mem_cons_of_mem _ hv))
    dsimp only at gy gx
    refine lv_ixor hx hb hdec ?_
    rw [← n_xor]
    exact hk ad ls H locs L ((0, axor x.1 y.1) :: x.2) σ h (hst.stk (List.forall_mem_cons.mpr ⟨aGv_int (ar32_t _), hg2⟩))
  | ishl =>
    simp only [astep] at h
    obtain rfl := Nat.eq_of_beq_eq_true hil
    obtain ⟨y, hy, h'⟩ := Option.bind_eq_some_iff.mp h; clear h; have h := h'; clear h'
    obtain ⟨x, hx1, h'⟩ := Option.bind_eq_some_iff.mp h; clear h; have h := h'; clear h'
    have e1 := apopI_s hy
    have e2 := apopI_s hx1
    rw [e2] at e1
    subst e1
    have gy := (hg _ List.mem_cons_self).1 rfl
    have gx := (hg _ (List.mem_cons_of_mem _ List.mem_cons_self)).1 rfl
    have hg2 : ∀ v ∈ x.2, aGv σ.1 hX v := fun v hv => hg v (List.mem_cons_of_mem _ (List.mem_cons_of_mem _ hv))
    dsimp only at gy gx
    refine lv_ishl hx hb hdec ?_
    rw [← n_shl]
    exact hk ad ls H locs L ((0, ashl x.1 y.1) :: x.2) σ h (hst.stk (List.forall_mem_cons.mpr ⟨aGv_int (ar32_t _), hg2⟩))
  | ishr =>
    simp only [astep] at h
    obtain rfl := Nat.eq_of_beq_eq_true hil
    obtain ⟨y, hy, h'⟩ := Option.bind_eq_some_iff.mp h; clear h; have h := h'; clear h'
    obtain ⟨x, hx1, h'⟩ := Option.bind_eq_some_iff.mp h; clear h; have h := h'; clear h'
    have e1 := apopI_s hy
    have e2 := apopI_s hx1
    rw [e2] at e1
    subst e1
    have gy := (hg _ List.mem_cons_self).1 rfl
    have gx := (hg _ (List.mem_cons_of_mem _ List.mem_cons_self)).1 rfl
    have hg2 : ∀ v ∈ x.2, aGv σ.1 hX v := fun v hv => hg v (List.mem_cons_of_mem _ (List.mem_cons_of_mem _ hv))
    dsimp only at gy gx
    refine lv_ishr hx hb hdec ?_
    rw [← n_shr]
    exact hk ad ls H locs L ((0, ashr x.1 y.1) :: x.2) σ h (hst.stk (List.forall_mem_cons.mpr ⟨aGv_int (ar32_t _), hg2⟩))
  | ladd =>
    simp only [astep] at h
    obtain rfl := Nat.eq_of_beq_eq_true hil
    obtain ⟨y, hy, h'⟩ := Option.bind_eq_some_iff.mp h; clear h; have h := h'; clear h'
    obtain ⟨x, hx1, h'⟩ := Option.bind_eq_some_iff.mp h; clear h; have h := h'; clear h'
    have e1 := apopL_s hy
    have e2 := apopL_s hx1
    rw [e2] at e1
    subst e1
    have gy := (hg _ List.mem_cons_self).2.1 rfl
    have gx := (hg _ (List.mem_cons_of_mem _ List.mem_cons_self)).2.1 rfl
    have hg2 : ∀ v ∈ x.2, aGv σ.1 hX v := fun v hv => hg v (List.mem_cons_of_mem _ (List.mem_cons_of_mem _ hv))
    dsimp only at gy gx
    refine lv_ladd hx hb hdec ?_
    rw [← m_add]
    exact hk ad ls H locs L ((1, w64 (x.1 + y.1)) :: x.2) σ h (hst.stk (List.forall_mem_cons.mpr ⟨aGv_long (ar64_w _), hg2⟩))
  | lsub =>
    simp only [astep] at h
    obtain rfl := Nat.eq_of_beq_eq_true hil
    obtain ⟨y, hy, h'⟩ := Option.bind_eq_some_iff.mp h; clear h; have h := h'; clear h'
    obtain ⟨x, hx1, h'⟩ := Option.bind_eq_some_iff.mp h; clear h; have h := h'; clear h'
    have e1 := apopL_s hy
    have e2 := apopL_s hx1
    rw [e2] at e1
    subst e1
    have gy := (hg _ List.mem_cons_self).2.1 rfl
    have gx := (hg _ (List.mem_cons_of_mem _ List.mem_cons_self)).2.1 rfl
    have hg2 : ∀ v ∈ x.2, aGv σ.1 hX v := fun v hv => hg v (List.mem_cons_of_mem _ (List.mem_cons_of_mem _ hv))
    dsimp only at gy gx
    refine lv_lsub hx hb hdec ?_
    rw [← m_sub]
    exact hk ad ls H locs L ((1, w64 (x.1 - y.1)) :: x.2) σ h (hst.stk (List.forall_mem_cons.mpr ⟨aGv_long (ar64_w _), hg2⟩))
  | lmul =>
    simp only [astep] at h
    obtain rfl := Nat.eq_of_beq_eq_true hil
    obtain ⟨y, hy, h'⟩ := Option.bind_eq_some_iff.mp h; clear h; have h := h'; clear h'
    obtain ⟨x, hx1, h'⟩ := Option.bind_eq_some_iff.mp h; clear h; have h := h'; clear h'
    have e1 := apopL_s hy
    have e2 := apopL_s hx1
    rw [e2] at e1
    subst e1
    have gy := (hg _ List.mem_cons_self).2.1 rfl
    have gx := (hg _ (List.mem_cons_of_mem _ List.mem_cons_self)).2.1 rfl
    have hg2 : ∀ v ∈ x.2, aGv σ.1 hX v := fun v hv => hg v (List.mem_cons_of_mem _ (List.mem_cons_of_mem _ hv))
    dsimp only at gy gx
    refine lv_lmul hx hb hdec ?_
    rw [← m_mul]
    exact hk ad ls H locs L ((1, w64 (x.1 * y.1)) :: x.2) σ h (hst.stk (List.forall_mem_cons.mpr ⟨aGv_long (ar64_w _), hg2⟩))
  | ldiv =>
    simp only [astep] at h
    obtain rfl := Nat.eq_of_beq_eq_true hil
    obtain ⟨y, hy, h'⟩ := Option.bind_eq_some_iff.mp h; clear h; have h := h'; clear h'
    obtain ⟨x, hx1, h'⟩ := Option.bind_eq_some_iff.mp h; clear h; have h := h'; clear h'
    have e1 := apopL_s hy
    have e2 := apopL_s hx1
    rw [e2] at e1
    subst e1
    have gy := (hg _ List.mem_cons_self).2.1 rfl
    have gx := (hg _ (List.mem_cons_of_mem _ List.mem_cons_self)).2.1 rfl
    have hg2 : ∀ v ∈ x.2, aGv σ.1 hX v := fun v hv => hg v (List.mem_cons_of_mem _ (List.mem_cons_of_mem _ hv))
    dsimp only at gy gx
    split at h
    · cases h
    rename_i hne
    refine lv_ldiv hx hb hdec (fun z => hne ((m_zero gy).mp z)) ?_
    rw [← m_div gx gy]
    exact hk ad ls H locs L ((1, w64 (x.1.tdiv y.1)) :: x.2) σ h (hst.stk (List.forall_mem_cons.mpr ⟨aGv_long (ar64_w _), hg2⟩))
  | lrem =>
    simp only [astep] at h
    obtain rfl := Nat.eq_of_beq_eq_true hil
    obtain ⟨y, hy, h'⟩ := Option.bind_eq_some_iff.mp h; clear h; have h := h'; clear h'
    obtain ⟨x, hx1, h'⟩ := Option.bind_eq_some_iff.mp h; clear h; have h := h'; clear h'
    have e1 := apopL_s hy
    have e2 := apopL_s hx1
    rw [e2] at e1
    subst e1
    have gy := (hg _ List.mem_cons_self).2.1 rfl
    have gx := (hg _ (List.mem_cons_of_mem _ List.mem_cons_self)).2.1 rfl
    have hg2 : ∀ v ∈ x.2, aGv σ.1 hX v := fun v hv => hg v (List.mem_cons_of_mem _ (List.mem_cons_of_mem _ hv))
    dsimp only at gy gx
    split at h
    · cases h
    rename_i hne
    refine lv_lrem hx hb hdec (fun z => hne ((m_zero gy).mp z)) ?_
    rw [← m_rem gx gy]
    exact hk ad ls H locs L ((1, x.1.tmod y.1) :: x.2) σ h (hst.stk (List.forall_mem_cons.mpr ⟨aGv_long (ar64_rem gx gy), hg2⟩))
  | land =>
    simp only [astep] at h
    obtain rfl := Nat.eq_of_beq_eq_true hil
    obtain ⟨y, hy, h'⟩ := Option.bind_eq_some_iff.mp h; clear h; have h := h'; clear h'
    obtain ⟨x, hx1, h'⟩ := Option.bind_eq_some_iff.mp h; clear h; have h := h'; clear h'
    have e1 := apopL_s hy
    have e2 := apopL_s hx1
    rw [e2] at e1
    subst e1
    have gy := (hg _ List.mem_cons_self).2.1 rfl
    have gx := (hg _ (List.mem_cons_of_mem _ List.mem_cons_self)).2.1 rfl
    have hg2 : ∀ v ∈ x.2, aGv σ.1 hX v := fun v hv => hg v (List.mem_cons_of_mem _ (List.mem_cons_of_mem _ hv))
    dsimp only at gy gx
    refine lv_land hx hb hdec ?_
    rw [← m_and]
    exact hk ad ls H locs L ((1, aandl x.1 y.1) :: x.2) σ h (hst.stk (List.forall_mem_cons.mpr ⟨aGv_long (ar64_t _), hg2⟩))
  | lshl =>
    simp only [astep] at h
    obtain rfl := Nat.eq_of_beq_eq_true hil
    obtain ⟨y, hy, h'⟩ := Option.bind_eq_some_iff.mp h; clear h; have h := h'; clear h'
    obtain ⟨x, hx1, h'⟩ := Option.bind_eq_some_iff.mp h; clear h; have h := h'; clear h'
    have e1 := apopI_s hy
    have e2 := apopL_s hx1
    rw [e2] at e1
    subst e1
    have gy := (hg _ List.mem_cons_self).1 rfl
    have gx := (hg _ (List.mem_cons_of_mem _ List.mem_cons_self)).2.1 rfl
    have hg2 : ∀ v ∈ x.2, aGv σ.1 hX v := fun v hv => hg v (List.mem_cons_of_mem _ (List.mem_cons_of_mem _ hv))
    dsimp only at gy gx
    refine lv_lshl hx hb hdec rfl ?_
    rw [← m_shl]
    exact hk ad ls H locs L ((1, ashll x.1 y.1) :: x.2) σ h (hst.stk (List.forall_mem_cons.mpr ⟨aGv_long (ar64_t _), hg2⟩))
  | lshr =>
    simp only [astep] at h
    obtain rfl := Nat.eq_of_beq_eq_true hil
    obtain ⟨y, hy, h'⟩ := Option.bind_eq_some_iff.mp h; clear h; have h := h'; clear h'
    obtain ⟨x, hx1, h'⟩ := Option.bind_eq_some_iff.mp h; clear h; have h := h'; clear h'
    have e1 := apopI_s hy
    have e2 := apopL_s hx1
    rw [e2] at e1
    subst e1
    have gy := (hg _ List.mem_cons_self).1 rfl
    have gx := (hg _ (List.mem_cons_of_mem _ List.mem_cons_self)).2.1 rfl
    have hg2 : ∀ v ∈ x.2, aGv σ.1 hX v := fun v hv => hg v (List.mem_cons_of_mem _ (List.mem_cons_of_mem _ hv))
    dsimp only at gy gx
    refine lv_lshr hx hb hdec rfl ?_
    rw [← m_shr]
    exact hk ad ls H locs L ((1, ashrl x.1 y.1) :: x.2) σ h (hst.stk (List.forall_mem_cons.mpr ⟨aGv_long (ar64_t _), hg2⟩))
  | lcmp =>
    simp only [astep] at h
    obtain rfl := Nat.eq_of_beq_eq_true hil
    obtain ⟨y, hy, h'⟩ := Option.bind_eq_some_iff.mp h; clear h; have h := h'; clear h'
    obtain ⟨x, hx1, h'⟩ := Option.bind_eq_some_iff.mp h; clear h; have h := h'; clear h'
    have e1 := apopL_s hy
    have e2 := apopL_s hx1
    rw [e2] at e1
    subst e1
    have gy := (hg _ List.mem_cons_self).2.1 rfl
    have gx := (hg _ (List.mem_cons_of_mem _ List.mem_cons_self)).2.1 rfl
    have hg2 : ∀ v ∈ x.2, aGv σ.1 hX v := fun v hv => hg v (List.mem_cons_of_mem _ (List.mem_cons_of_mem _ hv))
    dsimp only at gy gx
    refine W.lcmp hx hb hdec ?_
    rw [m_cmp gx gy]
    exact hk ad ls H locs L ((0, acmp x.1 y.1) :: x.2) σ h (hst.stk (List.forall_mem_cons.mpr ⟨aGv_int (ar32_cmp _ _), hg2⟩))
  | ineg =>
    simp only [astep] at h
    obtain rfl := Nat.eq_of_beq_eq_true hil
    obtain ⟨x, hx1, h'⟩ := Option.bind_eq_some_iff.mp h; clear h; have h := h'; clear h'
    have e1 := apopI_s hx1
    subst e1
    have gx := (hg _ List.mem_cons_self).1 rfl
    have hg2 : ∀ v ∈ x.2, aGv σ.1 hX v := fun v hv => hg v (List.mem_cons_of_mem _ hv)
    dsimp only at gx
    refine lv_ineg hx hb hdec ?_
    rw [← n_neg]
    exact hk ad ls H locs L ((0, w32 (-x.1)) :: x.2) σ h (hst.stk (List.forall_mem_cons.mpr ⟨aGv_int (ar32_w _), hg2⟩))
  | lneg =>
    simp only [astep] at h
    obtain rfl := Nat.eq_of_beq_eq_true hil
    obtain ⟨x, hx1, h'⟩ := Option.bind_eq_some_iff.mp h; clear h; have h := h'; clear h'
    have e1 := apopL_s hx1
    subst e1
    have gx := (hg _ List.mem_cons_self).2.1 rfl
    have hg2 : ∀ v ∈ x.2, aGv σ.1 hX v := fun v hv => hg v (List.mem_cons_of_mem _ hv)
    dsimp only at gx
    refine lv_lneg hx hb hdec ?_
    rw [← m_neg]
    exact hk ad ls H locs L ((1, w64 (-x.1)) :: x.2) σ h (hst.stk (List.forall_mem_cons.mpr ⟨aGv_long (ar64_w _), hg2⟩))
  | i2l =>
    simp only [astep] at h
    obtain rfl := Nat.eq_of_beq_eq_true hil
    obtain ⟨x, hx1, h'⟩ := Option.bind_eq_some_iff.mp h; clear h; have h := h'; clear h'
    have e1 := apopI_s hx1
    subst e1
    have gx := (hg _ List.mem_cons_self).1 rfl
    have hg2 : ∀ v ∈ x.2, aGv σ.1 hX v := fun v hv => hg v (List.mem_cons_of_mem _ hv)
    dsimp only at gx
    refine lv_i2l hx hb hdec (n_i2l _ gx) ?_
    exact hk ad ls H locs L ((1, x.1) :: x.2) σ h (hst.stk (List.forall_mem_cons.mpr ⟨aGv_long (ar64_of gx), hg2⟩))
  | l2i =>
    simp only [astep] at h
    obtain rfl := Nat.eq_of_beq_eq_true hil
    obtain ⟨x, hx1, h'⟩ := Option.bind_eq_some_iff.mp h; clear h; have h := h'; clear h'
    have e1 := apopL_s hx1
    subst e1
    have gx := (hg _ List.mem_cons_self).2.1 rfl
    have hg2 : ∀ v ∈ x.2, aGv σ.1 hX v := fun v hv => hg v (List.mem_cons_of_mem _ hv)
    dsimp only at gx
    refine lv_l2i hx hb hdec (n_l2i _) ?_
    exact hk ad ls H locs L ((0, w32 x.1) :: x.2) σ h (hst.stk (List.forall_mem_cons.mpr ⟨aGv_int (ar32_w _), hg2⟩))
  | dup =>
    simp only [astep] at h
    obtain rfl := Nat.eq_of_beq_eq_true hil
    cases S with
    | nil => cases h
    | cons v S' =>
      dsimp only at h
      split at h
      · cases h
      · rename_i z
        have hc1 : (aconc d.2.2.2.2 ad b v).category = 1 := by rw [aconc_cat]; unfold acat; rw [z]
        refine lv_dup hx hb hdec hc1 ?_
        exact hk ad ls H locs L (v :: v :: S') σ h (hst.stk (List.forall_mem_cons.mpr ⟨hg _ List.mem_cons_self, hg⟩))
  | pop =>
    simp only [astep] at h
    obtain rfl := Nat.eq_of_beq_eq_true hil
    cases S with
    | nil => cases h
    | cons v S' =>
      dsimp only at h
      split at h
      · cases h
      · rename_i z
        have hc1 : (aconc d.2.2.2.2 ad b v).category = 1 := by rw [aconc_cat]; unfold acat; rw [z]
        refine lv_pop hx hb hdec hc1 ?_
        exact hk ad ls H locs L S' σ h (hst.stk (fun u hu => hg u (List.mem_cons_of_mem _ hu)))
  | dup2 =>
    simp only [astep] at h
    obtain rfl := Nat.eq_of_beq_eq_true hil
    cases S with
    | nil => cases h
    | cons v S' =>
      dsimp only at h
      split at h
      · rename_i z
        have hc1 : (aconc d.2.2.2.2 ad b v).category = 2 := by rw [aconc_cat]; unfold acat; rw [z]
        refine lv_dup2_2 hx hb hdec hc1 ?_
        exact hk ad ls H locs L (v :: v :: S') σ h (hst.stk (List.forall_mem_cons.mpr ⟨hg _ List.mem_cons_self, hg⟩))
      · rename_i z
        cases S' with
        | nil => cases h
        | cons u S2 =>
          dsimp only at h
          split at h
          · cases h
          · rename_i z2
            have hc1 : (aconc d.2.2.2.2 ad b v).category = 1 := by rw [aconc_cat]; unfold acat; rw [z]
            have hc2 : (aconc d.2.2.2.2 ad b u).category = 1 := by rw [aconc_cat]; unfold acat; rw [z2]
            refine lv_dup2_11 hx hb hdec hc1 hc2 ?_
            exact hk ad ls H locs L (v :: u :: v :: u :: S2) σ h (hst.stk (List.forall_mem_cons.mpr ⟨hg _ List.mem_cons_self, List.forall_mem_cons.mpr ⟨hg _ (List.mem_cons_of_mem _ List.mem_cons_self), hg⟩⟩))
  | goto w =>
    simp only [astep] at h
    obtain rfl := Nat.eq_of_beq_eq_true hil
    simp only [decide_eq_true_eq] at hok
    refine lv_goto (tgt := ((pc : Int) + w).toNat) hx hb hdec (by omega) ?_
    exact hj _ ad ls H locs L S σ h hst
  | ifCond cnd w =>
    simp only [astep] at h
    obtain rfl := Nat.eq_of_beq_eq_true hil
    simp only [decide_eq_true_eq] at hok
    obtain ⟨x, hx1, h'⟩ := Option.bind_eq_some_iff.mp h; clear h; have h := h'; clear h'
    have e1 := apopI_s hx1
    subst e1
    have gx := (hg _ List.mem_cons_self).1 rfl
    have hg2 : ∀ v ∈ x.2, aGv σ.1 hX v := fun v hv => hg v (List.mem_cons_of_mem _ hv)
    dsimp only at gx
    cases cnd with
    | eq =>
      dsimp only at h
      refine lv_if_eq (tgt := ((pc : Int) + w).toNat) hx hb hdec (by omega) (fun q => ?_) (fun q => ?_)
      · rw [if_pos ((n_zero gx).mp q)] at h
        exact hj _ ad ls H locs L x.2 σ h (hst.stk hg2)
      · rw [if_neg (fun z => q ((n_zero gx).mpr z))] at h
        exact hk ad ls H locs L x.2 σ h (hst.stk hg2)
    | ne =>
      dsimp only at h
      refine lv_if_ne (tgt := ((pc : Int) + w).toNat) hx hb hdec (by omega) (fun q => ?_) (fun q => ?_)
      · rw [if_neg (fun z => q ((n_zero gx).mpr z))] at h
        exact hj _ ad ls H locs L x.2 σ h (hst.stk hg2)
      · rw [if_pos ((n_zero gx).mp q)] at h
        exact hk ad ls H locs L x.2 σ h (hst.stk hg2)
    | lt =>
      dsimp only at h
      refine lv_if_lt (tgt := ((pc : Int) + w).toNat) hx hb hdec (by omega) (fun q => ?_) (fun q => ?_)
      · rw [if_pos ((n_lt0 gx).mp q)] at h
        exact hj _ ad ls H locs L x.2 σ h (hst.stk hg2)
      · rw [if_neg (fun z => q ((n_lt0 gx).mpr z))] at h
        exact hk ad ls H locs L x.2 σ h (hst.stk hg2)
    | ge =>
      dsimp only at h
      refine lv_if_ge (tgt := ((pc : Int) + w).toNat) hx hb hdec (by omega) (fun q => ?_) (fun q => ?_)
      · rw [if_neg (c := x.1 < 0) (by have := (n_0le gx).mp q; omega)] at h
        exact hj _ ad ls H locs L x.2 σ h (hst.stk hg2)
      · rw [if_pos (c := x.1 < 0) (Int.not_le.mp (fun z => q ((n_0le gx).mpr z)))] at h
        exact hk ad ls H locs L x.2 σ h (hst.stk hg2)
    | gt =>
      dsimp only at h
      refine lv_if_gt (tgt := ((pc : Int) + w).toNat) hx hb hdec (by omega) (fun q => ?_) (fun q => ?_)
      · rw [if_pos ((n_0lt gx).mp q)] at h
        exact hj _ ad ls H locs L x.2 σ h (hst.stk hg2)
      · rw [if_neg (fun z => q ((n_0lt gx).mpr z))] at h
        exact hk ad ls H locs L x.2 σ h (hst.stk hg2)
    | le =>
      dsimp only at h
      refine lv_if_le (tgt := ((pc : Int) + w).toNat) hx hb hdec (by omega) (fun q => ?_) (fun q => ?_)
      · rw [if_neg (c := 0 < x.1) (by have := (n_le0 gx).mp q; omega)] at h
        exact hj _ ad ls H locs L x.2 σ h (hst.stk hg2)
      · rw [if_pos (c := 0 < x.1) (Int.not_le.mp (fun z => q ((n_le0 gx).mpr z)))] at h
        exact hk ad ls H locs L x.2 σ h (hst.stk hg2)
  | if_icmp cnd w =>
    simp only [astep] at h
    obtain rfl := Nat.eq_of_beq_eq_true hil
    simp only [decide_eq_true_eq] at hok
    obtain ⟨y, hy, h'⟩ := Option.bind_eq_some_iff.mp h; clear h; have h := h'; clear h'
    obtain ⟨x, hx1, h'⟩ := Option.bind_eq_some_iff.mp h; clear h; have h := h'; clear h'
    have e1 := apopI_s hy
    have e2 := apopI_s hx1
    rw [e2] at e1
    subst e1
    have gy := (hg _ List.mem_cons_self).1 rfl
    have gx := (hg _ (List.mem_cons_of_mem _ List.mem_cons_self)).1 rfl
    have hg2 : ∀ v ∈ x.2, aGv σ.1 hX v := fun v hv => hg v (List.mem_cons_of_mem _ (List.mem_cons_of_mem _ hv))
    dsimp only at gy gx
    cases cnd with
    | eq =>
      dsimp only at h
      refine lv_icmp_eq (tgt := ((pc : Int) + w).toNat) hx hb hdec (by omega) (fun q => ?_) (fun q => ?_)
      · rw [if_pos ((n_eq gx gy).mp q)] at h
        exact hj _ ad ls H locs L x.2 σ h (hst.stk hg2)
      · rw [if_neg (fun z => q ((n_eq gx gy).mpr z))] at h
        exact hk ad ls H locs L x.2 σ h (hst.stk hg2)
    | ne =>
      dsimp only at h
      refine lv_icmp_ne (tgt := ((pc : Int) + w).toNat) hx hb hdec (by omega) (fun q => ?_) (fun q => ?_)
      · rw [if_neg (fun z => q ((n_eq gx gy).mpr z))] at h
        exact hj _ ad ls H locs L x.2 σ h (hst.stk hg2)
      · rw [if_pos ((n_eq gx gy).mp q)] at h
        exact hk ad ls H locs L x.2 σ h (hst.stk hg2)
    | lt =>
      dsimp only at h
      refine lv_icmp_lt (tgt := ((pc : Int) + w).toNat) hx hb hdec (by omega) (fun q => ?_) (fun q => ?_)
      · rw [if_pos ((n_lt gx gy).mp q)] at h
        exact hj _ ad ls H locs L x.2 σ h (hst.stk hg2)
      · rw [if_neg (fun z => q ((n_lt gx gy).mpr z))] at h
        exact hk ad ls H locs L x.2 σ h (hst.stk hg2)
    | ge =>
      dsimp only at h
      refine lv_icmp_ge (tgt := ((pc : Int) + w).toNat) hx hb hdec (by omega) (fun q => ?_) (fun q => ?_)
      · rw [if_neg (c := x.1 < y.1) (by have := (n_le gy gx).mp q; omega)] at h
        exact hj _ ad ls H locs L x.2 σ h (hst.stk hg2)
      · rw [if_pos (c := x.1 < y.1) (Int.not_le.mp (fun z => q ((n_le gy gx).mpr z)))] at h
        exact hk ad ls H locs L x.2 σ h (hst.stk hg2)
    | gt =>
      dsimp only at h
      refine lv_icmp_gt (tgt := ((pc : Int) + w).toNat) hx hb hdec (by omega) (fun q => ?_) (fun q => ?_)
      · rw [if_pos ((n_lt gy gx).mp q)] at h
        exact hj _ ad ls H locs L x.2 σ h (hst.stk hg2)
      · rw [if_neg (fun z => q ((n_lt gy gx).mpr z))] at h
        exact hk ad ls H locs L x.2 σ h (hst.stk hg2)
    | le =>
      dsimp only at h
      refine lv_icmp_le (tgt := ((pc : Int) + w).toNat) hx hb hdec (by omega) (fun q => ?_) (fun q => ?_)
      · rw [if_neg (c := y.1 < x.1) (by have := (n_le gx gy).mp q; omega)] at h
        exact hj _ ad ls H locs L x.2 σ h (hst.stk hg2)
      · rw [if_pos (c := y.1 < x.1) (Int.not_le.mp (fun z => q ((n_le gx gy).mpr z)))] at h
        exact hk ad ls H locs L x.2 σ h (hst.stk hg2)
  | tableswitch dd lo hi os =>
    simp only [astep] at h
    obtain ⟨x, hx1, h'⟩ := Option.bind_eq_some_iff.mp h; clear h; have h := h'; clear h'
    have e1 := apopI_s hx1
    subst e1
    have gx := (hg _ List.mem_cons_self).1 rfl
    have hg2 : ∀ v ∈ x.2, aGv σ.1 hX v := fun v hv => hg v (List.mem_cons_of_mem _ hv)
    dsimp only at gx
    simp only [Bool.and_eq_true, decide_eq_true_eq, List.all_eq_true] at hok
    rcases a_sw os.toList lo h with ⟨q1, q2⟩ | ⟨q1, q2, o, q3, q4⟩
    · refine lv_tableOut (tgt := ((pc : Int) + dd).toNat) hx hb hdec ?_ (by omega) ?_
      · rw [t32 gx]
        rcases q1 with q1 | q1
        · exact Or.inl q1
        · right
          have : (os.toList.length : Int) = (os.size : Int) := by simp
          omega
      · exact hj _ ad ls H locs L x.2 σ q2 (hst.stk hg2)
    · have hos : (os.toList.length : Int) = (os.size : Int) := by simp
      have ho : 0 ≤ (pc : Int) + o := hok.2 o (List.mem_of_getElem? q3)
      refine lv_tableIn (tgt := ((pc : Int) + o).toNat) (off := o) hx hb hdec (by rw [t32 gx]; exact q1) (by rw [t32 gx]; omega) (by rw [t32 gx]; simpa using q3) (by omega) ?_
      exact hj _ ad ls H locs L x.2 σ q4 (hst.stk hg2)
  | lookupswitch dd os =>
    simp only [astep] at h
    obtain ⟨x, hx1, h'⟩ := Option.bind_eq_some_iff.mp h; clear h; have h := h'; clear h'
    have e1 := apopI_s hx1
    subst e1
    have gx := (hg _ List.mem_cons_self).1 rfl
    have hg2 : ∀ v ∈ x.2, aGv σ.1 hX v := fun v hv => hg v (List.mem_cons_of_mem _ hv)
    dsimp only at gx
    simp only [Bool.and_eq_true, decide_eq_true_eq] at hok
    obtain ⟨q1, q2⟩ := a_lk os.toList h
    refine lv_lookup (tgt := ((pc : Int) + Op.lookupswitch.offset os.toList dd x.1).toNat) hx hb hdec hok.1.1 (by rw [t32 gx]) ?_ ?_
    · rcases q2 with q2 | ⟨z, hz, q2⟩
      · rw [q2]; omega
      · rw [q2]
        have := List.all_eq_true.mp hok.2 z hz
        simp only [decide_eq_true_eq] at this
        omega
    · exact hj _ ad ls H locs L x.2 σ q1 (hst.stk hg2)
  | getfield n =>
    simp only [astep] at h
    obtain rfl := Nat.eq_of_beq_eq_true hil
    split at h
    · rename_i ci f
      simp only [Bool.and_eq_true, decide_eq_true_eq] at hok
      obtain ⟨⟨⟨⟨hci, hf⟩, hlink⟩, hft⟩, ht7⟩ := hok
      have hci : ci < 12 := by simpa [Nat.blt_eq] using hci
      have hf : f < aNf ci := by simpa [Nat.blt_eq] using hf
      obtain ⟨a, ha, h'⟩ := Option.bind_eq_some_iff.mp h; clear h; have h := h'; clear h'
      have e1 := apopT_s ha
      subst e1
      obtain ⟨k0, n, rfl', hk1, hn, hr1, hw, hgd⟩ := hst.cell List.mem_cons_self (aisR_10 ci)
      have hg2 : ∀ v ∈ a.2, aGv σ.1 hX v := fun v hv => hg v (List.mem_cons_of_mem _ hv)
      have hn2 : n = aNf ci := by
        rcases hn with q | q | q | q
        · omega
        · omega
        · omega
        · rw [q.2.2]; congr 1; omega
      obtain ⟨rr, hrr, ty, hty, t1, t2, t3, t4⟩ := aT_ty ci hci f hf
      rw [aCell_obj] at hw
      have hkt : akt (10 + ci) f = aft ci f := by
        unfold akt
        split
        · omega
        · omega
        · omega
        · rw [show 10 + ci - 10 = ci by omega]
      have hgf := hgd f (by omega)
      rw [hkt] at hgf
      rw [List.map_cons, hr1]
      refine va_get (C := aC1 ci) (T := aT ci) (N := aNf ci) (ref := (aT ci f).1) hx hb hts (aT_in ci hci) hown hK hst.1 k0 hw (by rw [hrr, ← t1, ← t2, ← t3]) f hf (hts _ (hMw _ hlink)) (fun _ z => z) (v := aconc d.2.2.2.2 ad 0 (aft ci f, σ.2.1 ((k0 : Int) + 1) (f : Int))) (by rw [List.getElem?_map, List.getElem?_range (by omega)]; rfl) hdec ?_
      have hv : aconc d.2.2.2.2 ad 0 (aft ci f, σ.2.1 ((k0 : Int) + 1) (f : Int)) = .int (Int32.ofInt (aget σ a.1 (f : Int))) ∧ ar32 (aget σ a.1 (f : Int)) := by
        rw [rfl']
        rcases hft with q | ⟨q, -⟩
        · rw [q] at hgf ⊢
          rcases hgf with z | ⟨z, -⟩ | ⟨z, -⟩
          · exact ⟨rfl, z.1 rfl⟩
          · exact absurd z (by unfold aisR; omega)
          · cases z
        · rw [q] at hgf ⊢
          rcases hgf with z | ⟨z, -⟩ | ⟨-, z⟩
          · rcases z.2.2.2.2.2 with y | y | y | y | y
            · cases y
            · cases y
            · cases y
            · cases y
            · exact absurd y (by unfold aisR; omega)
          · exact absurd z (by unfold aisR; omega)
          · refine ⟨rfl, ?_⟩
            unfold aget ar32
            dsimp only at z
            omega
      rw [hv.1]
      exact hk ad ls H locs L ((0, aget σ a.1 (f : Int)) :: a.2) σ h (hst.stk (List.forall_mem_cons.mpr ⟨aGv_int hv.2, hg2⟩))
    · rename_i ci f
      simp only [Bool.and_eq_true, decide_eq_true_eq] at hok
      obtain ⟨⟨⟨⟨hci, hf⟩, hlink⟩, hft⟩, ht7⟩ := hok
      have hci : ci < 12 := by simpa [Nat.blt_eq] using hci
      have hf : f < aNf ci := by simpa [Nat.blt_eq] using hf
      obtain ⟨a, ha, h'⟩ := Option.bind_eq_some_iff.mp h; clear h; have h := h'; clear h'
      have e1 := apopT_s ha
      subst e1
      obtain ⟨k0, n, rfl', hk1, hn, hr1, hw, hgd⟩ := hst.cell List.mem_cons_self (aisR_10 ci)
      have hg2 : ∀ v ∈ a.2, aGv σ.1 hX v := fun v hv => hg v (List.mem_cons_of_mem _ hv)
      have hn2 : n = aNf ci := by
        rcases hn with q | q | q | q
        · omega
        · omega
        · omega
        · rw [q.2.2]; congr 1; omega
      obtain ⟨rr, hrr, ty, hty, t1, t2, t3, t4⟩ := aT_ty ci hci f hf
      rw [aCell_obj] at hw
      have hkt : akt (10 + ci) f = aft ci f := by
        unfold akt
        split
        · omega
        · omega
        · omega
        · rw [show 10 + ci - 10 = ci by omega]
      have hgf := hgd f (by omega)
      rw [hkt] at hgf
      rw [List.map_cons, hr1]
      refine va_get (C := aC1 ci) (T := aT ci) (N := aNf ci) (ref := (aT ci f).1) hx hb hts (aT_in ci hci) hown hK hst.1 k0 hw (by rw [hrr, ← t1, ← t2, ← t3]) f hf (hts _ (hMw _ hlink)) (fun _ z => z) (v := aconc d.2.2.2.2 ad 0 (aft ci f, σ.2.1 ((k0 : Int) + 1) (f : Int))) (by rw [List.getElem?_map, List.getElem?_range (by omega)]; rfl) hdec ?_
      have hv : aconc d.2.2.2.2 ad 0 (aft ci f, σ.2.1 ((k0 : Int) + 1) (f : Int)) = .long (Int64.ofInt (aget σ a.1 (f : Int))) ∧ ar64 (aget σ a.1 (f : Int)) := by
        rw [rfl']
        rcases hft with q | ⟨q, z⟩
        · rw [q] at hgf ⊢
          rcases hgf with z | ⟨z, -⟩ | ⟨z, -⟩
          · exact ⟨rfl, z.2.1 rfl⟩
          · exact absurd z (by unfold aisR; omega)
          · cases z
        · cases z
      rw [hv.1]
      exact hk ad ls H locs L ((1, aget σ a.1 (f : Int)) :: a.2) σ h (hst.stk (List.forall_mem_cons.mpr ⟨aGv_long hv.2, hg2⟩))
    · rename_i ci f t hn0 hn1
      simp only [Bool.and_eq_true, decide_eq_true_eq] at hok
      obtain ⟨⟨⟨⟨hci, hf⟩, hlink⟩, hft⟩, ht7⟩ := hok
      have hci : ci < 12 := by simpa [Nat.blt_eq] using hci
      have hf : f < aNf ci := by simpa [Nat.blt_eq] using hf
      obtain ⟨a, ha, h'⟩ := Option.bind_eq_some_iff.mp h; clear h; have h := h'; clear h'
      have e1 := apopT_s ha
      subst e1
      obtain ⟨k0, n, rfl', hk1, hn, hr1, hw, hgd⟩ := hst.cell List.mem_cons_self (aisR_10 ci)
      have hg2 : ∀ v ∈ a.2, aGv σ.1 hX v := fun v hv => hg v (List.mem_cons_of_mem _ hv)
      have hn2 : n = aNf ci := by
        rcases hn with q | q | q | q
        · omega
        · omega
        · omega
        · rw [q.2.2]; congr 1; omega
      obtain ⟨rr, hrr, ty, hty, t1, t2, t3, t4⟩ := aT_ty ci hci f hf
      rw [aCell_obj] at hw
      have hkt : akt (10 + ci) f = aft ci f := by
        unfold akt
        split
        · omega
        · omega
        · omega
        · rw [show 10 + ci - 10 = ci by omega]
      have hgf := hgd f (by omega)
      rw [hkt] at hgf
      rw [List.map_cons, hr1]
      split at h
      · cases h
      rename_i hz
      rw [rfl'] at hz
      refine va_get (C := aC1 ci) (T := aT ci) (N := aNf ci) (ref := (aT ci f).1) hx hb hts (aT_in ci hci) hown hK hst.1 k0 hw (by rw [hrr, ← t1, ← t2, ← t3]) f hf (hts _ (hMw _ hlink)) (fun _ z => z) (v := aconc d.2.2.2.2 ad 0 (aft ci f, σ.2.1 ((k0 : Int) + 1) (f : Int))) (by rw [List.getElem?_map, List.getElem?_range (by omega)]; rfl) hdec ?_
      have hft2 : aft ci f = t := by
        rcases hft with q | ⟨-, q⟩
        · exact q
        · exact absurd q hn0
      rw [hft2] at hgf ⊢
      have hgv : aGv σ.1 False (t, σ.2.1 ((k0 : Int) + 1) (f : Int)) := by
        rcases hgf with z | ⟨-, z⟩ | ⟨z, -⟩
        · exact z
        · exact absurd z hz
        · exact absurd z ht7
      have h6 : t ≠ 6 := fun q => hgv.2.2.2.1 q
      rw [aconc_b (b := 0) (b' := b) hgv h6]
      rw [rfl'] at h
      exact hk ad ls H locs L ((t, aget σ ((k0 : Int) + 1) (f : Int)) :: a.2) σ h (hst.stk (List.forall_mem_cons.mpr ⟨hgv.mono (fun z => z.elim), hg2⟩))
    · cases h
  | putfield n =>
    simp only [astep] at h
    obtain rfl := Nat.eq_of_beq_eq_true hil
    split at h
    · rename_i ci f
      simp only [Bool.and_eq_true, decide_eq_true_eq] at hok
      obtain ⟨⟨⟨⟨hci, hf⟩, hlink⟩, hft⟩, hfin⟩ := hok
      have hci : ci < 12 := by simpa [Nat.blt_eq] using hci
      have hf : f < aNf ci := by simpa [Nat.blt_eq] using hf
      obtain ⟨v, hv, h'⟩ := Option.bind_eq_some_iff.mp h; clear h; have h := h'; clear h'
      obtain ⟨a, ha, h'⟩ := Option.bind_eq_some_iff.mp h; clear h; have h := h'; clear h'
      have e0 := apopI_s hv
      have e1 := apopT_s ha
      rw [e1] at e0
      subst e0
      obtain ⟨k0, n, rfl', hk1, hn, hr1, hw, hgd⟩ := hst.cell (List.mem_cons_of_mem _ List.mem_cons_self) (aisR_10 ci)
      have hg2 : ∀ v ∈ a.2, aGv σ.1 hX v := fun v hv => hg v (List.mem_cons_of_mem _ (List.mem_cons_of_mem _ hv))
      have hn2 : n = aNf ci := by
        rcases hn with q | q | q | q
        · omega
        · omega
        · omega
        · rw [q.2.2]; congr 1; omega
      obtain ⟨rr, hrr, ty, hty, t1, t2, t3, t4⟩ := aT_ty ci hci f hf
      rw [aCell_obj] at hw
      have hkt : akt (10 + ci) f = aft ci f := by
        unfold akt
        split
        · omega
        · omega
        · omega
        · rw [show 10 + ci - 10 = ci by omega]
      have hgf := hgd f (by omega)
      rw [hkt] at hgf
      split at h
      rotate_left
      · cases h
      rename_i h01
      rw [rfl'] at h
      rw [List.map_cons, List.map_cons, hr1]
      have hft2 : aconc d.2.2.2.2 ad 0 (7, v.1) = aconc d.2.2.2.2 ad 0 (aft ci f, v.1) := by rw [hft]
      have hval : aconc d.2.2.2.2 ad b (0, v.1) = aconc d.2.2.2.2 ad 0 (7, v.1) := rfl
      have hgood : ∀ j : Nat, (j : Int) = (f : Int) → aGh σ.1 (akt (10 + ci) j, v.1) := by
        intro j hj
        have : j = f := by omega
        subst this
        rw [hkt, hft]
        exact Or.inr (Or.inr ⟨rfl, h01⟩)
      have htyf : ty f = .boolean := by
        rcases t4 with ⟨z, -⟩ | ⟨z, -⟩ | ⟨-, z⟩ | ⟨z, -⟩
        · rw [hft] at z; cases z
        · rw [hft] at z; cases z
        · exact z
        · rw [hft] at z; exact absurd z (by unfold aisR; omega)
      have hnar : narrow (ty f) (aconc d.2.2.2.2 ad b (0, v.1)) = aconc d.2.2.2.2 ad b (0, v.1) := by
        rw [htyf]; rcases h01 with z | z <;> rw [z] <;> rfl
      have hfit : fits (ty f) (aconc d.2.2.2.2 ad b (0, v.1)) = true := by
        rw [htyf]; rcases h01 with z | z <;> rw [z] <;> rfl
      have hpd := aT_ok ci ty hty f hf
      have hcl : vwCl[ci]? = some (aC1 ci, aT ci, aNf ci) := by rw [hrr, ← t1, ← t2, ← t3]
      have hfl : f < ((List.range n).map fun j => aconc d.2.2.2.2 ad 0 (aft ci j, σ.2.1 ((k0 : Int) + 1) (j : Int))).length := by simp; omega
      have hty2 : ∀ k, k < aNf ci → parseFieldDescriptor (aT ci k).2.2.1 = some (ty k) := aT_ok ci ty hty
      by_cases hff : (aT ci f).2.2.2 = true
      · have hff2 : (aMy M).name = "<init>" ∧ (aT ci f).1 = (aMy M).cls := by
          rcases hfin with hfin | hfin
          · exact absurd (hfin.symm.trans hff) (by decide)
          · exact hfin
        refine va_putF (C := aC1 ci) (T := aT ci) (N := aNf ci) (ref := (aT ci f).1) (ty := ty f) hx hb hts (aT_in ci hci) ty hty2 (aT_nm ci hci) hown hK hst.1 hst.2.1 hst.2.2.1 k0 hw hcl f hf (hts _ (hMw _ hlink)) (fun _ z => z) hff (by rw [hname]; exact hff2.1) hff2.2 hpd hnar hfit hfl hdec (fun H1 locs1 hP1 hD1 hS1 => ?_)
        rw [hval, hft2, ← aWs_putO hk1 (by omega)] at hP1 hD1
        exact hk ad ls H1 locs1 L a.2 (aput σ ((k0 : Int) + 1) (f : Int) v.1) h (hst.put (fun u hu => List.mem_cons_of_mem _ (List.mem_cons_of_mem _ hu)) rfl rfl hP1 hD1 hS1 (hst.2.2.2.1.put hk1 hgood))
      · refine va_put (C := aC1 ci) (T := aT ci) (N := aNf ci) (ref := (aT ci f).1) (ty := ty f) hx hb hts (aT_in ci hci) ty hty2 (aT_nm ci hci) hown hK hst.1 hst.2.1 hst.2.2.1 k0 hw hcl f hf (hts _ (hMw _ hlink)) (fun _ z => z) ((Bool.not_eq_true _).mp hff) hpd hnar hfit hfl hdec (fun H1 locs1 hP1 hD1 hS1 => ?_)
        rw [hval, hft2, ← aWs_putO hk1 (by omega)] at hP1 hD1
        exact hk ad ls H1 locs1 L a.2 (aput σ ((k0 : Int) + 1) (f : Int) v.1) h (hst.put (fun u hu => List.mem_cons_of_mem _ (List.mem_cons_of_mem _ hu)) rfl rfl hP1 hD1 hS1 (hst.2.2.2.1.put hk1 hgood))
    · rename_i ci f t hn7
      simp only [Bool.and_eq_true, decide_eq_true_eq] at hok
      obtain ⟨⟨⟨⟨hci, hf⟩, hlink⟩, hft⟩, hfin⟩ := hok
      have hci : ci < 12 := by simpa [Nat.blt_eq] using hci
      have hf : f < aNf ci := by simpa [Nat.blt_eq] using hf
      obtain ⟨v, hv, h'⟩ := Option.bind_eq_some_iff.mp h; clear h; have h := h'; clear h'
      obtain ⟨a, ha, h'⟩ := Option.bind_eq_some_iff.mp h; clear h; have h := h'; clear h'
      have e0 := apopT_s hv
      have e1 := apopT_s ha
      rw [e1] at e0
      subst e0
      obtain ⟨k0, n, rfl', hk1, hn, hr1, hw, hgd⟩ := hst.cell (List.mem_cons_of_mem _ List.mem_cons_self) (aisR_10 ci)
      have hg2 : ∀ v ∈ a.2, aGv σ.1 hX v := fun v hv => hg v (List.mem_cons_of_mem _ (List.mem_cons_of_mem _ hv))
      have hn2 : n = aNf ci := by
        rcases hn with q | q | q | q
        · omega
        · omega
        · omega
        · rw [q.2.2]; congr 1; omega
      obtain ⟨rr, hrr, ty, hty, t1, t2, t3, t4⟩ := aT_ty ci hci f hf
      rw [aCell_obj] at hw
      have hkt : akt (10 + ci) f = aft ci f := by
        unfold akt
        split
        · omega
        · omega
        · omega
        · rw [show 10 + ci - 10 = ci by omega]
      have hgf := hgd f (by omega)
      rw [hkt] at hgf
      rw [rfl'] at h
      rw [List.map_cons, List.map_cons, hr1]
      have hgv := hg _ List.mem_cons_self
      have ht7 : t ≠ 7 := fun z => hn7 z
      have h6 : t ≠ 6 := fun z => by
        rcases aft_le ci f with q | q | q | q
        · omega
        · omega
        · omega
        · unfold aisR at q; omega
      have hft2 : aconc d.2.2.2.2 ad 0 (t, v.1) = aconc d.2.2.2.2 ad 0 (aft ci f, v.1) := by rw [hft]
      have hval : aconc d.2.2.2.2 ad b (t, v.1) = aconc d.2.2.2.2 ad 0 (t, v.1) := aconc_b hgv h6
      have hgood : ∀ j : Nat, (j : Int) = (f : Int) → aGh σ.1 (akt (10 + ci) j, v.1) := by
        intro j hj
        have : j = f := by omega
        subst this
        rw [hkt, hft]
        exact Or.inl (aGv_no6 hgv h6)
      have hnf : narrow (ty f) (aconc d.2.2.2.2 ad b (t, v.1)) = aconc d.2.2.2.2 ad b (t, v.1) ∧ fits (ty f) (aconc d.2.2.2.2 ad b (t, v.1)) = true := by
        rcases t4 with ⟨z1, z2⟩ | ⟨z1, z2⟩ | ⟨z1, z2⟩ | ⟨z1, z2⟩
        · rw [z2, show t = 0 from hft.symm.trans z1]; exact ⟨rfl, rfl⟩
        · rw [z2, show t = 1 from hft.symm.trans z1]; exact ⟨rfl, rfl⟩
        · exact absurd (hft.symm.trans z1) ht7
        · rw [hft] at z1
          obtain ⟨q, hq⟩ := aGv_isref (sa := d.2.2.2.2) (ad := ad) (b := b) hgv (by unfold aisR at z1; dsimp only; omega)
          rw [hq]
          rcases z2 with ⟨_, z2⟩ | ⟨_, z2⟩ <;> rw [z2] <;> exact ⟨rfl, rfl⟩
      have hnar := hnf.1
      have hfit := hnf.2
      have hpd := aT_ok ci ty hty f hf
      have hcl : vwCl[ci]? = some (aC1 ci, aT ci, aNf ci) := by rw [hrr, ← t1, ← t2, ← t3]
      have hfl : f < ((List.range n).map fun j => aconc d.2.2.2.2 ad 0 (aft ci j, σ.2.1 ((k0 : Int) + 1) (j : Int))).length := by simp; omega
      have hty2 : ∀ k, k < aNf ci → parseFieldDescriptor (aT ci k).2.2.1 = some (ty k) := aT_ok ci ty hty
      by_cases hff : (aT ci f).2.2.2 = true
      · have hff2 : (aMy M).name = "<init>" ∧ (aT ci f).1 = (aMy M).cls := by
          rcases hfin with hfin | hfin
          · exact absurd (hfin.symm.trans hff) (by decide)
          · exact hfin
        refine va_putF (C := aC1 ci) (T := aT ci) (N := aNf ci) (ref := (aT ci f).1) (ty := ty f) hx hb hts (aT_in ci hci) ty hty2 (aT_nm ci hci) hown hK hst.1 hst.2.1 hst.2.2.1 k0 hw hcl f hf (hts _ (hMw _ hlink)) (fun _ z => z) hff (by rw [hname]; exact hff2.1) hff2.2 hpd hnar hfit hfl hdec (fun H1 locs1 hP1 hD1 hS1 => ?_)
        rw [hval, hft2, ← aWs_putO hk1 (by omega)] at hP1 hD1
        exact hk ad ls H1 locs1 L a.2 (aput σ ((k0 : Int) + 1) (f : Int) v.1) h (hst.put (fun u hu => List.mem_cons_of_mem _ (List.mem_cons_of_mem _ hu)) rfl rfl hP1 hD1 hS1 (hst.2.2.2.1.put hk1 hgood))
      · refine va_put (C := aC1 ci) (T := aT ci) (N := aNf ci) (ref := (aT ci f).1) (ty := ty f) hx hb hts (aT_in ci hci) ty hty2 (aT_nm ci hci) hown hK hst.1 hst.2.1 hst.2.2.1 k0 hw hcl f hf (hts _ (hMw _ hlink)) (fun _ z => z) ((Bool.not_eq_true _).mp hff) hpd hnar hfit hfl hdec (fun H1 locs1 hP1 hD1 hS1 => ?_)
        rw [hval, hft2, ← aWs_putO hk1 (by omega)] at hP1 hD1
        exact hk ad ls H1 locs1 L a.2 (aput σ ((k0 : Int) + 1) (f : Int) v.1) h (hst.put (fun u hu => List.mem_cons_of_mem _ (List.mem_cons_of_mem _ hu)) rfl rfl hP1 hD1 hS1 (hst.2.2.2.1.put hk1 hgood))
    · cases h
  | iaload =>
    simp only [astep] at h
    obtain rfl := Nat.eq_of_beq_eq_true hil
    obtain ⟨i, hi, h'⟩ := Option.bind_eq_some_iff.mp h; clear h; have h := h'; clear h'
    have e0 := apopI_s hi
    split at h
    · rename_i x S2 e1
      rw [e1] at e0
      subst e0
      split at h
      rotate_left
      · cases h
      rename_i hin
      obtain ⟨k0, n, rfl', hk1, hn, hr1, hw, hgd⟩ := hst.cell (List.mem_cons_of_mem _ List.mem_cons_self) (Or.inl rfl)
      rw [rfl', alen_k hk1] at hin
      have hn2 : n ≤ 10000 := by
        rcases hn with q | q | q | q <;> omega
      obtain ⟨hri2, hvi⟩ := a_in hin hn2
      have hg2 : ∀ v ∈ S2, aGv σ.1 hX v := fun v hv => hg v (List.mem_cons_of_mem _ (List.mem_cons_of_mem _ hv))
      have hgz := hgd i.1.toNat (by omega)
      have hg3 : ar32 (aget σ x i.1) := by
        rw [show ((i.1.toNat : Nat) : Int) = i.1 by omega, ← rfl'] at hgz
        rcases hgz with z | ⟨z, -⟩ | ⟨z, -⟩
        · exact z.1 rfl
        · exact absurd (show aisR 0 from z) (by unfold aisR; omega)
        · cases z
      rw [List.map_cons, List.map_cons, hr1]
      refine va_iald hx hb hK hst.1 k0 0 hw rfl hvi hdec ?_
      rw [n_nat hin.1 hri2, show ((i.1.toNat : Nat) : Int) = i.1 by omega, ← rfl']
      exact hk ad ls H locs L ((0, aget σ x i.1) :: S2) σ h (hst.stk (List.forall_mem_cons.mpr ⟨aGv_int hg3, hg2⟩))
    · rename_i x S2 e1
      rw [e1] at e0
      subst e0
      split at h
      rotate_left
      · cases h
      rename_i hin
      have h6 := (hg _ (List.mem_cons_of_mem _ List.mem_cons_self)).2.2.2.1 rfl
      obtain ⟨n, xs, hXX, hbl, hbA, hXn, hn2, hXv⟩ := hXs h6
      rw [hXn] at hin
      obtain ⟨hri2, hvi⟩ := a_in hin (by omega)
      have hg2 : ∀ v ∈ S2, aGv σ.1 hX v := fun v hv => hg v (List.mem_cons_of_mem _ (List.mem_cons_of_mem _ hv))
      have hv := hXv i.1.toNat (by omega)
      rw [show ((i.1.toNat : Nat) : Int) = i.1 by omega] at hv
      refine va_sld hx hb hXX hbl hbA hst.2.2.1 hvi hdec ?_
      rw [n_nat hin.1 hri2, show xs i.1.toNat = Int32.ofInt (X.2 i.1) by rw [hv, Int32.ofInt_toInt]]
      exact hk ad ls H locs L ((0, X.2 i.1) :: S2) σ h (hst.stk (List.forall_mem_cons.mpr ⟨aGv_int (by rw [hv]; exact ar32_t _), hg2⟩))
    · cases h
  | laload =>
    simp only [astep] at h
    obtain rfl := Nat.eq_of_beq_eq_true hil
    obtain ⟨i, hi, h'⟩ := Option.bind_eq_some_iff.mp h; clear h; have h := h'; clear h'
    obtain ⟨a, ha, h'⟩ := Option.bind_eq_some_iff.mp h; clear h; have h := h'; clear h'
    have e0 := apopI_s hi
    have e1 := apopT_s ha
    rw [e1] at e0
    subst e0
    split at h
    rotate_left
    · cases h
    rename_i hin
    obtain ⟨k0, n, rfl', hk1, hn, hr1, hw, hgd⟩ := hst.cell (List.mem_cons_of_mem _ List.mem_cons_self) (Or.inr (Or.inl rfl))
    rw [rfl', alen_k hk1] at hin
    have hn2 : n ≤ 10000 := by
      rcases hn with q | q | q | q <;> omega
    obtain ⟨hri2, hvi⟩ := a_in hin hn2
    have hg2 : ∀ v ∈ a.2, aGv σ.1 hX v := fun v hv => hg v (List.mem_cons_of_mem _ (List.mem_cons_of_mem _ hv))
    have hgz := hgd i.1.toNat (by omega)
    rw [show ((i.1.toNat : Nat) : Int) = i.1 by omega, ← rfl'] at hgz
    have hg3 : ar64 (aget σ a.1 i.1) := by
      rcases hgz with z | ⟨z, -⟩ | ⟨z, -⟩
      · exact z.2.1 rfl
      · exact absurd (show aisR 1 from z) (by unfold aisR; omega)
      · cases z
    rw [List.map_cons, List.map_cons, hr1]
    refine va_lald hx hb hK hst.1 k0 1 hw rfl hvi hdec ?_
    rw [n_nat hin.1 hri2, show ((i.1.toNat : Nat) : Int) = i.1 by omega, ← rfl']
    exact hk ad ls H locs L ((1, aget σ a.1 i.1) :: a.2) σ h (hst.stk (List.forall_mem_cons.mpr ⟨aGv_long hg3, hg2⟩))
  | aaload =>
    simp only [astep] at h
    obtain rfl := Nat.eq_of_beq_eq_true hil
    obtain ⟨i, hi, h'⟩ := Option.bind_eq_some_iff.mp h; clear h; have h := h'; clear h'
    obtain ⟨a, ha, h'⟩ := Option.bind_eq_some_iff.mp h; clear h; have h := h'; clear h'
    have e0 := apopI_s hi
    have e1 := apopT_s ha
    rw [e1] at e0
    subst e0
    split at h
    rotate_left
    · cases h
    rename_i hin
    obtain ⟨k0, n, rfl', hk1, hn, hr1, hw, hgd⟩ := hst.cell (List.mem_cons_of_mem _ List.mem_cons_self) (Or.inr (Or.inr (Or.inl rfl)))
    rw [rfl', alen_k hk1] at hin
    have hn2 : n ≤ 10000 := by
      rcases hn with q | q | q | q <;> omega
    obtain ⟨hri2, hvi⟩ := a_in hin hn2
    have hg2 : ∀ v ∈ a.2, aGv σ.1 hX v := fun v hv => hg v (List.mem_cons_of_mem _ (List.mem_cons_of_mem _ hv))
    have hgz := hgd i.1.toNat (by omega)
    rw [show ((i.1.toNat : Nat) : Int) = i.1 by omega, ← rfl'] at hgz
    split at h
    · cases h
    rename_i hz
    have hgv : aGv σ.1 False (18, aget σ a.1 i.1) := by
      rcases hgz with z | ⟨-, z⟩ | ⟨z, -⟩
      · exact z
      · exact absurd z hz
      · cases z
    rw [List.map_cons, List.map_cons, hr1]
    refine va_aldq (C := RX8) hx hb hK hst.1 k0 2 hw rfl hvi hdec ?_
    have hv : va_rf (if i.1.toNat < n ∧ σ.2.1 ((k0 : Int) + 1) ((i.1.toNat : Nat) : Int) ≠ 0 then some (ad ((σ.2.1 ((k0 : Int) + 1) ((i.1.toNat : Nat) : Int)).toNat - 1)) else none) = aconc d.2.2.2.2 ad b (18, aget σ a.1 i.1) := by
      rw [show ((i.1.toNat : Nat) : Int) = i.1 by omega, ← rfl', if_pos ⟨by omega, hz⟩, aconc_ref (Or.inr (Or.inr (Or.inr (by decide)))) (hgv.2.2.2.2.1 (show aisR 18 from Or.inr (Or.inr (Or.inr (by decide))))).1]
      rfl
    rw [n_nat hin.1 hri2, hv]
    exact hk ad ls H locs L ((18, aget σ a.1 i.1) :: a.2) σ h (hst.stk (List.forall_mem_cons.mpr ⟨hgv.mono (fun z => z.elim), hg2⟩))
  | iastore =>
    simp only [astep] at h
    obtain rfl := Nat.eq_of_beq_eq_true hil
    obtain ⟨v, hv, h'⟩ := Option.bind_eq_some_iff.mp h; clear h; have h := h'; clear h'
    obtain ⟨i, hi, h'⟩ := Option.bind_eq_some_iff.mp h; clear h; have h := h'; clear h'
    obtain ⟨a, ha, h'⟩ := Option.bind_eq_some_iff.mp h; clear h; have h := h'; clear h'
    have e0 := apopI_s hv
    have e1 := apopI_s hi
    have e2 := apopT_s ha
    rw [e2] at e1
    rw [e1] at e0
    subst e0
    split at h
    rotate_left
    · cases h
    rename_i hin
    obtain ⟨k0, n, rfl', hk1, hn, hr1, hw, hgd⟩ := hst.cell (List.mem_cons_of_mem _ (List.mem_cons_of_mem _ List.mem_cons_self)) (Or.inl rfl)
    rw [rfl', alen_k hk1] at hin
    have hn2 : n ≤ 10000 := by
      rcases hn with q | q | q | q <;> omega
    obtain ⟨hri2, hvi⟩ := a_in hin hn2
    have hgv := hg _ List.mem_cons_self
    rw [rfl'] at h
    rw [List.map_cons, List.map_cons, List.map_cons, hr1]
    refine va_iast hx hb hK hst.1 hst.2.1 hst.2.2.1 k0 0 hw rfl hvi hdec (fun H1 locs1 hP1 hD1 hS1 => ?_)
    rw [← aWs_putI hk1 hin.1 hri2] at hP1 hD1
    exact hk ad ls H1 locs1 L a.2 (aput σ ((k0 : Int) + 1) i.1 v.1) h (hst.put (fun u hu => List.mem_cons_of_mem _ (List.mem_cons_of_mem _ (List.mem_cons_of_mem _ hu))) rfl rfl hP1 hD1 hS1 (hst.2.2.2.1.put hk1 (fun j hj => Or.inl (show aGv σ.1 False (0, v.1) from aGv_no6 hgv (show (0 : Nat) ≠ 6 by decide)))))
  | lastore =>
    simp only [astep] at h
    obtain rfl := Nat.eq_of_beq_eq_true hil
    obtain ⟨v, hv, h'⟩ := Option.bind_eq_some_iff.mp h; clear h; have h := h'; clear h'
    obtain ⟨i, hi, h'⟩ := Option.bind_eq_some_iff.mp h; clear h; have h := h'; clear h'
    obtain ⟨a, ha, h'⟩ := Option.bind_eq_some_iff.mp h; clear h; have h := h'; clear h'
    have e0 := apopL_s hv
    have e1 := apopI_s hi
    have e2 := apopT_s ha
    rw [e2] at e1
    rw [e1] at e0
    subst e0
    split at h
    rotate_left
    · cases h
    rename_i hin
    obtain ⟨k0, n, rfl', hk1, hn, hr1, hw, hgd⟩ := hst.cell (List.mem_cons_of_mem _ (List.mem_cons_of_mem _ List.mem_cons_self)) (Or.inr (Or.inl rfl))
    rw [rfl', alen_k hk1] at hin
    have hn2 : n ≤ 10000 := by
      rcases hn with q | q | q | q <;> omega
    obtain ⟨hri2, hvi⟩ := a_in hin hn2
    have hgv := hg _ List.mem_cons_self
    rw [rfl'] at h
    rw [List.map_cons, List.map_cons, List.map_cons, hr1]
    refine va_last hx hb hK hst.1 hst.2.1 hst.2.2.1 k0 1 hw rfl hvi hdec (fun H1 locs1 hP1 hD1 hS1 => ?_)
    rw [← aWs_putL hk1 hin.1 hri2] at hP1 hD1
    exact hk ad ls H1 locs1 L a.2 (aput σ ((k0 : Int) + 1) i.1 v.1) h (hst.put (fun u hu => List.mem_cons_of_mem _ (List.mem_cons_of_mem _ (List.mem_cons_of_mem _ hu))) rfl rfl hP1 hD1 hS1 (hst.2.2.2.1.put hk1 (fun j hj => Or.inl (show aGv σ.1 False (1, v.1) from aGv_no6 hgv (show (1 : Nat) ≠ 6 by decide)))))
  | aastore =>
    simp only [astep] at h
    obtain rfl := Nat.eq_of_beq_eq_true hil
    obtain ⟨v, hv, h'⟩ := Option.bind_eq_some_iff.mp h; clear h; have h := h'; clear h'
    obtain ⟨i, hi, h'⟩ := Option.bind_eq_some_iff.mp h; clear h; have h := h'; clear h'
    obtain ⟨a, ha, h'⟩ := Option.bind_eq_some_iff.mp h; clear h; have h := h'; clear h'
    have e0 := apopT_s hv
    have e1 := apopI_s hi
    have e2 := apopT_s ha
    rw [e2] at e1
    rw [e1] at e0
    subst e0
    split at h
    rotate_left
    · cases h
    rename_i hin
    obtain ⟨k0, n, rfl', hk1, hn, hr1, hw, hgd⟩ := hst.cell (List.mem_cons_of_mem _ (List.mem_cons_of_mem _ List.mem_cons_self)) (Or.inr (Or.inr (Or.inl rfl)))
    rw [rfl', alen_k hk1] at hin
    have hn2 : n ≤ 10000 := by
      rcases hn with q | q | q | q <;> omega
    obtain ⟨hri2, hvi⟩ := a_in hin hn2
    have hgv := hg _ List.mem_cons_self
    rw [rfl'] at h
    rw [List.map_cons, List.map_cons, List.map_cons, hr1]
    obtain ⟨k1, n1, e3, hk3, -, hr3, hw3, -⟩ := hst.cell List.mem_cons_self (Or.inr (Or.inr (Or.inr (by decide))))
    rw [hr3]
    have hw4 : (aW0 d ad σ)[k1]? = some (ad k1, .inr (8, (List.range n1).map fun j => aconc d.2.2.2.2 ad 0 (aft 8 j, σ.2.1 ((k1 : Int) + 1) (j : Int)))) := hw3
    refine va_astq (r := (RX8, TX8, 5)) hx hb hK hst.1 hst.2.1 hst.2.2.1 k0 2 k1 8 hw rfl hw4 rfl hvi hdec (fun H1 locs1 hP1 hD1 hS1 => ?_)
    have e5 : ad k1 = ad (v.1.toNat - 1) := by rw [e3]; congr 1
    have h0v := (hgv.2.2.2.2.1 (show aisR 18 from Or.inr (Or.inr (Or.inr (by decide))))).1
    rw [e5, ← aWs_putQ hk1 hin.1 hin.2 hri2 h0v] at hP1 hD1
    exact hk ad ls H1 locs1 L a.2 (aput σ ((k0 : Int) + 1) i.1 v.1) h (hst.put (fun u hu => List.mem_cons_of_mem _ (List.mem_cons_of_mem _ (List.mem_cons_of_mem _ hu))) rfl rfl hP1 hD1 hS1 (hst.2.2.2.1.put hk1 (fun j hj => Or.inl (show aGv σ.1 False (18, v.1) from aGv_no6 hgv (show (18 : Nat) ≠ 6 by decide)))))
  | arraylength =>
    simp only [astep] at h
    obtain rfl := Nat.eq_of_beq_eq_true hil
    cases S with
    | nil => cases h
    | cons v S2 =>
      obtain ⟨t, x⟩ := v
      have hg2 : ∀ v ∈ S2, aGv σ.1 hX v := fun v hv => hg v (List.mem_cons_of_mem _ hv)
      split at h
      · rename_i x' S2' e1
        cases e1
        obtain ⟨k0, n, rfl', hk1, hn, hr1, hw, hgd⟩ := hst.cell List.mem_cons_self (Or.inl rfl)
        have hn2 : n ≤ 10000 := by
          rcases hn with q | q | q | q <;> omega
        rw [List.map_cons, hr1]
        refine va_alen (ty := .int) hx hb hK hst.1 k0 0 hw rfl (v := Int32.ofInt (alen σ x)) (by rw [rfl', alen_k hk1]; exact (Int32.ofInt_eq_ofNat).symm) hdec ?_
        exact hk ad ls H locs L ((0, alen σ x) :: S2) σ h (hst.stk (List.forall_mem_cons.mpr ⟨aGv_int (by rw [rfl', alen_k hk1]; unfold ar32; omega), hg2⟩))
      · rename_i x' S2' e1
        cases e1
        have h6 := (hg _ List.mem_cons_self).2.2.2.1 rfl
        obtain ⟨n, xs, hXX, hbl, hbA, hXn, hn2, hXv⟩ := hXs h6
        refine va_slen hx hb hXX hbl hbA hst.2.2.1 hdec ?_
        rw [show Int32.ofNat n = Int32.ofInt X.1 by rw [hXn]; exact (Int32.ofInt_eq_ofNat).symm]
        exact hk ad ls H locs L ((0, X.1) :: S2) σ h (hst.stk (List.forall_mem_cons.mpr ⟨aGv_int (by rw [hXn]; unfold ar32; omega), hg2⟩))
      · cases h
  | new n =>
    simp only [astep] at h
    obtain rfl := Nat.eq_of_beq_eq_true hil
    split at h
    · rename_i ci nf
      simp only [Bool.and_eq_true, decide_eq_true_eq] at hok
      obtain ⟨⟨⟨⟨hci, hnf⟩, hlink⟩, hinst⟩, hini⟩ := hok
      have hci : ci < 12 := by simpa [Nat.blt_eq] using hci
      have hcl : ∃ r : vw_C, vwCl[ci]? = some r ∧ r.2.1 = aT ci ∧ r.1 = aC1 ci ∧ r.2.2 = aNf ci := by
        rcases (show ci = 0 ∨ ci = 1 ∨ ci = 2 ∨ ci = 3 ∨ ci = 4 ∨ ci = 5 ∨ ci = 6 ∨ ci = 7 ∨ ci = 8 ∨ ci = 9 ∨ ci = 10 ∨ ci = 11 by omega) with rfl | rfl | rfl | rfl | rfl | rfl | rfl | rfl | rfl | rfl | rfl | rfl <;> exact ⟨_, rfl, rfl, rfl, rfl⟩
      obtain ⟨rr, hrr, t1, t2, t3⟩ := hcl
      have htyx : ∃ ty, aTy[ci]? = some ty := ⟨_, List.getElem?_eq_getElem (show ci < aTy.length from hci)⟩
      obtain ⟨ty, hty⟩ := htyx
      have hbd := hmk _ _ _ h
      have hc1 : σ.2.2.1 + 1 ≤ r.2.2.2.2.1 := hbd.1
      have hc2 : σ.2.2.2 + nf ≤ r.2.2.2.2.2 := hbd.2
      have hct := hst.2.2.2.2.2.2.2.1
      subst hnf
      refine va_new (C := aC1 ci) (T := aT ci) (N := aNf ci) (ci := ci) (fs := (List.range (aNf ci)).map fun j => aconc d.2.2.2.2 ad 0 (aft ci j, 0)) hx hb hts (aT_in ci hci) ty (aT_ok ci ty hty) hown (hts _ (hMw _ hlink)) (hts _ (hMw _ hinst)) (hts _ (hMw _ hini)) hK hst.1 hst.2.1 hst.2.2.1 hA (by rw [hrr, ← t1, ← t2, ← t3]) ?_ (by omega) (by omega) hdec (fun q H1 hP1 hD1 hS1 => ?_)
      · intro j hj
        obtain ⟨r2, hr2, ty2, hty2, -, -, -, t4⟩ := aT_ty ci hci j hj
        have : ty2 = ty := Option.some.inj (hty2.symm.trans hty)
        subst this
        unfold vp_V
        rw [List.getD_eq_getElem?_getD, List.getElem?_map, List.getElem?_range hj]
        show defaultValue (ty2 j) = aconc d.2.2.2.2 ad 0 (aft ci j, 0)
        rcases t4 with ⟨z1, z2⟩ | ⟨z1, z2⟩ | ⟨z1, z2⟩ | ⟨z1, z2⟩
        · rw [z1, z2]; rfl
        · rw [z1, z2]; rfl
        · rw [z1, z2]; rfl
        · rw [aconc_null z1]
          rcases z2 with ⟨_, z2⟩ | ⟨_, z2⟩ <;> rw [z2] <;> rfl
      · have hw := aWs_new (cI := d.2.1) (cL := d.2.2.1) (cS := d.2.2.2.1) (sa := d.2.2.2.2) (ad := ad) (t := 10 + ci) (n := aNf ci) (a := q) hst.2.2.2.1
        rw [aCell_obj] at hw
        rw [← hw] at hP1 hD1
        have hsz : ∀ i, i < σ.1.length → aadn ad σ.1.length q i = ad i := fun i hi => aadn_old hi
        have hlt : ∀ i, i < ks0.length → i < σ.1.length := fun i hi => by
          obtain ⟨w, hw2⟩ : ∃ w, ks0[i]? = some w := ⟨_, List.getElem?_eq_getElem hi⟩
          exact (List.getElem?_eq_some_iff.mp (hst.2.2.2.2.2.2.2.2.2 i w hw2)).1
        have hex : aExt σ.1 (anew σ (10 + ci) (aNf ci)).1 := aExt.app _ _
        have hg5 : aGv (anew σ (10 + ci) (aNf ci)).1 hX (10 + ci, atop σ) := by
          refine aGv_of (n := aNf ci) (aisR_10 ci) (by unfold atop; omega) ?_
          unfold atop anew
          rw [show ((σ.1.length : Int) + 1).toNat - 1 = σ.1.length by omega]
          simp
        have key := hk (aadn ad σ.1.length q) ls H1 locs L ((10 + ci, atop σ) :: S) (anew σ (10 + ci) (aNf ci)) h ⟨hP1, hD1, hS1, hst.2.2.2.1.new (Or.inr (Or.inr (Or.inr ⟨by omega, by omega, by rw [show 10 + ci - 10 = ci by omega]⟩))),
          hLo.ad hgL hsz, fun i u hu => (hgL i u hu).ext hex, List.forall_mem_cons.mpr ⟨hg5, fun u hu => (hg u hu).ext hex⟩, ⟨Nat.le_trans hct.1 (Nat.le_succ _), Nat.le_trans hct.2 (Nat.le_add_right _ _)⟩, fun i hi => (hsz i (hlt i hi)).trans (hst.2.2.2.2.2.2.2.2.1 i hi), hst.2.2.2.2.2.2.2.2.2.tr hex⟩
        rw [List.map_cons, amap_ad hg hsz, show aconc d.2.2.2.2 (aadn ad σ.1.length q) b (10 + ci, atop σ) = .ref q from by
          rw [aconc_ref (aisR_10 ci) (by unfold atop; omega)]
          unfold atop
          rw [show ((σ.1.length : Int) + 1).toNat - 1 = σ.1.length by omega]
          congr 1
          exact if_pos rfl] at key
        rw [show σ.2.2.1 - c0 + 1 = (anew σ (10 + ci) (aNf ci)).2.2.1 - c0 by show _ = σ.2.2.1 + 1 - c0; omega, show σ.2.2.2 - s0 + aNf ci = (anew σ (10 + ci) (aNf ci)).2.2.2 - s0 by show _ = σ.2.2.2 + aNf ci - s0; omega]
        exact key
    · cases h
  | newarray w =>
    simp only [astep] at h
    obtain rfl := Nat.eq_of_beq_eq_true hil
    split at h
    · rename_i t
      simp only [Bool.and_eq_true, Bool.or_eq_true, decide_eq_true_eq] at hok
      obtain ⟨hat, harr⟩ := hok
      obtain ⟨x, hx1, h'⟩ := Option.bind_eq_some_iff.mp h; clear h; have h := h'; clear h'
      have e1 := apopI_s hx1
      subst e1
      have gx := (hg _ List.mem_cons_self).1 rfl
      have hg2 : ∀ v ∈ x.2, aGv σ.1 hX v := fun v hv => hg v (List.mem_cons_of_mem _ hv)
      dsimp only at gx
      split at h
      rotate_left
      · cases h
      rename_i hin
      have hbd := hmk _ _ _ h
      have hc1 : σ.2.2.1 + 1 ≤ r.2.2.2.2.1 := hbd.1
      have hc2 : σ.2.2.2 + x.1.toNat ≤ r.2.2.2.2.2 := hbd.2
      have hct := hst.2.2.2.2.2.2.2.1
      have hn0 : ¬ Int32.ofInt x.1 < 0 := fun q => by have := (n_lt0 gx).mp q; omega
      rcases hat with ⟨rfl, rfl⟩ | ⟨rfl, rfl⟩
      ·
        refine va_newa (ty := .int) (a0 := (x.1.toNat, .inl fun _ => Int32.ofInt 0)) hx hb (hts _ (hMw _ harr)) rfl hK hst.1 hst.2.1 hst.2.2.1 hA (fun cA => by rw [vp_cell_i]; rfl) hn0 (n_nat hin.1 gx) (by show x.1.toNat * 4 ≤ _; omega) (by omega) (by omega) hdec (fun q cA H1 hK1 hP1 hD1 hS1 => ?_)
        have hcA : cA = d.2.1 := by
          have z1 := (hK1.2 3 (cA, .int) rfl).2
          have z2 := (hK.2 0 (d.2.1, .int) rfl).2
          exact Option.some.inj (z1.symm.trans z2)
        subst hcA
        have hw := aWs_new (cI := d.2.1) (cL := d.2.2.1) (cS := d.2.2.2.1) (sa := d.2.2.2.2) (ad := ad) (t := 2) (n := x.1.toNat) (a := q) hst.2.2.2.1
        have hw2 : aCell d.2.1 d.2.2.1 d.2.2.2.1 d.2.2.2.2 ad (fun _ _ => 0) σ.1.length 2 x.1.toNat = .inl (d.2.1, x.1.toNat, .inl fun _ => Int32.ofInt 0) := rfl
        rw [hw2] at hw
        rw [← hw] at hP1 hD1
        have hsz : ∀ i, i < σ.1.length → aadn ad σ.1.length q i = ad i := fun i hi => aadn_old hi
        have hlt : ∀ i, i < ks0.length → i < σ.1.length := fun i hi => by
          obtain ⟨w, hw2⟩ : ∃ w, ks0[i]? = some w := ⟨_, List.getElem?_eq_getElem hi⟩
          exact (List.getElem?_eq_some_iff.mp (hst.2.2.2.2.2.2.2.2.2 i w hw2)).1
        have hex : aExt σ.1 (anew σ 2 x.1.toNat).1 := aExt.app _ _
        have hg5 : aGv (anew σ 2 x.1.toNat).1 hX (2, atop σ) := by
          refine aGv_of (n := x.1.toNat) (Or.inl rfl) (by unfold atop; omega) ?_
          unfold atop anew
          rw [show ((σ.1.length : Int) + 1).toNat - 1 = σ.1.length by omega]
          simp
        have key := hk (aadn ad σ.1.length q) ls H1 locs L ((2, atop σ) :: x.2) (anew σ 2 x.1.toNat) h ⟨hP1, hD1, hS1, hst.2.2.2.1.new (Or.inl ⟨rfl, by omega⟩),
          hLo.ad hgL hsz, fun i u hu => (hgL i u hu).ext hex, List.forall_mem_cons.mpr ⟨hg5, fun u hu => (hg2 u hu).ext hex⟩, ⟨Nat.le_trans hct.1 (Nat.le_succ _), Nat.le_trans hct.2 (Nat.le_add_right _ _)⟩, fun i hi => (hsz i (hlt i hi)).trans (hst.2.2.2.2.2.2.2.2.1 i hi), hst.2.2.2.2.2.2.2.2.2.tr hex⟩
        rw [List.map_cons, amap_ad hg2 hsz, show aconc d.2.2.2.2 (aadn ad σ.1.length q) b (2, atop σ) = .ref q from by
          rw [aconc_ref (Or.inl rfl) (by unfold atop; omega)]
          unfold atop
          rw [show ((σ.1.length : Int) + 1).toNat - 1 = σ.1.length by omega]
          congr 1
          exact if_pos rfl] at key
        rw [show σ.2.2.1 - c0 + 1 = (anew σ 2 x.1.toNat).2.2.1 - c0 by show _ = σ.2.2.1 + 1 - c0; omega, show σ.2.2.2 - s0 + x.1.toNat = (anew σ 2 x.1.toNat).2.2.2 - s0 by show _ = σ.2.2.2 + x.1.toNat - s0; omega]
        exact key
      ·
        refine va_newa (ty := .long) (a0 := (x.1.toNat, .inr (.inl fun _ => Int64.ofInt 0))) hx hb (hts _ (hMw _ harr)) rfl hK hst.1 hst.2.1 hst.2.2.1 hA (fun cA => by rw [vp_cell_l]; rfl) hn0 (n_nat hin.1 gx) (by show x.1.toNat * 8 ≤ _; omega) (by omega) (by omega) hdec (fun q cA H1 hK1 hP1 hD1 hS1 => ?_)
        have hcA : cA = d.2.2.1 := by
          have z1 := (hK1.2 3 (cA, .long) rfl).2
          have z2 := (hK.2 1 (d.2.2.1, .long) rfl).2
          exact Option.some.inj (z1.symm.trans z2)
        subst hcA
        have hw := aWs_new (cI := d.2.1) (cL := d.2.2.1) (cS := d.2.2.2.1) (sa := d.2.2.2.2) (ad := ad) (t := 3) (n := x.1.toNat) (a := q) hst.2.2.2.1
        have hw2 : aCell d.2.1 d.2.2.1 d.2.2.2.1 d.2.2.2.2 ad (fun _ _ => 0) σ.1.length 3 x.1.toNat = .inl (d.2.2.1, x.1.toNat, .inr (.inl fun _ => Int64.ofInt 0)) := rfl
        rw [hw2] at hw
        rw [← hw] at hP1 hD1
        have hsz : ∀ i, i < σ.1.length → aadn ad σ.1.length q i = ad i := fun i hi => aadn_old hi
        have hlt : ∀ i, i < ks0.length → i < σ.1.length := fun i hi => by
          obtain ⟨w, hw2⟩ : ∃ w, ks0[i]? = some w := ⟨_, List.getElem?_eq_getElem hi⟩
          exact (List.getElem?_eq_some_iff.mp (hst.2.2.2.2.2.2.2.2.2 i w hw2)).1
        have hex : aExt σ.1 (anew σ 3 x.1.toNat).1 := aExt.app _ _
        have hg5 : aGv (anew σ 3 x.1.toNat).1 hX (3, atop σ) := by
          refine aGv_of (n := x.1.toNat) (Or.inr (Or.inl rfl)) (by unfold atop; omega) ?_
          unfold atop anew
          rw [show ((σ.1.length : Int) + 1).toNat - 1 = σ.1.length by omega]
          simp
        have key := hk (aadn ad σ.1.length q) ls H1 locs L ((3, atop σ) :: x.2) (anew σ 3 x.1.toNat) h ⟨hP1, hD1, hS1, hst.2.2.2.1.new (Or.inr (Or.inl ⟨rfl, by omega⟩)),
          hLo.ad hgL hsz, fun i u hu => (hgL i u hu).ext hex, List.forall_mem_cons.mpr ⟨hg5, fun u hu => (hg2 u hu).ext hex⟩, ⟨Nat.le_trans hct.1 (Nat.le_succ _), Nat.le_trans hct.2 (Nat.le_add_right _ _)⟩, fun i hi => (hsz i (hlt i hi)).trans (hst.2.2.2.2.2.2.2.2.1 i hi), hst.2.2.2.2.2.2.2.2.2.tr hex⟩
        rw [List.map_cons, amap_ad hg2 hsz, show aconc d.2.2.2.2 (aadn ad σ.1.length q) b (3, atop σ) = .ref q from by
          rw [aconc_ref (Or.inr (Or.inl rfl)) (by unfold atop; omega)]
          unfold atop
          rw [show ((σ.1.length : Int) + 1).toNat - 1 = σ.1.length by omega]
          congr 1
          exact if_pos rfl] at key
        rw [show σ.2.2.1 - c0 + 1 = (anew σ 3 x.1.toNat).2.2.1 - c0 by show _ = σ.2.2.1 + 1 - c0; omega, show σ.2.2.2 - s0 + x.1.toNat = (anew σ 3 x.1.toNat).2.2.2 - s0 by show _ = σ.2.2.2 + x.1.toNat - s0; omega]
        exact key
    · cases h
  | anewarray n =>
    simp only [astep] at h
    obtain rfl := Nat.eq_of_beq_eq_true hil
    simp only [decide_eq_true_eq] at hok
    ·
      obtain ⟨x, hx1, h'⟩ := Option.bind_eq_some_iff.mp h; clear h; have h := h'; clear h'
      have e1 := apopI_s hx1
      subst e1
      have gx := (hg _ List.mem_cons_self).1 rfl
      have hg2 : ∀ v ∈ x.2, aGv σ.1 hX v := fun v hv => hg v (List.mem_cons_of_mem _ hv)
      dsimp only at gx
      split at h
      rotate_left
      · cases h
      rename_i hin
      have hbd := hmk _ _ _ h
      have hc1 : σ.2.2.1 + 1 ≤ r.2.2.2.2.1 := hbd.1
      have hc2 : σ.2.2.2 + x.1.toNat ≤ r.2.2.2.2.2 := hbd.2
      have hct := hst.2.2.2.2.2.2.2.1
      have hn0 : ¬ Int32.ofInt x.1 < 0 := fun q => by have := (n_lt0 gx).mp q; omega
      ·
        refine va_newq (C := RX8) (N' := x.1.toNat) hx hb hown (hts _ (hMw _ hok)) hNx.2 hK hst.1 hst.2.1 hst.2.2.1 hA hn0 (n_nat hin.1 gx) (by omega) (by omega) (by omega) hdec (fun q cA H1 hK1 hP1 hD1 hS1 => ?_)
        have hcA : cA = d.2.2.2.1 := by
          have z1 := (hK1.2 3 (cA, .object RX8) rfl).2
          have z2 := (hK.2 2 (d.2.2.2.1, .object RX8) rfl).2
          obtain ⟨_, _, -, -, -, y1⟩ := z1
          obtain ⟨_, _, -, -, -, y2⟩ := z2
          exact Option.some.inj (y1.symm.trans y2)
        subst hcA
        have hw := aWs_new (cI := d.2.1) (cL := d.2.2.1) (cS := d.2.2.2.1) (sa := d.2.2.2.2) (ad := ad) (t := 4) (n := x.1.toNat) (a := q) hst.2.2.2.1
        have hw2 : aCell d.2.1 d.2.2.1 d.2.2.2.1 d.2.2.2.2 ad (fun _ _ => 0) σ.1.length 4 x.1.toNat = .inl (d.2.2.2.1, x.1.toNat, .inr (.inr (.inr (.inr fun _ => none)))) := by unfold aCell; simp
        rw [hw2] at hw
        rw [← hw] at hP1 hD1
        have hsz : ∀ i, i < σ.1.length → aadn ad σ.1.length q i = ad i := fun i hi => aadn_old hi
        have hlt : ∀ i, i < ks0.length → i < σ.1.length := fun i hi => by
          obtain ⟨w, hw2⟩ : ∃ w, ks0[i]? = some w := ⟨_, List.getElem?_eq_getElem hi⟩
          exact (List.getElem?_eq_some_iff.mp (hst.2.2.2.2.2.2.2.2.2 i w hw2)).1
        have hex : aExt σ.1 (anew σ 4 x.1.toNat).1 := aExt.app _ _
        have hg5 : aGv (anew σ 4 x.1.toNat).1 hX (4, atop σ) := by
          refine aGv_of (n := x.1.toNat) (Or.inr (Or.inr (Or.inl rfl))) (by unfold atop; omega) ?_
          unfold atop anew
          rw [show ((σ.1.length : Int) + 1).toNat - 1 = σ.1.length by omega]
          simp
        have key := hk (aadn ad σ.1.length q) ls H1 locs L ((4, atop σ) :: x.2) (anew σ 4 x.1.toNat) h ⟨hP1, hD1, hS1, hst.2.2.2.1.new (Or.inr (Or.inr (Or.inl ⟨rfl, by omega⟩))),
          hLo.ad hgL hsz, fun i u hu => (hgL i u hu).ext hex, List.forall_mem_cons.mpr ⟨hg5, fun u hu => (hg2 u hu).ext hex⟩, ⟨Nat.le_trans hct.1 (Nat.le_succ _), Nat.le_trans hct.2 (Nat.le_add_right _ _)⟩, fun i hi => (hsz i (hlt i hi)).trans (hst.2.2.2.2.2.2.2.2.1 i hi), hst.2.2.2.2.2.2.2.2.2.tr hex⟩
        rw [List.map_cons, amap_ad hg2 hsz, show aconc d.2.2.2.2 (aadn ad σ.1.length q) b (4, atop σ) = .ref q from by
          rw [aconc_ref (Or.inr (Or.inr (Or.inl rfl))) (by unfold atop; omega)]
          unfold atop
          rw [show ((σ.1.length : Int) + 1).toNat - 1 = σ.1.length by omega]
          congr 1
          exact if_pos rfl] at key
        rw [show σ.2.2.1 - c0 + 1 = (anew σ 4 x.1.toNat).2.2.1 - c0 by show _ = σ.2.2.1 + 1 - c0; omega, show σ.2.2.2 - s0 + x.1.toNat = (anew σ 4 x.1.toNat).2.2.2 - s0 by show _ = σ.2.2.2 + x.1.toNat - s0; omega]
        exact key
  | invokespecial n =>
    simp only [astep] at h
    obtain rfl := Nat.eq_of_beq_eq_true hil
    split at h
    · simp only [Bool.and_eq_true, decide_eq_true_eq] at hok
      obtain ⟨⟨⟨⟨ho1, ho2⟩, ho3⟩, ho4⟩, ho5⟩ := hok
      have ho4 := Nat.le_of_ble_eq_true ho4
      have ho5 := Nat.le_of_ble_eq_true ho5
      cases S with
      | nil => cases h
      | cons v S' =>
        obtain ⟨t, x⟩ := v
        dsimp only at h
        split at h
        · rename_i z1 z2
          have z1 := Nat.le_of_ble_eq_true z1
          have z2 := Nat.le_of_ble_eq_true z2
          have ht : aisR t := Or.inr (Or.inr (Or.inr z1))
          obtain ⟨k0, n0, e1, hk1, hn, hr1, hw, hgd⟩ := hst.cell List.mem_cons_self ht
          rw [List.map_cons, hr1]
          refine W.objInit hx hb hown (hts _ (hMw _ ho1)) (hts _ (hMw _ ho2)) (hts _ (hMw _ ho3)) rfl (by rw [hml]; exact hLo.1) rfl hdec (by omega) ?_ ?_
          · rw [awid_eq]
            show 2 * 0 + _ + 12 ≤ _
            omega
          · exact hk ad ls H locs L S' σ h (hst.stk (fun u hu => hg u (List.mem_cons_of_mem _ hu)))
        · cases h
    · rename_i f ts
      obtain ⟨q, hq, h'⟩ := Option.bind_eq_some_iff.mp h; clear h; have h := h'; clear h'
      split at h
      rotate_left
      · cases h
      rename_i hwd
      obtain ⟨σ', hF, h2⟩ := acall0_s h
      have hbd := hmk _ _ _ h2
      obtain ⟨hfa, hrun⟩ := hcall f 0 ts q [] σ' rfl (Or.inl ⟨_, rfl, rfl⟩) hq hwd hF hbd.1 hbd.2
      exact a_after hA hst (apops_sub hq) hfa hrun (fun hgv ad' H1 locs1 hst1 => hk ad' ls H1 locs1 L q.2 σ' h2 hst1)
    · cases h
  | invokevirtual n =>
    simp only [astep] at h
    obtain rfl := Nat.eq_of_beq_eq_true hil
    split at h
    · rename_i f ts
      obtain ⟨q, hq, h'⟩ := Option.bind_eq_some_iff.mp h; clear h; have h := h'; clear h'
      split at h
      rotate_left
      · cases h
      rename_i hwd
      obtain ⟨σ', hF, h2⟩ := acall0_s h
      have hbd := hmk _ _ _ h2
      obtain ⟨hfa, hrun⟩ := hcall f 0 ts q [] σ' rfl (Or.inr (Or.inl ⟨_, rfl⟩)) hq hwd hF hbd.1 hbd.2
      exact a_after hA hst (apops_sub hq) hfa hrun (fun hgv ad' H1 locs1 hst1 => hk ad' ls H1 locs1 L q.2 σ' h2 hst1)
    · rename_i f ts
      obtain ⟨q, hq, h'⟩ := Option.bind_eq_some_iff.mp h; clear h; have h := h'; clear h'
      split at h
      rotate_left
      · cases h
      rename_i hwd
      obtain ⟨v, σ', hF, h2⟩ := acall1_s h
      have hbd := hmk _ _ _ h2
      obtain ⟨hfa, hrun⟩ := hcall f 1 ts q [v] σ' rfl (Or.inr (Or.inl ⟨_, rfl⟩)) hq hwd hF hbd.1 hbd.2
      exact a_after hA hst (apops_sub hq) hfa hrun (fun hgv ad' H1 locs1 hst1 => hk ad' ls H1 locs1 L ((0, v) :: q.2) σ' h2 (hst1.stk (List.forall_mem_cons.mpr ⟨aGv_int hgv, hst1.2.2.2.2.2.2.1⟩)))
    · rename_i f ts
      obtain ⟨q, hq, h'⟩ := Option.bind_eq_some_iff.mp h; clear h; have h := h'; clear h'
      split at h
      rotate_left
      · cases h
      rename_i hwd
      obtain ⟨v, σ', hF, h2⟩ := acall1_s h
      have hbd := hmk _ _ _ h2
      obtain ⟨hfa, hrun⟩ := hcall f 2 ts q [v] σ' rfl (Or.inr (Or.inl ⟨_, rfl⟩)) hq hwd hF hbd.1 hbd.2
      exact a_after hA hst (apops_sub hq) hfa hrun (fun hgv ad' H1 locs1 hst1 => hk ad' ls H1 locs1 L ((1, v) :: q.2) σ' h2 (hst1.stk (List.forall_mem_cons.mpr ⟨aGv_long hgv, hst1.2.2.2.2.2.2.1⟩)))
    · cases h
  | invokestatic n =>
    simp only [astep] at h
    obtain rfl := Nat.eq_of_beq_eq_true hil
    split at h
    · simp only [Bool.and_eq_true, decide_eq_true_eq] at hok
      obtain ⟨⟨⟨⟨⟨ho1, ho2⟩, ho3⟩, ho4⟩, ho5⟩, ho6⟩ := hok
      have ho5 := Nat.le_of_ble_eq_true ho5
      have ho6 := Nat.le_of_ble_eq_true ho6
      obtain ⟨y, hy, h'⟩ := Option.bind_eq_some_iff.mp h; clear h; have h := h'; clear h'
      obtain ⟨dp, hdp, h'⟩ := Option.bind_eq_some_iff.mp h; clear h; have h := h'; clear h'
      obtain ⟨dd, hdd, h'⟩ := Option.bind_eq_some_iff.mp h; clear h; have h := h'; clear h'
      obtain ⟨sp, hsp, h'⟩ := Option.bind_eq_some_iff.mp h; clear h; have h := h'; clear h'
      obtain ⟨ss, hss, h'⟩ := Option.bind_eq_some_iff.mp h; clear h; have h := h'; clear h'
      have e1 := apopI_s hy
      have e2 := apopI_s hdp
      have e3 := apopT_s hdd
      have e4 := apopI_s hsp
      have e5 := apopT_s hss
      rw [e5] at e4
      rw [e4] at e3
      rw [e3] at e2
      rw [e2] at e1
      subst e1
      split at h
      rotate_left
      · cases h
      rename_i hin
      split at h
      rotate_left
      · cases h
      rename_i hwd
      have hwd := Nat.le_of_ble_eq_true hwd
      have gy := (hg _ List.mem_cons_self).1 rfl
      have gd := (hg _ (List.mem_cons_of_mem _ List.mem_cons_self)).1 rfl
      have gs := (hg _ (List.mem_cons_of_mem _ (List.mem_cons_of_mem _ (List.mem_cons_of_mem _ List.mem_cons_self)))).1 rfl
      obtain ⟨k0, n0, z1, hk1, hn, hr1, hw, hgd⟩ := hst.cell (List.mem_cons_of_mem _ (List.mem_cons_of_mem _ List.mem_cons_self)) (Or.inl rfl)
      obtain ⟨k2, n2, z2, hk2, hn2, hr2, hw2, hgd2⟩ := hst.cell (List.mem_cons_of_mem _ (List.mem_cons_of_mem _ (List.mem_cons_of_mem _ (List.mem_cons_of_mem _ List.mem_cons_self)))) (Or.inl rfl)
      dsimp only at gy gd gs
      rw [z1, z2, alen_k hk1, alen_k hk2] at hin
      obtain ⟨i1, i2, i3, i4, i5⟩ := hin
      rw [z1, z2] at h
      rw [List.map_cons, List.map_cons, List.map_cons, List.map_cons, List.map_cons, hr1, hr2]
      have hnw : nativeFrameWords "java/lang/System" "arraycopy" 5 + 11 ≤ 30 := by decide +kernel
      have hwd0 : ((ss.2.map (aconc d.2.2.2.2 ad b)).map fun v => v.category).sum = awid ss.2 := awid_eq _
      refine va_copyi hx hb (by rw [hml]; exact hLo.1.symm) hown (hts _ (hMw _ ho1)) (hts _ (hMw _ ho2)) (hts _ (hMw _ ho3)) (hts _ (hMw _ ho4)) hK hst.1 hst.2.1 hst.2.2.1 k2 k0 0 0 hw2 hw rfl rfl rfl (fun q => by have := (n_lt0 gs).mp q; omega) (fun q => by have := (n_lt0 gd).mp q; omega) (fun q => by have := (n_lt0 gy).mp q; omega) (by rw [n_nat i3 gs, n_nat i1 gy]; omega) (by rw [n_nat i2 gd, n_nat i1 gy]; omega) (fun _ _ => rfl) (by omega) ?_ hdec (fun H1 locs1 hP1 hD1 hS1 => ?_)
      · rw [hwd0]; omega
      · rw [← aWs_cpy hk1 i3 i2 i1 gs gd gy] at hP1 hD1
        exact hk ad ls H1 locs1 L ss.2 (acpy σ ((k2 : Int) + 1) sp.1 ((k0 : Int) + 1) dp.1 y.1) h (hst.put (σ' := acpy σ ((k2 : Int) + 1) sp.1 ((k0 : Int) + 1) dp.1 y.1) (fun u hu => List.mem_cons_of_mem _ (List.mem_cons_of_mem _ (List.mem_cons_of_mem _ (List.mem_cons_of_mem _ (List.mem_cons_of_mem _ hu))))) rfl rfl hP1 hD1 hS1 (hst.2.2.2.1.cpy hk1 hk2 i3 (by omega)))
    · rename_i f ts
      obtain ⟨q, hq, h'⟩ := Option.bind_eq_some_iff.mp h; clear h; have h := h'; clear h'
      split at h
      rotate_left
      · cases h
      rename_i hwd
      obtain ⟨σ', hF, h2⟩ := acall0_s h
      have hbd := hmk _ _ _ h2
      obtain ⟨hfa, hrun⟩ := hcall f 0 ts q [] σ' rfl (Or.inr (Or.inr ⟨_, rfl⟩)) hq hwd hF hbd.1 hbd.2
      exact a_after hA hst (apops_sub hq) hfa hrun (fun hgv ad' H1 locs1 hst1 => hk ad' ls H1 locs1 L q.2 σ' h2 hst1)
    · rename_i f ts
      obtain ⟨q, hq, h'⟩ := Option.bind_eq_some_iff.mp h; clear h; have h := h'; clear h'
      split at h
      rotate_left
      · cases h
      rename_i hwd
      obtain ⟨v, σ', hF, h2⟩ := acall1_s h
      have hbd := hmk _ _ _ h2
      obtain ⟨hfa, hrun⟩ := hcall f 1 ts q [v] σ' rfl (Or.inr (Or.inr ⟨_, rfl⟩)) hq hwd hF hbd.1 hbd.2
      exact a_after hA hst (apops_sub hq) hfa hrun (fun hgv ad' H1 locs1 hst1 => hk ad' ls H1 locs1 L ((0, v) :: q.2) σ' h2 (hst1.stk (List.forall_mem_cons.mpr ⟨aGv_int hgv, hst1.2.2.2.2.2.2.1⟩)))
    · rename_i f ts
      obtain ⟨q, hq, h'⟩ := Option.bind_eq_some_iff.mp h; clear h; have h := h'; clear h'
      split at h
      rotate_left
      · cases h
      rename_i hwd
      obtain ⟨v, σ', hF, h2⟩ := acall1_s h
      have hbd := hmk _ _ _ h2
      obtain ⟨hfa, hrun⟩ := hcall f 2 ts q [v] σ' rfl (Or.inr (Or.inr ⟨_, rfl⟩)) hq hwd hF hbd.1 hbd.2
      exact a_after hA hst (apops_sub hq) hfa hrun (fun hgv ad' H1 locs1 hst1 => hk ad' ls H1 locs1 L ((1, v) :: q.2) σ' h2 (hst1.stk (List.forall_mem_cons.mpr ⟨aGv_long hgv, hst1.2.2.2.2.2.2.1⟩)))
    · cases h
  | ireturn =>
    simp only [astep] at h
    obtain rfl := Nat.eq_of_beq_eq_true hil
    split at h
    · simp only [decide_eq_true_eq] at hok
      rename_i x
      split at h
      · rename_i h01
        exact hrz x h01 (Option.some.inj h).symm rfl hdec hok
      · cases h
    · simp only [decide_eq_true_eq] at hok
      rename_i x
      exact hri x ((hg _ List.mem_cons_self).1 rfl) (Option.some.inj h).symm rfl hdec hok
    · cases h
  | lreturn =>
    simp only [astep] at h
    obtain rfl := Nat.eq_of_beq_eq_true hil
    split at h
    · simp only [decide_eq_true_eq] at hok
      rename_i x
      exact hrl x ((hg _ List.mem_cons_self).2.1 rfl) (Option.some.inj h).symm rfl hdec hok
    · cases h
  | return_ =>
    simp only [astep] at h
    obtain rfl := Nat.eq_of_beq_eq_true hil
    split at h
    · simp only [decide_eq_true_eq] at hok
      exact hrv (Option.some.inj h).symm rfl hdec hok
    · cases h
  | _ => cases h
end AROW
