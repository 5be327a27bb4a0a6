/-! the law's frame: from the entry to its end, out of what the functions say -/
theorem law_calls_ok : (aCalls m_law).all (fun f => (law_calls.contains f && (aMs[f]?).isSome) || Nat.beq f 316) = true := by decide +kernel
set_option maxHeartbeats 4000000 in
theorem whole_start {p : Program} {e : Env} {s : State} {m : MethodId} {below : List Frame} {meth : Method} {c : Code} (l : Launch) (hflags : l.flags = flags0) {b L : Nat} {xs : Nat → Int32} (hL : L ≤ 3072) (C0 : lw_At p s m meth c b L xs) (hnm : meth.name = x.name) : W p l e room_1 s m #[Value.ref b] below meth c s.heap [] 0 0 (lw_Z below #[Value.ref b] s) (entryFrame m ([Value.ref b] : List Value).toArray 7) := by
  obtain ⟨hx, hb, hr, hml, hown, hts, hX, hbl, hlocks, hgv⟩ := C0
  have htb : ∀ w ∈ aTB, w.before #[Value.ref b] s = true := fun w hw => hts w (List.mem_filter.mp hw).1
  obtain ⟨D, cI, cL, cS, hK⟩ := a_start_K hts
  have hNx := a_start_N hts
  obtain ⟨sa, hstr⟩ := a_start_S (A := fun q => s.heap.size ≤ q) hts hgv (fun a h h' => absurd h (Nat.not_lt.mpr h'))
  obtain ⟨σ', hlaw, hc1, hc2⟩ := law_true hL xs
  obtain ⟨n, hn⟩ := T_law ((L : Int), fun j => (xs j.toNat).toInt) 0 ([], fun _ _ => 0, 0, 0) _ hlaw
  have hn' := astepn_iter n _ _ _ hn
  have hl := lv_entry [Value.ref b] (n := 7) (by simp [lg_sl, Value.category])
  rw [lg_entry_eq]
  generalize (lg_sl [Value.ref b] ++ List.replicate (7 - (lg_sl [Value.ref b]).length) Slot.unset).toArray = ls at hl ⊢
  have C : aCx p l room_1 s m #[Value.ref b] meth c m_law (D, cI, cL, cS, sa) (fun q => s.heap.size ≤ q) b True ((L : Int), fun j => (xs j.toNat).toInt) :=
    ⟨hx, hb, hml, hown, htb, w_law_in, hnm, fun q h => h, hK, hstr, by decide, by decide, fun _ => ⟨L, xs, hX, hbl, Nat.not_le.mpr hbl, rfl, by omega, fun j _ => by show (xs ((j : Int).toNat)).toInt = _; rw [Int.toNat_natCast]⟩, hlocks, hflags, hNx⟩
  have hst : aSt s 7 (D, cI, cL, cS, sa) (fun q => s.heap.size ≤ q) b True 0 0 (fun _ => 0) [] (fun _ => 0) ls s.heap [] [some (6, 0), none, none, none, none, none, none] [] ([], fun _ _ => 0, 0, 0) := by
    refine ⟨fun k q h => by simp [aW0, aWs] at h, ⟨fun i j p q h => by simp [aW0, aWs] at h, fun k q h => by simp [aW0, aWs] at h⟩, va_S.rf, ⟨fun k q h => by simp at h, fun _ _ _ => rfl⟩, ⟨hl.1, rfl, hl.2.1, ?_⟩, ?_, fun v hv => by (cases hv), ⟨Nat.le_refl _, Nat.le_refl _⟩, fun _ _ => rfl, aExt.rf _⟩
    · intro i v hv
      match i, hv with
      | 0, hv => cases hv; exact hl.2.2 (0, .ref b) (by simp [lv_args])
      | 1, hv => cases hv
      | 2, hv => cases hv
      | 3, hv => cases hv
      | 4, hv => cases hv
      | 5, hv => cases hv
      | 6, hv => cases hv
      | k + 7, hv => cases hv
    · intro i v hv
      match i, hv with
      | 0, hv =>
        cases hv
        refine ⟨?_, ?_, ?_, fun _ => trivial, ?_, Or.inr (Or.inr (Or.inr (Or.inl rfl)))⟩ <;> (intro q; simp [aisR] at q)
      | 1, hv => cases hv
      | 2, hv => cases hv
      | 3, hv => cases hv
      | 4, hv => cases hv
      | 5, hv => cases hv
      | 6, hv => cases hv
      | k + 7, hv => cases hv
  have hgr : ∀ ea ∈ aMc m_law, aInv ea.2.1 = true → ∀ f kk ts, ea.2.2.2.1 = f :: kk :: ts → (f ∈ law_calls ∧ (aMs[f]?).isSome = true) ∨ f = 316 := by
    intro ea he hi f kk ts ha
    have h1 := List.all_eq_true.mp law_calls_ok f (aCalls_in he hi ha)
    simp only [Bool.or_eq_true, Bool.and_eq_true, List.contains_iff_mem] at h1
    exact h1.imp id (fun h => Nat.eq_of_beq_eq_true h)
  have hrows : ∀ ea ∈ aMc m_law, aEok aMs m_law ea = true := by
    have h := law_mok
    unfold aMok at h
    simp only [Bool.and_eq_true, List.all_eq_true] at h
    exact h.1.1.1
  have hgrow : ∀ ea ∈ aMc m_law, aInv ea.2.1 = true → ∀ f kk ts, ea.2.2.2.1 = f :: kk :: ts → aGrow F f := by
    intro ea he hi f kk ts ha
    rcases hgr ea he hi f kk ts ha with h | rfl
    · exact (law_good f h.1).1
    · exact grow_look
  have hres := a_iter (F := F) (ms := aMs) (Q := lw_Z below #[Value.ref b] s) (e := e) (below := below) (ks0 := []) (ad0 := fun _ => 0) (c0 := 0) (s0 := 0) (rf := (0, [1], σ')) C law_mok hgrow
    ⟨by show σ'.2.2.1 ≤ 0 + 601024; omega, by show σ'.2.2.2 ≤ 0 + 7293034; omega⟩ ?_ ?_ (n + 1) 0 [0] ([], fun _ _ => 0, 0, 0) hn' _ _ ([(0, 6)], []) [some (6, 0), none, none, none, none, none, none] [] (fun _ => 0) ls s.heap [] rfl rfl rfl hst
  · exact hres
  · intro ea he cf sf ad' ls' H locs L' S σ1 f kk ts q vs' σ2 h1 h2 hst' haux hkind hq hwd hF' h3 h4
    have hinv : aInv ea.2.1 = true := by
      rcases hkind with ⟨i, h, -⟩ | ⟨i, h⟩ | ⟨i, h⟩ <;> rw [h] <;> rfl
    rcases hgr ea he hinv f kk ts haux with h | rfl
    · exact a_callOK (ms := aMs) (r := (0, [], (σ1.1, σ1.2.1, cf, sf))) C ⟨h1, h2⟩ (hrows ea he) hst' (law_good f h.1).2 h.2 (law_good f h.1).1 haux hkind hq hwd hF' h3 h4
    · exact law_look C hts hgv h1 h2 he hst' haux hkind hq hwd hF' h3 h4
  · intro ea he ad' ls' H locs L' S σ1 hst'
    refine ⟨fun x _ _ _ _ hm => by (cases hm), ?_, fun x _ _ _ _ hm => by (cases hm), fun _ _ _ hm => by (cases hm)⟩
    intro x hx1 hr1 hS hd hm
    cases hr1
    subst hS
    refine va_forget hst'.2.2.1.2.2 (W.widen (k := 601024) (n := 7293034) (by omega) (by omega) ?_)
    exact lw_ret hx hb hr hlocks hd
