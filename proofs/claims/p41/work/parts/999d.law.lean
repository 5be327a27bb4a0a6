/-! the law's frame: from the entry to its end -/
set_option maxRecDepth 100000 in
set_option maxHeartbeats 4000000 in
theorem whole_start {p : Program} {e : Env} {s : State} {m : MethodId} {below : List Frame} {meth : Method} {c : Code} (l : Launch) (hflags : l.flags = flags0) {b L : Nat} {xs : Nat → Int32} (hL : L ≤ 260) (C0 : lw_At p s m meth c b L xs) (hnm : meth.name = x.name) : W p l e room_1 s m #[Value.ref b] below meth c s.heap [] 0 0 (lw_Z below #[Value.ref b] s) (entryFrame m ([Value.ref b] : List Value).toArray 18) := by
  obtain ⟨hx, hb, hr, hml, hown, hts, hX, hbl, hlocks, hgv⟩ := C0
  have htb := a_htb hts
  have htj := j_hts hts
  obtain ⟨D, cI, cL, cS, cB, hK, hKb⟩ := a_start_K hts
  have hNx := a_start_N hts
  have hnA : ∀ a : Nat, a < s.heap.size → ¬ (s.heap.size ≤ a) := fun a h h' => absurd h (Nat.not_lt.mpr h')
  obtain ⟨sa, hstr⟩ := a_start_S (A := fun q => s.heap.size ≤ q) hts hgv hnA
  obtain ⟨σ1, hlaw, hO, h0, hc1, hc2⟩ := law_0
  have hl := lv_entry [Value.ref b] (n := 18) (by simp [lg_sl, Value.category])
  rw [lg_entry_eq]
  generalize (lg_sl [Value.ref b] ++ List.replicate (18 - (lg_sl [Value.ref b]).length) Slot.unset).toArray = ls at hl ⊢
  have C : aCx p l room_1 s m #[Value.ref b] meth c m_law (D, cI, cL, cS, sa) (fun q => s.heap.size ≤ q) b True ((L : Int), fun j => (xs j.toNat).toInt) :=
    ⟨hx, hb, hml, hown, htb, w_law_in, hnm, fun q h => h, hK, hstr, by decide, by decide, fun _ => ⟨L, xs, hX, hbl, Nat.not_le.mpr hbl, rfl, by omega, fun j _ => by show (xs ((j : Int).toNat)).toInt = _; rw [Int.toNat_natCast]⟩, hlocks, hflags, hNx⟩
  have X0 : lwX p l s m #[Value.ref b] c (D, cI, cL, cS, sa) (fun q => s.heap.size ≤ q) cB :=
    ⟨⟨hx, hb, hml, hown, htj⟩, j_start hts hgv hnA, hK, hKb, fun q h => h, hstr, hNx, hflags, good_c11_feed, good_c11_text, l_start hts hgv hnA⟩
  have hI : jI b L xs (fun q => s.heap.size ≤ q) s s.heap := ⟨hX, hbl, hnA b hbl⟩
  have hst : aSt s 18 (D, cI, cL, cS, sa) (fun q => s.heap.size ≤ q) b True 0 0 (fun _ => 0) [] (fun _ => 0) ls s.heap [] [some (6, 0), none, none, none, none, none, none, none, none, none, none, none, none, none, none, none, none, none] [] aS0 := by
    refine ⟨fun k q h => by simp [aW0, aWs, aS0] at h, ⟨fun i j p q h => by simp [aW0, aWs, aS0] at h, fun k q h => by simp [aW0, aWs, aS0] at h⟩, va_S.rf, ⟨fun k q h => by simp [aS0] at h, fun _ _ _ => rfl⟩, ⟨hl.1, rfl, hl.2.1, ?_⟩, ?_, fun v hv => by (cases hv), ⟨Nat.le_refl _, Nat.le_refl _⟩, fun _ _ => rfl, aExt.rf _⟩
    · intro i v hv
      match i, hv with
      | 0, hv => cases hv; exact hl.2.2 (0, .ref b) (by simp [lv_args])
      | 1, hv => cases hv
      | 2, hv => cases hv
      | 3, hv => cases hv
      | 4, hv => cases hv
      | 5, hv => cases hv
      | 6, hv => cases hv
      | 7, hv => cases hv
      | 8, hv => cases hv
      | 9, hv => cases hv
      | 10, hv => cases hv
      | 11, hv => cases hv
      | 12, hv => cases hv
      | 13, hv => cases hv
      | 14, hv => cases hv
      | 15, hv => cases hv
      | 16, hv => cases hv
      | 17, hv => cases hv
      | k + 18, hv => cases hv
    · intro i v hv
      match i, hv with
      | 0, hv =>
        cases hv
        refine ⟨?_, ?_, ?_, fun _ => trivial, ?_, Or.inr (Or.inr (Or.inr (Or.inl rfl)))⟩ <;> (intro q; simp [aisR] at q)
      | 1, hv => cases hv
      | 2, hv => cases hv
      | 3, hv => cases hv
      | 4, hv => cases hv
      | 5, hv => cases hv
      | 6, hv => cases hv
      | 7, hv => cases hv
      | 8, hv => cases hv
      | 9, hv => cases hv
      | 10, hv => cases hv
      | 11, hv => cases hv
      | 12, hv => cases hv
      | 13, hv => cases hv
      | 14, hv => cases hv
      | 15, hv => cases hv
      | 16, hv => cases hv
      | 17, hv => cases hv
      | k + 18, hv => cases hv
  have hres := l_seg (e := e) (below := below) (Q := lw_Z below #[Value.ref b] s) (pc := 0) (pc' := 9) (vs := [0]) (vs' := [1, 0, 1]) (L := [some (6, 0), none, none, none, none, none, none, none, none, none, none, none, none, none, none, none, none, none]) (S := []) (L' := [some (6, 0), some (21, 1), none, none, none, none, none, none, none, none, none, none, none, none, none, none, none, none]) (S' := [(0, 1)]) C (T_law _ 0 aS0) hlaw ⟨by omega, by omega⟩ rfl rfl rfl st_9 rfl rfl hst (fun ad ls H locs hst => law_run C X0 hI hL hO h0 ⟨hc1, hc2⟩ (fun q h => h) (fun pc H ls hdg => lw_ret hx hb hr hlocks hdg) hst)
  exact hres
