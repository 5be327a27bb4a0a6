theorem grow_look : aGrow F 316 := by
  intro xs σ vs σ' h
  have hj : F 316 = aU4 flook := rfl
  rw [hj] at h
  unfold aU4 at h
  split at h
  · unfold flook at h
    repeat' split at h
    all_goals first
      | cases h; exact ⟨Nat.le_refl _, Nat.le_refl _⟩
      | (cases h; exact ⟨Nat.le_add_right _ _, Nat.le_add_right _ _⟩)
      | cases h
  · cases h
/-! the law's call of look, which catches what class look throws -/
theorem look_row : ∀ ea ∈ aMc m_law, ea.2.2.2.1.head? = some 316 → ea.2.1 = .invokestatic 39 ∧ ea.2.2.2.1 = [316, 1, 3, 0, 0, 21] ∧ decode (aMb m_law) ea.1 = .ok (.invokestatic 39, 3) := by decide +kernel
theorem lw_look_in : GoodIn aTB (va_wsS "FloatTownsLaw" 39 yL_look (Cond.codeWith yL_look cL_look 5 (some .int) hhL :: aTB)) := by
  have h1 : ∀ w ∈ ([.methodLink "FloatTownsLaw" 39 yL_look, .static yL_look, .initialized yL_look.cls] : List Cond), w ∈ aTB := by decide +kernel
  intro w hw
  have hin : w ∈ aTB := by
    unfold va_wsS at hw
    rcases List.mem_append.mp hw with hw | hw
    · exact h1 w hw
    · rcases List.mem_cons.mp hw with rfl | hw
      · exact ll_cw
      · exact hw
  exact ⟨hin, aTB_good hin⟩
section LL
variable {p : Program} {l : Launch} {e : Env} {s : State} {m : MethodId} {args : Array Value} {below : List Frame} {meth : Method} {c : Code} {b : Nat} {X : aX} {d : aD} {c0 s0 : Nat} {ad0 : Nat → Nat} {ks0 : aK}
set_option maxHeartbeats 4000000 in
theorem law_look (C : aCx p l room_1 s m args meth c m_law d (fun q => s.heap.size ≤ q) b True X) (hts : ∀ w ∈ lw_tbl, w.before args s = true) (hgv : (Jvm.Cond.and given_1 narrow_1).before args s = true) {cf sf : Nat} (h1 : cf ≤ c0 + room_1.cells) (h2 : sf ≤ s0 + room_1.slots) {ea : aE} (he : ea ∈ aMc m_law)
    {ad : Nat → Nat} {ls : Array Slot} {H : Heap} {locs : List Loc} {L : aL} {S : List aV} {σ : aS} (hst : aSt s 7 d (fun q => s.heap.size ≤ q) b True c0 s0 ad0 ks0 ad ls H locs L S σ) {kk : Nat} {ts : List Nat} {q : List Int × List aV} {vs : List Int} {σ' : aS} (haux : ea.2.2.2.1 = 316 :: kk :: ts)
    (hkind : (∃ i, ea.2.1 = .invokespecial i ∧ kk = 0) ∨ (∃ i, ea.2.1 = .invokevirtual i) ∨ (∃ i, ea.2.1 = .invokestatic i)) (hq : apops ts S = some q) (hwd : Nat.ble (awid q.2) 8 = true) (hF : F 316 q.1 σ = some (0, vs, σ')) (h3 : σ'.2.2.1 ≤ cf) (h4 : σ'.2.2.2 ≤ sf) :
    (σ.2.2.1 ≤ σ'.2.2.1 ∧ σ.2.2.2 ≤ σ'.2.2.2) ∧ va_Run p l e room_1 s m args below meth c H locs (σ.2.2.1 - c0) (σ.2.2.2 - s0) (σ'.2.2.1 - σ.2.2.1) (σ'.2.2.2 - σ.2.2.2) (F0 m ea.1 ls (S.map (aconc d.2.2.2.2 ad b))) (q.2.map (aconc d.2.2.2.2 ad b)) (aPost d ad σ σ' (aKg kk vs) (aKv kk vs) H.size) (va_A (aW0 d ad σ) H.size) := by
  obtain ⟨hx, hb, hml, hown, htb, hMw, hname, hA, hK, hstr, hRf, hRo, hXs, hlk, hfl, hNx⟩ := id C
  have hgro : σ.2.2.1 ≤ σ'.2.2.1 ∧ σ.2.2.2 ≤ σ'.2.2.2 := grow_look _ _ _ _ hF
  refine ⟨hgro, ?_⟩
  obtain ⟨-, h6, hdec⟩ := look_row ea he (by rw [haux]; rfl)
  rw [haux] at h6
  obtain ⟨-, h6⟩ := List.cons.inj h6
  obtain ⟨rfl, rfl⟩ := List.cons.inj h6
  obtain ⟨hlen, hS⟩ := apops_s hq
  have hwd9 := Nat.le_of_ble_eq_true hwd
  have hg : ∀ v ∈ S, aGv σ.1 True v := hst.2.2.2.2.2.2.1
  have hLo : aLok d.2.2.2.2 ad b ls 7 L := hst.2.2.2.2.1
  obtain ⟨xs, S2⟩ := q
  dsimp only at hlen hS hF hwd9 ⊢
  have hj : F 316 = aU4 flook := rfl
  rw [hj] at hF
  obtain ⟨x, i, w, out, rfl⟩ : ∃ x i w out, xs = [x, i, w, out] := by
    match xs, hlen with
    | [x, i, w, out], _ => exact ⟨x, i, w, out, rfl⟩
  have hF : flook x i w out σ = some (0, vs, σ') := hF
  have hS : S = (([21, 0, 0, 3] : List Nat).zip [x, i, w, out]).reverse ++ S2 := hS
  have hz : ∀ z ∈ ([21, 0, 0, 3] : List Nat).zip [x, i, w, out], aGv σ.1 True z ∧ z.1 ≠ 6 := by
    intro z hz
    refine ⟨hg z (by rw [hS]; exact List.mem_append_left _ (List.mem_reverse.mpr hz)), ?_⟩
    have ht : z.1 ∈ ([21, 0, 0, 3] : List Nat) := (List.of_mem_zip (a := z.1) (b := z.2) hz).1
    simp only [List.mem_cons, List.not_mem_nil, or_false] at ht
    omega
  have harg : aArg σ.1 [21, 0, 0, 3] [x, i, w, out] := ⟨rfl, fun z hzz => aGv_no6 (hz z hzz).1 (hz z hzz).2⟩
  have hG : aGood σ := hst.2.2.2.1
  obtain ⟨K, v, r, rfl, hv32, hK1, hK3⟩ := look_cases hG (harg.2 (21, x) (by simp)) hF
  obtain ⟨s1, s2, hX9⟩ := a_start_X (A := fun q => s.heap.size ≤ q) hts hgv (fun a h h' => absurd h (Nat.not_lt.mpr h'))
  have hav : aArgv d.2.2.2.2 ad [21, 0, 0, 3] [x, i, w, out] = (([21, 0, 0, 3] : List Nat).zip [x, i, w, out]).map (aconc d.2.2.2.2 ad b) := List.map_congr_left fun z hzz => aconc_b (hz z hzz).1 (hz z hzz).2
  have hfree : ∀ z, va_A (aW0 d ad σ) H.size z → s.heap.size ≤ z := by
    rintro z (⟨k, y, hk⟩ | h)
    · exact hst.2.1.2 k _ hk
    · exact Nat.le_trans hst.2.2.1.1 h
  have hM := t_llook (l := l) hfl (d := d) (ad := ad) (sz := H.size) (s1 := s1) (s2 := s2) hG harg K v r hv32 hK1 hK3
  have hpre : PreS s H (lPc d ad σ (aArgv d.2.2.2.2 ad [21, 0, 0, 3] [x, i, w, out]) H.size s1 s2) (aArgv d.2.2.2.2 ad [21, 0, 0, 3] [x, i, w, out]) := by
    refine ⟨lPc_blind, fun U hU hW => ⟨⟨rfl, by rw [hU], by rw [hU]; exact hst.1, va_K.moved hW.alike hK, hst.2.1.weaken (fun _ _ _ _ => trivial), ?_, hNx.warm hW⟩, ?_⟩⟩
    · rw [hU]
      exact hstr.to hW (fun a h1 h2 => hst.2.2.1.2.1 a h1 h2) hfree
    · rw [hU]
      exact hX9.to hW (fun a h1 h2 => hst.2.2.1.2.1 a h1 h2) hfree
  have cw := vx_cwSW (R := room_1) (maxL := 5) (bytes := cL_look) (ret := some .int) (hh := hhL) (rm := ({ frames := 9, cells := σ'.2.2.1 - σ.2.2.1, slots := σ'.2.2.2 - σ.2.2.2, locals := 330 } : Room)) 4 htb lw_look_in rfl rfl rfl ⟨by decide +kernel, by decide +kernel, by decide +kernel⟩ ⟨by show 9 + 1 ≤ 13; decide, by show 8 + (5 + 11) + 330 ≤ room_1.locals; decide +kernel⟩
  have hst2 : S.map (aconc d.2.2.2.2 ad b) = (aArgv d.2.2.2.2 ad [21, 0, 0, 3] [x, i, w, out]).reverse ++ S2.map (aconc d.2.2.2.2 ad b) := by
    rw [hav]; conv => lhs; rw [hS]
    simp
  have hwd2 : 2 * (F0 m ea.1 ls (S.map (aconc d.2.2.2.2 ad b))).monitorRoom + ((S2.map (aconc d.2.2.2.2 ad b)).map fun v => v.category).sum ≤ 8 := lv_room (by rw [awid_eq]; exact hwd9)
  have hct := hst.2.2.2.2.2.2.2.1
  have hbnd : σ.2.2.1 - c0 + (σ'.2.2.1 - σ.2.2.1) ≤ room_1.cells ∧ σ.2.2.2 - s0 + (σ'.2.2.2 - σ.2.2.2) ≤ room_1.slots := by
    have := hgro.1
    have := hgro.2
    omega
  refine va_Run_mono (vx_runSW (e := e) (below := below) (meth := meth) (As := aArgv d.2.2.2.2 ad [21, 0, 0, 3] [x, i, w, out]) (g := F0 m ea.1 ls (S.map (aconc d.2.2.2.2 ad b))) (⟨hx, hb, hml, hown, htb⟩ : CallFix p m c (aMb m_law) 7 s args aTB "FloatTownsLaw") hM cw hpre rfl rfl hLo.1 hst2 hwd2 hdec hbnd) (fun st oc t h9 => aPost_kv (fun h => ⟨rfl, h⟩) h9)
end LL
