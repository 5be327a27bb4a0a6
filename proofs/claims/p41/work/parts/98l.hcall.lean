/-! a call of a method of the class, out of a frame walked by hand -/
theorem P_pre {D : va_G} {w r : va_W} {H : Heap} (h : va_P D vwCl (w ++ r) H) : va_P D vwCl w H := fun k q hk => h k q (by rw [List.getElem?_append_left (List.getElem?_eq_some_iff.mp hk).1]; exact hk)
theorem D_pre {A : Nat → Prop} {w r : va_W} (h : va_D A (w ++ r)) : va_D A w := by
  have e : ∀ (k : Nat) (q : Nat × va_E), w[k]? = some q → (w ++ r)[k]? = some q := fun k q hk => by rw [List.getElem?_append_left (List.getElem?_eq_some_iff.mp hk).1]; exact hk
  exact ⟨fun i j a b ha hb hab => h.1 i j a b (e i a ha) (e j b hb) hab, fun k q hk => h.2 k q (e k q hk)⟩
theorem nI_ofInt (n : Nat) : Int32.ofInt (n : Int) = nI n := by
  apply Int32.toBitVec_inj.mp
  show BitVec.ofInt 32 (n : Int) = BitVec.ofNat 32 n
  exact BitVec.ofInt_natCast 32 n
theorem jGoodA {M : aM} (h : Cond.code (aMy M) (aMb M) (aMn M) (aMr M) ∈ aTB) : GoodIn jTB (aWords M) := by
  intro w hw
  rcases List.mem_cons.mp hw with rfl | hw
  · exact ⟨jin h, aTB_good h⟩
  · exact ⟨jin hw, aTB_good hw⟩
section HC
variable {p : Program} {l : Launch} {e : Env} {R : Room} {s : State} {m : MethodId} {args : Array Value} {below : List Frame} {meth : Method} {c : Code} {Q : State → Prop} {H : Heap} {locs : List Loc} {cells slots pc : Nat} {ls : Array Slot} {rest st0 : List Value}
variable {d : aD} {ad : Nat → Nat} {σ σ' : aS} {A : Nat → Prop} {M : aM} {j idx n b : Nat} {xs vs : List Int} {cc : ByteArray} {own C : String} {As : List Value}
set_option maxHeartbeats 2000000 in
theorem h_call (S : CallFix p m c cc n s args jTB own) (hg : aGoodj j) (hM : aMs[j]? = some M) (hfl : l.flags = flags0) (hG : aGood σ) (harg : aArg σ.1 (aMp M) xs) (hF : F j xs σ = some (0, vs, σ')) (hcnt : σ'.2.2 = σ.2.2) (hav : aArgv d.2.2.2.2 ad (aMp M) xs = .ref b :: As)
    (h1 : Cond.code (aMy M) (aMb M) (aMn M) (aMr M) ∈ aTB) (h2 : Cond.instanceMethod (aMy M) ∈ aTB) (h5 : Cond.selects C (aMy M) (aMy M) ∈ aTB) (h3 : Cond.initialized (aMy M).cls ∈ aTB) (h4 : Cond.methodLink own idx (aMy M) ∈ aTB) (hd : jHd (aMy M) As.length) (hR : aMf M + 1 ≤ R.frames ∧ 8 + (aMn M + 11) + aMo M ≤ R.locals)
    (hrc : ∃ cell : Cell, H[b]? = some cell ∧ cell.vm.isStatics = false ∧ s.vm.findClass C = some cell.cls) (hP : va_P d.1 vwCl (aW0 d ad σ) H) (hK : va_K d.1 vwCl (aTy0 d) s) (hD : va_D A (aW0 d ad σ)) (hStr : aStr d.2.2.2.2 A s s.heap) (hNx : aNx s) (hS : va_S A s.heap H locs) (hA : ∀ q, s.heap.size ≤ q → A q) (hsz : ls.size = n) (hc : cells ≤ R.cells ∧ slots ≤ R.slots) (hrm : (rest.map fun v => v.category).sum ≤ 8) (he : st0 = As.reverse ++ .ref b :: rest) (hdg : decode cc pc = .ok (.invokevirtual idx, 3))
    (kk : ∀ (ad' : Nat → Nat) (H1 : Heap) (locs1 : List Loc), aGood σ' → aExt σ.1 σ'.1 → (∀ k, k < σ.1.length → ad' k = ad k) → va_P d.1 vwCl (aW0 d ad' σ') H1 → va_D A (aW0 d ad' σ') → va_S A s.heap H1 locs1 → aRg (aMr M) vs → W p l e R s m args below meth c H1 locs1 cells slots Q (F0 m (pc + 3) ls ((aRv (aMr M) vs).toList ++ rest))) : W p l e R s m args below meth c H locs cells slots Q (F0 m pc ls st0) := by
  have hMet := hg.2 M hM l d ad H.size xs σ vs σ' hfl hG harg hF
  rw [hcnt] at hMet
  simp only [Nat.sub_self] at hMet
  have hsub := va_A_sub hD hA hS.1
  have hr := va_runV (rest := rest) (As := As) (g := F0 m pc ls st0) (cells := cells) (slots := slots) (locs := locs) (H := H) (C := C) (b := b) (e := e) (below := below) (meth := meth) S hMet
    ⟨callB_of (own := own) (index := idx) (ws' := aTB) As.length S.2.2.2.2 (jGoodA h1) rfl rfl rfl (S.2.2.2.2 _ (jin h3)) (S.2.2.2.2 _ (jin h4)) hd hR, S.2.2.2.2 _ (jin h2), S.2.2.2.2 _ (jin h5)⟩
    ⟨aPre_blind, hrc, fun U hU hW => ⟨by rw [hav], by rw [hU], by rw [hU]; exact hP, va_K.moved hW.alike hK, hD.weaken (fun _ _ _ _ => trivial), by rw [hU]; exact hStr.to hW hS.2.1 hsub, hNx.warm hW⟩⟩ rfl rfl hsz he (lv_room hrm) hdg hc
  intro T hT X
  obtain ⟨v', st₀, t, T', L, h0, X', hL, e1, e2, ⟨⟨⟨hG', hex, -, -⟩, hkg⟩, ⟨ad', hag, hv, hP1, hD1⟩, hz, hk⟩, st⟩ := hr T hT X
  cases hv
  rw [h0] at hz hk
  have hS1 : va_S A s.heap T'.heap (locs ++ L) := ⟨Nat.le_trans hS.1 (by rw [e1]; exact hz), fun q h1 h2 => by rw [e1, hk q (Nat.lt_of_lt_of_le h1 hS.1) (fun z => h2 (hsub q z))]; exact hS.2.1 q h1 h2, fun q hq => by
      rcases List.mem_append.mp hq with h | h
      · exact hS.2.2 q h
      · exact hsub _ (hL q h)⟩
  obtain ⟨t2, a1, b1⟩ := kk ad' T'.heap (locs ++ L) hG' hex hag (by rw [e1]; exact hP1) (hD1.weaken (fun _ _ _ h => hsub _ h)) hS1 hkg T' rfl X'
  exact ⟨t2, st t2 a1, b1⟩
end HC
