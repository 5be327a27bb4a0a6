/-! one instruction: the JVM does what astep says -/
theorem aT_ty : ∀ ci, ci < 12 → ∀ f, f < aNf ci → ∃ r : vw_C, vwCl[ci]? = some r ∧ ∃ ty, aTy[ci]? = some ty ∧ r.2.1 = aT ci ∧ r.1 = aC1 ci ∧ r.2.2 = aNf ci ∧
    ((aft ci f = 0 ∧ ty f = .int) ∨ (aft ci f = 1 ∧ ty f = .long) ∨ (aft ci f = 7 ∧ ty f = .boolean) ∨ (aisR (aft ci f) ∧ ((∃ n, ty f = .object n) ∨ ∃ t, ty f = .array t))) := by
  intro ci hci f hf
  have hk : ∀ ci, ci < 12 → ∀ f, f < aNf ci → (match aTy[ci]? with | some ty => (match aft ci f, ty f with | 0, .int => true | 1, .long => true | 7, .boolean => true | 2, .array _ => true | 3, .array _ => true | 4, .array _ => true | t, .object _ => Nat.ble 10 t | _, _ => false) | none => false) = true := by decide +kernel
  have h1 := hk ci hci f hf
  have hl : ∃ r : vw_C, vwCl[ci]? = some r ∧ r.2.1 = aT ci ∧ r.1 = aC1 ci ∧ r.2.2 = aNf ci := by
    rcases (show ci = 0 ∨ ci = 1 ∨ ci = 2 ∨ ci = 3 ∨ ci = 4 ∨ ci = 5 ∨ ci = 6 ∨ ci = 7 ∨ ci = 8 ∨ ci = 9 ∨ ci = 10 ∨ ci = 11 by omega) with rfl | rfl | rfl | rfl | rfl | rfl | rfl | rfl | rfl | rfl | rfl | rfl <;> exact ⟨_, rfl, rfl, rfl, rfl⟩
  obtain ⟨r, hr, e1, e2, e3⟩ := hl
  refine ⟨r, hr, ?_⟩
  cases hty : aTy[ci]? with
  | none => rw [hty] at h1; cases h1
  | some ty =>
    rw [hty] at h1
    refine ⟨ty, rfl, e1, e2, e3, ?_⟩
    dsimp only at h1
    generalize aft ci f = t at h1 ⊢
    generalize ty f = u at h1 ⊢
    unfold aisR
    split at h1
    · exact Or.inl ⟨rfl, rfl⟩
    · exact Or.inr (Or.inl ⟨rfl, rfl⟩)
    · exact Or.inr (Or.inr (Or.inl ⟨rfl, rfl⟩))
    · exact Or.inr (Or.inr (Or.inr ⟨Or.inl rfl, Or.inr ⟨_, rfl⟩⟩))
    · exact Or.inr (Or.inr (Or.inr ⟨Or.inr (Or.inl rfl), Or.inr ⟨_, rfl⟩⟩))
    · exact Or.inr (Or.inr (Or.inr ⟨Or.inr (Or.inr (Or.inl rfl)), Or.inr ⟨_, rfl⟩⟩))
    · exact Or.inr (Or.inr (Or.inr ⟨Or.inr (Or.inr (Or.inr (Nat.le_of_ble_eq_true h1))), Or.inl ⟨_, rfl⟩⟩))
    · cases h1
theorem aT_ok : ∀ (ci : Nat) (ty : Nat → FieldType), aTy[ci]? = some ty → ∀ k, k < aNf ci → parseFieldDescriptor (aT ci k).2.2.1 = some (ty k) := by
  intro ci ty h
  have hl : ci < 12 := (List.getElem?_eq_some_iff.mp h).1
  rcases (show ci = 0 ∨ ci = 1 ∨ ci = 2 ∨ ci = 3 ∨ ci = 4 ∨ ci = 5 ∨ ci = 6 ∨ ci = 7 ∨ ci = 8 ∨ ci = 9 ∨ ci = 10 ∨ ci = 11 by omega) with rfl | rfl | rfl | rfl | rfl | rfl | rfl | rfl | rfl | rfl | rfl | rfl <;> cases h
  · exact tyX0_ok
  · exact tyX1_ok
  · exact tyX2_ok
  · exact tyX3_ok
  · exact tyX4_ok
  · exact tyX5_ok
  · exact tyX6_ok
  · exact tyX7_ok
  · exact tyX8_ok
  · exact tyX9_ok
  · exact tyX10_ok
  · exact tyX11_ok
theorem aT_nm : ∀ ci, ci < 12 → ∀ a, a < aNf ci → ∀ b, b < aNf ci → a ≠ b → (aT ci a).2.1 ≠ (aT ci b).2.1 := by
  intro ci hl
  rcases (show ci = 0 ∨ ci = 1 ∨ ci = 2 ∨ ci = 3 ∨ ci = 4 ∨ ci = 5 ∨ ci = 6 ∨ ci = 7 ∨ ci = 8 ∨ ci = 9 ∨ ci = 10 ∨ ci = 11 by omega) with rfl | rfl | rfl | rfl | rfl | rfl | rfl | rfl | rfl | rfl | rfl | rfl
  · exact nmX0
  · exact nmX1
  · exact nmX2
  · exact nmX3
  · exact nmX4
  · exact nmX5
  · exact nmX6
  · exact nmX7
  · exact nmX8
  · exact nmX9
  · exact nmX10
  · exact nmX11
theorem aT_in : ∀ ci, ci < 12 → ∀ w ∈ u_ws (aC1 ci) (aT ci) (aNf ci), w ∈ aTB := by
  intro ci hl
  have g : ∀ ci, ci < 12 → (u_ws (aC1 ci) (aT ci) (aNf ci)).all goodWord = true := by decide +kernel
  have hin : ∀ w ∈ u_ws (aC1 ci) (aT ci) (aNf ci), w ∈ lw_tbl := by
    rcases (show ci = 0 ∨ ci = 1 ∨ ci = 2 ∨ ci = 3 ∨ ci = 4 ∨ ci = 5 ∨ ci = 6 ∨ ci = 7 ∨ ci = 8 ∨ ci = 9 ∨ ci = 10 ∨ ci = 11 by omega) with rfl | rfl | rfl | rfl | rfl | rfl | rfl | rfl | rfl | rfl | rfl | rfl
    · exact inX0
    · exact inX1
    · exact inX2
    · exact inX3
    · exact inX4
    · exact inX5
    · exact inX6
    · exact inX7
    · exact inX8
    · exact inX9
    · exact inX10
    · exact inX11
  intro w hw
  exact List.mem_filter.mpr ⟨hin w hw, List.all_eq_true.mp (g ci hl) w hw⟩
/-- the frame's fixed facts -/
def aCx (p : Program) (l : Launch) (R : Room) (s : State) (m : MethodId) (args : Array Value) (meth : Method) (c : Code) (M : aM) (d : aD) (A : Nat → Prop) (b : Nat) (hX : Prop) (X : aX) : Prop :=
  p.tables.exec = Jvm.exec ∧ c.code = aMb M ∧ c.maxLocals = aMn M ∧ s.vm.findClass (aMy M).cls = some m.cls ∧ (∀ w ∈ aTB, w.before args s = true) ∧ (∀ w ∈ aMw M, w ∈ aTB) ∧ meth.name = (aMy M).name ∧
  (∀ q, s.heap.size ≤ q → A q) ∧ va_K d.1 vwCl (aTy0 d) s ∧ aStr d.2.2.2.2 A s s.heap ∧ aMf M ≤ R.frames ∧ aMo M ≤ R.locals ∧
  (hX → ∃ (n : Nat) (xs : Nat → Int32), va_X b n xs s s.heap ∧ b < s.heap.size ∧ ¬ A b ∧ X.1 = (n : Int) ∧ n < 10000 ∧ ∀ j : Nat, j < n → X.2 (j : Int) = (xs j).toInt) ∧ meth.locks = false ∧ l.flags = flags0 ∧ aNx s
/-- the machine at an instruction -/
def aSt (s : State) (nL : Nat) (d : aD) (A : Nat → Prop) (b : Nat) (hX : Prop) (c0 s0 : Nat) (ad0 : Nat → Nat) (ks0 : aK) (ad : Nat → Nat) (ls : Array Slot) (H : Heap) (locs : List Loc) (L : aL) (S : List aV) (σ : aS) : Prop :=
  va_P d.1 vwCl (aW0 d ad σ) H ∧ va_D A (aW0 d ad σ) ∧ va_S A s.heap H locs ∧ aGood σ ∧ aLok d.2.2.2.2 ad b ls nL L ∧ (∀ (i : Nat) (v : aV), L[i]? = some (some v) → aGv σ.1 hX v) ∧ (∀ v ∈ S, aGv σ.1 hX v) ∧
  (c0 ≤ σ.2.2.1 ∧ s0 ≤ σ.2.2.2) ∧ (∀ k, k < ks0.length → ad k = ad0 k) ∧ aExt ks0 σ.1
theorem aSt.stk {s : State} {nL : Nat} {d : aD} {A : Nat → Prop} {b : Nat} {hX : Prop} {c0 s0 : Nat} {ad0 : Nat → Nat} {ks0 : aK} {ad : Nat → Nat} {ls : Array Slot} {H : Heap} {locs : List Loc} {L : aL} {S S' : List aV} {σ : aS}
    (h : aSt s nL d A b hX c0 s0 ad0 ks0 ad ls H locs L S σ) (hS : ∀ v ∈ S', aGv σ.1 hX v) : aSt s nL d A b hX c0 s0 ad0 ks0 ad ls H locs L S' σ := by
  obtain ⟨h1, h2, h3, h4, h5, h6, -, h8⟩ := h
  exact ⟨h1, h2, h3, h4, h5, h6, hS, h8⟩
theorem aclr_sub {i : Nat} {L : aL} {j : Nat} {v : aV} (h : (aclr i L)[j]? = some (some v)) : L[j]? = some (some v) := by
  unfold aclr at h
  split at h
  · exact h
  · split at h
    · rename_i k _ _ _
      by_cases e : k = j
      · subst e
        rw [List.getElem?_set] at h
        simp at h
      · rwa [List.getElem?_set_ne e] at h
    · exact h
theorem asto1_sub {i : Nat} {v : aV} {L L' : aL} (h : asto1 i v L = some L') {j : Nat} {u : aV} (hj : L'[j]? = some (some u)) : u = v ∨ L[j]? = some (some u) := by
  unfold asto1 at h
  split at h
  · cases h
    by_cases e : i = j
    · subst e
      rw [List.getElem?_set] at hj
      simp at hj
      exact Or.inl hj.2.symm
    · rw [List.getElem?_set_ne e] at hj
      exact Or.inr (aclr_sub hj)
  · cases h
theorem asto2_sub {i : Nat} {v : aV} {L L' : aL} (h : asto2 i v L = some L') {j : Nat} {u : aV} (hj : L'[j]? = some (some u)) : u = v ∨ L[j]? = some (some u) := by
  unfold asto2 at h
  split at h
  · cases h
    by_cases e1 : i + 1 = j
    · subst e1
      rw [List.getElem?_set] at hj
      simp at hj
    rw [List.getElem?_set_ne e1] at hj
    by_cases e : i = j
    · subst e
      rw [List.getElem?_set] at hj
      simp at hj
      exact Or.inl hj.2.symm
    · rw [List.getElem?_set_ne e] at hj
      exact Or.inr (aclr_sub hj)
  · cases h
theorem aSt.sto {s : State} {nL : Nat} {d : aD} {A : Nat → Prop} {b : Nat} {hX : Prop} {c0 s0 : Nat} {ad0 : Nat → Nat} {ks0 : aK} {ad : Nat → Nat} {ls ls' : Array Slot} {H : Heap} {locs : List Loc} {L L' : aL} {S S' : List aV} {σ : aS} {v : aV}
    (h : aSt s nL d A b hX c0 s0 ad0 ks0 ad ls H locs L S σ) (hS : ∀ u ∈ S', u ∈ S) (hL : aLok d.2.2.2.2 ad b ls' nL L') (hv : aGv σ.1 hX v) (hs : ∀ (j : Nat) (u : aV), L'[j]? = some (some u) → u = v ∨ L[j]? = some (some u)) : aSt s nL d A b hX c0 s0 ad0 ks0 ad ls' H locs L' S' σ := by
  obtain ⟨h1, h2, h3, h4, h5, h6, h7, h8⟩ := h
  refine ⟨h1, h2, h3, h4, hL, fun j u hj => ?_, fun u hu => h7 u (hS u hu), h8⟩
  rcases hs j u hj with rfl | q
  · exact hv
  · exact h6 j u q
/-- a write: the world moves, the kinds stay -/
theorem aSt.put {s : State} {nL : Nat} {d : aD} {A : Nat → Prop} {b : Nat} {hX : Prop} {c0 s0 : Nat} {ad0 : Nat → Nat} {ks0 : aK} {ad : Nat → Nat} {ls : Array Slot} {H H1 : Heap} {locs locs1 : List Loc} {L : aL} {S S' : List aV} {σ σ' : aS}
    (h : aSt s nL d A b hX c0 s0 ad0 ks0 ad ls H locs L S σ) (hS : ∀ u ∈ S', u ∈ S) (e1 : σ'.1 = σ.1) (e2 : σ'.2.2 = σ.2.2) (hP : va_P d.1 vwCl (aW0 d ad σ') H1) (hD : va_D A (aW0 d ad σ')) (hSS : va_S A s.heap H1 locs1) (hG : aGood σ') : aSt s nL d A b hX c0 s0 ad0 ks0 ad ls H1 locs1 L S' σ' := by
  obtain ⟨h1, h2, h3, h4, h5, h6, h7, h8, h9, h10⟩ := h
  exact ⟨hP, hD, hSS, hG, h5, fun j u hj => by rw [e1]; exact h6 j u hj, fun u hu => by rw [e1]; exact h7 u (hS u hu), by rw [e2]; exact h8, h9, by rw [e1]; exact h10⟩
theorem aLok.ad {ks : aK} {hX : Prop} {sa ad ad' : Nat → Nat} {b : Nat} {ls : Array Slot} {nL : Nat} {L : aL} (h : aLok sa ad b ls nL L) (hg : ∀ (i : Nat) (v : aV), L[i]? = some (some v) → aGv ks hX v) (he : ∀ k, k < ks.length → ad' k = ad k) : aLok sa ad' b ls nL L :=
  ⟨h.1, h.2.1, h.2.2.1, fun i v hv => by rw [aconc_ad (hg i v hv) he]; exact h.2.2.2 i v hv⟩
theorem amap_ad {ks : aK} {hX : Prop} {sa ad ad' : Nat → Nat} {b : Nat} {S : List aV} (hg : ∀ v ∈ S, aGv ks hX v) (he : ∀ k, k < ks.length → ad' k = ad k) : S.map (aconc sa ad' b) = S.map (aconc sa ad b) := List.map_congr_left fun v hv => aconc_ad (hg v hv) he
/-- the array or object that a reference on the stack names -/
theorem aSt.cell {s : State} {nL : Nat} {d : aD} {A : Nat → Prop} {b : Nat} {hX : Prop} {c0 s0 : Nat} {ad0 : Nat → Nat} {ks0 : aK} {ad : Nat → Nat} {ls : Array Slot} {H : Heap} {locs : List Loc} {L : aL} {S : List aV} {σ : aS} {t : Nat} {x : Int}
    (h : aSt s nL d A b hX c0 s0 ad0 ks0 ad ls H locs L S σ) (hm : (t, x) ∈ S) (ht : aisR t) : ∃ k n : Nat, x = (k : Int) + 1 ∧ σ.1[k]? = some (t, n) ∧ akok t n ∧ aconc d.2.2.2.2 ad b (t, x) = .ref (ad k) ∧ (aW0 d ad σ)[k]? = some (ad k, aCell d.2.1 d.2.2.1 d.2.2.2.1 d.2.2.2.2 ad σ.2.1 k t n) ∧ ∀ j : Nat, j < n → aGh σ.1 (akt t j, σ.2.1 ((k : Int) + 1) (j : Int)) := by
  obtain ⟨k, n, e1, e2⟩ := aGv_ref (h.2.2.2.2.2.2.1 _ hm) ht
  refine ⟨k, n, e1, e2, (h.2.2.2.1.1 k _ e2).1, ?_, aWs_get e2, (h.2.2.2.1.1 k _ e2).2⟩
  rw [aconc_ref ht (by omega), e1]
  congr 2
theorem a_in {n : Nat} {i : Int} (h : 0 ≤ i ∧ i < (n : Int)) (hn : n ≤ 10000) : ar32 i ∧ vp_in (Int32.ofInt i) n := by
  have hr : ar32 i := by unfold ar32; omega
  refine ⟨hr, ?_⟩
  unfold vp_in
  rintro (q | q)
  · have := (n_lt0 hr).mp q; omega
  · rw [n_nat h.1 hr] at q; omega
theorem a_sw {r : Nat × List Int × aS} {x : Int} {f : Nat → aR} {pc : Nat} {dd : Int} : ∀ (os : List Int) (lo : Int), aswitch x f pc dd lo os = some r → ((x < lo ∨ lo + (os.length : Int) ≤ x) ∧ f ((pc : Int) + dd).toNat = some r) ∨ (¬ x < lo ∧ x < lo + (os.length : Int) ∧ ∃ o, os[(x - lo).toNat]? = some o ∧ f ((pc : Int) + o).toNat = some r) := by
  intro os
  induction os with
  | nil => intro lo h; exact Or.inl ⟨by simp; try omega, h⟩
  | cons o os ih =>
    intro lo h
    unfold aswitch at h
    split at h
    · rename_i e
      exact Or.inr ⟨by omega, by simp; omega, o, by rw [show (x - lo).toNat = 0 by omega]; rfl, h⟩
    · rename_i e
      rcases ih (lo + 1) h with ⟨q1, q2⟩ | ⟨q1, q2, o', q3, q4⟩
      · exact Or.inl ⟨by simp; omega, q2⟩
      · refine Or.inr ⟨by omega, by simp; omega, o', ?_, q4⟩
        rw [show (x - lo).toNat = (x - (lo + 1)).toNat + 1 by omega]
        exact q3

