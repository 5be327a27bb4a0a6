/-! frames: locals, stack, the world within a method; contracts -/
/-- the String constant of the words, and the static that its methods read -/
def aStr (sa : Nat → Nat) (A : Nat → Prop) (U : State) (H : Heap) : Prop := ∃ (tx : String) (len : List Nat) (byt : List (List Int32)) (adV : Nat → Nat),
  vk_R "FloatTowns$Tokens" 93 tx (sa 0) U ∧ vk_S 1 len byt sa adV A U H ∧ va_Z "java/lang/String" "COMPACT_STRINGS" "Z" (.int 1) A U H ∧ va_Zq "jdk/internal/util/Preconditions" "SIOOBE_FORMATTER" "Ljava/util/function/BiFunction;" A U H ∧
  len = [89] ∧ byt = [[103, 111, 111, 100, 32, 102, 108, 111, 97, 116, 32, 119, 97, 110, 116, 115, 32, 108, 105, 107, 101, 32, 116, 111, 119, 110, 32, 103, 105, 118, 101, 115, 32, 118, 111, 116, 101, 115, 32, 98, 111, 117, 110, 100, 32, 97, 115, 107, 32, 103, 114, 111, 117, 110, 100, 32, 115, 116, 111, 114, 109, 32, 109, 101, 109, 98, 101, 114, 115, 32, 109, 97, 110, 121, 32, 99, 111, 115, 116, 32, 112, 97, 121, 115, 32, 111, 119, 110, 32]]
theorem aStr.to {sa : Nat → Nat} {A B : Nat → Prop} {s U : State} {H H1 : Heap} (h : aStr sa A s H) (hW : s.WarmedH U.vm) (hq : ∀ a : Nat, a < H.size → ¬ A a → H1[a]? = H[a]?) (hAB : ∀ q, B q → A q) : aStr sa B U H1 := by
  obtain ⟨tx, len, byt, adV, h1, h2, h3, h5, h4⟩ := h
  exact ⟨tx, len, byt, adV, h1.warm hW, ((h2.kept hq).narrow hAB).moved hW.alike, ((h3.kept hq).narrow hAB).moved hW.alike, ((h5.kept hq).narrow hAB).moved hW.alike, h4⟩
theorem aStr.calling {sa : Nat → Nat} {A : Nat → Prop} {U : State} {g : JFrame} {mk : MethodId} {a : Array Value} (h : aStr sa A U U.heap) : aStr sa A (U.calling g mk a) (U.calling g mk a).heap := by
  obtain ⟨tx, len, byt, adV, h1, h2, h3, h5, h4⟩ := h
  exact ⟨tx, len, byt, adV, vk_R.same (u := U) rfl h1, vk_S.moved (u := U) (U := U.calling g mk a) (Vm.Alike.refl U.vm) h2, va_Z.moved (u := U) (U := U.calling g mk a) (Vm.Alike.refl U.vm) h3, va_Zq.moved (u := U) (U := U.calling g mk a) (Vm.Alike.refl U.vm) h5, h4⟩
def aWords (M : aM) : List Cond := Cond.code (aMy M) (aMb M) (aMn M) (aMr M) :: aTB
def aArg (ks : aK) (ts : List Nat) (xs : List Int) : Prop := ts.length = xs.length ∧ ∀ q ∈ ts.zip xs, aGv ks False q
def aArgv (sa ad : Nat → Nat) (ts : List Nat) (xs : List Int) : List Value := (ts.zip xs).map (aconc sa ad 0)
/-- the answer as the machine's value -/
def aRv : Option FieldType → List Int → Option Value
  | none, [] => none
  | some .long, [r] => some (.long (Int64.ofInt r))
  | some _, [r] => some (.int (Int32.ofInt r))
  | _, _ => none
def aRg : Option FieldType → List Int → Prop
  | none, [] => True
  | some .long, [r] => ar64 r
  | some .boolean, [r] => r = 0 ∨ r = 1
  | some .int, [r] => ar32 r
  | some .char, [r] => ar32 r
  | _, _ => False
/-- where the kinds of cells are in the machine -/
abbrev aD : Type := va_G × ClassId × ClassId × ClassId × (Nat → Nat)
abbrev aW0 (d : aD) (ad : Nat → Nat) (σ : aS) : va_W := aWs d.2.1 d.2.2.1 d.2.2.2.1 d.2.2.2.2 ad σ
abbrev aTy0 (d : aD) : List (ClassId × FieldType) := aTys d.2.1 d.2.2.1 d.2.2.2.1
def aPre (d : aD) (ad : Nat → Nat) (σ : aS) (av : List Value) (sz : Nat) : Array Value → State → Prop :=
  va_Pc av (fun U => U.heap.size = sz ∧ va_P d.1 vwCl (aW0 d ad σ) U.heap ∧ va_K d.1 vwCl (aTy0 d) U ∧ va_D (fun _ => True) (aW0 d ad σ) ∧ aStr d.2.2.2.2 (va_A (aW0 d ad σ) sz) U U.heap ∧ aNx U)
def aFacts (σ σ' : aS) : Prop := aGood σ' ∧ aExt σ.1 σ'.1 ∧ σ.2.2.1 ≤ σ'.2.2.1 ∧ σ.2.2.2 ≤ σ'.2.2.2
def aPost (d : aD) (ad : Nat → Nat) (σ σ' : aS) (kg : Prop) (v : Option Value) (sz : Nat) (st : State) (oc : Outcome) (t : State) : Prop :=
  (aFacts σ σ' ∧ kg) ∧ (∃ ad' : Nat → Nat, (∀ k, k < σ.1.length → ad' k = ad k) ∧ oc = .returned v ∧ va_P d.1 vwCl (aW0 d ad' σ') t.heap ∧ va_D (va_A (aW0 d ad σ) sz) (aW0 d ad' σ')) ∧ va_F (va_A (aW0 d ad σ) sz) st t
/-- method j of the table keeps its contract: it does what F says -/
def aOK (F : Nat → List Int → aS → aR) (M : aM) (j : Nat) : Prop :=
  ∀ (l : Launch) (d : aD) (ad : Nat → Nat) (sz : Nat) (xs : List Int) (σ : aS) (vs : List Int) (σ' : aS), l.flags = flags0 →
    aGood σ → aArg σ.1 (aMp M) xs → F j xs σ = some (0, vs, σ') →
    Met l (aMy M) (aWords M) ({ frames := aMf M, cells := σ'.2.2.1 - σ.2.2.1, slots := σ'.2.2.2 - σ.2.2.2, locals := aMo M }) (aPre d ad σ (aArgv d.2.2.2.2 ad (aMp M) xs) sz)
      (fun _ st oc t => aPost d ad σ σ' (aRg (aMr M) vs) (aRv (aMr M) vs) sz st oc t) (σ'.2.2.1 - σ.2.2.1) (σ'.2.2.2 - σ.2.2.2) (va_A (aW0 d ad σ) sz)
/-- the locals hold what the list says -/
def aLok (sa ad : Nat → Nat) (b : Nat) (ls : Array Slot) (nL : Nat) (L : aL) : Prop := ls.size = nL ∧ L.length = nL ∧ lv_wf ls ∧ ∀ (i : Nat) (v : aV), L[i]? = some (some v) → ls[i]? = some (.val (aconc sa ad b v))
def aLl (sa ad : Nat → Nat) (b : Nat) (L : aL) : List (Nat × Value) := (List.range L.length).filterMap fun i => match L[i]? with
  | some (some v) => some (i, aconc sa ad b v)
  | _ => none
theorem aLl_in {sa ad : Nat → Nat} {b : Nat} {L : aL} {i : Nat} {v : aV} (h : L[i]? = some (some v)) : (i, aconc sa ad b v) ∈ aLl sa ad b L := by
  unfold aLl
  refine List.mem_filterMap.mpr ⟨i, List.mem_range.mpr (List.getElem?_eq_some_iff.mp h).1, ?_⟩
  rw [h]
theorem aLok.has {sa ad : Nat → Nat} {b : Nat} {ls : Array Slot} {nL : Nat} {L : aL} (h : aLok sa ad b ls nL L) : lv_has ls nL (aLl sa ad b L) := by
  refine ⟨h.1, h.2.2.1, fun q hq => ?_⟩
  unfold aLl at hq
  obtain ⟨i, -, hi⟩ := List.mem_filterMap.mp hq
  cases hL : L[i]? with
  | none => rw [hL] at hi; cases hi
  | some o =>
    cases o with
    | none => rw [hL] at hi; cases hi
    | some v => rw [hL] at hi; cases hi; exact h.2.2.2 i v hL
theorem aconc_cat {sa ad : Nat → Nat} {b : Nat} {v : aV} : (aconc sa ad b v).category = acat v := by
  obtain ⟨t, x⟩ := v
  unfold aconc
  split
  · rename_i e; cases e; rfl
  · rename_i e; cases e; rfl
  · rename_i e; cases e; rfl
  · rename_i e; cases e; rfl
  · rename_i e; cases e; rfl
  · rename_i h1 h2 h3 h4 h5 e
    cases e
    have hn : Nat.beq t 1 = false := by
      cases hb : Nat.beq t 1 with
      | false => rfl
      | true => exact absurd (Nat.eq_of_beq_eq_true hb) (by intro q; subst q; exact h2 rfl)
    unfold acat
    rw [hn]
    split <;> rfl
theorem awid_eq {sa ad : Nat → Nat} {b : Nat} (S : List aV) : ((S.map (aconc sa ad b)).map fun v => v.category).sum = awid S := by
  unfold awid
  rw [List.map_map]
  congr 1
  exact List.map_congr_left fun v _ => aconc_cat
theorem aLok.sto1 {sa ad : Nat → Nat} {b : Nat} {ls ls' : Array Slot} {nL : Nat} {L L' : aL} {i : Nat} {v : aV} (h : aLok sa ad b ls nL L) (hs : asto1 i v L = some L') (hv : acat v = 1)
    (h' : lv_has ls' nL ((i, aconc sa ad b v) :: (aLl sa ad b L).filter (fun q => !(q.1 == i) && !(q.1 + 1 == i && q.2.category == 2)))) : aLok sa ad b ls' nL L' ∧ i < nL := by
  unfold asto1 at hs
  split at hs
  · rename_i hlt
    cases hs
    have hi : i < L.length := by simpa [Nat.blt_eq] using hlt
    have hcl : (aclr i L).length = L.length := by unfold aclr; split; rfl; split <;> simp
    refine ⟨⟨h'.1, by rw [List.length_set, hcl]; exact h.2.1, h'.2.1, fun j u hj => ?_⟩, by rw [← h.2.1]; exact hi⟩
    by_cases e : i = j
    · subst e
      rw [List.getElem?_set_self (by rw [hcl]; exact hi)] at hj
      cases hj
      exact h'.2.2 _ List.mem_cons_self
    · rw [List.getElem?_set_ne e] at hj
      have hju : L[j]? = some (some u) ∧ ¬ (j + 1 = i ∧ acat u = 2) := by
        unfold aclr at hj
        cases i with
        | zero => exact ⟨hj, by omega⟩
        | succ k =>
          dsimp only at hj
          split at hj
          · rename_i w hw
            by_cases e2 : k = j
            · subst e2
              rw [List.getElem?_set_self (by omega)] at hj
              cases hj
            · rw [List.getElem?_set_ne e2] at hj
              exact ⟨hj, by omega⟩
          · rename_i hw
            refine ⟨hj, fun ⟨q1, q2⟩ => ?_⟩
            have : j = k := by omega
            subst this
            obtain ⟨t, x⟩ := u
            unfold acat at q2
            split at q2
            · rename_i hb
              have : t = 1 := Nat.eq_of_beq_eq_true hb
              subst this
              exact hw x hj
            · cases q2
      refine h'.2.2 (j, aconc sa ad b u) (List.mem_cons_of_mem _ (List.mem_filter.mpr ⟨aLl_in hju.1, ?_⟩))
      simp only [Bool.and_eq_true, Bool.not_eq_true', beq_eq_false_iff_ne, ne_eq, Bool.and_eq_false_iff]
      refine ⟨fun q => e q.symm, ?_⟩
      rw [aconc_cat]
      by_cases q1 : j + 1 = i
      · right
        intro q2
        exact hju.2 ⟨q1, q2⟩
      · left; exact q1
  · cases hs
theorem aLok.sto2 {sa ad : Nat → Nat} {b : Nat} {ls ls' : Array Slot} {nL : Nat} {L L' : aL} {i : Nat} {v : aV} (h : aLok sa ad b ls nL L) (hs : asto2 i v L = some L')
    (h' : lv_has ls' nL ((i, aconc sa ad b v) :: (aLl sa ad b L).filter (fun q => !(q.1 == i) && (!(q.1 == i + 1) && !(q.1 + 1 == i && q.2.category == 2))))) : aLok sa ad b ls' nL L' ∧ i + 1 < nL := by
  unfold asto2 at hs
  split at hs
  · rename_i hlt
    cases hs
    have hi : i + 1 < L.length := by simpa [Nat.blt_eq] using hlt
    have hcl : (aclr i L).length = L.length := by unfold aclr; split; rfl; split <;> simp
    refine ⟨⟨h'.1, by rw [List.length_set, List.length_set, hcl]; exact h.2.1, h'.2.1, fun j u hj => ?_⟩, by rw [← h.2.1]; exact hi⟩
    by_cases e1 : i + 1 = j
    · subst e1
      rw [List.getElem?_set_self (by rw [List.length_set, hcl]; exact hi)] at hj
      cases hj
    rw [List.getElem?_set_ne e1] at hj
    by_cases e : i = j
    · subst e
      rw [List.getElem?_set_self (by rw [hcl]; omega)] at hj
      cases hj
      exact h'.2.2 _ List.mem_cons_self
    · rw [List.getElem?_set_ne e] at hj
      have hju : L[j]? = some (some u) ∧ ¬ (j + 1 = i ∧ acat u = 2) := by
        unfold aclr at hj
        cases i with
        | zero => exact ⟨hj, by omega⟩
        | succ k =>
          dsimp only at hj
          split at hj
          · rename_i w hw
            by_cases e2 : k = j
            · subst e2
              rw [List.getElem?_set_self (by omega)] at hj
              cases hj
            · rw [List.getElem?_set_ne e2] at hj
              exact ⟨hj, by omega⟩
          · rename_i hw
            refine ⟨hj, fun ⟨q1, q2⟩ => ?_⟩
            have : j = k := by omega
            subst this
            obtain ⟨t, x⟩ := u
            unfold acat at q2
            split at q2
            · rename_i hb
              have : t = 1 := Nat.eq_of_beq_eq_true hb
              subst this
              exact hw x hj
            · cases q2
      refine h'.2.2 (j, aconc sa ad b u) (List.mem_cons_of_mem _ (List.mem_filter.mpr ⟨aLl_in hju.1, ?_⟩))
      simp only [Bool.and_eq_true, Bool.not_eq_true', beq_eq_false_iff_ne, ne_eq, Bool.and_eq_false_iff]
      refine ⟨fun q => e q.symm, fun q => e1 q.symm, ?_⟩
      rw [aconc_cat]
      by_cases q1 : j + 1 = i
      · right
        intro q2
        exact hju.2 ⟨q1, q2⟩
      · left; exact q1
  · cases hs
theorem apopI_s {S : List aV} {q : Int × List aV} (h : apopI S = some q) : S = (0, q.1) :: q.2 := by
  unfold apopI at h; split at h
  · cases h; rfl
  · cases h
theorem apopL_s {S : List aV} {q : Int × List aV} (h : apopL S = some q) : S = (1, q.1) :: q.2 := by
  unfold apopL at h; split at h
  · cases h; rfl
  · cases h
theorem apopT_s {t : Nat} {S : List aV} {q : Int × List aV} (h : apopT t S = some q) : S = (t, q.1) :: q.2 := by
  unfold apopT at h; split at h
  · split at h
    · rename_i hb; cases h; rw [Nat.eq_of_beq_eq_true hb]
    · cases h
  · cases h
theorem apops_s : ∀ {ts : List Nat} {S : List aV} {q : List Int × List aV}, apops ts S = some q → q.1.length = ts.length ∧ S = (ts.reverse.zip q.1).reverse ++ q.2 := by
  intro ts
  induction ts with
  | nil => intro S q h; cases h; exact ⟨rfl, rfl⟩
  | cons t ts ih =>
    intro S q h
    unfold apops at h
    split at h
    · rename_i x S1 h1
      split at h
      · rename_i xs S2 h2
        cases h
        have e1 := apopT_s h1
        obtain ⟨l1, e2⟩ := ih h2
        refine ⟨by simp [l1], ?_⟩
        rw [e1, e2, List.reverse_cons, List.zip_append (by simp [l1])]
        simp
      · cases h
    · cases h
theorem alod_s {t i : Nat} {L : aL} {x : Int} (h : alod t i L = some x) : L[i]? = some (some (t, x)) := by
  unfold alod at h; split at h
  · rename_i h1
    split at h
    · rename_i hb; cases h; rw [h1, Nat.eq_of_beq_eq_true hb]
    · cases h
  · cases h
theorem alodR_s {i : Nat} {L : aL} {v : aV} (h : alodR i L = some v) : L[i]? = some (some v) ∧ 2 ≤ v.1 := by
  unfold alodR at h; split at h
  · rename_i h1
    split at h
    · rename_i hb; cases h; exact ⟨h1, Nat.le_of_ble_eq_true hb⟩
    · cases h
  · cases h
