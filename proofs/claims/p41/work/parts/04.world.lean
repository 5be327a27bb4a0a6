/-! the abstract machine's cells as a world of the kit -/
def aTB : List Cond := lw_tbl.filter goodWord
/-- the links to nest mates' private methods -/
def aNest : List (String × Nat × MethodName × String) := [("FloatTowns", 11, yX10_init, "FloatTowns"), ("FloatTowns", 29, yX7_init, "FloatTowns"), ("FloatTowns", 59, yX8_init, "FloatTowns"), ("FloatTowns", 66, yX4_init, "FloatTowns"), ("FloatTowns$Course", 17, yX8_init, "FloatTowns"), ("FloatTowns$History", 15, yX8_init, "FloatTowns"), ("FloatTowns$Ledger", 62, yX11_one, "FloatTowns"), ("FloatTowns$Ledger", 79, yX11_sizeOf, "FloatTowns"), ("FloatTowns$Ledger", 85, yX11_part, "FloatTowns"), ("FloatTowns$Plan", 32, yX6_init, "FloatTowns"), ("FloatTowns$Plan", 39, yX1_init, "FloatTowns"), ("FloatTowns$Plan", 84, yX11_one, "FloatTowns"), ("FloatTowns$Plan", 103, yX11_part, "FloatTowns"), ("FloatTowns$Plan", 110, yX11_sizeOf, "FloatTowns"), ("FloatTowns$Sailing", 11, yX3_init, "FloatTowns"), ("FloatTowns$Sailing", 74, yX11_one, "FloatTowns"), ("FloatTowns$Sailing", 84, yX11_part, "FloatTowns"), ("FloatTowns$Sailing", 125, yX11_covers, "FloatTowns"), ("FloatTowns$Sailing", 139, yX11_sizeOf, "FloatTowns"), ("FloatTowns$Survey", 17, yX8_init, "FloatTowns"), ("FloatTowns$Survey", 113, yX11_part, "FloatTowns"), ("FloatTowns$Survey", 116, yX11_one, "FloatTowns")]
/-- what a frame knows beside the tables: those links, and the arrays of scenes -/
def aNx (U : State) : Prop := (∀ q ∈ aNest, va_Nw (.methodLinkNest q.1 q.2.1 q.2.2.1 q.2.2.2) U) ∧ va_AO RX8 U
theorem aNx.warm {s U : State} (hW : s.WarmedH U.vm) (h : aNx s) : aNx U := ⟨fun q hq => va_Nw.warmM hW (h.1 q hq), h.2.moved hW.alike⟩
theorem aNx.calling {U : State} {g : JFrame} {mk : MethodId} {a : Array Value} (h : aNx U) : aNx (U.calling g mk a) := ⟨fun q hq => va_Nw.same (u := U) rfl rfl (h.1 q hq), h.2.moved (u := U) (U := U.calling g mk a) (Vm.Alike.refl U.vm)⟩
/-- the fields' tags by class -/
def aFt : List (List Nat) := [[0, 0, 0, 17, 3, 18, 18, 1], [2, 2, 2, 2], [4, 18, 7, 0, 0], [2, 0, 2, 3, 2, 14], [2, 2, 2, 2, 2, 2, 16, 11, 0, 0, 0, 0, 0, 0, 0, 0, 2], [20, 14], [3, 0, 2, 2, 2, 3, 2, 0, 0, 0], [14, 0, 0, 0, 0, 0, 0, 1, 13, 0], [2, 1, 0, 0, 0], [0, 0, 1, 1, 1, 1, 3, 17, 18, 7], [2, 2, 2, 2, 0, 0, 0, 0, 0, 0, 0, 0, 0], [20, 15, 17, 10, 19, 12, 18, 14, 14, 0, 0]]
def aft (ci f : Nat) : Nat := (aFt.getD ci []).getD f 0
def aNf (ci : Nat) : Nat := (aFt.getD ci []).length
def aTy : List (Nat → FieldType) := [tyX0, tyX1, tyX2, tyX3, tyX4, tyX5, tyX6, tyX7, tyX8, tyX9, tyX10, tyX11]
/-- the tag of what stands at place j of a cell -/
def akt (t j : Nat) : Nat := match t with
  | 2 => 0
  | 3 => 1
  | 4 => 18
  | t => aft (t - 10) j
def aisR (t : Nat) : Prop := t = 2 ∨ t = 3 ∨ t = 4 ∨ 10 ≤ t
def aconc (sa ad : Nat → Nat) (b : Nat) : aV → Value
  | (0, x) => .int (Int32.ofInt x)
  | (1, x) => .long (Int64.ofInt x)
  | (5, x) => .ref (sa x.toNat)
  | (6, _) => .ref b
  | (7, x) => .int (Int32.ofInt x)
  | (_, x) => if x = 0 then .null else .ref (ad (x.toNat - 1))
/-- a value that may stand on the stack -/
def aGv (ks : aK) (hX : Prop) (v : aV) : Prop :=
  (v.1 = 0 → ar32 v.2) ∧ (v.1 = 1 → ar64 v.2) ∧ (v.1 = 5 → v.2 = 0) ∧ (v.1 = 6 → hX) ∧
  (aisR v.1 → 0 < v.2 ∧ ∃ n, ks[v.2.toNat - 1]? = some (v.1, n)) ∧ (v.1 = 0 ∨ v.1 = 1 ∨ v.1 = 5 ∨ v.1 = 6 ∨ aisR v.1)
/-- a value that may stand in a cell: a reference may be null -/
def aGh (ks : aK) (v : aV) : Prop := aGv ks False v ∨ (aisR v.1 ∧ v.2 = 0) ∨ (v.1 = 7 ∧ (v.2 = 0 ∨ v.2 = 1))
def akok (t n : Nat) : Prop := (t = 2 ∧ n ≤ 10000) ∨ (t = 3 ∧ n ≤ 10000) ∨ (t = 4 ∧ n ≤ 10000) ∨ (10 ≤ t ∧ t - 10 < 12 ∧ n = aNf (t - 10))
def aGood (σ : aS) : Prop :=
  (∀ (k : Nat) (q : Nat × Nat), σ.1[k]? = some q → akok q.1 q.2 ∧ ∀ j : Nat, j < q.2 → aGh σ.1 (akt q.1 j, σ.2.1 ((k : Int) + 1) (j : Int))) ∧
  (∀ x j : Int, (σ.1.length : Int) < x → σ.2.1 x j = 0)
def aCell (cI cL cS : ClassId) (sa ad : Nat → Nat) (h : aH) (k t n : Nat) : va_E := match t with
  | 2 => .inl (cI, n, .inl (fun j => Int32.ofInt (h ((k : Int) + 1) (j : Int))))
  | 3 => .inl (cL, n, .inr (.inl (fun j => Int64.ofInt (h ((k : Int) + 1) (j : Int)))))
  | 4 => .inl (cS, n, .inr (.inr (.inr (.inr (fun j => if j < n ∧ h ((k : Int) + 1) (j : Int) ≠ 0 then some (ad ((h ((k : Int) + 1) (j : Int)).toNat - 1)) else none)))))
  | t => .inr (t - 10, (List.range n).map fun j => aconc sa ad 0 (aft (t - 10) j, h ((k : Int) + 1) (j : Int)))
def aWs (cI cL cS : ClassId) (sa ad : Nat → Nat) (σ : aS) : va_W := σ.1.mapIdx fun k q => (ad k, aCell cI cL cS sa ad σ.2.1 k q.1 q.2)
abbrev aTys (cI cL cS : ClassId) : List (ClassId × FieldType) := [(cI, .int), (cL, .long), (cS, .object RX8)]
theorem aWs_get {cI cL cS : ClassId} {sa ad : Nat → Nat} {σ : aS} {k t n : Nat} (h : σ.1[k]? = some (t, n)) : (aWs cI cL cS sa ad σ)[k]? = some (ad k, aCell cI cL cS sa ad σ.2.1 k t n) := by
  unfold aWs
  rw [List.getElem?_mapIdx, h]
  rfl
theorem aWs_len (cI cL cS : ClassId) (sa ad : Nat → Nat) (σ : aS) : (aWs cI cL cS sa ad σ).length = σ.1.length := by simp [aWs]
theorem aft_le : ∀ ci f, aft ci f = 0 ∨ aft ci f = 1 ∨ aft ci f = 7 ∨ aisR (aft ci f) := by
  have h : ∀ l ∈ aFt, ∀ t ∈ l, t = 0 ∨ t = 1 ∨ t = 7 ∨ t = 2 ∨ t = 3 ∨ t = 4 ∨ 10 ≤ t := by decide +kernel
  intro ci f
  unfold aft
  rw [List.getD_eq_getElem?_getD, List.getD_eq_getElem?_getD]
  cases h1 : aFt[ci]? with
  | none => exact Or.inl rfl
  | some l =>
    rw [show (some l).getD [] = l from rfl]
    cases h2 : l[f]? with
    | none => exact Or.inl rfl
    | some t => exact h l (List.mem_of_getElem? h1) t (List.mem_of_getElem? h2)
theorem aconc_ref {sa ad : Nat → Nat} {b t : Nat} {x : Int} (ht : aisR t) (hx : 0 < x) : aconc sa ad b (t, x) = .ref (ad (x.toNat - 1)) := by
  rcases ht with rfl | rfl | rfl | h
  · exact if_neg (by omega)
  · exact if_neg (by omega)
  · exact if_neg (by omega)
  · unfold aconc
    split <;> simp_all <;> omega
theorem aconc_null {sa ad : Nat → Nat} {b t : Nat} (ht : aisR t) : aconc sa ad b (t, 0) = .null := by
  rcases ht with rfl | rfl | rfl | h
  · rfl
  · rfl
  · rfl
  · unfold aconc
    split <;> simp_all
theorem aisR_10 (ci : Nat) : aisR (10 + ci) := Or.inr (Or.inr (Or.inr (by omega)))
theorem aCell_obj {cI cL cS : ClassId} {sa ad : Nat → Nat} {h : aH} {k ci n : Nat} : aCell cI cL cS sa ad h k (10 + ci) n = .inr (ci, (List.range n).map fun j => aconc sa ad 0 (aft ci j, h ((k : Int) + 1) (j : Int))) := by
  unfold aCell
  split
  · omega
  · omega
  · omega
  · rw [show 10 + ci - 10 = ci by omega]
/-- a reference on the stack: the cell that it names -/
theorem aGv_ref {ks : aK} {hX : Prop} {t : Nat} {x : Int} (h : aGv ks hX (t, x)) (ht : aisR t) : ∃ k n : Nat, x = (k : Int) + 1 ∧ ks[k]? = some (t, n) := by
  obtain ⟨h0, n, h1⟩ := h.2.2.2.2.1 ht
  exact ⟨x.toNat - 1, n, by dsimp only at h0; omega, h1⟩
theorem aGv_int {ks : aK} {hX : Prop} {x : Int} (h : ar32 x) : aGv ks hX (0, x) := by
  refine ⟨fun _ => h, ?_, ?_, ?_, ?_, Or.inl rfl⟩ <;> (intro e; simp [aisR] at e)
theorem aGv_long {ks : aK} {hX : Prop} {x : Int} (h : ar64 x) : aGv ks hX (1, x) := by
  refine ⟨?_, fun _ => h, ?_, ?_, ?_, Or.inr (Or.inl rfl)⟩ <;> (intro e; simp [aisR] at e)
theorem aGv_of {ks : aK} {hX : Prop} {t : Nat} {x : Int} {n : Nat} (ht : aisR t) (h0 : 0 < x) (h : ks[x.toNat - 1]? = some (t, n)) : aGv ks hX (t, x) := by
  have hn : t ≠ 0 ∧ t ≠ 1 ∧ t ≠ 5 ∧ t ≠ 6 := by unfold aisR at ht; omega
  exact ⟨fun e => absurd e hn.1, fun e => absurd e hn.2.1, fun e => absurd e hn.2.2.1, fun e => absurd e hn.2.2.2, fun _ => ⟨h0, n, h⟩, Or.inr (Or.inr (Or.inr (Or.inr ht)))⟩
/-- more cells than before -/
def aExt (a b : aK) : Prop := ∀ (k : Nat) (q : Nat × Nat), a[k]? = some q → b[k]? = some q
theorem aExt.rf (a : aK) : aExt a a := fun _ _ h => h
theorem aExt.tr {a b c : aK} (h1 : aExt a b) (h2 : aExt b c) : aExt a c := fun k q h => h2 k q (h1 k q h)
theorem aExt.app (a c : aK) : aExt a (a ++ c) := fun k q h => by
  rw [List.getElem?_append_left (List.getElem?_eq_some_iff.mp h).1]; exact h
theorem aGv.ext {a b : aK} {hX : Prop} {v : aV} (h : aGv a hX v) (he : aExt a b) : aGv b hX v := by
  obtain ⟨h1, h2, h3, h4, h6, h7⟩ := h
  exact ⟨h1, h2, h3, h4, fun ht => ⟨(h6 ht).1, (h6 ht).2.choose, he _ _ (h6 ht).2.choose_spec⟩, h7⟩
theorem aGv.mono {a : aK} {hX hY : Prop} {v : aV} (h : aGv a hX v) (he : hX → hY) : aGv a hY v := by
  obtain ⟨h1, h2, h3, h4, h6, h7⟩ := h
  exact ⟨h1, h2, h3, fun e => he (h4 e), h6, h7⟩
theorem aGh.ext {a b : aK} {v : aV} (h : aGh a v) (he : aExt a b) : aGh b v := h.elim (fun h => Or.inl (h.ext he)) Or.inr
/-- a value's address stays when the old cells' addresses do -/
theorem aconc_ad {ks : aK} {hX : Prop} {sa ad ad' : Nat → Nat} {b : Nat} {v : aV} (h : aGv ks hX v) (he : ∀ k, k < ks.length → ad' k = ad k) : aconc sa ad' b v = aconc sa ad b v := by
  obtain ⟨t, x⟩ := v
  rcases h.2.2.2.2.2 with e | e | e | e | e
  · dsimp only at e; subst e; rfl
  · dsimp only at e; subst e; rfl
  · dsimp only at e; subst e; rfl
  · dsimp only at e; subst e; rfl
  · obtain ⟨k, n, rfl, h1⟩ := aGv_ref h e
    rw [aconc_ref e (by omega), aconc_ref e (by omega), he _ (by have := (List.getElem?_eq_some_iff.mp h1).1; omega)]
theorem aconc_adh {ks : aK} {sa ad ad' : Nat → Nat} {b : Nat} {v : aV} (h : aGh ks v) (he : ∀ k, k < ks.length → ad' k = ad k) : aconc sa ad' b v = aconc sa ad b v := by
  rcases h with h | ⟨h, h0⟩ | ⟨h, -⟩
  · exact aconc_ad h he
  · obtain ⟨t, x⟩ := v
    dsimp only at h0; subst h0
    rw [aconc_null h, aconc_null h]
  · obtain ⟨t, x⟩ := v
    dsimp only at h; subst h
    rfl
/-- a value of two or more on the stack is a reference -/
theorem aGv_isref {ks : aK} {hX : Prop} {sa ad : Nat → Nat} {b : Nat} {v : aV} (h : aGv ks hX v) (h2 : 2 ≤ v.1) : ∃ q, aconc sa ad b v = .ref q := by
  obtain ⟨t, x⟩ := v
  rcases h.2.2.2.2.2 with e | e | e | e | e
  · dsimp only at e h2; omega
  · dsimp only at e h2; omega
  · dsimp only at e; subst e; exact ⟨_, rfl⟩
  · dsimp only at e; subst e; exact ⟨_, rfl⟩
  · obtain ⟨k, n, rfl, h1⟩ := aGv_ref h e
    exact ⟨_, aconc_ref e (by omega)⟩
theorem aconc_b {ks : aK} {hX : Prop} {sa ad : Nat → Nat} {b b' : Nat} {v : aV} (h : aGv ks hX v) (h6 : v.1 ≠ 6) : aconc sa ad b v = aconc sa ad b' v := by
  obtain ⟨t, x⟩ := v
  rcases h.2.2.2.2.2 with e | e | e | e | e
  · dsimp only at e; subst e; rfl
  · dsimp only at e; subst e; rfl
  · dsimp only at e; subst e; rfl
  · exact absurd e h6
  · obtain ⟨k, n, rfl, h1⟩ := aGv_ref h e
    rw [aconc_ref e (by omega), aconc_ref e (by omega)]
theorem aGv_no6 {ks : aK} {hX : Prop} {v : aV} (h : aGv ks hX v) (h6 : v.1 ≠ 6) : aGv ks False v := by
  obtain ⟨h1, h2, h3, h4, h5, h7⟩ := h
  exact ⟨h1, h2, h3, fun e => h6 e, h5, h7⟩
