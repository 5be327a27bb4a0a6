/-! what a write, a copy, a new cell do to the world -/
theorem aCell_congr {cI cL cS : ClassId} {sa ad : Nat → Nat} {h h' : aH} {k t n : Nat} (e : ∀ j : Nat, h ((k : Int) + 1) (j : Int) = h' ((k : Int) + 1) (j : Int)) : aCell cI cL cS sa ad h k t n = aCell cI cL cS sa ad h' k t n := by
  unfold aCell
  split
  · simp only [e]
  · simp only [e]
  · simp only [e]
  · simp only [e]
/-- contents change in cell k alone -/
theorem aWs_at {cI cL cS : ClassId} {sa ad : Nat → Nat} {σ : aS} {h' : aH} {cs : Nat × Nat} {k t n : Nat} (hk : σ.1[k]? = some (t, n)) (e : ∀ x j : Int, x ≠ (k : Int) + 1 → h' x j = σ.2.1 x j) :
    aWs cI cL cS sa ad (σ.1, h', cs) = (aWs cI cL cS sa ad σ).set k (ad k, aCell cI cL cS sa ad h' k t n) := by
  apply List.ext_getElem?
  intro i
  by_cases hi : k = i
  · subst hi
    rw [aWs_get (σ := (σ.1, h', cs)) (t := t) (n := n) hk, List.getElem?_set_self (by rw [aWs_len]; exact (List.getElem?_eq_some_iff.mp hk).1)]
  · rw [List.getElem?_set_ne hi]
    cases hq : σ.1[i]? with
    | none =>
      have h1 : σ.1.length ≤ i := by simpa using hq
      rw [List.getElem?_eq_none (by rw [aWs_len]; exact h1), List.getElem?_eq_none (by rw [aWs_len]; exact h1)]
    | some q =>
      rw [aWs_get (σ := (σ.1, h', cs)) (t := q.1) (n := q.2) hq, aWs_get (σ := σ) (t := q.1) (n := q.2) hq]
      dsimp only
      rw [aCell_congr (h := h') (h' := σ.2.1) (fun j => e _ _ (by omega))]
theorem aput_off {σ : aS} {x j v : Int} : ∀ x' j' : Int, x' ≠ x → (aput σ x j v).2.1 x' j' = σ.2.1 x' j' := fun x' j' h => if_neg (fun q => h q.1)
theorem aput_at {σ : aS} {x j v j' : Int} : (aput σ x j v).2.1 x j' = if j' = j then v else σ.2.1 x j' := by
  show (if x = x ∧ j' = j then v else σ.2.1 x j') = _
  by_cases h : j' = j
  · rw [if_pos ⟨rfl, h⟩, if_pos h]
  · rw [if_neg (fun q => h q.2), if_neg h]
theorem aWs_putO {cI cL cS : ClassId} {sa ad : Nat → Nat} {σ : aS} {k ci n f : Nat} {v : Int} (hk : σ.1[k]? = some (10 + ci, n)) (hf : f < n) :
    aWs cI cL cS sa ad (aput σ ((k : Int) + 1) (f : Int) v) = (aWs cI cL cS sa ad σ).set k (ad k, .inr (ci, ((List.range n).map fun j => aconc sa ad 0 (aft ci j, σ.2.1 ((k : Int) + 1) (j : Int))).set f (aconc sa ad 0 (aft ci f, v)))) := by
  have h1 := aWs_at (cI := cI) (cL := cL) (cS := cS) (sa := sa) (ad := ad) (h' := (aput σ ((k : Int) + 1) (f : Int) v).2.1) (cs := σ.2.2) hk (fun x j hx => aput_off x j hx)
  rw [aCell_obj] at h1
  refine Eq.trans h1 ?_
  congr 2
  congr 1
  congr 1
  apply List.ext_getElem?
  intro j
  rw [List.getElem?_map]
  by_cases e : f = j
  · subst e
    rw [List.getElem?_set_self (by simpa using hf), List.getElem?_range hf]
    show some (aconc sa ad 0 (aft ci f, (aput σ ((k : Int) + 1) (f : Int) v).2.1 ((k : Int) + 1) (f : Int))) = some _
    rw [aput_at, if_pos rfl]
  · rw [List.getElem?_set_ne e, List.getElem?_map]
    cases hr : (List.range n)[j]? with
    | none => rfl
    | some w =>
      have : w = j := by
        have := List.getElem?_eq_some_iff.mp hr
        obtain ⟨h2, h3⟩ := this
        simpa using h3.symm
      subst this
      show some (aconc sa ad 0 (aft ci w, (aput σ ((k : Int) + 1) (f : Int) v).2.1 ((k : Int) + 1) (w : Int))) = some _
      rw [aput_at, if_neg (by omega)]
theorem aWs_putI {cI cL cS : ClassId} {sa ad : Nat → Nat} {σ : aS} {k n : Nat} {i v : Int} (hk : σ.1[k]? = some (2, n)) (h0 : 0 ≤ i) (hi : ar32 i) :
    aWs cI cL cS sa ad (aput σ ((k : Int) + 1) i v) = (aWs cI cL cS sa ad σ).set k (ad k, .inl (cI, n, .inl (upd (fun j => Int32.ofInt (σ.2.1 ((k : Int) + 1) (j : Int))) (Int32.ofInt i).toNatClampNeg (Int32.ofInt v)))) := by
  have h1 := aWs_at (cI := cI) (cL := cL) (cS := cS) (sa := sa) (ad := ad) (h' := (aput σ ((k : Int) + 1) i v).2.1) (cs := σ.2.2) hk (fun x j hx => aput_off x j hx)
  refine Eq.trans h1 ?_
  congr 2
  show (Sum.inl _ : va_E) = Sum.inl _
  congr 3
  congr 1
  funext j
  show Int32.ofInt _ = upd _ _ _ j
  rw [n_nat h0 hi, aput_at]
  unfold upd
  by_cases e : (j : Int) = i
  · rw [if_pos e, if_pos (by omega)]
  · rw [if_neg e, if_neg (by omega)]
theorem aWs_putL {cI cL cS : ClassId} {sa ad : Nat → Nat} {σ : aS} {k n : Nat} {i v : Int} (hk : σ.1[k]? = some (3, n)) (h0 : 0 ≤ i) (hi : ar32 i) :
    aWs cI cL cS sa ad (aput σ ((k : Int) + 1) i v) = (aWs cI cL cS sa ad σ).set k (ad k, .inl (cL, n, .inr (.inl (vp_updL (fun j => Int64.ofInt (σ.2.1 ((k : Int) + 1) (j : Int))) (Int32.ofInt i).toNatClampNeg (Int64.ofInt v))))) := by
  have h1 := aWs_at (cI := cI) (cL := cL) (cS := cS) (sa := sa) (ad := ad) (h' := (aput σ ((k : Int) + 1) i v).2.1) (cs := σ.2.2) hk (fun x j hx => aput_off x j hx)
  refine Eq.trans h1 ?_
  congr 2
  show (Sum.inl _ : va_E) = Sum.inl _
  congr 4
  congr 1
  funext j
  show Int64.ofInt _ = vp_updL _ _ _ j
  rw [n_nat h0 hi, aput_at]
  unfold vp_updL
  by_cases e : (j : Int) = i
  · rw [if_pos e, if_pos (by omega)]
  · rw [if_neg e, if_neg (by omega)]
theorem aWs_putQ {cI cL cS : ClassId} {sa ad : Nat → Nat} {σ : aS} {k n : Nat} {i v : Int} (hk : σ.1[k]? = some (4, n)) (h0 : 0 ≤ i) (hn : i < (n : Int)) (hi : ar32 i) (hv : 0 < v) :
    aWs cI cL cS sa ad (aput σ ((k : Int) + 1) i v) = (aWs cI cL cS sa ad σ).set k (ad k, .inl (cS, n, .inr (.inr (.inr (.inr (va_up (fun j : Nat => if j < n ∧ σ.2.1 ((k : Int) + 1) (j : Int) ≠ 0 then some (ad ((σ.2.1 ((k : Int) + 1) (j : Int)).toNat - 1)) else none) (Int32.ofInt i).toNatClampNeg (some (ad (v.toNat - 1))))))))) := by
  have h1 := aWs_at (cI := cI) (cL := cL) (cS := cS) (sa := sa) (ad := ad) (h' := (aput σ ((k : Int) + 1) i v).2.1) (cs := σ.2.2) hk (fun x j hx => aput_off x j hx)
  refine Eq.trans h1 ?_
  congr 2
  show (Sum.inl _ : va_E) = Sum.inl _
  congr 7
  funext j
  show (if j < n ∧ (aput σ ((k : Int) + 1) i v).2.1 ((k : Int) + 1) (j : Int) ≠ 0 then some (ad (((aput σ ((k : Int) + 1) i v).2.1 ((k : Int) + 1) (j : Int)).toNat - 1)) else none) = va_up _ _ _ j
  rw [n_nat h0 hi, aput_at]
  unfold va_up
  by_cases e : (j : Int) = i
  · have e' : j = i.toNat := by omega
    rw [if_pos e, if_pos e', if_pos ⟨by omega, by omega⟩]
  · have e' : ¬ j = i.toNat := by omega
    rw [if_neg e, if_neg e']
theorem aGood.put {σ : aS} {k t n : Nat} {i v : Int} (h : aGood σ) (hk : σ.1[k]? = some (t, n)) (hv : ∀ j : Nat, (j : Int) = i → aGh σ.1 (akt t j, v)) : aGood (aput σ ((k : Int) + 1) i v) := by
  refine ⟨fun k' q hq => ⟨(h.1 k' q hq).1, fun j hj => ?_⟩, fun x j hx => ?_⟩
  · by_cases e : k' = k
    · subst e
      have : q = (t, n) := Option.some.inj ((show σ.1[k']? = some q from hq).symm.trans hk)
      subst this
      rw [aput_at]
      by_cases e2 : (j : Int) = i
      · rw [if_pos e2]; exact hv j e2
      · rw [if_neg e2]; exact (h.1 _ _ hk).2 j hj
    · rw [aput_off _ _ (by omega)]
      exact (h.1 _ _ hq).2 j hj
  · have hx' : (σ.1.length : Int) < x := hx
    have := (List.getElem?_eq_some_iff.mp hk).1
    rw [aput_off _ _ (by omega)]
    exact h.2 x j hx
theorem aGood.new {σ : aS} {t n : Nat} (h : aGood σ) (ht : akok t n) : aGood (anew σ t n) := by
  have hz : ∀ t' j, aGh (σ.1 ++ [(t, n)]) (akt t' j, 0) := by
    intro t' j
    have hh : akt t' j = 0 ∨ akt t' j = 1 ∨ akt t' j = 7 ∨ aisR (akt t' j) := by
      unfold akt
      split
      · exact Or.inl rfl
      · exact Or.inr (Or.inl rfl)
      · exact Or.inr (Or.inr (Or.inr (Or.inr (Or.inr (Or.inr (by decide))))))
      · exact aft_le _ _
    rcases hh with e | e | e | e
    · rw [e]; exact Or.inl (aGv_int (by unfold ar32; decide))
    · rw [e]; exact Or.inl (aGv_long (by unfold ar64; decide))
    · rw [e]
      exact Or.inr (Or.inr ⟨rfl, Or.inl rfl⟩)
    · exact Or.inr (Or.inl ⟨e, rfl⟩)
  refine ⟨fun k q hq => ?_, fun x j hx => ?_⟩
  · have hq : (σ.1 ++ [(t, n)])[k]? = some q := hq
    by_cases hl : k < σ.1.length
    · rw [List.getElem?_append_left hl] at hq
      exact ⟨(h.1 k q hq).1, fun j hj => ((h.1 k q hq).2 j hj).ext (aExt.app _ _)⟩
    · rw [List.getElem?_append_right (by omega)] at hq
      have h0 : k - σ.1.length < 1 := (List.getElem?_eq_some_iff.mp hq).1
      rw [show k - σ.1.length = 0 by omega] at hq
      cases hq
      refine ⟨ht, fun j hj => ?_⟩
      show aGh (σ.1 ++ [(t, n)]) (akt t j, σ.2.1 ((k : Int) + 1) (j : Int))
      rw [h.2 _ _ (by omega)]
      exact hz t j
  · refine h.2 x j ?_
    have hx : ((σ.1 ++ [(t, n)]).length : Int) < x := hx
    simp at hx
    omega
/-- the address of a new cell -/
def aadn (ad : Nat → Nat) (n a : Nat) : Nat → Nat := fun k => if k = n then a else ad k
theorem aadn_old {ad : Nat → Nat} {n a k : Nat} (h : k < n) : aadn ad n a k = ad k := if_neg (by omega)
theorem aCell_ad {cI cL cS : ClassId} {sa ad ad' : Nat → Nat} {σ : aS} {k t n : Nat} (h : aGood σ) (hk : σ.1[k]? = some (t, n)) (he : ∀ i, i < σ.1.length → ad' i = ad i) : aCell cI cL cS sa ad' σ.2.1 k t n = aCell cI cL cS sa ad σ.2.1 k t n := by
  obtain ⟨h1, h2⟩ := h.1 k (t, n) hk
  unfold aCell
  split
  · rfl
  · rfl
  · congr 7
    funext j
    by_cases h0 : j < n ∧ σ.2.1 ((k : Int) + 1) (j : Int) ≠ 0
    · rw [if_pos h0, if_pos h0]
      rcases h2 j h0.1 with g | g | g
      · obtain ⟨m, n', e1, e2⟩ := aGv_ref (t := 18) g (Or.inr (Or.inr (Or.inr (by decide))))
        rw [e1, he _ (by have := (List.getElem?_eq_some_iff.mp e2).1; omega)]
      · exact absurd g.2 h0.2
      · exact absurd (show (18 : Nat) = 7 from g.1) (by decide)
    · rw [if_neg h0, if_neg h0]
  · congr 2
    refine List.map_congr_left fun j hj => ?_
    have hj' : j < n := List.mem_range.mp hj
    have := h2 j hj'
    rename_i hh1 hh2 hh3
    rw [show akt t j = aft (t - 10) j from by unfold akt; split <;> first | rfl | (exfalso; first | exact hh1 rfl | exact hh2 rfl | exact hh3 rfl)] at this
    exact aconc_adh this he
theorem aWs_new {cI cL cS : ClassId} {sa ad : Nat → Nat} {σ : aS} {t n a : Nat} (h : aGood σ) : aWs cI cL cS sa (aadn ad σ.1.length a) (anew σ t n) = aWs cI cL cS sa ad σ ++ [(a, aCell cI cL cS sa ad (fun _ _ => 0) σ.1.length t n)] := by
  apply List.ext_getElem?
  intro i
  have hl : (anew σ t n).1.length = σ.1.length + 1 := by simp [anew]
  by_cases hi : i < σ.1.length
  · obtain ⟨q, hq⟩ : ∃ q, σ.1[i]? = some q := ⟨_, List.getElem?_eq_getElem hi⟩
    rw [List.getElem?_append_left (by rw [aWs_len]; exact hi), aWs_get (σ := σ) (t := q.1) (n := q.2) hq,
      aWs_get (σ := anew σ t n) (t := q.1) (n := q.2) (show (σ.1 ++ [(t, n)])[i]? = some q by rw [List.getElem?_append_left hi]; exact hq)]
    rw [aadn_old hi]
    congr 2
    exact aCell_ad (σ := σ) h (t := q.1) (n := q.2) hq (fun k hk => aadn_old hk)
  · by_cases hi2 : i = σ.1.length
    · subst hi2
      rw [List.getElem?_append_right (by rw [aWs_len]; omega), aWs_len, Nat.sub_self,
        aWs_get (σ := anew σ t n) (t := t) (n := n) (show (σ.1 ++ [(t, n)])[σ.1.length]? = some (t, n) by simp)]
      show some (aadn ad σ.1.length a σ.1.length, _) = some (a, _)
      rw [show aadn ad σ.1.length a σ.1.length = a from if_pos rfl]
      congr 2
      have e : ∀ j : Nat, σ.2.1 ((σ.1.length : Int) + 1) (j : Int) = 0 := fun j => h.2 _ _ (by omega)
      have e1 : aCell cI cL cS sa (aadn ad σ.1.length a) (anew σ t n).2.1 σ.1.length t n = aCell cI cL cS sa (aadn ad σ.1.length a) (fun _ _ => 0) σ.1.length t n := aCell_congr (h' := fun _ _ => 0) (fun j => e j)
      rw [e1]
      unfold aCell
      split
      · rfl
      · rfl
      · simp
      · congr 2
        refine List.map_congr_left fun j hj => ?_
        rcases aft_le (t - 10) j with q | q | q | q
        · rw [q]; rfl
        · rw [q]; rfl
        · rw [q]; rfl
        · rw [aconc_null q, aconc_null q]
    · rw [List.getElem?_eq_none (by rw [aWs_len, hl]; omega), List.getElem?_eq_none (by rw [List.length_append, aWs_len]; simp; omega)]
theorem acpy_off {σ : aS} {s sp d dp n : Int} : ∀ x j : Int, x ≠ d → (acpy σ s sp d dp n).2.1 x j = σ.2.1 x j := fun x j h => if_neg (fun q => h q.1)
theorem aWs_cpy {cI cL cS : ClassId} {sa ad : Nat → Nat} {σ : aS} {k n : Nat} {x sp dp m : Int} (hk : σ.1[k]? = some (2, n)) (h1 : 0 ≤ sp) (h2 : 0 ≤ dp) (h3 : 0 ≤ m) (r1 : ar32 sp) (r2 : ar32 dp) (r3 : ar32 m) :
    aWs cI cL cS sa ad (acpy σ x sp ((k : Int) + 1) dp m) = (aWs cI cL cS sa ad σ).set k (ad k, .inl (cI, n, .inl (va_cpy (fun j => Int32.ofInt (σ.2.1 x (j : Int))) (fun j => Int32.ofInt (σ.2.1 ((k : Int) + 1) (j : Int))) (Int32.ofInt sp).toNatClampNeg (Int32.ofInt dp).toNatClampNeg (Int32.ofInt m).toNatClampNeg))) := by
  have g1 := aWs_at (cI := cI) (cL := cL) (cS := cS) (sa := sa) (ad := ad) (h' := (acpy σ x sp ((k : Int) + 1) dp m).2.1) (cs := σ.2.2) hk (fun x j hx => acpy_off x j hx)
  refine Eq.trans g1 ?_
  congr 2
  show (Sum.inl _ : va_E) = Sum.inl _
  congr 3
  congr 1
  funext j
  show Int32.ofInt (if (k : Int) + 1 = (k : Int) + 1 ∧ dp ≤ (j : Int) ∧ (j : Int) < dp + m then σ.2.1 x (sp + ((j : Int) - dp)) else σ.2.1 ((k : Int) + 1) (j : Int)) = va_cpy _ _ _ _ _ j
  unfold va_cpy
  rw [n_nat h1 r1, n_nat h2 r2, n_nat h3 r3]
  by_cases e : dp ≤ (j : Int) ∧ (j : Int) < dp + m
  · have e' : dp.toNat ≤ j ∧ j < dp.toNat + m.toNat := by omega
    rw [if_pos ⟨rfl, e⟩, if_pos e']
    show _ = Int32.ofInt (σ.2.1 x ((sp.toNat + (j - dp.toNat) : Nat) : Int))
    rw [show ((sp.toNat + (j - dp.toNat) : Nat) : Int) = sp + ((j : Int) - dp) by omega]
  · have e' : ¬ (dp.toNat ≤ j ∧ j < dp.toNat + m.toNat) := by omega
    rw [if_neg (fun q => e q.2), if_neg e']
theorem aGood.cpy {σ : aS} {k k' n n' : Nat} {sp dp m : Int} (h : aGood σ) (hk : σ.1[k]? = some (2, n)) (hk' : σ.1[k']? = some (2, n')) (h1 : 0 ≤ sp) (h2 : sp + m ≤ (n' : Int)) : aGood (acpy σ ((k' : Int) + 1) sp ((k : Int) + 1) dp m) := by
  refine ⟨fun i q hq => ⟨(h.1 i q hq).1, fun j hj => ?_⟩, fun x j hx => ?_⟩
  · show aGh σ.1 (akt q.1 j, if (i : Int) + 1 = (k : Int) + 1 ∧ dp ≤ (j : Int) ∧ (j : Int) < dp + m then σ.2.1 ((k' : Int) + 1) (sp + ((j : Int) - dp)) else σ.2.1 ((i : Int) + 1) (j : Int))
    by_cases e : (i : Int) + 1 = (k : Int) + 1 ∧ dp ≤ (j : Int) ∧ (j : Int) < dp + m
    · rw [if_pos e]
      have : i = k := by omega
      subst this
      have : q = (2, n) := Option.some.inj ((show σ.1[i]? = some q from hq).symm.trans hk)
      subst this
      have := (h.1 _ _ hk').2 (sp + ((j : Int) - dp)).toNat (by omega)
      rw [show (((sp + ((j : Int) - dp)).toNat : Nat) : Int) = sp + ((j : Int) - dp) by omega] at this
      exact this
    · rw [if_neg e]
      exact (h.1 _ _ hq).2 j hj
  · have hx' : (σ.1.length : Int) < x := hx
    have := (List.getElem?_eq_some_iff.mp hk).1
    rw [acpy_off _ _ (by omega)]
    exact h.2 x j hx
theorem alen_k {σ : aS} {k t n : Nat} (hk : σ.1[k]? = some (t, n)) : alen σ ((k : Int) + 1) = (n : Int) := by
  unfold alen
  rw [show ((k : Int) + 1).toNat = k + 1 by omega]
  simp only [hk]
