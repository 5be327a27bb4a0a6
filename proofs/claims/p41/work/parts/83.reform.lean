/-! the class's half of whole's part of this name -/
def rfN (N : aH) (t x y : Int) : aH := fun x' j => if x' = 4 then (if j = 0 then t else if j = 1 then x else if j = 2 then y else N 4 j) else N x' j
theorem rfN_x (N : aH) (t x y : Int) {x' : Int} (h : x' ≠ 4) (j : Int) : rfN N t x y x' j = N x' j := if_neg h
theorem pkP_co {T N M : aH} (h : ∀ j, N 0 j = M 0 j) : pkP T N = pkP T M := by
  have e : ∀ p, ctn T N p = ctn T M p := fun p => by funext s; unfold ctn; rw [h]
  unfold pkP pkT; simp only [e]
theorem NB.rf {T N : aH} (hN : NB T N) {t x y : Int} (t0 : -1 ≤ t) (t1 : t ≤ 3) (x0 : 0 ≤ x) (x1 : x ≤ 30) (y0 : 0 ≤ y) (y1 : y ≤ 30) : NB T (rfN N t x y) := by
  refine ⟨?_, ?_, ?_, ?_, ?_, ?_, ?_, ⟨t0, t1⟩, ⟨x0, x1⟩, ⟨y0, y1⟩⟩
  · intro s p a b c d; rw [rfN_x _ _ _ _ (by omega)]; exact hN.1 s p a b c d
  · intro s a b
    rw [← hN.2.1 s a b]
    exact sI_congr (fun k _ _ => rfN_x _ _ _ _ (by omega) _)
  · intro u a b; rw [rfN_x _ _ _ _ (by omega)]; exact hN.2.2.1 u a b
  · intro u a b; rw [rfN_x _ _ _ _ (by omega)]; exact hN.2.2.2.1 u a b
  · intro u a b; rw [rfN_x _ _ _ _ (by omega)]; exact hN.2.2.2.2.1 u a b
  · rw [rfN_x _ _ _ _ (by omega)]; exact hN.2.2.2.2.2.1
  · rw [rfN_x _ _ _ _ (by omega)]; exact hN.2.2.2.2.2.2.1
theorem SC.rf {T N : aH} {sc : Int} {σ : aS} (hS : SC T N sc σ) (t x y : Int) : SC T (rfN N t x y) sc σ := by
  refine ⟨by rw [pkP_co (M := N) (fun j => rfN_x _ _ _ _ (by omega) j)]; exact hS.1, fun u a b => by rw [rfN_x _ _ _ _ (by omega)]; exact hS.2.1 u a b, ?_, by rw [rfN_x _ _ _ _ (by omega)]; exact hS.2.2.2.1, by rw [rfN_x _ _ _ _ (by omega)]; exact hS.2.2.2.2⟩
  have e : bnI T (rfN N t x y) = bnI T N := by unfold bnI; exact sI_congr (fun k _ _ => by rw [rfN_x _ _ _ _ (by omega)])
  rw [e]; exact hS.2.2.1
