/-! the class's half of whole's part of this name -/
theorem spN_bd {T N : aH} (hB : TB T) (hN : NB T N) {t u : Int} (t0 : 0 ≤ t) (t1 : t ≤ T 0 2) (u0 : 0 ≤ u) (u1 : u ≤ T 0 2) : ∀ n : Nat, (n : Int) ≤ crw T → (0 ≤ (spN T N t u n).1 ∧ (spN T N t u n).1 ≤ 200000000000000) ∧ 0 ≤ (spN T N t u n).2 ∧ ((spN T N t u n).2 < n ∨ (spN T N t u n).2 = 0) := by
  intro n
  induction n with
  | zero => intro _; exact ⟨⟨Int.le_refl _, by show (0 : Int) ≤ 200000000000000; omega⟩, Int.le_refl _, Or.inr rfl⟩
  | succ n ih =>
    intro h
    have i := ih (by omega)
    show (0 ≤ (if 1 ≤ n ∧ cvf (ctn T N t) (crf T n) = true ∧ (spN T N t u n).1 < spV T N t u (crf T n) then (spV T N t u (crf T n), (n : Int)) else spN T N t u n).1 ∧ (if 1 ≤ n ∧ cvf (ctn T N t) (crf T n) = true ∧ (spN T N t u n).1 < spV T N t u (crf T n) then (spV T N t u (crf T n), (n : Int)) else spN T N t u n).1 ≤ 200000000000000) ∧
      0 ≤ (if 1 ≤ n ∧ cvf (ctn T N t) (crf T n) = true ∧ (spN T N t u n).1 < spV T N t u (crf T n) then (spV T N t u (crf T n), (n : Int)) else spN T N t u n).2 ∧ ((if 1 ≤ n ∧ cvf (ctn T N t) (crf T n) = true ∧ (spN T N t u n).1 < spV T N t u (crf T n) then (spV T N t u (crf T n), (n : Int)) else spN T N t u n).2 < ((n + 1 : Nat) : Int) ∨ (if 1 ≤ n ∧ cvf (ctn T N t) (crf T n) = true ∧ (spN T N t u n).1 < spV T N t u (crf T n) then (spV T N t u (crf T n), (n : Int)) else spN T N t u n).2 = 0)
    by_cases q : 1 ≤ n ∧ cvf (ctn T N t) (crf T n) = true ∧ (spN T N t u n).1 < spV T N t u (crf T n)
    · rw [if_pos q]
      have := spV_bd hB hN t0 t1 u0 u1 (crf_BF hB (n := n) (by omega) (by omega)).1 q.2.1
      exact ⟨⟨by show 0 ≤ spV T N t u (crf T n); omega, this.2⟩, by show (0 : Int) ≤ n; omega, Or.inl (by show (n : Int) < _; omega)⟩
    · rw [if_neg q]
      exact ⟨i.1, i.2.1, by omega⟩
def aSplit (T N : aH) (t u w : Int) : Int :=
  if 0 ≤ t ∧ t < T 0 2 then (if 0 ≤ u ∧ u < T 0 2 then (if t = u then MINL else if 0 < szf (ctn T N u) then MINL else if 0 ≤ w ∧ w ≤ 1 then (if w = 0 then pty (crf T (spN T N t u (crw T).toNat).2) else (spN T N t u (crw T).toNat).1) else MINL) else MINL) else MINL
