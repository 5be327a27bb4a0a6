/-! what every state keeps, call by call -/
abbrev aSS : Type := aH × (Int → aH) × Int × Int × aH
def EN (T : aH) (k : Int) (N : aH) : Prop := NB T N ∧ N 4 0 = -1 ∧ NM N ∧ N 3 1 ≤ 240 * k
def SG (T : aH) (k : Int) (S : aSS) : Prop := EN T k S.1 ∧ (0 ≤ S.2.2.1 ∧ S.2.2.1 ≤ 30) ∧ (∀ i, 0 ≤ i → i < S.2.2.1 → EN T k (S.2.1 i)) ∧ (S.2.2.2.1 = 0 ∨ S.2.2.2.1 = 1) ∧ (S.2.2.2.1 = 1 → EN T k S.2.2.2.2)
theorem EN.up {T : aH} {k l : Int} {N : aH} (h : EN T k N) (hl : k ≤ l) : EN T l N := ⟨h.1, h.2.1, h.2.2.1, by have := h.2.2.2; omega⟩
theorem SG.up {T : aH} {k l : Int} {S : aSS} (h : SG T k S) (hl : k ≤ l) : SG T l S := ⟨h.1.up hl, h.2.1, fun i i0 i1 => (h.2.2.1 i i0 i1).up hl, h.2.2.2.1, fun q => (h.2.2.2.2 q).up hl⟩
theorem EN.of {T : aH} {k : Int} {N M : aH} (h : EN T k N) (hM : NB T M) (e : ∀ x j, x ≠ 0 → M x j = N x j) : EN T k M :=
  ⟨hM, by rw [e 4 0 (by omega)]; exact h.2.1, fun t t0 t1 => by rw [e 1 t (by omega)]; exact h.2.2.1 t t0 t1, by rw [e 3 1 (by omega)]; exact h.2.2.2⟩
theorem SG.ps {T : aH} {k : Int} {S : aSS} (h : SG T k S) {N : aH} (hN : EN T k N) : SG T k (psS S N) := by
  obtain ⟨h1, h2, h3, h4, h5⟩ := h
  refine ⟨hN, ?_, fun i i0 i1 => ?_, h4, h5⟩
  · show 0 ≤ pshN S.2.2.1 ∧ pshN S.2.2.1 ≤ 30
    unfold pshN
    split <;> omega
  · show EN T k (pshH S.2.1 S.2.2.1 S.1 i)
    have i1' : i < pshN S.2.2.1 := i1
    unfold pshN at i1'
    unfold pshH
    by_cases c : S.2.2.1 < 30
    · rw [if_pos c] at i1' ⊢
      by_cases d : i < S.2.2.1
      · rw [if_pos d]; exact h3 i i0 d
      · rw [if_neg d]; exact h1
    · rw [if_neg c] at i1' ⊢
      by_cases d : i < 29
      · rw [if_pos d]; exact h3 (i + 1) (by omega) (by omega)
      · rw [if_neg d]; exact h1
theorem nxt_x {T N : aH} {x : Int} (h : x ≠ 0) (j : Int) : nxt T N x j = N x j := mvN_x _ _ _ _ h j
theorem itn_x {T N : aH} {x : Int} (h : x ≠ 0) (j : Int) : ∀ n : Nat, itn T n N x j = N x j := by
  intro n
  induction n with
  | zero => rfl
  | succ n ih => show nxt T (itn T n N) x j = _; rw [nxt_x h, ih]
theorem itN_x {T N : aH} {k x : Int} (h : x ≠ 0) (j : Int) : itN T N k x j = N x j := itn_x h j _
theorem moA_x {T N : aH} {x j : Int} (h : x ≠ 0) (h3 : x ≠ 3) : moA T N x j = N x j := by
  unfold moA
  split
  · exact stv_x h3 _
  · split
    · exact nxt_x h j
    · rfl
theorem moN_x {T N : aH} {c x j : Int} (h : x ≠ 0) (h3 : x ≠ 3) : moN T N c x j = N x j := by
  unfold moN moB
  rw [stv_x h3]
  split
  · rw [stv_x h3]; exact moA_x h h3
  · exact moA_x h h3
theorem moK_x {T N : aH} {c x j k : Int} (h : x ≠ 0) (h3 : x ≠ 3) (k0 : 0 ≤ k) : moK T N c k x j = N x j := by
  obtain ⟨m, rfl⟩ := Int.eq_ofNat_of_zero_le k0
  induction m with
  | zero => rfl
  | succ m ih => rw [show ((m + 1 : Nat) : Int) = (m : Int) + 1 from rfl, (moK_s (by omega)).1, moN_x h h3]; exact ih (by omega)
theorem SG.go {T : aH} {k : Int} {S : aSS} (hB : TB T) (h : SG T k S) (s a b : Int) : SG T k (sGo T S s a b) := by
  unfold sGo
  by_cases c : mgoB T S.1 s a b = true
  · rw [if_pos c]
    unfold mgoB at c
    have c := of_decide_eq_true c
    refine h.ps (h.1.of (mv_NB h.1.1 hB c.1.2.1.1 c.1.2.1.2 c.1.2.2.1 c.1.2.2.2 c.2.1 (fun u u0 u1 => ?_)) (fun x j hx => mvN_x _ _ _ _ hx j))
    have hn := h.1.1.1 u a u0 u1 c.1.2.1.1 c.1.2.1.2
    rw [on1_eq]
    by_cases d : u = s
    · rw [if_pos d, d]; have := c.2.2; omega
    · rw [if_neg d]; omega
  · rw [if_neg c]; exact h
theorem SG.extra {T : aH} {k : Int} {S : aSS} (h : SG T k S) (t e : Int) : SG T k (sExtra T S t e) := by
  unfold sExtra
  by_cases c : exB T S.1 t e = true
  · rw [if_pos c]
    unfold exB at c
    have c := of_decide_eq_true c
    refine h.ps ⟨h.1.1.st1 c.1.2 (by omega) (by omega), by rw [stv_x (by omega)]; exact h.1.2.1, fun u u0 u1 => ?_, by rw [stv_x (by omega)]; exact h.1.2.2.2⟩
    by_cases d : u = t
    · rw [d, stv_s]; exact c.2.1
    · rw [stv_j d]; exact h.1.2.2.1 u u0 u1
  · rw [if_neg c]; exact h
theorem SG.bind {T : aH} {k : Int} {S : aSS} (h : SG T k S) (t : Int) {on : Int} (ho : on = 0 ∨ on = 1) : SG T k (sBind T S t on) := by
  unfold sBind
  by_cases c : bdB T S.1 t on = true
  · rw [if_pos c]
    exact h.ps ⟨h.1.1.st2 ho, by rw [stv_x (by omega)]; exact h.1.2.1, fun u u0 u1 => by rw [stv_x (by omega)]; exact h.1.2.2.1 u u0 u1, by rw [stv_x (by omega)]; exact h.1.2.2.2⟩
  · rw [if_neg c]; exact h
theorem SG.goings {T : aH} {k : Int} {S : aSS} (hB : TB T) (h : SG T k S) (n : Int) : SG T k (sGoings T S n) := by
  unfold sGoings
  by_cases c : goB T S.1 n = true
  · rw [if_pos c]
    have p0 := ff_0 (fun k => !decide (fiS T (itN T S.1 k) < T 0 1)) (n := n)
    exact h.ps (h.1.of (itN_NB h.1.1 hB (n := n) _ p0 (Int.le_refl _)) (fun x j hx => itN_x hx j))
  · rw [if_neg c]; exact h
theorem SG.months {T : aH} {k : Int} {S : aSS} (hB : TB T) (h : SG T k S) (hk : k < 512) (c m : Int) : SG T (k + 1) (sMonths T S c m) := by
  unfold sMonths
  by_cases a : c < 0
  · rw [if_pos a]; exact h.up (by omega)
  · rw [if_neg a]
    by_cases b : 0 ≤ m ∧ m ≤ 240
    · rw [if_pos b]
      by_cases d : 0 < m
      · rw [if_pos d]
        have h31 := h.1.2.2.2
        obtain ⟨e1, e2⟩ := moK_NB h.1.1 hB c (k := m) b.1 (by omega)
        exact (h.up (show k ≤ k + 1 by omega)).ps ⟨e1, by rw [moK_x (by omega) (by omega) b.1]; exact h.1.2.1, fun t t0 t1 => by rw [moK_x (by omega) (by omega) b.1]; exact h.1.2.2.1 t t0 t1, by rw [e2]; omega⟩
      · rw [if_neg d]; exact h.up (by omega)
    · rw [if_neg b]; exact h.up (by omega)
theorem SG.best {T : aH} {k : Int} {S : aSS} (hB : TB T) (h : SG T k S) : SG T k (sBest T S) := by
  unfold sBest
  by_cases c : bsB T S.1 = true
  · rw [if_pos c]
    exact h.ps (h.1.of (PN_NB h.1.1 hB _) (fun x j hx => PN_x _ _ _ hx j))
  · rw [if_neg c]; exact h
theorem SG.undo {T : aH} {k : Int} {S : aSS} (h : SG T k S) : SG T k (sUndo S) := by
  unfold sUndo
  by_cases c : S.2.2.1 = 0
  · rw [if_pos c]; exact h
  · rw [if_neg c]
    obtain ⟨h1, h2, h3, h4, h5⟩ := h
    exact ⟨h3 _ (by omega) (by omega), by show 0 ≤ S.2.2.1 - 1 ∧ S.2.2.1 - 1 ≤ 30; omega, fun i i0 i1 => h3 i i0 (by have : i < S.2.2.1 - 1 := i1; omega), h4, h5⟩
theorem nwN_EN {T U : aH} {k : Int} (k0 : 0 ≤ k) (hB : TB T) (h23 : ∀ t, 0 ≤ t → t < 4 → 0 ≤ U 23 t ∧ U 23 t ≤ 1) : EN T k (nwN T U) := by
  refine ⟨nwN_NB hB hB.2.2.1.2 h23, by rw [nwN_x (by omega), if_neg (by omega), if_pos rfl, if_pos rfl], fun t t0 t1 => ?_, ?_⟩
  · rw [nwN_x (by omega), if_neg (by omega), if_neg (by omega)]; omega
  · rw [nwN_x (by omega), if_neg (by omega), if_neg (by omega)]; omega
