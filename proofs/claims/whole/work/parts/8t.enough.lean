/-! the partings don't end too early -/
/-- a sort's places from alone on, one step further -/
def nxl : List Nat → Option (List Nat)
  | x :: y :: r => if 0 < x then some ((x - 1) :: (y + 1) :: r) else match nxl (y :: r) with
    | some (h :: t) => some (h :: 0 :: t)
    | _ => none
  | _ => none
/-- n steps can be taken -/
def cnl : Nat → List Nat → Bool
  | 0, _ => true
  | n + 1, l => match nxl l with
    | some l' => cnl n l'
    | none => false
theorem cnlF : ∀ h : Fin 7, ∀ t : Fin 5, cnl ((wyN (h.val : Int) t.val).toNat - 1) (h.val :: List.replicate t.val 0) = true := by decide +kernel
theorem nxl_sp : ∀ (l l' : List Nat), nxl l = some l' → ∃ i, i + 1 < l.length ∧ (∀ j, j < i → l.getD j 0 = 0) ∧ 0 < l.getD i 0 ∧ l'.length = l.length ∧
    ∀ j, l'.getD j 0 = if j = i + 1 then l.getD j 0 + 1 else if j = 0 then l.getD i 0 - 1 else if j = i then 0 else l.getD j 0 := by
  intro l
  induction l with
  | nil => intro l' h; cases h
  | cons x l ih =>
    intro l' h
    cases l with
    | nil => cases h
    | cons y r =>
      have e : nxl (x :: y :: r) = if 0 < x then some ((x - 1) :: (y + 1) :: r) else match nxl (y :: r) with
        | some (h :: t) => some (h :: 0 :: t)
        | _ => none := rfl
      rw [e] at h
      by_cases c : 0 < x
      · rw [if_pos c] at h
        cases h
        refine ⟨0, by simp, fun j hj => by omega, c, rfl, fun j => ?_⟩
        rcases j with _ | _ | j
        · simp
        · simp
        · simp
      · rw [if_neg c] at h
        have hx : x = 0 := by omega
        cases hn : nxl (y :: r) with
        | none => rw [hn] at h; cases h
        | some q =>
          rw [hn] at h
          cases q with
          | nil => cases h
          | cons hd t =>
            cases h
            obtain ⟨i, h1, h2, h3, h4, h5⟩ := ih _ hn
            refine ⟨i + 1, ?_, fun j hj => ?_, ?_, ?_, fun j => ?_⟩
            · rw [List.length_cons]; omega
            · rcases j with _ | j
              · rw [hx]; rfl
              · rw [List.getD_cons_succ]; exact h2 j (by omega)
            · rw [List.getD_cons_succ]; exact h3
            · simp only [List.length_cons] at h4 ⊢; omega
            · rcases j with _ | _ | j
              · have := h5 0
                rw [if_neg (by omega), if_pos rfl] at this
                rw [if_neg (by omega), if_pos rfl, List.getD_cons_succ]
                exact this
              · rw [if_neg (by omega), if_neg (by omega)]
                by_cases q : i = 0
                · rw [if_pos (by omega)]; rfl
                · rw [if_neg (by omega)]
                  show 0 = (y :: r).getD 0 0
                  rw [h2 0 (by omega)]
              · show (hd :: t).getD (j + 1) 0 = if j + 1 + 1 = i + 1 + 1 then (y :: r).getD (j + 1) 0 + 1 else if j + 1 + 1 = 0 then (y :: r).getD i 0 - 1 else if j + 1 + 1 = i + 1 then 0 else (y :: r).getD (j + 1) 0
                rw [h5 (j + 1)]
                by_cases q1 : j + 1 = i + 1
                · rw [if_pos q1, if_pos (show j + 1 + 1 = i + 1 + 1 by omega)]
                · rw [if_neg q1, if_neg (show ¬ j + 1 + 1 = i + 1 + 1 by omega), if_neg (show ¬ j + 1 = 0 by omega), if_neg (show ¬ j + 1 + 1 = 0 by omega)]
                  by_cases q2 : j + 1 = i
                  · rw [if_pos q2, if_pos (show j + 1 + 1 = i + 1 by omega)]
                  · rw [if_neg q2, if_neg (show ¬ j + 1 + 1 = i + 1 by omega)]
/-- the list tells the sort's places -/
def Rl (T N : aH) (s : Int) (l : List Nat) : Prop := (l.length : Int) = T 0 2 + 1 ∧ ∀ i : Nat, (i : Int) ≤ T 0 2 → (l.getD i 0 : Int) = N 0 (5 * s + (T 0 2 - i))
theorem Rl_st {T N : aH} (hB : TB T) {s : Int} {l l' : List Nat} (hR : Rl T N s l) (h : nxl l = some l') : 0 < lsp T N s ∧ (l'.length : Int) = T 0 2 + 1 ∧ ∀ i : Nat, (i : Int) ≤ T 0 2 → (l'.getD i 0 : Int) = nwv T N s (T 0 2 - i) := by
  obtain ⟨i, h1, h2, h3, h4, h5⟩ := nxl_sp l l' h
  have ls := lsp_sp (N := N) hB s
  have ei : (l.getD i 0 : Int) = N 0 (5 * s + (T 0 2 - i)) := hR.2 i (by have := hR.1; omega)
  have hl := hR.1
  have el : lsp T N s = T 0 2 - i := by
    rcases (show lsp T N s < T 0 2 - i ∨ lsp T N s = T 0 2 - i ∨ T 0 2 - i < lsp T N s by omega) with q | q | q
    · exact absurd (show 0 < N 0 (5 * s + (T 0 2 - i)) by omega) (ls.2.1 _ q (by omega))
    · exact q
    · have a := ls.2.2 (by omega)
      obtain ⟨j, hj⟩ := Int.eq_ofNat_of_zero_le (show 0 ≤ T 0 2 - lsp T N s by omega)
      have b := hR.2 j (by omega)
      rw [h2 j (by omega), show T 0 2 - (j : Int) = lsp T N s by omega] at b
      omega
  refine ⟨by omega, by omega, fun j hj => ?_⟩
  rw [h5 j]
  unfold nwv
  rw [el]
  by_cases q1 : j = i + 1
  · rw [if_pos q1, if_pos (by omega), ← hR.2 j hj]; rfl
  · rw [if_neg q1, if_neg (show ¬ T 0 2 - (j : Int) = T 0 2 - (i : Int) - 1 by omega)]
    by_cases q2 : j = 0
    · rw [if_pos q2, if_pos (show T 0 2 - (j : Int) = T 0 2 by omega), ← ei]; omega
    · rw [if_neg q2, if_neg (show ¬ T 0 2 - (j : Int) = T 0 2 by omega)]
      by_cases q3 : j = i
      · rw [if_pos q3, if_pos (show T 0 2 - (j : Int) = T 0 2 - (i : Int) by omega)]; rfl
      · rw [if_neg q3, if_neg (show ¬ T 0 2 - (j : Int) = T 0 2 - (i : Int) by omega), hR.2 j hj]
def wyS (T : aH) (n : Nat) : Int := wyI (T 2 (4 * (n : Int))) (T 0 2)
def MK (T : aH) (m : Nat → Nat) : Nat → Int
  | 0 => 0
  | n + 1 => MK T m n * wyS T n + m n
theorem wyS_b {T : aH} (hB : TB T) {n : Nat} (hn : (n : Int) < T 0 1) : 1 ≤ wyS T n ∧ wyS T n ≤ 210 := by
  have c := (hB.2.2.2.2.2.1 n (by omega) hn).1
  exact wy_bd (by omega) c.2 hB.2.2.1.1 hB.2.2.1.2
/-- at least M steps are left -/
def LF (T N : aH) (M : Int) : Prop := ∃ m : Nat → Nat, (∀ n : Nat, (n : Int) < T 0 1 → (∃ l, Rl T N n l ∧ cnl (m n) l = true) ∧ (m n : Int) ≤ wyS T n - 1) ∧ M ≤ MK T m (T 0 1).toNat
theorem Rl_al {T N : aH} (hB : TB T) {n : Nat} (hn : (n : Int) < T 0 1) (h : ∀ p, 0 ≤ p → p ≤ T 0 2 → N 0 (5 * n + p) = alv T n p) : ∃ l, Rl T N n l ∧ cnl ((wyS T n).toNat - 1) l = true := by
  have c := (hB.2.2.2.2.2.1 n (by omega) hn).1
  have h4 := hB.2.2.1
  obtain ⟨a, ha⟩ := Int.eq_ofNat_of_zero_le (show 0 ≤ T 2 (4 * (n : Int)) by omega)
  obtain ⟨t, ht⟩ := Int.eq_ofNat_of_zero_le h4.1
  refine ⟨a :: List.replicate t 0, ⟨by rw [List.length_cons, List.length_replicate, ht]; rfl, fun i hi => ?_⟩, ?_⟩
  · rw [h _ (by omega) (by omega)]
    unfold alv
    rcases i with _ | i
    · rw [if_pos (by omega), ha]; rfl
    · rw [if_neg (by omega), List.getD_cons_succ]
      have e : (List.replicate t 0).getD i 0 = 0 := by
        rw [List.getD_eq_getElem?_getD, List.getElem?_replicate]
        split <;> rfl
      rw [e]; rfl
  · have := cnlF ⟨a, by omega⟩ ⟨t, by omega⟩
    unfold wyS wyI
    rw [ha, ht, Int.toNat_natCast]
    exact this
theorem MK_mx {T : aH} (hB : TB T) : ∀ n : Nat, (n : Int) ≤ T 0 1 → MK T (fun n => (wyS T n).toNat - 1) n = npN T n - 1 := by
  intro n
  induction n with
  | zero => intro _; rfl
  | succ n ih =>
    intro hn
    have w := wyS_b hB (n := n) (by omega)
    have e : MK T (fun n => (wyS T n).toNat - 1) (n + 1) = MK T (fun n => (wyS T n).toNat - 1) n * wyS T n + (((wyS T n).toNat - 1 : Nat) : Int) := rfl
    have e2 : npN T (n + 1) = npN T n * wyS T n := rfl
    rw [e, ih (by omega), e2, Int.sub_mul]
    omega
theorem LF_0 {T N : aH} (hB : TB T) : LF T (PN T N 0) (npT T - 1) := by
  have h4 := hB.2.2.1
  refine ⟨fun n => (wyS T n).toNat - 1, fun n hn => ⟨Rl_al hB hn (fun p p0 p1 => ?_), ?_⟩, ?_⟩
  · rw [PN_0, PN0_0 _ _ p0 (by omega)]
  · have w := wyS_b hB hn
    show (((wyS T n).toNat - 1 : Nat) : Int) ≤ wyS T n - 1
    omega
  · rw [MK_mx hB _ (by have := hB.2.1; omega)]
    exact Int.le_refl _
theorem MK_nn {T : aH} (hB : TB T) (m : Nat → Nat) : ∀ n : Nat, (n : Int) ≤ T 0 1 → 0 ≤ MK T m n := by
  intro n
  induction n with
  | zero => intro _; exact Int.le_refl _
  | succ n ih =>
    intro hn
    have w := wyS_b hB (n := n) (by omega)
    have a := Int.mul_nonneg (ih (by omega)) (show 0 ≤ wyS T n by omega)
    show 0 ≤ MK T m n * wyS T n + m n
    omega
theorem Rl_ex {T N : aH} (hB : TB T) (hN : NB T N) {s : Int} (s0 : 0 ≤ s) (s1 : s < T 0 1) : ∃ l, Rl T N s l := by
  have h4 := hB.2.2.1
  refine ⟨(List.range (T 0 2 + 1).toNat).map (fun i : Nat => (N 0 (5 * s + (T 0 2 - (i : Int)))).toNat), ?_, fun i hi => ?_⟩
  · rw [List.length_map, List.length_range]; omega
  · have b := hN.1 s (T 0 2 - i) s0 s1 (by omega) (by omega)
    rw [List.getD_eq_getElem?_getD, List.getElem?_map, List.getElem?_range (show i < (T 0 2 + 1).toNat by omega)]
    show (((N 0 (5 * s + (T 0 2 - (i : Int)))).toNat : Nat) : Int) = _
    omega
theorem LF_s {T N : aH} (hB : TB T) (hN : NB T N) {M : Int} (hM : 0 < M) (h : LF T N M) : 0 ≤ lss T N ∧ LF T (sq T N) (M - 1) := by
  obtain ⟨m, hm, hMK⟩ := h
  have h4 := hB.2.2.1
  have h5 := hB.2.1
  have lss1 := lss_sp (N := N) hB
  -- a sort with steps left isn't all in the first place
  have pos : ∀ n : Nat, (n : Int) < T 0 1 → 0 < m n → 0 < lsp T N n := fun n hn hmn => by
    obtain ⟨⟨l, hR, hc⟩, -⟩ := hm n hn
    obtain ⟨k, hk⟩ : ∃ k, m n = k + 1 := ⟨m n - 1, by omega⟩
    rw [hk] at hc
    cases hx : nxl l with
    | none => unfold cnl at hc; rw [hx] at hc; cases hc
    | some l' => exact (Rl_st hB hR hx).1
  have hls : 0 ≤ lss T N := by
    rcases (show 0 ≤ lss T N ∨ lss T N = -1 by omega) with q | q
    · exact q
    · exfalso
      have z : ∀ n : Nat, (n : Int) ≤ T 0 1 → MK T m n = 0 := by
        intro n
        induction n with
        | zero => intro _; rfl
        | succ n ih =>
          intro hn
          have a := lss1.2.1 n (by omega) (by omega)
          have b : m n = 0 := by
            rcases Nat.eq_zero_or_pos (m n) with e | e
            · exact e
            · exact absurd (pos n (by omega) e) a
          show MK T m n * wyS T n + m n = 0
          rw [ih (by omega), b, Int.zero_mul]; rfl
      have := z (T 0 1).toNat (by omega)
      omega
  refine ⟨hls, ?_⟩
  obtain ⟨s, hs⟩ := Int.eq_ofNat_of_zero_le hls
  have s1 : (s : Int) < T 0 1 := by omega
  refine ⟨fun n => if n < s then m n else if n = s then m n - 1 else (wyS T n).toNat - 1, fun n hn => ?_, ?_⟩
  · have w := wyS_b hB hn
    obtain ⟨⟨l, hR, hc⟩, hw⟩ := hm n hn
    by_cases c1 : n < s
    · refine ⟨⟨l, ⟨hR.1, fun i hi => ?_⟩, by simp only [if_pos c1]; exact hc⟩, by simp only [if_pos c1]; exact hw⟩
      rw [hR.2 i hi, sq_0 _ _ (by omega) (by omega)]
      unfold sqv
      rw [if_pos (by omega)]
    · by_cases c2 : n = s
      · have hv : ∀ p, 0 ≤ p → p ≤ T 0 2 → sq T N 0 (5 * (n : Int) + p) = nwv T N n p := fun p p0 p1 => by
          rw [sq_0 _ _ p0 (by omega)]
          unfold sqv
          rw [if_neg (by omega), if_pos (by omega)]
        rcases Nat.eq_zero_or_pos (m n) with e | e
        · -- no step known to be left: any list does
          refine ⟨?_, by simp only [if_neg c1, if_pos c2]; omega⟩
          obtain ⟨l2, hl2⟩ := Rl_ex hB (sq_NB hN hB) (s := n) (by omega) hn
          refine ⟨l2, hl2, ?_⟩
          simp only [if_neg c1, if_pos c2, e]
          rfl
        · obtain ⟨k, hk⟩ : ∃ k, m n = k + 1 := ⟨m n - 1, by omega⟩
          rw [hk] at hc
          cases hx : nxl l with
          | none => unfold cnl at hc; rw [hx] at hc; cases hc
          | some l' =>
            unfold cnl at hc; rw [hx] at hc
            have r := Rl_st hB hR hx
            refine ⟨⟨l', ⟨r.2.1, fun i hi => by rw [r.2.2 i hi, hv _ (by omega) (by omega)]⟩, ?_⟩, by simp only [if_neg c1, if_pos c2]; omega⟩
            simp only [if_neg c1, if_pos c2, hk]
            exact hc
      · refine ⟨?_, by simp only [if_neg c1, if_neg c2]; omega⟩
        simp only [if_neg c1, if_neg c2]
        refine Rl_al hB hn (fun p p0 p1 => ?_)
        rw [sq_0 _ _ p0 (by omega)]
        unfold sqv
        rw [if_neg (by omega), if_neg (by omega)]
  · have key : ∀ n : Nat, (n : Int) ≤ T 0 1 → (n ≤ s → MK T (fun n => if n < s then m n else if n = s then m n - 1 else (wyS T n).toNat - 1) n = MK T m n) ∧
        (s < n → MK T m n ≤ MK T (fun n => if n < s then m n else if n = s then m n - 1 else (wyS T n).toNat - 1) n + 1) := by
      intro n
      induction n with
      | zero => intro _; exact ⟨fun _ => rfl, fun q => by omega⟩
      | succ n ih =>
        intro hn
        have w := wyS_b hB (n := n) (by omega)
        have i := ih (by omega)
        have e1 : MK T (fun n => if n < s then m n else if n = s then m n - 1 else (wyS T n).toNat - 1) (n + 1) = MK T (fun n => if n < s then m n else if n = s then m n - 1 else (wyS T n).toNat - 1) n * wyS T n + ((if n < s then m n else if n = s then m n - 1 else (wyS T n).toNat - 1 : Nat) : Int) := rfl
        have e2 : MK T m (n + 1) = MK T m n * wyS T n + m n := rfl
        refine ⟨fun q => ?_, fun q => ?_⟩
        · rw [e1, e2, i.1 (by omega), if_pos (show n < s by omega)]
        · by_cases c : n = s
          · rw [e1, e2, i.1 (by omega), if_neg (show ¬ n < s by omega), if_pos c]
            omega
          · have z : m n = 0 := by
              rcases Nat.eq_zero_or_pos (m n) with e | e
              · exact e
              · exact absurd (pos n (by omega) e) (lss1.2.1 n (by omega) (by omega))
            have j := i.2 (by omega)
            have k := Int.mul_le_mul_of_nonneg_right j (show 0 ≤ wyS T n by omega)
            rw [e1, e2, if_neg (show ¬ n < s by omega), if_neg c, z]
            rw [Int.add_mul, Int.one_mul] at k
            omega
    have := (key (T 0 1).toNat (by omega)).2 (by omega)
    omega
theorem LF_k {T N : aH} (hN : NB T N) (hB : TB T) : ∀ k : Nat, (k : Int) ≤ npT T - 1 → LF T (PNn T N k) (npT T - 1 - k) := by
  intro k
  induction k with
  | zero => intro _; have h := LF_0 (N := N) hB; rw [show npT T - 1 - ((0 : Nat) : Int) = npT T - 1 by omega]; exact h
  | succ k ih =>
    intro hk
    have h := (LF_s hB (PNn_NB hN hB k) (by omega) (ih (by omega))).2
    rw [show npT T - 1 - ((k + 1 : Nat) : Int) = npT T - 1 - (k : Int) - 1 by omega]
    exact h
/-- before the last parting another follows -/
theorem lss_k {T N : aH} (hN : NB T N) (hB : TB T) {k : Int} (k0 : 0 ≤ k) (k1 : k < npT T - 1) : 0 ≤ lss T (PN T N k) := by
  have h := LF_k hN hB k.toNat (by omega)
  exact (LF_s hB (PN_NB hN hB k) (by omega) h).1
