/-! runs: cells only grow; a piece of code from a cut to the next -/
/-- does the instruction call? -/
def aInv (i : Instr) : Bool := match i with
  | .invokespecial _ => true
  | .invokevirtual _ => true
  | .invokestatic _ => true
  | _ => false
def aGrow (F : Nat → List Int → aS → aR) (f : Nat) : Prop := ∀ (xs : List Int) (σ : aS) (vs : List Int) (σ' : aS), F f xs σ = some (0, vs, σ') → σ.2.2.1 ≤ σ'.2.2.1 ∧ σ.2.2.2 ≤ σ'.2.2.2
set_option maxHeartbeats 4000000 in
set_option maxRecDepth 100000 in
theorem amono {F : Nat → List Int → aS → aR} {X : aX} {k : aL → List aV → aS → aR} {j : Nat → aL → List aV → aS → aR} {e : aE} {L : aL} {S : List aV} {σ : aS} {r : Nat × List Int × aS}
    (hF : aInv e.2.1 = true → ∀ f kk ts, e.2.2.2.1 = f :: kk :: ts → aGrow F f) (hk : ∀ L' S' σ', k L' S' σ' = some r → σ'.2.2.1 ≤ r.2.2.2.2.1 ∧ σ'.2.2.2 ≤ r.2.2.2.2.2) (hj : ∀ t L' S' σ', j t L' S' σ' = some r → σ'.2.2.1 ≤ r.2.2.2.2.1 ∧ σ'.2.2.2 ≤ r.2.2.2.2.2)
    (h : astep F X k j e L S σ = some r) : σ.2.2.1 ≤ r.2.2.2.2.1 ∧ σ.2.2.2 ≤ r.2.2.2.2.2 := by
  have c0 : ∀ {f kk ts} {xs : List Int} {g : aS → aR}, aInv e.2.1 = true → e.2.2.2.1 = f :: kk :: ts → acall0 (F f xs σ) g = some r → (∀ σ', g σ' = some r → σ'.2.2.1 ≤ r.2.2.2.2.1 ∧ σ'.2.2.2 ≤ r.2.2.2.2.2) → σ.2.2.1 ≤ r.2.2.2.2.1 ∧ σ.2.2.2 ≤ r.2.2.2.2.2 := by
    intro f kk ts xs g hi he hc hg
    obtain ⟨σ', h1, h2⟩ := acall0_s hc
    have q1 := hF hi _ _ _ he _ _ _ _ h1
    have q2 := hg _ h2
    exact ⟨Nat.le_trans q1.1 q2.1, Nat.le_trans q1.2 q2.2⟩
  have c1 : ∀ {f kk ts} {xs : List Int} {g : Int → aS → aR}, aInv e.2.1 = true → e.2.2.2.1 = f :: kk :: ts → acall1 (F f xs σ) g = some r → (∀ v σ', g v σ' = some r → σ'.2.2.1 ≤ r.2.2.2.2.1 ∧ σ'.2.2.2 ≤ r.2.2.2.2.2) → σ.2.2.1 ≤ r.2.2.2.2.1 ∧ σ.2.2.2 ≤ r.2.2.2.2.2 := by
    intro f kk ts xs g hi he hc hg
    obtain ⟨v, σ', h1, h2⟩ := acall1_s hc
    have q1 := hF hi _ _ _ he _ _ _ _ h1
    have q2 := hg _ _ h2
    exact ⟨Nat.le_trans q1.1 q2.1, Nat.le_trans q1.2 q2.2⟩
  have ksw : ∀ {x : Int} {f : Nat → aR} {pc : Nat} {dd : Int}, (∀ t, f t = some r → σ.2.2.1 ≤ r.2.2.2.2.1 ∧ σ.2.2.2 ≤ r.2.2.2.2.2) → ∀ os lo, aswitch x f pc dd lo os = some r → σ.2.2.1 ≤ r.2.2.2.2.1 ∧ σ.2.2.2 ≤ r.2.2.2.2.2 := by
    intro x f pc dd hf os lo h
    rcases a_sw os lo h with ⟨-, q⟩ | ⟨-, -, o, -, q⟩ <;> exact hf _ q
  have klk : ∀ {x : Int} {f : Nat → aR} {pc : Nat} {dd : Int}, (∀ t, f t = some r → σ.2.2.1 ≤ r.2.2.2.2.1 ∧ σ.2.2.2 ≤ r.2.2.2.2.2) → ∀ os, alookup x f pc dd os = some r → σ.2.2.1 ≤ r.2.2.2.2.1 ∧ σ.2.2.2 ≤ r.2.2.2.2.2 := by
    intro x f pc dd hf os h
    exact hf _ (a_lk os h).1
  obtain ⟨pc, ins, len, aux, cst, cut⟩ := e
  dsimp only at c0 c1
  cases ins <;> simp only [astep, reduceCtorEq] at h
  all_goals (repeat' (first
    | (have q := hk _ _ _ h; exact q)
    | (have q := hj _ _ _ _ h; exact q)
    | exact ⟨Nat.le_trans (Nat.le_add_right _ _) (hk _ _ _ h).1, Nat.le_trans (Nat.le_add_right _ _) (hk _ _ _ h).2⟩
    | exact c0 rfl rfl h (fun _ q => hk _ _ _ q)
    | exact c1 rfl rfl h (fun _ _ q => hk _ _ _ q)
    | exact ksw (fun _ q => hj _ _ _ _ q) _ _ h
    | exact klk (fun _ q => hj _ _ _ _ q) _ h
    | (cases h; done)
    | (cases h; exact ⟨Nat.le_refl _, Nat.le_refl _⟩)
    | (obtain ⟨_, _, h'⟩ := Option.bind_eq_some_iff.mp h; clear h; have h := h'; clear h')
    | split at h))
theorem afrom_s {pc : Nat} : ∀ {code : List aE} {e : aE} {q : List aE}, afrom pc code = e :: q → e.1 = pc ∧ ∃ pre, code = pre ++ e :: q := by
  intro code
  induction code with
  | nil => intro e q h; cases h
  | cons a code ih =>
    intro e q h
    unfold afrom at h
    split at h
    · rename_i z
      cases h
      exact ⟨Nat.eq_of_beq_eq_true z, [], rfl⟩
    · obtain ⟨h1, pre, h2⟩ := ih h
      exact ⟨h1, a :: pre, by rw [h2]; rfl⟩
theorem aSeq_s : ∀ {pre : List aE} {e e' : aE} {q : List aE}, aSeq (pre ++ e :: e' :: q) = true → e'.1 = e.1 + e.2.2.1 := by
  intro pre
  induction pre with
  | nil =>
    intro e e' q h
    unfold aSeq at h
    simp only [List.nil_append, Bool.and_eq_true] at h
    exact Nat.eq_of_beq_eq_true h.1.1
  | cons a pre ih =>
    intro e e' q h
    cases pre with
    | nil =>
      simp only [List.cons_append, List.nil_append] at h
      unfold aSeq at h
      simp only [Bool.and_eq_true] at h
      exact ih (e := e) (e' := e') (q := q) h.2
    | cons a2 pre2 =>
      simp only [List.cons_append] at h
      unfold aSeq at h
      simp only [Bool.and_eq_true] at h
      exact ih h.2
/-- what comes next: a cut's leaf, or the run goes on -/
theorem arun_mono {F : Nat → List Int → aS → aR} {X : aX} {code : List aE} (hF : ∀ e ∈ code, aInv e.2.1 = true → ∀ f kk ts, e.2.2.2.1 = f :: kk :: ts → aGrow F f) : ∀ (n : Nat) (rest : List aE) (L : aL) (S : List aV) (σ : aS) (r : Nat × List Int × aS), (∀ e ∈ rest, e ∈ code) → arun F X code n rest L S σ = some r → σ.2.2.1 ≤ r.2.2.2.2.1 ∧ σ.2.2.2 ≤ r.2.2.2.2.2 := by
  have lf : ∀ {pc c L S} {σ : aS} {r}, aleaf pc c L S σ = some r → r.2.2 = σ := by
    intro pc c L S σ r h
    unfold aleaf at h
    split at h
    · split at h
      · cases h; rfl
      · cases h
    · cases h
  intro n
  induction n with
  | zero => intro rest L S σ r hr h; cases h
  | succ n ih =>
    intro rest L S σ r hr h
    cases rest with
    | nil => cases h
    | cons e tl =>
      unfold arun at h
      refine amono (hF e (hr e List.mem_cons_self)) ?_ ?_ h
      · intro L' S' σ' hk

        split at hk
        · cases hk
        · split at hk
          · rw [lf hk]; exact ⟨Nat.le_refl _, Nat.le_refl _⟩
          · exact ih _ _ _ _ _ (fun u hu => hr u (List.mem_cons_of_mem _ hu)) hk
      · intro t L' S' σ' hk

        split at hk
        · cases hk
        · rename_i e' q hq
          split at hk
          · rw [lf hk]; exact ⟨Nat.le_refl _, Nat.le_refl _⟩
          · obtain ⟨-, pre, hc⟩ := afrom_s hq
            exact ih _ _ _ _ _ (fun u hu => by rw [hc]; exact List.mem_append_right _ hu) hk
