/-! the pieces put together: what the functions say, the abstract machine does -/
def astepn (F : Nat → List Int → aS → aR) (X : aX) (nL : Nat) (code : List aE) : Nat → Nat × List Int × aS → aR
  | 0, x => some x
  | n + 1, x => match x.1 with
    | 0 => none
    | pc + 1 => match aseg F X nL code pc x.2.1 x.2.2 with
      | some y => astepn F X nL code n y
      | none => none
theorem astepn_add {F : Nat → List Int → aS → aR} {X : aX} {nL : Nat} {code : List aE} : ∀ (n k : Nat) (x y z : Nat × List Int × aS), astepn F X nL code n x = some y → astepn F X nL code k y = some z → astepn F X nL code (n + k) x = some z := by
  intro n
  induction n with
  | zero => intro k x y z h1 h2; cases h1; rw [Nat.zero_add]; exact h2
  | succ n ih =>
    intro k x y z h1 h2
    rw [show n + 1 + k = (n + k) + 1 by omega]
    unfold astepn at h1 ⊢
    split at h1
    · cases h1
    · rename_i pc hpc
      split at h1
      · rename_i w hw
        exact ih k w y z h1 h2
      · cases h1
theorem astepn_iter {F : Nat → List Int → aS → aR} {X : aX} {nL : Nat} {code : List aE} : ∀ (n : Nat) (x : Nat × List Int × aS) (vs : List Int) (σ : aS), astepn F X nL code n x = some (0, vs, σ) → aiter F X nL code (n + 1) x = some (0, vs, σ) := by
  intro n
  induction n with
  | zero => intro x vs σ h; cases h; rfl
  | succ n ih =>
    intro x vs σ h
    obtain ⟨t, us, τ⟩ := x
    unfold astepn at h
    unfold aiter
    dsimp only at h ⊢
    cases t with
    | zero => cases h
    | succ pc =>
      dsimp only at h ⊢
      split at h
      · rename_i y hy
        rw [hy]
        exact ih y vs σ h
      · cases h
def aTo (F : Nat → List Int → aS → aR) (X : aX) (nL : Nat) (code : List aE) (x : Nat × List Int × aS) (m : aR) : Prop := ∀ y, m = some y → ∃ n, astepn F X nL code n x = some y
def aTT (F : Nat → List Int → aS → aR) (X : aX) (nL : Nat) (code : List aE) (t m : aR) : Prop := ∀ y, m = some y → ∃ z, t = some z ∧ ∃ n, astepn F X nL code n z = some y
section ATO
variable {F : Nat → List Int → aS → aR} {X : aX} {nL : Nat} {code : List aE}
theorem aTo_refl {x : Nat × List Int × aS} : aTo F X nL code x (some x) := fun y h => by cases h; exact ⟨0, rfl⟩
theorem aTo_none {x : Nat × List Int × aS} : aTo F X nL code x none := fun y h => by cases h
theorem aTo_seg {pc : Nat} {vs : List Int} {σ : aS} {t m : aR} (h : aseg F X nL code pc vs σ = t) (k : aTT F X nL code t m) : aTo F X nL code (pc + 1, vs, σ) m := by
  intro y hy
  obtain ⟨z, hz, n, hn⟩ := k y hy
  refine ⟨n + 1, ?_⟩
  unfold astepn
  dsimp only
  rw [h, hz]
  exact hn
theorem aTT_leaf {z : Nat × List Int × aS} {m : aR} (h : aTo F X nL code z m) : aTT F X nL code (some z) m := fun y hy => ⟨z, rfl, h y hy⟩
theorem aTT_none {t : aR} : aTT F X nL code t none := fun y h => by cases h
theorem aTT_ite {c : Prop} {hc : Decidable c} {t1 t2 m1 m2 : aR} (h1 : c → aTT F X nL code t1 m1) (h2 : ¬ c → aTT F X nL code t2 m2) : aTT F X nL code (@ite _ c hc t1 t2) (@ite _ c hc m1 m2) := by
  by_cases h : c
  · rw [if_pos h, if_pos h]; exact h1 h
  · rw [if_neg h, if_neg h]; exact h2 h
theorem aTT_call0 {q : aR} {f g : aS → aR} (h : ∀ σ, aTT F X nL code (f σ) (g σ)) : aTT F X nL code (acall0 q f) (acall0 q g) := by
  intro y hy
  obtain ⟨σ, h1, h2⟩ := acall0_s hy
  rw [h1]
  exact h σ y h2
theorem aTT_call1 {q : aR} {f g : Int → aS → aR} (h : ∀ v σ, aTT F X nL code (f v σ) (g v σ)) : aTT F X nL code (acall1 q f) (acall1 q g) := by
  intro y hy
  obtain ⟨v, σ, h1, h2⟩ := acall1_s hy
  rw [h1]
  exact h v σ y h2
theorem aTo_bind {x : Nat × List Int × aS} {m : aR} {f : Nat → List Int → aS → aR} (h1 : aTo F X nL code x m) (h2 : ∀ t vs σ, aTo F X nL code (t, vs, σ) (f t vs σ)) : aTo F X nL code x (abind m f) := by
  intro y hy
  unfold abind at hy
  split at hy
  · rename_i t vs σ
    obtain ⟨n, hn⟩ := h1 _ rfl
    obtain ⟨k, hk⟩ := h2 t vs σ y hy
    exact ⟨n + k, astepn_add n k _ _ _ hn hk⟩
  · cases hy
theorem aTo_loop {c : Nat} {B : List Int → aS → aR} (h : ∀ vs σ, aTo F X nL code (c, vs, σ) (B vs σ)) : ∀ (n : Nat) (vs : List Int) (σ : aS), aTo F X nL code (c, vs, σ) (aloop c B n vs σ) := by
  intro n
  induction n with
  | zero => intro vs σ; exact aTo_none
  | succ n ih =>
    intro vs σ y hy
    unfold aloop at hy
    split at hy
    · rename_i t vs' σ' hB
      obtain ⟨k1, hk1⟩ := h vs σ _ hB
      split at hy
      · rename_i e
        subst e
        obtain ⟨k2, hk2⟩ := ih vs' σ' y hy
        exact ⟨k1 + k2, astepn_add _ _ _ _ _ hk1 hk2⟩
      · cases hy
        exact ⟨k1, hk1⟩
    · cases hy
theorem aTo_d {t e : Nat} {vs : List Int} {σ : aS} {k : List Int → aS → aR} {m : aR} (h : ∀ vs σ, aTo F X nL code (e, vs, σ) (k vs σ)) (h2 : aTo F X nL code (t, vs, σ) m) : aTo F X nL code (t, vs, σ) (if t = e then k vs σ else m) := by
  by_cases q : t = e
  · subst q
    rw [if_pos rfl]
    exact h vs σ
  · rw [if_neg q]
    exact h2

def aU0 (B : aS → aR) : List Int → aS → aR
  | [], σ => B  σ
  | _, _ => none
theorem aTo_u0 {c : Nat} {B : aS → aR} (h : ∀ σ, aTo F X nL code (c, [], σ) (B  σ)) : ∀ vs σ, aTo F X nL code (c, vs, σ) (aU0 B vs σ) := by
  intro vs σ
  unfold aU0
  split
  · exact h _
  · exact aTo_none
def aU1 (B : Int → aS → aR) : List Int → aS → aR
  | [x0], σ => B x0 σ
  | _, _ => none
theorem aTo_u1 {c : Nat} {B : Int → aS → aR} (h : ∀ x0 : Int, ∀ σ, aTo F X nL code (c, [x0], σ) (B x0 σ)) : ∀ vs σ, aTo F X nL code (c, vs, σ) (aU1 B vs σ) := by
  intro vs σ
  unfold aU1
  split
  · exact h _ _
  · exact aTo_none
def aU2 (B : Int → Int → aS → aR) : List Int → aS → aR
  | [x0, x1], σ => B x0 x1 σ
  | _, _ => none
theorem aTo_u2 {c : Nat} {B : Int → Int → aS → aR} (h : ∀ x0 x1 : Int, ∀ σ, aTo F X nL code (c, [x0, x1], σ) (B x0 x1 σ)) : ∀ vs σ, aTo F X nL code (c, vs, σ) (aU2 B vs σ) := by
  intro vs σ
  unfold aU2
  split
  · exact h _ _ _
  · exact aTo_none
def aU3 (B : Int → Int → Int → aS → aR) : List Int → aS → aR
  | [x0, x1, x2], σ => B x0 x1 x2 σ
  | _, _ => none
theorem aTo_u3 {c : Nat} {B : Int → Int → Int → aS → aR} (h : ∀ x0 x1 x2 : Int, ∀ σ, aTo F X nL code (c, [x0, x1, x2], σ) (B x0 x1 x2 σ)) : ∀ vs σ, aTo F X nL code (c, vs, σ) (aU3 B vs σ) := by
  intro vs σ
  unfold aU3
  split
  · exact h _ _ _ _
  · exact aTo_none
def aU4 (B : Int → Int → Int → Int → aS → aR) : List Int → aS → aR
  | [x0, x1, x2, x3], σ => B x0 x1 x2 x3 σ
  | _, _ => none
theorem aTo_u4 {c : Nat} {B : Int → Int → Int → Int → aS → aR} (h : ∀ x0 x1 x2 x3 : Int, ∀ σ, aTo F X nL code (c, [x0, x1, x2, x3], σ) (B x0 x1 x2 x3 σ)) : ∀ vs σ, aTo F X nL code (c, vs, σ) (aU4 B vs σ) := by
  intro vs σ
  unfold aU4
  split
  · exact h _ _ _ _ _
  · exact aTo_none
def aU5 (B : Int → Int → Int → Int → Int → aS → aR) : List Int → aS → aR
  | [x0, x1, x2, x3, x4], σ => B x0 x1 x2 x3 x4 σ
  | _, _ => none
theorem aTo_u5 {c : Nat} {B : Int → Int → Int → Int → Int → aS → aR} (h : ∀ x0 x1 x2 x3 x4 : Int, ∀ σ, aTo F X nL code (c, [x0, x1, x2, x3, x4], σ) (B x0 x1 x2 x3 x4 σ)) : ∀ vs σ, aTo F X nL code (c, vs, σ) (aU5 B vs σ) := by
  intro vs σ
  unfold aU5
  split
  · exact h _ _ _ _ _ _
  · exact aTo_none
def aU6 (B : Int → Int → Int → Int → Int → Int → aS → aR) : List Int → aS → aR
  | [x0, x1, x2, x3, x4, x5], σ => B x0 x1 x2 x3 x4 x5 σ
  | _, _ => none
theorem aTo_u6 {c : Nat} {B : Int → Int → Int → Int → Int → Int → aS → aR} (h : ∀ x0 x1 x2 x3 x4 x5 : Int, ∀ σ, aTo F X nL code (c, [x0, x1, x2, x3, x4, x5], σ) (B x0 x1 x2 x3 x4 x5 σ)) : ∀ vs σ, aTo F X nL code (c, vs, σ) (aU6 B vs σ) := by
  intro vs σ
  unfold aU6
  split
  · exact h _ _ _ _ _ _ _
  · exact aTo_none
def aU7 (B : Int → Int → Int → Int → Int → Int → Int → aS → aR) : List Int → aS → aR
  | [x0, x1, x2, x3, x4, x5, x6], σ => B x0 x1 x2 x3 x4 x5 x6 σ
  | _, _ => none
theorem aTo_u7 {c : Nat} {B : Int → Int → Int → Int → Int → Int → Int → aS → aR} (h : ∀ x0 x1 x2 x3 x4 x5 x6 : Int, ∀ σ, aTo F X nL code (c, [x0, x1, x2, x3, x4, x5, x6], σ) (B x0 x1 x2 x3 x4 x5 x6 σ)) : ∀ vs σ, aTo F X nL code (c, vs, σ) (aU7 B vs σ) := by
  intro vs σ
  unfold aU7
  split
  · exact h _ _ _ _ _ _ _ _
  · exact aTo_none
def aU8 (B : Int → Int → Int → Int → Int → Int → Int → Int → aS → aR) : List Int → aS → aR
  | [x0, x1, x2, x3, x4, x5, x6, x7], σ => B x0 x1 x2 x3 x4 x5 x6 x7 σ
  | _, _ => none
theorem aTo_u8 {c : Nat} {B : Int → Int → Int → Int → Int → Int → Int → Int → aS → aR} (h : ∀ x0 x1 x2 x3 x4 x5 x6 x7 : Int, ∀ σ, aTo F X nL code (c, [x0, x1, x2, x3, x4, x5, x6, x7], σ) (B x0 x1 x2 x3 x4 x5 x6 x7 σ)) : ∀ vs σ, aTo F X nL code (c, vs, σ) (aU8 B vs σ) := by
  intro vs σ
  unfold aU8
  split
  · exact h _ _ _ _ _ _ _ _ _
  · exact aTo_none
def aU9 (B : Int → Int → Int → Int → Int → Int → Int → Int → Int → aS → aR) : List Int → aS → aR
  | [x0, x1, x2, x3, x4, x5, x6, x7, x8], σ => B x0 x1 x2 x3 x4 x5 x6 x7 x8 σ
  | _, _ => none
theorem aTo_u9 {c : Nat} {B : Int → Int → Int → Int → Int → Int → Int → Int → Int → aS → aR} (h : ∀ x0 x1 x2 x3 x4 x5 x6 x7 x8 : Int, ∀ σ, aTo F X nL code (c, [x0, x1, x2, x3, x4, x5, x6, x7, x8], σ) (B x0 x1 x2 x3 x4 x5 x6 x7 x8 σ)) : ∀ vs σ, aTo F X nL code (c, vs, σ) (aU9 B vs σ) := by
  intro vs σ
  unfold aU9
  split
  · exact h _ _ _ _ _ _ _ _ _ _
  · exact aTo_none
def aU10 (B : Int → Int → Int → Int → Int → Int → Int → Int → Int → Int → aS → aR) : List Int → aS → aR
  | [x0, x1, x2, x3, x4, x5, x6, x7, x8, x9], σ => B x0 x1 x2 x3 x4 x5 x6 x7 x8 x9 σ
  | _, _ => none
theorem aTo_u10 {c : Nat} {B : Int → Int → Int → Int → Int → Int → Int → Int → Int → Int → aS → aR} (h : ∀ x0 x1 x2 x3 x4 x5 x6 x7 x8 x9 : Int, ∀ σ, aTo F X nL code (c, [x0, x1, x2, x3, x4, x5, x6, x7, x8, x9], σ) (B x0 x1 x2 x3 x4 x5 x6 x7 x8 x9 σ)) : ∀ vs σ, aTo F X nL code (c, vs, σ) (aU10 B vs σ) := by
  intro vs σ
  unfold aU10
  split
  · exact h _ _ _ _ _ _ _ _ _ _ _
  · exact aTo_none
def aU11 (B : Int → Int → Int → Int → Int → Int → Int → Int → Int → Int → Int → aS → aR) : List Int → aS → aR
  | [x0, x1, x2, x3, x4, x5, x6, x7, x8, x9, x10], σ => B x0 x1 x2 x3 x4 x5 x6 x7 x8 x9 x10 σ
  | _, _ => none
theorem aTo_u11 {c : Nat} {B : Int → Int → Int → Int → Int → Int → Int → Int → Int → Int → Int → aS → aR} (h : ∀ x0 x1 x2 x3 x4 x5 x6 x7 x8 x9 x10 : Int, ∀ σ, aTo F X nL code (c, [x0, x1, x2, x3, x4, x5, x6, x7, x8, x9, x10], σ) (B x0 x1 x2 x3 x4 x5 x6 x7 x8 x9 x10 σ)) : ∀ vs σ, aTo F X nL code (c, vs, σ) (aU11 B vs σ) := by
  intro vs σ
  unfold aU11
  split
  · exact h _ _ _ _ _ _ _ _ _ _ _ _
  · exact aTo_none
def aU12 (B : Int → Int → Int → Int → Int → Int → Int → Int → Int → Int → Int → Int → aS → aR) : List Int → aS → aR
  | [x0, x1, x2, x3, x4, x5, x6, x7, x8, x9, x10, x11], σ => B x0 x1 x2 x3 x4 x5 x6 x7 x8 x9 x10 x11 σ
  | _, _ => none
theorem aTo_u12 {c : Nat} {B : Int → Int → Int → Int → Int → Int → Int → Int → Int → Int → Int → Int → aS → aR} (h : ∀ x0 x1 x2 x3 x4 x5 x6 x7 x8 x9 x10 x11 : Int, ∀ σ, aTo F X nL code (c, [x0, x1, x2, x3, x4, x5, x6, x7, x8, x9, x10, x11], σ) (B x0 x1 x2 x3 x4 x5 x6 x7 x8 x9 x10 x11 σ)) : ∀ vs σ, aTo F X nL code (c, vs, σ) (aU12 B vs σ) := by
  intro vs σ
  unfold aU12
  split
  · exact h _ _ _ _ _ _ _ _ _ _ _ _ _
  · exact aTo_none
def aU13 (B : Int → Int → Int → Int → Int → Int → Int → Int → Int → Int → Int → Int → Int → aS → aR) : List Int → aS → aR
  | [x0, x1, x2, x3, x4, x5, x6, x7, x8, x9, x10, x11, x12], σ => B x0 x1 x2 x3 x4 x5 x6 x7 x8 x9 x10 x11 x12 σ
  | _, _ => none
theorem aTo_u13 {c : Nat} {B : Int → Int → Int → Int → Int → Int → Int → Int → Int → Int → Int → Int → Int → aS → aR} (h : ∀ x0 x1 x2 x3 x4 x5 x6 x7 x8 x9 x10 x11 x12 : Int, ∀ σ, aTo F X nL code (c, [x0, x1, x2, x3, x4, x5, x6, x7, x8, x9, x10, x11, x12], σ) (B x0 x1 x2 x3 x4 x5 x6 x7 x8 x9 x10 x11 x12 σ)) : ∀ vs σ, aTo F X nL code (c, vs, σ) (aU13 B vs σ) := by
  intro vs σ
  unfold aU13
  split
  · exact h _ _ _ _ _ _ _ _ _ _ _ _ _ _
  · exact aTo_none
end ATO
