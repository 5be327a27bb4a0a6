/-! the class's half of whole's part of this name -/
theorem wq {x : Int} (h1 : -2147483648 ≤ x) (h2 : x ≤ 2147483647) : w32 x = x := by unfold w32; omega
theorem wQ {x : Int} (h1 : -9223372036854775808 ≤ x) (h2 : x ≤ 9223372036854775807) : w64 x = x := by unfold w64; omega
theorem q_lt {a b : Int} (h : a < b) : (a < b) = True := eq_true h
theorem q_nlt {a b : Int} (h : b ≤ a) : (a < b) = False := eq_false (by omega)
theorem q_le {a b : Int} (h : a ≤ b) : (a ≤ b) = True := eq_true h
theorem q_nle {a b : Int} (h : b < a) : (a ≤ b) = False := eq_false (by omega)
theorem q_eq {a b : Int} (h : a = b) : (a = b) = True := eq_true h
theorem q_ne {a b : Int} (h : a ≠ b) : (a = b) = False := eq_false h
theorem q_01 {a : Int} (h0 : 0 ≤ a) (h1 : a ≤ 1) : (a = 0 ∨ a = 1) = True := eq_true (by omega)
theorem alen_aput (σ : aS) (x j v y : Int) : alen (aput σ x j v) y = alen σ y := rfl
theorem ag_s (σ : aS) (x j v : Int) : aget (aput σ x j v) x j = v := by unfold aget aput; exact if_pos ⟨rfl, rfl⟩
theorem ag_x {σ : aS} {x y j k v : Int} (h : y ≠ x) : aget (aput σ x j v) y k = aget σ y k := by unfold aget aput; exact if_neg (fun q => h q.1)
theorem ag_j {σ : aS} {x y j k v : Int} (h : k ≠ j) : aget (aput σ x j v) y k = aget σ y k := by unfold aget aput; exact if_neg (fun q => h q.2)
theorem ag_e {σ : aS} {x j k v : Int} (h : k = j) : aget (aput σ x j v) x k = v := by rw [h, ag_s]
theorem ag_if (σ : aS) (x j v y k : Int) : aget (aput σ x j v) y k = if y = x ∧ k = j then v else aget σ y k := rfl
theorem aS_ext {σ τ : aS} (h1 : σ.1 = τ.1) (h2 : ∀ x j, aget σ x j = aget τ x j) (h3 : σ.2.2 = τ.2.2) : σ = τ := by
  obtain ⟨k, h, n⟩ := σ
  obtain ⟨k', h', n'⟩ := τ
  simp only at h1 h3
  subst h1; subst h3
  have : h = h' := funext fun x => funext fun j => h2 x j
  rw [this]
theorem ap_self {σ : aS} {x j v : Int} (h : aget σ x j = v) : aput σ x j v = σ := by
  refine aS_ext rfl (fun y k => ?_) rfl
  rw [ag_if]
  by_cases q : y = x ∧ k = j
  · rw [if_pos q, q.1, q.2, h]
  · rw [if_neg q]
theorem al_go {c : Nat} {B : List Int → aS → aR} {n : Nat} {vs vs' : List Int} {σ σ' : aS} (h : B vs σ = some (c, vs', σ')) : aloop c B (n + 1) vs σ = aloop c B n vs' σ' := by
  show (match B vs σ with
    | some (t, vs', σ') => if t = c then aloop c B n vs' σ' else some (t, vs', σ')
    | none => none) = _
  rw [h]
  exact if_pos rfl
theorem al_out {c : Nat} {B : List Int → aS → aR} {n : Nat} {vs : List Int} {σ : aS} {r : Nat × List Int × aS} (h : B vs σ = some r) (hr : r.1 ≠ c) : aloop c B (n + 1) vs σ = some r := by
  obtain ⟨t, vs', σ'⟩ := r
  show (match B vs σ with
    | some (t, vs', σ') => if t = c then aloop c B n vs' σ' else some (t, vs', σ')
    | none => none) = _
  rw [h]
  exact if_neg hr
theorem al_up {c : Nat} {B : List Int → aS → aR} (f : Int → List Int) (g : Int → aS) {r : Nat × List Int × aS} {n : Int}
    (hgo : ∀ k, 0 ≤ k → k < n → B (f k) (g k) = some (c, f (k + 1), g (k + 1))) (hout : B (f n) (g n) = some r) (hr : r.1 ≠ c) :
    ∀ (m : Nat) (i : Int), 0 ≤ i → i ≤ n → n - i < m → aloop c B m (f i) (g i) = some r := by
  intro m
  induction m with
  | zero => intro i _ h1 h2; omega
  | succ m ih =>
    intro i h0 h1 h2
    by_cases h : i = n
    · subst h; exact al_out hout hr
    · rw [al_go (hgo i h0 (by omega))]
      exact ih (i + 1) (by omega) (by omega) (by omega)
/-- a loop that counts from 0 to n with an explicit course -/
theorem al_0 {c : Nat} {B : List Int → aS → aR} (f : Int → List Int) (g : Int → aS) {r : Nat × List Int × aS} {n : Int} (hn : 0 ≤ n) (hb : n < 1000000)
    (hgo : ∀ k, 0 ≤ k → k < n → B (f k) (g k) = some (c, f (k + 1), g (k + 1))) (hout : B (f n) (g n) = some r) (hr : r.1 ≠ c) :
    aloop c B aBig (f 0) (g 0) = some r := al_up f g hgo hout hr aBig 0 (by omega) hn (by unfold aBig; omega)
/-- a loop with an invariant: it goes on from k to k + 1 up to n at most, or ends with Q -/
theorem al_inv {c : Nat} {B : List Int → aS → aR} (I : Int → List Int → aS → Prop) (Q : Nat × List Int × aS → Prop) {n : Int}
    (hst : ∀ k vs σ, k ≤ n → I k vs σ → (k < n ∧ ∃ vs' σ', B vs σ = some (c, vs', σ') ∧ I (k + 1) vs' σ') ∨ ∃ r, B vs σ = some r ∧ r.1 ≠ c ∧ Q r) :
    ∀ (m : Nat) (i : Int) vs σ, i ≤ n → n - i < m → I i vs σ → ∃ r, aloop c B m vs σ = some r ∧ Q r := by
  intro m
  induction m with
  | zero => intro i _ _ h1 h2; omega
  | succ m ih =>
    intro i vs σ h1 h2 hI
    rcases hst i vs σ h1 hI with ⟨h3, vs', σ', hB, hI'⟩ | ⟨r, hB, hr, hQ⟩
    · rw [al_go hB]
      exact ih (i + 1) vs' σ' (by omega) (by omega) hI'
    · exact ⟨r, al_out hB hr, hQ⟩
theorem al_I {c : Nat} {B : List Int → aS → aR} (I : Int → List Int → aS → Prop) (Q : Nat × List Int × aS → Prop) {n i : Int} {vs : List Int} {σ : aS} (h1 : i ≤ n) (h2 : n - i < 1000000) (h0 : I i vs σ)
    (hst : ∀ k vs σ, k ≤ n → I k vs σ → (k < n ∧ ∃ vs' σ', B vs σ = some (c, vs', σ') ∧ I (k + 1) vs' σ') ∨ ∃ r, B vs σ = some r ∧ r.1 ≠ c ∧ Q r) :
    ∃ r, aloop c B aBig vs σ = some r ∧ Q r := al_inv I Q hst aBig i vs σ h1 (by unfold aBig; omega) h0
def smN (f : Int → Int) : Nat → Int
  | 0 => 0
  | n + 1 => smN f n + f n
def sI (f : Int → Int) (n : Int) : Int := smN f n.toNat
theorem sI_0 (f : Int → Int) : sI f 0 = 0 := rfl
theorem sI_s {f : Int → Int} {n : Int} (h : 0 ≤ n) : sI f (n + 1) = sI f n + f n := by
  obtain ⟨k, rfl⟩ := Int.eq_ofNat_of_zero_le h
  rfl
theorem smN_congr {f g : Int → Int} {n : Nat} (h : ∀ k : Int, 0 ≤ k → k < n → f k = g k) : smN f n = smN g n := by
  induction n with
  | zero => rfl
  | succ n ih =>
    unfold smN
    rw [ih (fun k h0 h1 => h k h0 (by omega)), h n (by omega) (by omega)]
theorem sI_congr {f g : Int → Int} {n : Int} (h : ∀ k, 0 ≤ k → k < n → f k = g k) : sI f n = sI g n := smN_congr (fun k h0 h1 => h k h0 (by omega))
theorem smN_bd {f : Int → Int} {a b : Int} {n : Nat} (h : ∀ k : Int, 0 ≤ k → k < n → a ≤ f k ∧ f k ≤ b) : a * n ≤ smN f n ∧ smN f n ≤ b * n := by
  induction n with
  | zero => simp [smN]
  | succ n ih =>
    have h1 := ih (fun k h0 h1 => h k h0 (by omega))
    have h2 := h n (by omega) (by omega)
    unfold smN
    rw [show ((n + 1 : Nat) : Int) = (n : Int) + 1 from rfl, Int.mul_add, Int.mul_add]
    omega
theorem sI_bd {f : Int → Int} {a b n : Int} (hn : 0 ≤ n) (h : ∀ k, 0 ≤ k → k < n → a ≤ f k ∧ f k ≤ b) : a * n ≤ sI f n ∧ sI f n ≤ b * n := by
  have := smN_bd (f := f) (a := a) (b := b) (n := n.toNat) (fun k h0 h1 => h k h0 (by omega))
  rw [show ((n.toNat : Nat) : Int) = n from Int.toNat_of_nonneg hn] at this
  exact this
theorem sI_1 (f : Int → Int) : sI f 1 = f 0 := by rw [show (1 : Int) = 0 + 1 from rfl, sI_s (by omega), sI_0]; omega
theorem sI_2 (f : Int → Int) : sI f 2 = f 0 + f 1 := by rw [show (2 : Int) = 1 + 1 from rfl, sI_s (by omega), sI_1]
theorem sI_3 (f : Int → Int) : sI f 3 = f 0 + f 1 + f 2 := by rw [show (3 : Int) = 2 + 1 from rfl, sI_s (by omega), sI_2]
theorem sI_4 (f : Int → Int) : sI f 4 = f 0 + f 1 + f 2 + f 3 := by rw [show (4 : Int) = 3 + 1 from rfl, sI_s (by omega), sI_3]
theorem sI_5 (f : Int → Int) : sI f 5 = f 0 + f 1 + f 2 + f 3 + f 4 := by rw [show (5 : Int) = 4 + 1 from rfl, sI_s (by omega), sI_4]
/-- the first of i, i + 1, .. n - 1 with P; n if there is none -/
def ffN (P : Int → Bool) : Nat → Int → Int
  | 0, i => i
  | n + 1, i => if P i = true then i else ffN P n (i + 1)
def ff (P : Int → Bool) (n : Int) : Int := ffN P n.toNat 0
theorem ffN_spec (P : Int → Bool) : ∀ (n : Nat) (i : Int), i ≤ ffN P n i ∧ ffN P n i ≤ i + n ∧ (∀ k, i ≤ k → k < ffN P n i → P k = false) ∧ (ffN P n i < i + n → P (ffN P n i) = true) := by
  intro n
  induction n with
  | zero => intro i; exact ⟨Int.le_refl _, by show i ≤ i + 0; omega, fun k h1 h2 => absurd h2 (by show ¬ (k < i); omega), fun h => absurd h (by show ¬ (i < i + 0); omega)⟩
  | succ n ih =>
    intro i
    unfold ffN
    by_cases h : P i = true
    · rw [if_pos h]
      exact ⟨Int.le_refl _, by omega, fun k h1 h2 => by omega, fun _ => h⟩
    · rw [if_neg h]
      obtain ⟨h1, h2, h3, h4⟩ := ih (i + 1)
      refine ⟨by omega, by omega, fun k hk1 hk2 => ?_, fun q => h4 (by omega)⟩
      by_cases e : k = i
      · subst e; exact Bool.eq_false_iff.mpr h
      · exact h3 k (by omega) hk2
theorem ff_0 (P : Int → Bool) {n : Int} : 0 ≤ ff P n := (ffN_spec P n.toNat 0).1
theorem ff_n (P : Int → Bool) {n : Int} (hn : 0 ≤ n) : ff P n ≤ n := by have := (ffN_spec P n.toNat 0).2.1; unfold ff; omega
theorem ff_no {P : Int → Bool} {n k : Int} (h0 : 0 ≤ k) (h1 : k < ff P n) : P k = false := (ffN_spec P n.toNat 0).2.2.1 k h0 h1
theorem ff_at {P : Int → Bool} {n : Int} (h : ff P n < n) : P (ff P n) = true := (ffN_spec P n.toNat 0).2.2.2 (by have := ff_0 P (n := n); unfold ff at *; omega)
theorem ff_uniq {P : Int → Bool} {n k : Int} (h0 : 0 ≤ k) (h1 : k ≤ n) (hno : ∀ j, 0 ≤ j → j < k → P j = false) (hat : k < n → P k = true) : ff P n = k := by
  have a0 := ff_0 P (n := n)
  have a1 := ff_n P (n := n) (by omega)
  by_cases h : ff P n < k
  · have q1 := ff_at (P := P) (n := n) (by omega)
    rw [hno _ a0 h] at q1; cases q1
  · by_cases h2 : k < ff P n
    · have q1 := ff_no (P := P) (n := n) h0 h2
      rw [hat (by omega)] at q1; cases q1
    · omega
theorem ff_congr {P Q : Int → Bool} {n : Int} (h : ∀ k, 0 ≤ k → k < n → P k = Q k) : ff P n = ff Q n := by
  by_cases hn : 0 ≤ n
  · refine ff_uniq (ff_0 Q) (ff_n Q hn) (fun j h0 h1 => ?_) (fun q => ?_)
    · rw [h j h0 (by have := ff_n Q hn; omega)]; exact ff_no h0 h1
    · rw [h _ (ff_0 Q) q]; exact ff_at q
  · unfold ff; rw [show n.toNat = 0 by omega]; rfl
