/-! hunt and flee: two sorts, two towns -/
def GQ (Q : aS → Prop) (t : Nat) (vs : List Int) (σ : aS) (r : aR) : Prop := ∃ τ, r = some (t, vs, τ) ∧ Fp wca σ τ ∧ Q τ
section GQ
variable {T : aH} {S : aSS} {t : Nat} {vs : List Int} {σ : aS} {r : aR} {v x : Int} {f : Int → aS → aR} {Q : aS → Prop}
theorem AnsC.gq (h : AnsC T S σ r v) (e : v = x) (k : ∀ τ, CSt T S τ → GQ Q t vs τ (f x τ)) : GQ Q t vs σ (acall1 r f) := by
  obtain ⟨τ, rfl, hF, hC⟩ := h
  subst e
  obtain ⟨υ, e, hF2, hq⟩ := k τ hC
  exact ⟨υ, e, hF.tr hF2, hq⟩
theorem GQ.p {c : Prop} [Decidable c] {A B : aR} (h : c) (k : GQ Q t vs σ A) : GQ Q t vs σ (if c then A else B) := by rw [if_pos h]; exact k
theorem GQ.n {c : Prop} [Decidable c] {A B : aR} (h : ¬ c) (k : GQ Q t vs σ B) : GQ Q t vs σ (if c then A else B) := by rw [if_neg h]; exact k
theorem GQ.e (h : Q σ) : GQ Q t vs σ (some (t, vs, σ)) := ⟨σ, rfl, Fp.rf _ _, h⟩
theorem GQ.tr {τ : aS} (hF : Fp wca σ τ) (h : GQ Q t vs τ r) : GQ Q t vs σ r := by
  obtain ⟨υ, e, hF2, hq⟩ := h
  exact ⟨υ, e, hF.tr hF2, hq⟩
end GQ
/-- a chain of goings that comes to a ring -/
theorem chainR {T N : aH} {F G : Nat} (hG : G ≤ 300) (hFG : F < G) (hfi : ∀ i : Nat, i < G → fiS T (itn T i N) < T 0 1) (hinj : ∀ i g : Nat, i < g → g < G → pkP T (itn T i N) ≠ pkP T (itn T g N)) (hi : ∀ i : Nat, i < F → pkP T (itn T i N) ≠ pkP T (itn T G N)) (he : pkP T (itn T F N) = pkP T (itn T G N)) :
    trE T N = 2 ∧ trP T N = G - F := by
  have hF : ∀ g : Nat, g < G → trF T N g = g := by
    intro g hg
    unfold trF
    refine ff_uniq (by omega) (Int.le_refl _) (fun j j0 j1 => ?_) (fun q => by omega)
    obtain ⟨i, rfl⟩ := Int.eq_ofNat_of_zero_le j0
    unfold same itN
    rw [Int.toNat_natCast, Int.toNat_natCast]
    exact decide_eq_false (hinj i g (by omega) hg)
  have hFF : trF T N G = F := by
    unfold trF
    refine ff_uniq (by omega) (by omega) (fun j j0 j1 => ?_) (fun q => ?_)
    · obtain ⟨i, rfl⟩ := Int.eq_ofNat_of_zero_le j0
      unfold same itN
      rw [Int.toNat_natCast, Int.toNat_natCast]
      exact decide_eq_false (hi i (by omega))
    · unfold same itN
      rw [Int.toNat_natCast, Int.toNat_natCast]
      exact decide_eq_true he
  have hT : trG T N = G := by
    unfold trG
    refine ff_uniq (by omega) (by omega) (fun j j0 j1 => ?_) (fun _ => ?_)
    · obtain ⟨i, rfl⟩ := Int.eq_ofNat_of_zero_le j0
      rw [hF i (by omega), decide_eq_false (by omega), Bool.false_or]
      unfold itN
      rw [Int.toNat_natCast, decide_eq_true (hfi i (by omega))]; rfl
    · rw [hFF, decide_eq_true (by omega)]; rfl
  unfold trE trP
  rw [hT, hFF, if_pos (by omega), if_pos (by omega), if_pos ⟨by omega, by omega⟩]
  exact ⟨rfl, rfl⟩
def A2 (T : aH) (l : Int) : Prop := (T 0 0 = 0 ∧ T 0 1 = 2 ∧ T 0 2 = 2 ∧ T 0 5 = 0) ∧ (T 2 0 = 1 ∧ T 2 2 = 0 ∧ T 2 3 = 0 ∧ T 2 4 = 1 ∧ T 2 6 = 0 ∧ T 2 7 = 0) ∧ (T 4 0 = 0 ∧ T 4 1 = l ∧ T 4 5 = -l ∧ T 4 6 = 0) ∧ (T 8 0 = 30 ∧ T 8 1 = 2000 ∧ T 8 2 = 30 ∧ T 8 3 = 2000) ∧ (T 9 0 = 0 ∧ T 10 0 = 2 ∧ T 9 1 = 2 ∧ T 10 1 = 4) ∧ (1 ≤ l ∧ l ≤ 20)
def ind (p i : Nat) : Int := if p = i then 1 else 0
/-- hunt is at e / 3, flee at e % 3 -/
def M2 (N : aH) (e : Nat) : Prop := (N 0 0 = ind (e / 3) 0 ∧ N 0 1 = ind (e / 3) 1 ∧ N 0 2 = ind (e / 3) 2) ∧ (N 0 5 = ind (e % 3) 0 ∧ N 0 6 = ind (e % 3) 1 ∧ N 0 7 = ind (e % 3) 2) ∧ (N 1 0 = 0 ∧ N 1 1 = 0 ∧ N 2 0 = 0 ∧ N 2 1 = 0 ∧ N 4 0 = -1 ∧ N 3 0 = 0)
def stp (e : Nat) : Nat := ([1, 4, 0, 0, 3, 3, 0, 1, 2] : List Nat).getD e 0
section TWO
variable {T N : aH} {l : Int}
theorem A2.rl (h : A2 T l) (f : Int → Int) (s : Int) : rul T 0 f s = -831600 ∧ rul T 1 f s = -831600 := by
  obtain ⟨-, -, -, ⟨h80, h81, h82, h83⟩, ⟨h90, ha0, h91, ha1⟩, -⟩ := h
  have st : ∀ t k : Int, T 8 k = 30 → T 8 (k + 1) = 2000 → rrn T t f s 2 k [] = some [-831600] := by
    intro t k e1 e2
    show (match rst T t f s (T 8 k) [] with
      | some r => (match rst T t f s (T 8 (k + 1)) r with
        | some r => some r
        | none => none)
      | none => none) = _
    rw [e1, e2]
    rfl
  refine ⟨?_, ?_⟩
  · unfold rul
    rw [ha0, h90, show ((2 : Int) - 0).toNat = 2 from rfl, st 0 0 h80 (by rw [show (0 : Int) + 1 = 1 from rfl]; exact h81)]
  · unfold rul
    rw [ha1, h91, show ((4 : Int) - 2).toNat = 2 from rfl, st 1 2 h82 (by rw [show (2 : Int) + 1 = 3 from rfl]; exact h83)]
theorem A2.lk (h : A2 T l) (t : Int) (f : Int → Int) : lik T t f 0 = l * f 1 ∧ lik T t f 1 = -(l * f 0) := by
  obtain ⟨⟨h00, h01, -⟩, -, ⟨h40, h41, h45, h46⟩, -⟩ := h
  unfold lik
  rw [h00, h01, sI0, sI2, sI0, sI2, show 5 * (0 : Int) + 0 = 0 by omega, show 5 * (0 : Int) + 1 = 1 by omega, show 5 * (1 : Int) + 0 = 5 by omega, show 5 * (1 : Int) + 1 = 6 by omega, h40, h41, h45, h46]
  refine ⟨?_, ?_⟩
  · rw [if_neg (show ¬ (1 : Int) = 0 by omega)]
    rw [Int.sub_zero]; omega
  · rw [if_neg (show ¬ (0 : Int) = 1 by omega), Int.sub_zero, Int.neg_mul]; omega
/-- what being at p is worth -/
def wv (x : Int) (p : Int) : Int := if p = 2 then 0 else 27720 * (x + 30)
theorem A2.wr (h : A2 T l) {e : Nat} (hN : M2 N e) {p : Int} (p0 : 0 ≤ p) (p2 : p ≤ 2) (f : Int → Int) : wrA T N 0 p f = wv (l * f 1) p ∧ wrA T N 1 p f = wv (-(l * f 0)) p := by
  obtain ⟨-, -, n10, n11, -, -, n4, -⟩ := hN
  obtain ⟨l1, l2⟩ := h.lk p f
  obtain ⟨r1, r2⟩ := h.rl f 0
  obtain ⟨r3, r4⟩ := h.rl f 1
  unfold wrA wv
  rw [h.1.2.2.1]
  by_cases c : p = 2
  · rw [if_pos c, if_pos c, if_pos c, if_pos c, show 4 * (0 : Int) + 2 = 2 by omega, show 4 * (1 : Int) + 2 = 6 by omega, h.2.1.2.1, h.2.1.2.2.2.2.1]
    exact ⟨rfl, rfl⟩
  · rw [if_neg c, if_neg c, if_neg c, if_neg c]
    unfold wor ask
    rw [if_neg (by omega), if_neg (by omega), l1, l2]
    rcases (show p = 0 ∨ p = 1 by omega) with q | q <;> rw [q]
    · rw [r1, r3, n10]; omega
    · rw [r2, r4, n11]; omega
theorem A2.cn (h : A2 T l) (p : Int) : ctn T N p 0 = N 0 p ∧ ctn T N p 1 = N 0 (5 + p) := by
  unfold ctn
  rw [h.1.2.1, if_pos (by omega), if_pos (by omega), show 5 * (0 : Int) + p = p by omega, show 5 * (1 : Int) + p = 5 + p by omega]
  exact ⟨rfl, rfl⟩
theorem A2.gn (h : A2 T l) {e : Nat} (hN : M2 N e) {a b : Int} (a0 : 0 ≤ a) (a2 : a ≤ 2) (b0 : 0 ≤ b) (b2 : b ≤ 2) :
    gai T N 0 a b = wv (l * N 0 (5 + b)) b - wv (l * N 0 (5 + a)) a ∧ gai T N 1 a b = wv (-(l * N 0 b)) b - wv (-(l * N 0 a)) a := by
  unfold gai
  rw [(h.wr hN b0 b2 _).1, (h.wr hN a0 a2 _).1, (h.wr hN b0 b2 _).2, (h.wr hN a0 a2 _).2, show 4 * (0 : Int) + 3 = 3 by omega, show 4 * (1 : Int) + 3 = 7 by omega, h.2.1.2.2.1, h.2.1.2.2.2.2.2]
  unfold adc
  rw [if_neg (show ¬ (1 : Int) = 0 by omega), if_neg (show ¬ (0 : Int) = 1 by omega), (h.cn (N := N) b).1, (h.cn (N := N) b).2, (h.cn (N := N) a).1, (h.cn (N := N) a).2]
  omega
theorem A2.bn (h : A2 T l) {e : Nat} (hN : M2 N e) {p : Int} (p0 : 0 ≤ p) (p2 : p ≤ 2) : bnd T N p = 0 := by
  unfold bnd
  rw [h.1.2.2.1]
  obtain ⟨-, -, -, -, n20, n21, -⟩ := hN
  rcases (show p = 0 ∨ p = 1 ∨ p = 2 by omega) with q | q | q <;> rw [q]
  · rw [if_pos (by omega)]; exact n20
  · rw [if_pos (by omega)]; exact n21
  · rfl
/-- the first who would, as a table: sort, from, to -/
def fst9 (e : Nat) : Int × Int × Int := ([(1, 0, 1), (0, 0, 1), (1, 2, 0), (0, 1, 0), (1, 1, 0), (1, 2, 0), (0, 2, 0), (0, 2, 0), (0, 2, 0)] : List (Int × Int × Int)).getD e (0, 0, 0)
theorem A2.f0 (h : A2 T l) (hN : M2 N 0) : fiS T N = 1 ∧ fiA T N 1 = 0 ∧ fiB T N 1 0 = 1 := by
  have hl := h.2.2.2.2.2
  have hn := hN
  obtain ⟨⟨x0, x1, x2⟩, ⟨y0, y1, y2⟩, -⟩ := hn
  replace x0 : N 0 0 = 1 := x0
  replace y0 : N 0 5 = 1 := y0
  replace x1 : N 0 1 = 0 := x1
  replace y1 : N 0 6 = 0 := y1
  replace x2 : N 0 2 = 0 := x2
  replace y2 : N 0 7 = 0 := y2
  have g001 : gai T N 0 0 1 = 27720 * (l * 0 + 30) - (27720 * (l * 1 + 30)) := by
    have := (h.gn hN (a := 0) (b := 1) (by omega) (by omega) (by omega) (by omega)).1
    rw [this, show (5 : Int) + 1 = 6 from rfl, show (5 : Int) + 0 = 5 from rfl, y1, y0]
    rfl
  have g002 : gai T N 0 0 2 = 0 - (27720 * (l * 1 + 30)) := by
    have := (h.gn hN (a := 0) (b := 2) (by omega) (by omega) (by omega) (by omega)).1
    rw [this, show (5 : Int) + 2 = 7 from rfl, show (5 : Int) + 0 = 5 from rfl, y2, y0]
    rfl
  have g101 : gai T N 1 0 1 = 27720 * (-(l * 0) + 30) - (27720 * (-(l * 1) + 30)) := by
    have := (h.gn hN (a := 0) (b := 1) (by omega) (by omega) (by omega) (by omega)).2
    rw [this, x1, x0]
    rfl
  have g102 : gai T N 1 0 2 = 0 - (27720 * (-(l * 1) + 30)) := by
    have := (h.gn hN (a := 0) (b := 2) (by omega) (by omega) (by omega) (by omega)).2
    rw [this, x2, x0]
    rfl
  have b0 : fiB T N 0 0 = 3 := by
    unfold fiB
    rw [h.1.2.2.1]
    refine ff_uniq (by omega) (by omega) (fun j j0 j1 => ?_) (fun _ => ?_)
    · rcases (show j = 0 ∨ j = 1 ∨ j = 2 by omega) with c | c | c <;> rw [c]
      · rw [decide_eq_true (rfl : (0 : Int) = 0)]; rfl
      · rw [g001, decide_eq_false (show ¬ (0 : Int) < 27720 * (l * 0 + 30) - (27720 * (l * 1 + 30)) by omega)]; exact Bool.and_false _
      · rw [g002, decide_eq_false (show ¬ (0 : Int) < 0 - (27720 * (l * 1 + 30)) by omega)]; exact Bool.and_false _
    · omega
  have b1 : fiB T N 1 0 = 1 := by
    unfold fiB
    rw [h.1.2.2.1]
    refine ff_uniq (by omega) (by omega) (fun j j0 j1 => ?_) (fun _ => ?_)
    · rcases (show j = 0 by omega) with c <;> rw [c]
      · rw [decide_eq_true (rfl : (0 : Int) = 0)]; rfl
    · rw [g101, decide_eq_true (show (0 : Int) < 27720 * (-(l * 0) + 30) - (27720 * (-(l * 1) + 30)) by omega), decide_eq_false (show ¬ (1 : Int) = 0 by omega)]; rfl
  have a0 : fiA T N 0 = 3 := by
    unfold fiA
    rw [h.1.2.2.1]
    refine ff_uniq (by omega) (by omega) (fun j j0 j1 => ?_) (fun _ => ?_)
    · rcases (show j = 0 ∨ j = 1 ∨ j = 2 by omega) with c | c | c <;> rw [c]
      · rw [b0, decide_eq_false (show ¬ (3 : Int) ≤ 2 by omega)]; exact Bool.and_false _
      · rw [show 5 * (0 : Int) + 1 = 1 from rfl, x1]; rfl
      · rw [show 5 * (0 : Int) + 2 = 2 from rfl, x2]; rfl
    · omega
  have a1 : fiA T N 1 = 0 := by
    unfold fiA
    rw [h.1.2.2.1]
    refine ff_uniq (by omega) (by omega) (fun j j0 j1 => ?_) (fun _ => ?_)
    · omega
    · rw [show 5 * (1 : Int) + 0 = 5 from rfl, y0, h.bn hN (by omega) (by omega), b1]; rfl
  have s0 : fiS T N = 1 := by
    unfold fiS
    rw [h.1.2.1, h.1.2.2.1, ff2, a0, a1]
    rfl
  exact ⟨s0, a1, b1⟩
theorem A2.n0 (h : A2 T l) (hN : M2 N 0) : fiS T N < T 0 1 ∧ M2 (nxt T N) 1 := by
  obtain ⟨e1, e2, e3⟩ := h.f0 hN
  refine ⟨by rw [e1, h.1.2.1]; omega, ?_⟩
  unfold nxt
  rw [e1, e2, e3]
  obtain ⟨⟨x0, x1, x2⟩, ⟨y0, y1, y2⟩, z⟩ := hN
  refine ⟨⟨?_, ?_, ?_⟩, ⟨?_, ?_, ?_⟩, z⟩
  · show N 0 0 - on1 1 0 + 0 = _; rw [x0]; decide +kernel
  · show N 0 1 - 0 + on1 1 0 = _; rw [x1]; decide +kernel
  · show N 0 2 - 0 + 0 = _; rw [x2]; decide +kernel
  · show N 0 5 - on1 1 1 + 0 = _; rw [y0]; decide +kernel
  · show N 0 6 - 0 + on1 1 1 = _; rw [y1]; decide +kernel
  · show N 0 7 - 0 + 0 = _; rw [y2]; decide +kernel
theorem A2.f1 (h : A2 T l) (hN : M2 N 1) : fiS T N = 0 ∧ fiA T N 0 = 0 ∧ fiB T N 0 0 = 1 := by
  have hl := h.2.2.2.2.2
  have hn := hN
  obtain ⟨⟨x0, x1, x2⟩, ⟨y0, y1, y2⟩, -⟩ := hn
  replace x0 : N 0 0 = 1 := x0
  replace y0 : N 0 5 = 0 := y0
  replace x1 : N 0 1 = 0 := x1
  replace y1 : N 0 6 = 1 := y1
  replace x2 : N 0 2 = 0 := x2
  replace y2 : N 0 7 = 0 := y2
  have g001 : gai T N 0 0 1 = 27720 * (l * 1 + 30) - (27720 * (l * 0 + 30)) := by
    have := (h.gn hN (a := 0) (b := 1) (by omega) (by omega) (by omega) (by omega)).1
    rw [this, show (5 : Int) + 1 = 6 from rfl, show (5 : Int) + 0 = 5 from rfl, y1, y0]
    rfl
  have g002 : gai T N 0 0 2 = 0 - (27720 * (l * 0 + 30)) := by
    have := (h.gn hN (a := 0) (b := 2) (by omega) (by omega) (by omega) (by omega)).1
    rw [this, show (5 : Int) + 2 = 7 from rfl, show (5 : Int) + 0 = 5 from rfl, y2, y0]
    rfl
  have g110 : gai T N 1 1 0 = 27720 * (-(l * 1) + 30) - (27720 * (-(l * 0) + 30)) := by
    have := (h.gn hN (a := 1) (b := 0) (by omega) (by omega) (by omega) (by omega)).2
    rw [this, x0, x1]
    rfl
  have g112 : gai T N 1 1 2 = 0 - (27720 * (-(l * 0) + 30)) := by
    have := (h.gn hN (a := 1) (b := 2) (by omega) (by omega) (by omega) (by omega)).2
    rw [this, x2, x1]
    rfl
  have b0 : fiB T N 0 0 = 1 := by
    unfold fiB
    rw [h.1.2.2.1]
    refine ff_uniq (by omega) (by omega) (fun j j0 j1 => ?_) (fun _ => ?_)
    · rcases (show j = 0 by omega) with c <;> rw [c]
      · rw [decide_eq_true (rfl : (0 : Int) = 0)]; rfl
    · rw [g001, decide_eq_true (show (0 : Int) < 27720 * (l * 1 + 30) - (27720 * (l * 0 + 30)) by omega), decide_eq_false (show ¬ (1 : Int) = 0 by omega)]; rfl
  have b1 : fiB T N 1 1 = 3 := by
    unfold fiB
    rw [h.1.2.2.1]
    refine ff_uniq (by omega) (by omega) (fun j j0 j1 => ?_) (fun _ => ?_)
    · rcases (show j = 0 ∨ j = 1 ∨ j = 2 by omega) with c | c | c <;> rw [c]
      · rw [g110, decide_eq_false (show ¬ (0 : Int) < 27720 * (-(l * 1) + 30) - (27720 * (-(l * 0) + 30)) by omega)]; exact Bool.and_false _
      · rw [decide_eq_true (rfl : (1 : Int) = 1)]; rfl
      · rw [g112, decide_eq_false (show ¬ (0 : Int) < 0 - (27720 * (-(l * 0) + 30)) by omega)]; exact Bool.and_false _
    · omega
  have a0 : fiA T N 0 = 0 := by
    unfold fiA
    rw [h.1.2.2.1]
    refine ff_uniq (by omega) (by omega) (fun j j0 j1 => ?_) (fun _ => ?_)
    · omega
    · rw [show 5 * (0 : Int) + 0 = 0 from rfl, x0, h.bn hN (by omega) (by omega), b0]; rfl
  have s0 : fiS T N = 0 := by
    unfold fiS
    rw [h.1.2.1, h.1.2.2.1, ff2, a0]
    rfl
  exact ⟨s0, a0, b0⟩
theorem A2.n1 (h : A2 T l) (hN : M2 N 1) : fiS T N < T 0 1 ∧ M2 (nxt T N) 4 := by
  obtain ⟨e1, e2, e3⟩ := h.f1 hN
  refine ⟨by rw [e1, h.1.2.1]; omega, ?_⟩
  unfold nxt
  rw [e1, e2, e3]
  obtain ⟨⟨x0, x1, x2⟩, ⟨y0, y1, y2⟩, z⟩ := hN
  refine ⟨⟨?_, ?_, ?_⟩, ⟨?_, ?_, ?_⟩, z⟩
  · show N 0 0 - on1 0 0 + 0 = _; rw [x0]; decide +kernel
  · show N 0 1 - 0 + on1 0 0 = _; rw [x1]; decide +kernel
  · show N 0 2 - 0 + 0 = _; rw [x2]; decide +kernel
  · show N 0 5 - on1 0 1 + 0 = _; rw [y0]; decide +kernel
  · show N 0 6 - 0 + on1 0 1 = _; rw [y1]; decide +kernel
  · show N 0 7 - 0 + 0 = _; rw [y2]; decide +kernel
theorem A2.f2 (h : A2 T l) (hN : M2 N 2) : fiS T N = 1 ∧ fiA T N 1 = 2 ∧ fiB T N 1 2 = 0 := by
  have hl := h.2.2.2.2.2
  have hn := hN
  obtain ⟨⟨x0, x1, x2⟩, ⟨y0, y1, y2⟩, -⟩ := hn
  replace x0 : N 0 0 = 1 := x0
  replace y0 : N 0 5 = 0 := y0
  replace x1 : N 0 1 = 0 := x1
  replace y1 : N 0 6 = 0 := y1
  replace x2 : N 0 2 = 0 := x2
  replace y2 : N 0 7 = 1 := y2
  have g001 : gai T N 0 0 1 = 27720 * (l * 0 + 30) - (27720 * (l * 0 + 30)) := by
    have := (h.gn hN (a := 0) (b := 1) (by omega) (by omega) (by omega) (by omega)).1
    rw [this, show (5 : Int) + 1 = 6 from rfl, show (5 : Int) + 0 = 5 from rfl, y1, y0]
    rfl
  have g002 : gai T N 0 0 2 = 0 - (27720 * (l * 0 + 30)) := by
    have := (h.gn hN (a := 0) (b := 2) (by omega) (by omega) (by omega) (by omega)).1
    rw [this, show (5 : Int) + 2 = 7 from rfl, show (5 : Int) + 0 = 5 from rfl, y2, y0]
    rfl
  have g120 : gai T N 1 2 0 = 27720 * (-(l * 1) + 30) - (0) := by
    have := (h.gn hN (a := 2) (b := 0) (by omega) (by omega) (by omega) (by omega)).2
    rw [this, x0, x2]
    rfl
  have g121 : gai T N 1 2 1 = 27720 * (-(l * 0) + 30) - (0) := by
    have := (h.gn hN (a := 2) (b := 1) (by omega) (by omega) (by omega) (by omega)).2
    rw [this, x1, x2]
    rfl
  have b0 : fiB T N 0 0 = 3 := by
    unfold fiB
    rw [h.1.2.2.1]
    refine ff_uniq (by omega) (by omega) (fun j j0 j1 => ?_) (fun _ => ?_)
    · rcases (show j = 0 ∨ j = 1 ∨ j = 2 by omega) with c | c | c <;> rw [c]
      · rw [decide_eq_true (rfl : (0 : Int) = 0)]; rfl
      · rw [g001, decide_eq_false (show ¬ (0 : Int) < 27720 * (l * 0 + 30) - (27720 * (l * 0 + 30)) by omega)]; exact Bool.and_false _
      · rw [g002, decide_eq_false (show ¬ (0 : Int) < 0 - (27720 * (l * 0 + 30)) by omega)]; exact Bool.and_false _
    · omega
  have b1 : fiB T N 1 2 = 0 := by
    unfold fiB
    rw [h.1.2.2.1]
    refine ff_uniq (by omega) (by omega) (fun j j0 j1 => ?_) (fun _ => ?_)
    · omega
    · rw [g120, decide_eq_true (show (0 : Int) < 27720 * (-(l * 1) + 30) - (0) by omega), decide_eq_false (show ¬ (0 : Int) = 2 by omega)]; rfl
  have a0 : fiA T N 0 = 3 := by
    unfold fiA
    rw [h.1.2.2.1]
    refine ff_uniq (by omega) (by omega) (fun j j0 j1 => ?_) (fun _ => ?_)
    · rcases (show j = 0 ∨ j = 1 ∨ j = 2 by omega) with c | c | c <;> rw [c]
      · rw [b0, decide_eq_false (show ¬ (3 : Int) ≤ 2 by omega)]; exact Bool.and_false _
      · rw [show 5 * (0 : Int) + 1 = 1 from rfl, x1]; rfl
      · rw [show 5 * (0 : Int) + 2 = 2 from rfl, x2]; rfl
    · omega
  have a1 : fiA T N 1 = 2 := by
    unfold fiA
    rw [h.1.2.2.1]
    refine ff_uniq (by omega) (by omega) (fun j j0 j1 => ?_) (fun _ => ?_)
    · rcases (show j = 0 ∨ j = 1 by omega) with c | c <;> rw [c]
      · rw [show 5 * (1 : Int) + 0 = 5 from rfl, y0]; rfl
      · rw [show 5 * (1 : Int) + 1 = 6 from rfl, y1]; rfl
    · rw [show 5 * (1 : Int) + 2 = 7 from rfl, y2, h.bn hN (by omega) (by omega), b1]; rfl
  have s0 : fiS T N = 1 := by
    unfold fiS
    rw [h.1.2.1, h.1.2.2.1, ff2, a0, a1]
    rfl
  exact ⟨s0, a1, b1⟩
theorem A2.n2 (h : A2 T l) (hN : M2 N 2) : fiS T N < T 0 1 ∧ M2 (nxt T N) 0 := by
  obtain ⟨e1, e2, e3⟩ := h.f2 hN
  refine ⟨by rw [e1, h.1.2.1]; omega, ?_⟩
  unfold nxt
  rw [e1, e2, e3]
  obtain ⟨⟨x0, x1, x2⟩, ⟨y0, y1, y2⟩, z⟩ := hN
  refine ⟨⟨?_, ?_, ?_⟩, ⟨?_, ?_, ?_⟩, z⟩
  · show N 0 0 - 0 + on1 1 0 = _; rw [x0]; decide +kernel
  · show N 0 1 - 0 + 0 = _; rw [x1]; decide +kernel
  · show N 0 2 - on1 1 0 + 0 = _; rw [x2]; decide +kernel
  · show N 0 5 - 0 + on1 1 1 = _; rw [y0]; decide +kernel
  · show N 0 6 - 0 + 0 = _; rw [y1]; decide +kernel
  · show N 0 7 - on1 1 1 + 0 = _; rw [y2]; decide +kernel
theorem A2.f3 (h : A2 T l) (hN : M2 N 3) : fiS T N = 0 ∧ fiA T N 0 = 1 ∧ fiB T N 0 1 = 0 := by
  have hl := h.2.2.2.2.2
  have hn := hN
  obtain ⟨⟨x0, x1, x2⟩, ⟨y0, y1, y2⟩, -⟩ := hn
  replace x0 : N 0 0 = 0 := x0
  replace y0 : N 0 5 = 1 := y0
  replace x1 : N 0 1 = 1 := x1
  replace y1 : N 0 6 = 0 := y1
  replace x2 : N 0 2 = 0 := x2
  replace y2 : N 0 7 = 0 := y2
  have g010 : gai T N 0 1 0 = 27720 * (l * 1 + 30) - (27720 * (l * 0 + 30)) := by
    have := (h.gn hN (a := 1) (b := 0) (by omega) (by omega) (by omega) (by omega)).1
    rw [this, show (5 : Int) + 0 = 5 from rfl, show (5 : Int) + 1 = 6 from rfl, y0, y1]
    rfl
  have g012 : gai T N 0 1 2 = 0 - (27720 * (l * 0 + 30)) := by
    have := (h.gn hN (a := 1) (b := 2) (by omega) (by omega) (by omega) (by omega)).1
    rw [this, show (5 : Int) + 2 = 7 from rfl, show (5 : Int) + 1 = 6 from rfl, y2, y1]
    rfl
  have g101 : gai T N 1 0 1 = 27720 * (-(l * 1) + 30) - (27720 * (-(l * 0) + 30)) := by
    have := (h.gn hN (a := 0) (b := 1) (by omega) (by omega) (by omega) (by omega)).2
    rw [this, x1, x0]
    rfl
  have g102 : gai T N 1 0 2 = 0 - (27720 * (-(l * 0) + 30)) := by
    have := (h.gn hN (a := 0) (b := 2) (by omega) (by omega) (by omega) (by omega)).2
    rw [this, x2, x0]
    rfl
  have b0 : fiB T N 0 1 = 0 := by
    unfold fiB
    rw [h.1.2.2.1]
    refine ff_uniq (by omega) (by omega) (fun j j0 j1 => ?_) (fun _ => ?_)
    · omega
    · rw [g010, decide_eq_true (show (0 : Int) < 27720 * (l * 1 + 30) - (27720 * (l * 0 + 30)) by omega), decide_eq_false (show ¬ (0 : Int) = 1 by omega)]; rfl
  have b1 : fiB T N 1 0 = 3 := by
    unfold fiB
    rw [h.1.2.2.1]
    refine ff_uniq (by omega) (by omega) (fun j j0 j1 => ?_) (fun _ => ?_)
    · rcases (show j = 0 ∨ j = 1 ∨ j = 2 by omega) with c | c | c <;> rw [c]
      · rw [decide_eq_true (rfl : (0 : Int) = 0)]; rfl
      · rw [g101, decide_eq_false (show ¬ (0 : Int) < 27720 * (-(l * 1) + 30) - (27720 * (-(l * 0) + 30)) by omega)]; exact Bool.and_false _
      · rw [g102, decide_eq_false (show ¬ (0 : Int) < 0 - (27720 * (-(l * 0) + 30)) by omega)]; exact Bool.and_false _
    · omega
  have a0 : fiA T N 0 = 1 := by
    unfold fiA
    rw [h.1.2.2.1]
    refine ff_uniq (by omega) (by omega) (fun j j0 j1 => ?_) (fun _ => ?_)
    · rcases (show j = 0 by omega) with c <;> rw [c]
      · rw [show 5 * (0 : Int) + 0 = 0 from rfl, x0]; rfl
    · rw [show 5 * (0 : Int) + 1 = 1 from rfl, x1, h.bn hN (by omega) (by omega), b0]; rfl
  have s0 : fiS T N = 0 := by
    unfold fiS
    rw [h.1.2.1, h.1.2.2.1, ff2, a0]
    rfl
  exact ⟨s0, a0, b0⟩
theorem A2.n3 (h : A2 T l) (hN : M2 N 3) : fiS T N < T 0 1 ∧ M2 (nxt T N) 0 := by
  obtain ⟨e1, e2, e3⟩ := h.f3 hN
  refine ⟨by rw [e1, h.1.2.1]; omega, ?_⟩
  unfold nxt
  rw [e1, e2, e3]
  obtain ⟨⟨x0, x1, x2⟩, ⟨y0, y1, y2⟩, z⟩ := hN
  refine ⟨⟨?_, ?_, ?_⟩, ⟨?_, ?_, ?_⟩, z⟩
  · show N 0 0 - 0 + on1 0 0 = _; rw [x0]; decide +kernel
  · show N 0 1 - on1 0 0 + 0 = _; rw [x1]; decide +kernel
  · show N 0 2 - 0 + 0 = _; rw [x2]; decide +kernel
  · show N 0 5 - 0 + on1 0 1 = _; rw [y0]; decide +kernel
  · show N 0 6 - on1 0 1 + 0 = _; rw [y1]; decide +kernel
  · show N 0 7 - 0 + 0 = _; rw [y2]; decide +kernel
theorem A2.f4 (h : A2 T l) (hN : M2 N 4) : fiS T N = 1 ∧ fiA T N 1 = 1 ∧ fiB T N 1 1 = 0 := by
  have hl := h.2.2.2.2.2
  have hn := hN
  obtain ⟨⟨x0, x1, x2⟩, ⟨y0, y1, y2⟩, -⟩ := hn
  replace x0 : N 0 0 = 0 := x0
  replace y0 : N 0 5 = 0 := y0
  replace x1 : N 0 1 = 1 := x1
  replace y1 : N 0 6 = 1 := y1
  replace x2 : N 0 2 = 0 := x2
  replace y2 : N 0 7 = 0 := y2
  have g010 : gai T N 0 1 0 = 27720 * (l * 0 + 30) - (27720 * (l * 1 + 30)) := by
    have := (h.gn hN (a := 1) (b := 0) (by omega) (by omega) (by omega) (by omega)).1
    rw [this, show (5 : Int) + 0 = 5 from rfl, show (5 : Int) + 1 = 6 from rfl, y0, y1]
    rfl
  have g012 : gai T N 0 1 2 = 0 - (27720 * (l * 1 + 30)) := by
    have := (h.gn hN (a := 1) (b := 2) (by omega) (by omega) (by omega) (by omega)).1
    rw [this, show (5 : Int) + 2 = 7 from rfl, show (5 : Int) + 1 = 6 from rfl, y2, y1]
    rfl
  have g110 : gai T N 1 1 0 = 27720 * (-(l * 0) + 30) - (27720 * (-(l * 1) + 30)) := by
    have := (h.gn hN (a := 1) (b := 0) (by omega) (by omega) (by omega) (by omega)).2
    rw [this, x0, x1]
    rfl
  have g112 : gai T N 1 1 2 = 0 - (27720 * (-(l * 1) + 30)) := by
    have := (h.gn hN (a := 1) (b := 2) (by omega) (by omega) (by omega) (by omega)).2
    rw [this, x2, x1]
    rfl
  have b0 : fiB T N 0 1 = 3 := by
    unfold fiB
    rw [h.1.2.2.1]
    refine ff_uniq (by omega) (by omega) (fun j j0 j1 => ?_) (fun _ => ?_)
    · rcases (show j = 0 ∨ j = 1 ∨ j = 2 by omega) with c | c | c <;> rw [c]
      · rw [g010, decide_eq_false (show ¬ (0 : Int) < 27720 * (l * 0 + 30) - (27720 * (l * 1 + 30)) by omega)]; exact Bool.and_false _
      · rw [decide_eq_true (rfl : (1 : Int) = 1)]; rfl
      · rw [g012, decide_eq_false (show ¬ (0 : Int) < 0 - (27720 * (l * 1 + 30)) by omega)]; exact Bool.and_false _
    · omega
  have b1 : fiB T N 1 1 = 0 := by
    unfold fiB
    rw [h.1.2.2.1]
    refine ff_uniq (by omega) (by omega) (fun j j0 j1 => ?_) (fun _ => ?_)
    · omega
    · rw [g110, decide_eq_true (show (0 : Int) < 27720 * (-(l * 0) + 30) - (27720 * (-(l * 1) + 30)) by omega), decide_eq_false (show ¬ (0 : Int) = 1 by omega)]; rfl
  have a0 : fiA T N 0 = 3 := by
    unfold fiA
    rw [h.1.2.2.1]
    refine ff_uniq (by omega) (by omega) (fun j j0 j1 => ?_) (fun _ => ?_)
    · rcases (show j = 0 ∨ j = 1 ∨ j = 2 by omega) with c | c | c <;> rw [c]
      · rw [show 5 * (0 : Int) + 0 = 0 from rfl, x0]; rfl
      · rw [b0, decide_eq_false (show ¬ (3 : Int) ≤ 2 by omega)]; exact Bool.and_false _
      · rw [show 5 * (0 : Int) + 2 = 2 from rfl, x2]; rfl
    · omega
  have a1 : fiA T N 1 = 1 := by
    unfold fiA
    rw [h.1.2.2.1]
    refine ff_uniq (by omega) (by omega) (fun j j0 j1 => ?_) (fun _ => ?_)
    · rcases (show j = 0 by omega) with c <;> rw [c]
      · rw [show 5 * (1 : Int) + 0 = 5 from rfl, y0]; rfl
    · rw [show 5 * (1 : Int) + 1 = 6 from rfl, y1, h.bn hN (by omega) (by omega), b1]; rfl
  have s0 : fiS T N = 1 := by
    unfold fiS
    rw [h.1.2.1, h.1.2.2.1, ff2, a0, a1]
    rfl
  exact ⟨s0, a1, b1⟩
theorem A2.n4 (h : A2 T l) (hN : M2 N 4) : fiS T N < T 0 1 ∧ M2 (nxt T N) 3 := by
  obtain ⟨e1, e2, e3⟩ := h.f4 hN
  refine ⟨by rw [e1, h.1.2.1]; omega, ?_⟩
  unfold nxt
  rw [e1, e2, e3]
  obtain ⟨⟨x0, x1, x2⟩, ⟨y0, y1, y2⟩, z⟩ := hN
  refine ⟨⟨?_, ?_, ?_⟩, ⟨?_, ?_, ?_⟩, z⟩
  · show N 0 0 - 0 + on1 1 0 = _; rw [x0]; decide +kernel
  · show N 0 1 - on1 1 0 + 0 = _; rw [x1]; decide +kernel
  · show N 0 2 - 0 + 0 = _; rw [x2]; decide +kernel
  · show N 0 5 - 0 + on1 1 1 = _; rw [y0]; decide +kernel
  · show N 0 6 - on1 1 1 + 0 = _; rw [y1]; decide +kernel
  · show N 0 7 - 0 + 0 = _; rw [y2]; decide +kernel
theorem A2.f5 (h : A2 T l) (hN : M2 N 5) : fiS T N = 1 ∧ fiA T N 1 = 2 ∧ fiB T N 1 2 = 0 := by
  have hl := h.2.2.2.2.2
  have hn := hN
  obtain ⟨⟨x0, x1, x2⟩, ⟨y0, y1, y2⟩, -⟩ := hn
  replace x0 : N 0 0 = 0 := x0
  replace y0 : N 0 5 = 0 := y0
  replace x1 : N 0 1 = 1 := x1
  replace y1 : N 0 6 = 0 := y1
  replace x2 : N 0 2 = 0 := x2
  replace y2 : N 0 7 = 1 := y2
  have g010 : gai T N 0 1 0 = 27720 * (l * 0 + 30) - (27720 * (l * 0 + 30)) := by
    have := (h.gn hN (a := 1) (b := 0) (by omega) (by omega) (by omega) (by omega)).1
    rw [this, show (5 : Int) + 0 = 5 from rfl, show (5 : Int) + 1 = 6 from rfl, y0, y1]
    rfl
  have g012 : gai T N 0 1 2 = 0 - (27720 * (l * 0 + 30)) := by
    have := (h.gn hN (a := 1) (b := 2) (by omega) (by omega) (by omega) (by omega)).1
    rw [this, show (5 : Int) + 2 = 7 from rfl, show (5 : Int) + 1 = 6 from rfl, y2, y1]
    rfl
  have g120 : gai T N 1 2 0 = 27720 * (-(l * 0) + 30) - (0) := by
    have := (h.gn hN (a := 2) (b := 0) (by omega) (by omega) (by omega) (by omega)).2
    rw [this, x0, x2]
    rfl
  have g121 : gai T N 1 2 1 = 27720 * (-(l * 1) + 30) - (0) := by
    have := (h.gn hN (a := 2) (b := 1) (by omega) (by omega) (by omega) (by omega)).2
    rw [this, x1, x2]
    rfl
  have b0 : fiB T N 0 1 = 3 := by
    unfold fiB
    rw [h.1.2.2.1]
    refine ff_uniq (by omega) (by omega) (fun j j0 j1 => ?_) (fun _ => ?_)
    · rcases (show j = 0 ∨ j = 1 ∨ j = 2 by omega) with c | c | c <;> rw [c]
      · rw [g010, decide_eq_false (show ¬ (0 : Int) < 27720 * (l * 0 + 30) - (27720 * (l * 0 + 30)) by omega)]; exact Bool.and_false _
      · rw [decide_eq_true (rfl : (1 : Int) = 1)]; rfl
      · rw [g012, decide_eq_false (show ¬ (0 : Int) < 0 - (27720 * (l * 0 + 30)) by omega)]; exact Bool.and_false _
    · omega
  have b1 : fiB T N 1 2 = 0 := by
    unfold fiB
    rw [h.1.2.2.1]
    refine ff_uniq (by omega) (by omega) (fun j j0 j1 => ?_) (fun _ => ?_)
    · omega
    · rw [g120, decide_eq_true (show (0 : Int) < 27720 * (-(l * 0) + 30) - (0) by omega), decide_eq_false (show ¬ (0 : Int) = 2 by omega)]; rfl
  have a0 : fiA T N 0 = 3 := by
    unfold fiA
    rw [h.1.2.2.1]
    refine ff_uniq (by omega) (by omega) (fun j j0 j1 => ?_) (fun _ => ?_)
    · rcases (show j = 0 ∨ j = 1 ∨ j = 2 by omega) with c | c | c <;> rw [c]
      · rw [show 5 * (0 : Int) + 0 = 0 from rfl, x0]; rfl
      · rw [b0, decide_eq_false (show ¬ (3 : Int) ≤ 2 by omega)]; exact Bool.and_false _
      · rw [show 5 * (0 : Int) + 2 = 2 from rfl, x2]; rfl
    · omega
  have a1 : fiA T N 1 = 2 := by
    unfold fiA
    rw [h.1.2.2.1]
    refine ff_uniq (by omega) (by omega) (fun j j0 j1 => ?_) (fun _ => ?_)
    · rcases (show j = 0 ∨ j = 1 by omega) with c | c <;> rw [c]
      · rw [show 5 * (1 : Int) + 0 = 5 from rfl, y0]; rfl
      · rw [show 5 * (1 : Int) + 1 = 6 from rfl, y1]; rfl
    · rw [show 5 * (1 : Int) + 2 = 7 from rfl, y2, h.bn hN (by omega) (by omega), b1]; rfl
  have s0 : fiS T N = 1 := by
    unfold fiS
    rw [h.1.2.1, h.1.2.2.1, ff2, a0, a1]
    rfl
  exact ⟨s0, a1, b1⟩
theorem A2.n5 (h : A2 T l) (hN : M2 N 5) : fiS T N < T 0 1 ∧ M2 (nxt T N) 3 := by
  obtain ⟨e1, e2, e3⟩ := h.f5 hN
  refine ⟨by rw [e1, h.1.2.1]; omega, ?_⟩
  unfold nxt
  rw [e1, e2, e3]
  obtain ⟨⟨x0, x1, x2⟩, ⟨y0, y1, y2⟩, z⟩ := hN
  refine ⟨⟨?_, ?_, ?_⟩, ⟨?_, ?_, ?_⟩, z⟩
  · show N 0 0 - 0 + on1 1 0 = _; rw [x0]; decide +kernel
  · show N 0 1 - 0 + 0 = _; rw [x1]; decide +kernel
  · show N 0 2 - on1 1 0 + 0 = _; rw [x2]; decide +kernel
  · show N 0 5 - 0 + on1 1 1 = _; rw [y0]; decide +kernel
  · show N 0 6 - 0 + 0 = _; rw [y1]; decide +kernel
  · show N 0 7 - on1 1 1 + 0 = _; rw [y2]; decide +kernel
theorem A2.f6 (h : A2 T l) (hN : M2 N 6) : fiS T N = 0 ∧ fiA T N 0 = 2 ∧ fiB T N 0 2 = 0 := by
  have hl := h.2.2.2.2.2
  have hn := hN
  obtain ⟨⟨x0, x1, x2⟩, ⟨y0, y1, y2⟩, -⟩ := hn
  replace x0 : N 0 0 = 0 := x0
  replace y0 : N 0 5 = 1 := y0
  replace x1 : N 0 1 = 0 := x1
  replace y1 : N 0 6 = 0 := y1
  replace x2 : N 0 2 = 1 := x2
  replace y2 : N 0 7 = 0 := y2
  have g020 : gai T N 0 2 0 = 27720 * (l * 1 + 30) - (0) := by
    have := (h.gn hN (a := 2) (b := 0) (by omega) (by omega) (by omega) (by omega)).1
    rw [this, show (5 : Int) + 0 = 5 from rfl, show (5 : Int) + 2 = 7 from rfl, y0, y2]
    rfl
  have g021 : gai T N 0 2 1 = 27720 * (l * 0 + 30) - (0) := by
    have := (h.gn hN (a := 2) (b := 1) (by omega) (by omega) (by omega) (by omega)).1
    rw [this, show (5 : Int) + 1 = 6 from rfl, show (5 : Int) + 2 = 7 from rfl, y1, y2]
    rfl
  have g101 : gai T N 1 0 1 = 27720 * (-(l * 0) + 30) - (27720 * (-(l * 0) + 30)) := by
    have := (h.gn hN (a := 0) (b := 1) (by omega) (by omega) (by omega) (by omega)).2
    rw [this, x1, x0]
    rfl
  have g102 : gai T N 1 0 2 = 0 - (27720 * (-(l * 0) + 30)) := by
    have := (h.gn hN (a := 0) (b := 2) (by omega) (by omega) (by omega) (by omega)).2
    rw [this, x2, x0]
    rfl
  have b0 : fiB T N 0 2 = 0 := by
    unfold fiB
    rw [h.1.2.2.1]
    refine ff_uniq (by omega) (by omega) (fun j j0 j1 => ?_) (fun _ => ?_)
    · omega
    · rw [g020, decide_eq_true (show (0 : Int) < 27720 * (l * 1 + 30) - (0) by omega), decide_eq_false (show ¬ (0 : Int) = 2 by omega)]; rfl
  have b1 : fiB T N 1 0 = 3 := by
    unfold fiB
    rw [h.1.2.2.1]
    refine ff_uniq (by omega) (by omega) (fun j j0 j1 => ?_) (fun _ => ?_)
    · rcases (show j = 0 ∨ j = 1 ∨ j = 2 by omega) with c | c | c <;> rw [c]
      · rw [decide_eq_true (rfl : (0 : Int) = 0)]; rfl
      · rw [g101, decide_eq_false (show ¬ (0 : Int) < 27720 * (-(l * 0) + 30) - (27720 * (-(l * 0) + 30)) by omega)]; exact Bool.and_false _
      · rw [g102, decide_eq_false (show ¬ (0 : Int) < 0 - (27720 * (-(l * 0) + 30)) by omega)]; exact Bool.and_false _
    · omega
  have a0 : fiA T N 0 = 2 := by
    unfold fiA
    rw [h.1.2.2.1]
    refine ff_uniq (by omega) (by omega) (fun j j0 j1 => ?_) (fun _ => ?_)
    · rcases (show j = 0 ∨ j = 1 by omega) with c | c <;> rw [c]
      · rw [show 5 * (0 : Int) + 0 = 0 from rfl, x0]; rfl
      · rw [show 5 * (0 : Int) + 1 = 1 from rfl, x1]; rfl
    · rw [show 5 * (0 : Int) + 2 = 2 from rfl, x2, h.bn hN (by omega) (by omega), b0]; rfl
  have s0 : fiS T N = 0 := by
    unfold fiS
    rw [h.1.2.1, h.1.2.2.1, ff2, a0]
    rfl
  exact ⟨s0, a0, b0⟩
theorem A2.n6 (h : A2 T l) (hN : M2 N 6) : fiS T N < T 0 1 ∧ M2 (nxt T N) 0 := by
  obtain ⟨e1, e2, e3⟩ := h.f6 hN
  refine ⟨by rw [e1, h.1.2.1]; omega, ?_⟩
  unfold nxt
  rw [e1, e2, e3]
  obtain ⟨⟨x0, x1, x2⟩, ⟨y0, y1, y2⟩, z⟩ := hN
  refine ⟨⟨?_, ?_, ?_⟩, ⟨?_, ?_, ?_⟩, z⟩
  · show N 0 0 - 0 + on1 0 0 = _; rw [x0]; decide +kernel
  · show N 0 1 - 0 + 0 = _; rw [x1]; decide +kernel
  · show N 0 2 - on1 0 0 + 0 = _; rw [x2]; decide +kernel
  · show N 0 5 - 0 + on1 0 1 = _; rw [y0]; decide +kernel
  · show N 0 6 - 0 + 0 = _; rw [y1]; decide +kernel
  · show N 0 7 - on1 0 1 + 0 = _; rw [y2]; decide +kernel
theorem A2.f7 (h : A2 T l) (hN : M2 N 7) : fiS T N = 0 ∧ fiA T N 0 = 2 ∧ fiB T N 0 2 = 0 := by
  have hl := h.2.2.2.2.2
  have hn := hN
  obtain ⟨⟨x0, x1, x2⟩, ⟨y0, y1, y2⟩, -⟩ := hn
  replace x0 : N 0 0 = 0 := x0
  replace y0 : N 0 5 = 0 := y0
  replace x1 : N 0 1 = 0 := x1
  replace y1 : N 0 6 = 1 := y1
  replace x2 : N 0 2 = 1 := x2
  replace y2 : N 0 7 = 0 := y2
  have g020 : gai T N 0 2 0 = 27720 * (l * 0 + 30) - (0) := by
    have := (h.gn hN (a := 2) (b := 0) (by omega) (by omega) (by omega) (by omega)).1
    rw [this, show (5 : Int) + 0 = 5 from rfl, show (5 : Int) + 2 = 7 from rfl, y0, y2]
    rfl
  have g021 : gai T N 0 2 1 = 27720 * (l * 1 + 30) - (0) := by
    have := (h.gn hN (a := 2) (b := 1) (by omega) (by omega) (by omega) (by omega)).1
    rw [this, show (5 : Int) + 1 = 6 from rfl, show (5 : Int) + 2 = 7 from rfl, y1, y2]
    rfl
  have g110 : gai T N 1 1 0 = 27720 * (-(l * 0) + 30) - (27720 * (-(l * 0) + 30)) := by
    have := (h.gn hN (a := 1) (b := 0) (by omega) (by omega) (by omega) (by omega)).2
    rw [this, x0, x1]
    rfl
  have g112 : gai T N 1 1 2 = 0 - (27720 * (-(l * 0) + 30)) := by
    have := (h.gn hN (a := 1) (b := 2) (by omega) (by omega) (by omega) (by omega)).2
    rw [this, x2, x1]
    rfl
  have b0 : fiB T N 0 2 = 0 := by
    unfold fiB
    rw [h.1.2.2.1]
    refine ff_uniq (by omega) (by omega) (fun j j0 j1 => ?_) (fun _ => ?_)
    · omega
    · rw [g020, decide_eq_true (show (0 : Int) < 27720 * (l * 0 + 30) - (0) by omega), decide_eq_false (show ¬ (0 : Int) = 2 by omega)]; rfl
  have b1 : fiB T N 1 1 = 3 := by
    unfold fiB
    rw [h.1.2.2.1]
    refine ff_uniq (by omega) (by omega) (fun j j0 j1 => ?_) (fun _ => ?_)
    · rcases (show j = 0 ∨ j = 1 ∨ j = 2 by omega) with c | c | c <;> rw [c]
      · rw [g110, decide_eq_false (show ¬ (0 : Int) < 27720 * (-(l * 0) + 30) - (27720 * (-(l * 0) + 30)) by omega)]; exact Bool.and_false _
      · rw [decide_eq_true (rfl : (1 : Int) = 1)]; rfl
      · rw [g112, decide_eq_false (show ¬ (0 : Int) < 0 - (27720 * (-(l * 0) + 30)) by omega)]; exact Bool.and_false _
    · omega
  have a0 : fiA T N 0 = 2 := by
    unfold fiA
    rw [h.1.2.2.1]
    refine ff_uniq (by omega) (by omega) (fun j j0 j1 => ?_) (fun _ => ?_)
    · rcases (show j = 0 ∨ j = 1 by omega) with c | c <;> rw [c]
      · rw [show 5 * (0 : Int) + 0 = 0 from rfl, x0]; rfl
      · rw [show 5 * (0 : Int) + 1 = 1 from rfl, x1]; rfl
    · rw [show 5 * (0 : Int) + 2 = 2 from rfl, x2, h.bn hN (by omega) (by omega), b0]; rfl
  have s0 : fiS T N = 0 := by
    unfold fiS
    rw [h.1.2.1, h.1.2.2.1, ff2, a0]
    rfl
  exact ⟨s0, a0, b0⟩
theorem A2.n7 (h : A2 T l) (hN : M2 N 7) : fiS T N < T 0 1 ∧ M2 (nxt T N) 1 := by
  obtain ⟨e1, e2, e3⟩ := h.f7 hN
  refine ⟨by rw [e1, h.1.2.1]; omega, ?_⟩
  unfold nxt
  rw [e1, e2, e3]
  obtain ⟨⟨x0, x1, x2⟩, ⟨y0, y1, y2⟩, z⟩ := hN
  refine ⟨⟨?_, ?_, ?_⟩, ⟨?_, ?_, ?_⟩, z⟩
  · show N 0 0 - 0 + on1 0 0 = _; rw [x0]; decide +kernel
  · show N 0 1 - 0 + 0 = _; rw [x1]; decide +kernel
  · show N 0 2 - on1 0 0 + 0 = _; rw [x2]; decide +kernel
  · show N 0 5 - 0 + on1 0 1 = _; rw [y0]; decide +kernel
  · show N 0 6 - 0 + 0 = _; rw [y1]; decide +kernel
  · show N 0 7 - on1 0 1 + 0 = _; rw [y2]; decide +kernel
theorem A2.f8 (h : A2 T l) (hN : M2 N 8) : fiS T N = 0 ∧ fiA T N 0 = 2 ∧ fiB T N 0 2 = 0 := by
  have hl := h.2.2.2.2.2
  have hn := hN
  obtain ⟨⟨x0, x1, x2⟩, ⟨y0, y1, y2⟩, -⟩ := hn
  replace x0 : N 0 0 = 0 := x0
  replace y0 : N 0 5 = 0 := y0
  replace x1 : N 0 1 = 0 := x1
  replace y1 : N 0 6 = 0 := y1
  replace x2 : N 0 2 = 1 := x2
  replace y2 : N 0 7 = 1 := y2
  have g020 : gai T N 0 2 0 = 27720 * (l * 0 + 30) - (0) := by
    have := (h.gn hN (a := 2) (b := 0) (by omega) (by omega) (by omega) (by omega)).1
    rw [this, show (5 : Int) + 0 = 5 from rfl, show (5 : Int) + 2 = 7 from rfl, y0, y2]
    rfl
  have g021 : gai T N 0 2 1 = 27720 * (l * 0 + 30) - (0) := by
    have := (h.gn hN (a := 2) (b := 1) (by omega) (by omega) (by omega) (by omega)).1
    rw [this, show (5 : Int) + 1 = 6 from rfl, show (5 : Int) + 2 = 7 from rfl, y1, y2]
    rfl
  have g120 : gai T N 1 2 0 = 27720 * (-(l * 0) + 30) - (0) := by
    have := (h.gn hN (a := 2) (b := 0) (by omega) (by omega) (by omega) (by omega)).2
    rw [this, x0, x2]
    rfl
  have g121 : gai T N 1 2 1 = 27720 * (-(l * 0) + 30) - (0) := by
    have := (h.gn hN (a := 2) (b := 1) (by omega) (by omega) (by omega) (by omega)).2
    rw [this, x1, x2]
    rfl
  have b0 : fiB T N 0 2 = 0 := by
    unfold fiB
    rw [h.1.2.2.1]
    refine ff_uniq (by omega) (by omega) (fun j j0 j1 => ?_) (fun _ => ?_)
    · omega
    · rw [g020, decide_eq_true (show (0 : Int) < 27720 * (l * 0 + 30) - (0) by omega), decide_eq_false (show ¬ (0 : Int) = 2 by omega)]; rfl
  have b1 : fiB T N 1 2 = 0 := by
    unfold fiB
    rw [h.1.2.2.1]
    refine ff_uniq (by omega) (by omega) (fun j j0 j1 => ?_) (fun _ => ?_)
    · omega
    · rw [g120, decide_eq_true (show (0 : Int) < 27720 * (-(l * 0) + 30) - (0) by omega), decide_eq_false (show ¬ (0 : Int) = 2 by omega)]; rfl
  have a0 : fiA T N 0 = 2 := by
    unfold fiA
    rw [h.1.2.2.1]
    refine ff_uniq (by omega) (by omega) (fun j j0 j1 => ?_) (fun _ => ?_)
    · rcases (show j = 0 ∨ j = 1 by omega) with c | c <;> rw [c]
      · rw [show 5 * (0 : Int) + 0 = 0 from rfl, x0]; rfl
      · rw [show 5 * (0 : Int) + 1 = 1 from rfl, x1]; rfl
    · rw [show 5 * (0 : Int) + 2 = 2 from rfl, x2, h.bn hN (by omega) (by omega), b0]; rfl
  have s0 : fiS T N = 0 := by
    unfold fiS
    rw [h.1.2.1, h.1.2.2.1, ff2, a0]
    rfl
  exact ⟨s0, a0, b0⟩
theorem A2.n8 (h : A2 T l) (hN : M2 N 8) : fiS T N < T 0 1 ∧ M2 (nxt T N) 2 := by
  obtain ⟨e1, e2, e3⟩ := h.f8 hN
  refine ⟨by rw [e1, h.1.2.1]; omega, ?_⟩
  unfold nxt
  rw [e1, e2, e3]
  obtain ⟨⟨x0, x1, x2⟩, ⟨y0, y1, y2⟩, z⟩ := hN
  refine ⟨⟨?_, ?_, ?_⟩, ⟨?_, ?_, ?_⟩, z⟩
  · show N 0 0 - 0 + on1 0 0 = _; rw [x0]; decide +kernel
  · show N 0 1 - 0 + 0 = _; rw [x1]; decide +kernel
  · show N 0 2 - on1 0 0 + 0 = _; rw [x2]; decide +kernel
  · show N 0 5 - 0 + on1 0 1 = _; rw [y0]; decide +kernel
  · show N 0 6 - 0 + 0 = _; rw [y1]; decide +kernel
  · show N 0 7 - on1 0 1 + 0 = _; rw [y2]; decide +kernel
end TWO
