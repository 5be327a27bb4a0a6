/-! the class's half of whole's part of this name -/
def aParty (T N : aH) (m w : Int) : Int :=
  if 1 ≤ m ∧ m ≤ 12 then (if 0 ≤ w ∧ w ≤ 2 then (if pnZ T N m < m then (if w = 0 then pty (pnG T N m) else if w = 1 then plA T N (pnG T N m) else plB T N (pnG T N m) (plA T N (pnG T N m))) else -1) else -1) else -1
def dqN (p : Int) : Nat → Int
  | 0 => p
  | n + 1 => dqN p n / 7
def dg7 (p : Int) : Int → Int := fun s => if 0 ≤ s ∧ s < 5 then dqN p s.toNat % 7 else 0
theorem dqN_bd {p : Int} (p0 : 0 ≤ p) (p1 : p ≤ 2147483647) : ∀ n : Nat, 0 ≤ dqN p n ∧ dqN p n ≤ 2147483647 := by
  intro n
  induction n with
  | zero => exact ⟨p0, p1⟩
  | succ n ih => show 0 ≤ dqN p n / 7 ∧ dqN p n / 7 ≤ 2147483647; omega
/-- the number is a crew of those at a -/
def wdB (T N : aH) (p a : Int) : Bool := decide (0 < p ∧ dqN p 5 = 0) && cvf (ctn T N a) (dg7 p)
def aWould (T N : aH) (p a b : Int) : Int :=
  if 0 ≤ a ∧ a ≤ T 0 2 then (if 0 ≤ b ∧ b ≤ T 0 2 then (if a = b then -1 else if wdB T N p a = true then (if pwB T N (dg7 p) a b = true then 1 else 0) else -1) else -1) else -1
theorem wdB_PA {T N : aH} {p a : Int} (hB : TB T) (h : wdB T N p a = true) : PA T N (dg7 p) a := by
  have h5 := hB.2.1
  unfold wdB at h
  rw [Bool.and_eq_true, cvf_iff] at h
  have h2 := h.2
  refine ⟨fun s s0 s1 => ?_, fun s hs => ?_⟩
  · have := h2 s s0 (by omega)
    rw [show ctn T N a s = N 0 (5 * s + a) from if_pos ⟨s0, s1⟩] at this
    refine ⟨?_, this⟩
    rw [show dg7 p s = dqN p s.toNat % 7 from if_pos ⟨s0, by omega⟩]; omega
  · by_cases c : 0 ≤ s ∧ s < 5
    · have := h2 s c.1 c.2
      rw [show ctn T N a s = 0 from if_neg hs] at this
      have e : dg7 p s = dqN p s.toNat % 7 := if_pos c
      omega
    · exact if_neg c
