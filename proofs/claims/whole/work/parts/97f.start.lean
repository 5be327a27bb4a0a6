/-! the start: class and reference made -/
def aS0 : aS := ([], fun _ _ => 0, 0, 0)
def zr (σ : aS) (x : Int) (n : Nat) : Bool := (List.range n).all fun j => decide (aget σ x (j : Int) = 0)
theorem zr_ok {σ : aS} {x : Int} {n : Nat} (h : zr σ x n = true) {j : Int} (j0 : 0 ≤ j) (j1 : j < n) : aget σ x j = 0 := by
  obtain ⟨k, rfl⟩ := Int.eq_ofNat_of_zero_le j0
  exact of_decide_eq_true (List.all_eq_true.mp h k (List.mem_range.mpr (by omega)))
def vs0 : List (Int × Int × Int) := [(8, 0, 90), (9, 5, 90), (1, 7, 90), (1, 8, 110), (90, 14, 0), (97, 1, 0), (90, 12, 0), (90, 10, 0), (90, 15, 0), (13, 0, 1), (13, 1, 1), (13, 2, 1), (13, 3, 1), (13, 4, 1), (9, 1, 1), (88, 1, 0), (88, 2, 0), (88, 3, 0), (88, 4, 0), (8, 9, -1), (24, 3, 0), (24, 4, 0), (24, 2, 0), (20, 9, 0),
  (130, 12, 0), (130, 13, 0), (130, 14, 0), (130, 15, 0), (130, 16, 0), (130, 17, 0), (130, 80, 0), (130, 81, 0), (130, 59, -1), (130, 83, 0), (130, 85, 0), (2, 4, 0), (130, 1, 0), (1, 9, 0), (1, 10, -1), (130, 4, 0), (130, 5, -1)]
def ck1 (σ : aS) : Bool := decide (σ.1 = kK) && (kR.all fun q => decide (aget σ q.1 q.2.1 = q.2.2))
def ck2 (σ : aS) : Bool := vs0.all fun q => decide (aget σ q.1 q.2.1 = q.2.2)
def ck3 (σ : aS) : Bool := zr σ 91 3 && zr σ 89 4 && zr σ 156 4
def ck4 (σ : aS) : Bool := zr σ 133 5 && zr σ 134 5 && zr σ 135 5 && zr σ 136 20 && zr σ 137 25 && zr σ 139 25 && zr σ 141 4 && zr σ 142 4 && zr σ 143 4 && zr σ 145 4 && zr σ 146 4 && zr σ 147 4 && zr σ 149 24
def ck5 (σ : aS) : Bool := (List.range 89).all fun j => decide (aget σ 132 (j : Int) = rtx (j : Int))
def ck6 (σ : aS) : Bool := decide (σ.2.2.1 ≤ 600000) && decide (σ.2.2.2 ≤ 7200000)
def stc (f : aS → Bool) : Bool := match c11_init 1 (anew aS0 21 11) with
  | some (0, [], σ1) => decide (σ1.1.length = 129) && (match c12_init 130 (anew σ1 22 87) with
    | some (0, [], σ2) => decide (σ2.1.length = 166) && f (anew σ2 3 1)
    | _ => false)
  | _ => false
theorem st_1 : stc ck1 = true := by decide +kernel
theorem st_2 : stc ck2 = true := by decide +kernel
theorem st_3 : stc ck3 = true := by decide +kernel
theorem st_4 : stc ck4 = true := by decide +kernel
theorem st_5 : stc ck5 = true := by decide +kernel
theorem st_6 : stc ck6 = true := by decide +kernel
