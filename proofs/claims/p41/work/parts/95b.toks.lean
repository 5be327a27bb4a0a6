/-! the class's half of whole's part of this name -/
def chl (c : Int) : Bool := decide (97 ≤ c ∧ c ≤ 122)
def chd (c : Int) : Bool := decide (48 ≤ c ∧ c ≤ 57)
def chb (c : Int) : Bool := decide (c = 10 ∨ c = 32)
theorem chl_t {c : Int} : chl c = true ↔ 97 ≤ c ∧ c ≤ 122 := decide_eq_true_iff
theorem chd_t {c : Int} : chd c = true ↔ 48 ≤ c ∧ c ≤ 57 := decide_eq_true_iff
theorem chb_t {c : Int} : chb c = true ↔ c = 10 ∨ c = 32 := decide_eq_true_iff
/-- the first from p on that isn't so: n if none -/
def whl (f : Int → Bool) (n p : Int) : Int := p + ff (fun j => !f (p + j)) (n - p)
theorem whl_bd (f : Int → Bool) {n p : Int} (h : p ≤ n) : p ≤ whl f n p ∧ whl f n p ≤ n := by
  have a := ff_0 (fun j => !f (p + j)) (n := n - p)
  have b := ff_n (fun j => !f (p + j)) (n := n - p) (by omega)
  unfold whl; omega
theorem whl_s {f : Int → Bool} {n p : Int} (h : p < n) (hf : f p = true) : whl f n p = whl f n (p + 1) := by
  unfold whl
  have b0 := ff_0 (fun j => !f (p + 1 + j)) (n := n - (p + 1))
  have bn := ff_n (fun j => !f (p + 1 + j)) (n := n - (p + 1)) (by omega)
  have bat := ff_at (P := fun j => !f (p + 1 + j)) (n := n - (p + 1))
  have bno := fun k => ff_no (P := fun j => !f (p + 1 + j)) (n := n - (p + 1)) (k := k)
  generalize ff (fun j => !f (p + 1 + j)) (n - (p + 1)) = X at b0 bn bat bno
  have e : ff (fun j => !f (p + j)) (n - p) = X + 1 := by
    refine ff_uniq (by omega) (by omega) (fun j j0 j1 => ?_) (fun q => ?_)
    · by_cases z : j = 0
      · show (!f (p + j)) = false
        rw [z, Int.add_zero, hf]; rfl
      · have := bno (j - 1) (by omega) (by omega)
        rw [show p + 1 + (j - 1) = p + j by omega] at this
        exact this
    · have := bat (by omega)
      rw [show p + 1 + X = p + (X + 1) by omega] at this
      exact this
  rw [e]; omega
theorem whl_e {f : Int → Bool} {n p : Int} (h : p < n) (hf : f p = false) : whl f n p = p := by
  unfold whl
  have e : ff (fun j => !f (p + j)) (n - p) = 0 := ff_uniq (Int.le_refl _) (by omega) (fun j j0 j1 => by omega) (fun _ => by
    show (!f (p + 0)) = true
    rw [Int.add_zero, hf]; rfl)
  rw [e]; omega
theorem whl_n (f : Int → Bool) (n : Int) : whl f n n = n := by
  have := whl_bd f (Int.le_refl n); omega
/-- behind the blanks -/
def skp (b : Int → Int) (n p : Int) : Int := whl (fun j => chb (b j)) n p
/-- the end of the token at p -/
def tke (b : Int → Int) (n p : Int) : Int := if chl (b p) = true then whl (fun j => chl (b j)) n (p + 1) else if chd (b p) = true then whl (fun j => chd (b j)) n (p + 1) else p + 1
theorem tke_bd (b : Int → Int) {n p : Int} (h : p < n) : p < tke b n p ∧ tke b n p ≤ n := by
  unfold tke
  have a := whl_bd (fun j => chl (b j)) (show p + 1 ≤ n by omega)
  have d := whl_bd (fun j => chd (b j)) (show p + 1 ≤ n by omega)
  split
  · omega
  · split <;> omega
def wds : List (List Int) := [[103, 111, 111, 100], [102, 108, 111, 97, 116], [119, 97, 110, 116, 115], [108, 105, 107, 101], [116, 111, 119, 110], [103, 105, 118, 101, 115], [118, 111, 116, 101, 115], [98, 111, 117, 110, 100], [97, 115, 107], [103, 114, 111, 117, 110, 100], [115, 116, 111, 114, 109], [109, 101, 109, 98, 101, 114, 115], [109, 97, 110, 121], [99, 111, 115, 116], [112, 97, 121, 115], [111, 119, 110]]
/-- the word w is what stands from p to e -/
def mtc (w : List Int) (b : Int → Int) (p e : Int) : Bool := decide ((w.length : Int) = e - p) && decide (ff (fun j => !decide (w.getD j.toNat 0 = b (p + j))) (w.length : Int) = w.length)
theorem mtc_t {w : List Int} {b : Int → Int} {p e : Int} : mtc w b p e = true ↔ (w.length : Int) = e - p ∧ ∀ j : Int, 0 ≤ j → j < w.length → w.getD j.toNat 0 = b (p + j) := by
  unfold mtc
  rw [Bool.and_eq_true, decide_eq_true_iff, decide_eq_true_iff]
  refine ⟨fun ⟨a, h⟩ => ⟨a, fun j j0 j1 => ?_⟩, fun ⟨a, h⟩ => ⟨a, ff_uniq (by omega) (Int.le_refl _) (fun j j0 j1 => ?_) (fun q => by omega)⟩⟩
  · have := ff_no (P := fun j => !decide (w.getD j.toNat 0 = b (p + j))) (n := (w.length : Int)) j0 (by omega)
    by_cases q : w.getD j.toNat 0 = b (p + j)
    · exact q
    · rw [decide_eq_false q] at this; exact absurd this (by decide)
  · rw [decide_eq_true (h j j0 j1)]; rfl
def kwI (b : Int → Int) (p e : Int) : Int := ff (fun i => mtc (wds.getD i.toNat []) b p e) 16
def sgk (c : Int) : Int := if c = 40 then c else if c = 41 then c else if c = 42 then c else if c = 43 then c else if c = 45 then c else if c = 47 then c else if c = 59 then c else 1
/-- a token's kind -/
def tkc (b : Int → Int) (n p : Int) : Int :=
  if chl (b p) = true then (if kwI b p (tke b n p) < 16 then 100 + kwI b p (tke b n p) else if 6 < tke b n p - p then 1 else 3) else if chd (b p) = true then 2 else sgk (b p)
def nfd (b : Int → Int) (p : Int) : Nat → Int
  | 0 => 0
  | k + 1 => mn 100000 (nfd b p k * 10 + b (p + k) - 48)
def pcf (b : Int → Int) (p e : Int) : Nat → Int
  | 0 => 0
  | k + 1 => 32 * pcf b p e k + (if p + k < e then b (p + k) - 96 else 0)
def tkv (b : Int → Int) (n p : Int) : Int := if tkc b n p = 2 then nfd b p (tke b n p - p).toNat else if tkc b n p = 3 then pcf b p (tke b n p) 6 else 0
def kd (b : Int → Int) (n p : Int) : Int := if p < n then tkc b n p else 0
def vlt (b : Int → Int) (n p : Int) : Int := if p < n then tkv b n p else 0
/-- the next token -/
def nxp (b : Int → Int) (n p : Int) : Int := if p < n then skp b n (tke b n p) else n
theorem skp_bd (b : Int → Int) {n p : Int} (h : p ≤ n) : p ≤ skp b n p ∧ skp b n p ≤ n := whl_bd _ h
theorem nxp_bd (b : Int → Int) {n p : Int} (h : p < n) : p < nxp b n p ∧ nxp b n p ≤ n := by
  have a := tke_bd b h
  have c := skp_bd b a.2
  unfold nxp
  rw [if_pos h]; omega
theorem sgk_bd (c : Int) : sgk c = 1 ∨ ((sgk c = 40 ∨ sgk c = 41 ∨ sgk c = 42 ∨ sgk c = 43 ∨ sgk c = 45 ∨ sgk c = 47 ∨ sgk c = 59) ∧ sgk c = c) := by
  unfold sgk
  repeat' split
  all_goals omega
theorem kwI_bd (b : Int → Int) (p e : Int) : 0 ≤ kwI b p e ∧ kwI b p e ≤ 16 := ⟨ff_0 _, ff_n _ (by omega)⟩
theorem tkc_cs (b : Int → Int) (n p : Int) : (chl (b p) = true ∧ (tkc b n p = 1 ∨ tkc b n p = 3 ∨ (100 ≤ tkc b n p ∧ tkc b n p ≤ 115))) ∨ (chl (b p) = false ∧ chd (b p) = true ∧ tkc b n p = 2) ∨ (chl (b p) = false ∧ chd (b p) = false ∧ tkc b n p = sgk (b p)) := by
  have k := kwI_bd b p (tke b n p)
  unfold tkc
  cases h : chl (b p) with
  | true =>
    left
    refine ⟨rfl, ?_⟩
    rw [if_pos rfl]
    split
    · omega
    · split <;> omega
  | false =>
    right
    rw [if_neg (by decide)]
    cases h2 : chd (b p) with
    | true => left; exact ⟨rfl, rfl, if_pos rfl⟩
    | false => right; exact ⟨rfl, rfl, if_neg (by decide)⟩
theorem nfd_bd {b : Int → Int} {p : Int} : ∀ k : Nat, (∀ i : Nat, i < k → 48 ≤ b (p + i)) → 0 ≤ nfd b p k ∧ nfd b p k ≤ 100000 := by
  intro k
  induction k with
  | zero => intro _; exact ⟨Int.le_refl _, by show (0 : Int) ≤ 100000; omega⟩
  | succ k ih =>
    intro h
    have i := ih (fun j hj => h j (by omega))
    have d := h k (by omega)
    refine ⟨?_, mn_l _ _⟩
    show 0 ≤ mn 100000 (nfd b p k * 10 + b (p + k) - 48)
    rcases mn_o 100000 (nfd b p k * 10 + b (p + k) - 48) with e | e <;> rw [e] <;> omega
theorem pcf_bd {b : Int → Int} {p e : Int} (hl : ∀ j, p ≤ j → j < e → 97 ≤ b j ∧ b j ≤ 122) : ∀ k : Nat, 0 ≤ pcf b p e k ∧ pcf b p e k < ((32 ^ k : Nat) : Int) := by
  intro k
  induction k with
  | zero => exact ⟨Int.le_refl _, by show (0 : Int) < 1; omega⟩
  | succ k ih =>
    have hp : ((32 ^ (k + 1) : Nat) : Int) = 32 * ((32 ^ k : Nat) : Int) := by rw [Nat.pow_succ]; omega
    show 0 ≤ 32 * pcf b p e k + (if p + k < e then b (p + k) - 96 else 0) ∧ 32 * pcf b p e k + (if p + k < e then b (p + k) - 96 else 0) < ((32 ^ (k + 1) : Nat) : Int)
    rw [hp]
    by_cases c : p + k < e
    · have := hl (p + k) (by omega) c
      rw [if_pos c]; omega
    · rw [if_neg c]; omega
/-- what goes on within a token -/
def tkf (b : Int → Int) (p : Int) : Int → Bool := fun j => if chl (b p) = true then chl (b j) else if chd (b p) = true then chd (b j) else false
theorem tke_f (b : Int → Int) {n p : Int} (h : p < n) : tke b n p = whl (tkf b p) n (p + 1) := by
  unfold tke
  by_cases c : chl (b p) = true
  · have e : tkf b p = fun j => chl (b j) := by funext j; exact if_pos c
    rw [if_pos c, e]
  · rw [if_neg c]
    by_cases d : chd (b p) = true
    · have e : tkf b p = fun j => chd (b j) := by funext j; unfold tkf; rw [if_neg c, if_pos d]
      rw [if_pos d, e]
    · rw [if_neg d]
      by_cases q : p + 1 < n
      · exact (whl_e q (by unfold tkf; rw [if_neg c, if_neg d])).symm
      · rw [show n = p + 1 by omega]; exact (whl_n _ _).symm
theorem whl_in {f : Int → Bool} {n p j : Int} (h0 : p ≤ j) (h1 : j < whl f n p) : f j = true := by
  have := ff_no (P := fun j => !f (p + j)) (n := n - p) (k := j - p) (by omega) (by unfold whl at h1; omega)
  rw [show p + (j - p) = j by omega] at this
  cases h : f j with
  | true => rfl
  | false => rw [h] at this; exact absurd this (by decide)
theorem tke_l {b : Int → Int} {n p : Int} (h : p < n) (hl : chl (b p) = true) : ∀ j, p ≤ j → j < tke b n p → 97 ≤ b j ∧ b j ≤ 122 := fun j j0 j1 => by
  rw [← chl_t]
  by_cases e : j = p
  · rw [e]; exact hl
  · unfold tke at j1
    rw [if_pos hl] at j1
    exact whl_in (f := fun j => chl (b j)) (by omega) j1
theorem tke_d {b : Int → Int} {n p : Int} (h : p < n) (hl : chl (b p) = false) (hd : chd (b p) = true) : ∀ j, p ≤ j → j < tke b n p → 48 ≤ b j ∧ b j ≤ 57 := fun j j0 j1 => by
  rw [← chd_t]
  by_cases e : j = p
  · rw [e]; exact hd
  · unfold tke at j1
    rw [if_neg (by rw [hl]; decide), if_pos hd] at j1
    exact whl_in (f := fun j => chd (b j)) (by omega) j1
