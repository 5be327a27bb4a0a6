/-! a tape as a list of bytes, its tokens as a list -/
def Sfx (b : Int → Int) (n p : Int) (s : List Int) : Prop := 0 ≤ p ∧ p + s.length = n ∧ ∀ (i : Nat) (v : Int), s[i]? = some v → b (p + i) = v
theorem Sfx.c {b : Int → Int} {n p c : Int} {s : List Int} (h : Sfx b n p (c :: s)) : b p = c ∧ p < n ∧ Sfx b n (p + 1) s := by
  obtain ⟨h0, h1, h2⟩ := h
  have hl : ((c :: s).length : Int) = s.length + 1 := by simp
  refine ⟨?_, by omega, by omega, by omega, fun i v hv => ?_⟩
  · have := h2 0 c rfl
    rw [show p + ((0 : Nat) : Int) = p by omega] at this
    exact this
  · have := h2 (i + 1) v hv
    rw [show p + 1 + (i : Int) = p + ((i + 1 : Nat) : Int) by omega]
    exact this
def hdn (g : Int → Bool) : List Int → Bool
  | [] => true
  | c :: _ => !g c
theorem Sfx.wh {b : Int → Int} {n : Int} {g : Int → Bool} : ∀ {w s : List Int} {p : Int}, Sfx b n p (w ++ s) → w.all g = true → hdn g s = true → whl (fun j => g (b j)) n p = p + w.length ∧ Sfx b n (p + w.length) s := by
  intro w
  induction w with
  | nil =>
    intro s p h _ hs
    rw [List.nil_append] at h
    have e : p + (([] : List Int).length : Int) = p := by simp
    rw [e]
    refine ⟨?_, h⟩
    cases s with
    | nil =>
      have : p = n := by have := h.2.1; simp at this; omega
      rw [this]; exact whl_n _ _
    | cons c r =>
      obtain ⟨h1, h2, -⟩ := h.c
      refine whl_e h2 ?_
      show g (b p) = false
      rw [h1]
      have hs2 : (!g c) = true := hs
      cases hg : g c with
      | true => rw [hg] at hs2; cases hs2
      | false => rfl
  | cons c w ih =>
    intro s p h hw hs
    obtain ⟨h1, h2, h3⟩ := h.c
    rw [List.all_cons, Bool.and_eq_true] at hw
    obtain ⟨e1, e2⟩ := ih h3 hw.2 hs
    have hl : ((c :: w).length : Int) = w.length + 1 := by simp
    rw [hl, show p + ((w.length : Int) + 1) = p + 1 + w.length by omega]
    refine ⟨?_, e2⟩
    rw [whl_s h2 (by show g (b p) = true; rw [h1]; exact hw.1)]
    exact e1
theorem Sfx.ap {b : Int → Int} {n : Int} : ∀ {w s : List Int} {p : Int}, Sfx b n p (w ++ s) → Sfx b n (p + w.length) s := by
  intro w
  induction w with
  | nil => intro s p h; rw [List.nil_append] at h; rw [show p + (([] : List Int).length : Int) = p by simp]; exact h
  | cons c w ih =>
    intro s p h
    have := ih h.c.2.2
    have hl : ((c :: w).length : Int) = w.length + 1 := by simp
    rw [hl, show p + ((w.length : Int) + 1) = p + 1 + w.length by omega]
    exact this
/-- the word that stands at p -/
def Wrd (b : Int → Int) (p : Int) (W : List Int) : Prop := ∀ (i : Nat) (v : Int), W[i]? = some v → b (p + i) = v
theorem Sfx.wrd {b : Int → Int} {n p : Int} {W s : List Int} (h : Sfx b n p (W ++ s)) : Wrd b p W := fun i v hv => h.2.2 i v (by
  rw [List.getElem?_append_left (List.getElem?_eq_some_iff.mp hv).1]; exact hv)
theorem Wrd.d {b : Int → Int} {p : Int} {W : List Int} (h : Wrd b p W) {i : Nat} (hi : i < W.length) : b (p + i) = W.getD i 0 :=
  h i _ (by rw [List.getD_eq_getElem?_getD, List.getElem?_eq_getElem hi]; rfl)
/-- two words that stand there are one -/
theorem mtc_u {w v : List Int} {b : Int → Int} {p e : Int} (h : mtc w b p e = true) (h2 : mtc v b p e = true) : w = v := by
  rw [mtc_t] at h h2
  have hl : w.length = v.length := by have := h.1; have := h2.1; omega
  refine List.ext_getElem hl (fun i h1 h3 => ?_)
  have a := h.2 i (by omega) (by omega)
  have c := h2.2 i (by omega) (by omega)
  rw [Int.toNat_natCast] at a c
  rw [← c] at a
  rw [List.getD_eq_getElem?_getD, List.getD_eq_getElem?_getD, List.getElem?_eq_getElem h1, List.getElem?_eq_getElem h3] at a
  exact a
theorem mtc_L {b : Int → Int} {p : Int} {W : List Int} (h : Wrd b p W) (w : List Int) : mtc w b p (p + W.length) = decide (w = W) := by
  have hW : mtc W b p (p + W.length) = true := by
    rw [mtc_t]
    refine ⟨by omega, fun j j0 j1 => ?_⟩
    have := h.d (i := j.toNat) (by omega)
    rw [show p + ((j.toNat : Nat) : Int) = p + j by omega] at this
    exact this.symm
  by_cases e : w = W
  · rw [e, hW, decide_eq_true rfl]
  · rw [decide_eq_false e]
    cases hm : mtc w b p (p + W.length) with
    | false => rfl
    | true => exact absurd (mtc_u hm hW) e
def kwL (W : List Int) : Int := ff (fun i => decide (wds.getD i.toNat [] = W)) 16
theorem kwI_L {b : Int → Int} {p : Int} {W : List Int} (h : Wrd b p W) : kwI b p (p + W.length) = kwL W := by
  unfold kwI kwL
  congr 1
  funext i
  exact mtc_L h _
def ndL (W : List Int) : Nat → Int
  | 0 => 0
  | k + 1 => mn 100000 (ndL W k * 10 + W.getD k 0 - 48)
theorem nfd_L {b : Int → Int} {p : Int} {W : List Int} (h : Wrd b p W) : ∀ k : Nat, k ≤ W.length → nfd b p k = ndL W k := by
  intro k
  induction k with
  | zero => intro _; rfl
  | succ k ih =>
    intro hk
    show mn 100000 (nfd b p k * 10 + b (p + k) - 48) = mn 100000 (ndL W k * 10 + W.getD k 0 - 48)
    rw [ih (by omega), h.d (by omega)]
def pcL (W : List Int) : Nat → Int
  | 0 => 0
  | k + 1 => 32 * pcL W k + (if k < W.length then W.getD k 0 - 96 else 0)
theorem pcf_L {b : Int → Int} {p : Int} {W : List Int} (h : Wrd b p W) : ∀ k : Nat, pcf b p (p + W.length) k = pcL W k := by
  intro k
  induction k with
  | zero => rfl
  | succ k ih =>
    show 32 * pcf b p (p + W.length) k + (if p + k < p + W.length then b (p + k) - 96 else 0) = 32 * pcL W k + (if k < W.length then W.getD k 0 - 96 else 0)
    rw [ih]
    by_cases c : k < W.length
    · rw [if_pos c, if_pos (by omega), h.d c]
    · rw [if_neg c, if_neg (by omega)]
/-- a token: 0 a word, 1 digits, 2 a sign; its letters; the blanks behind it -/
abbrev tT : Type := Nat × List Int × List Int
def tbt (t : tT) : List Int := t.2.1 ++ t.2.2
def tkT (l : List tT) : List Int := l.flatMap tbt
def kdL (t : tT) : Int := if t.1 = 0 then (if kwL t.2.1 < 16 then 100 + kwL t.2.1 else if 6 < t.2.1.length then 1 else 3) else if t.1 = 1 then 2 else sgk (t.2.1.headD 0)
def vlL (t : tT) : Int := if kdL t = 2 then ndL t.2.1 t.2.1.length else if kdL t = 3 then pcL t.2.1 6 else 0
def okt (t : tT) (s : List Int) : Bool :=
  (match t.1, t.2.1 with
    | 0, c :: w => chl c && w.all chl && hdn chl (t.2.2 ++ s)
    | 1, c :: w => !chl c && chd c && w.all chd && hdn chd (t.2.2 ++ s)
    | 2, [c] => !chl c && !chd c && decide (sgk c ≠ 2) && decide (sgk c ≠ 3)
    | _, _ => false) && t.2.2.all chb && hdn chb s
def oktA : List tT → Bool
  | [] => true
  | t :: l => okt t (tkT l) && oktA l
theorem Sfx.tok {b : Int → Int} {n p : Int} {t : tT} {s : List Int} (h : Sfx b n p (tbt t ++ s)) (ok : okt t s = true) : p < n ∧ kd b n p = kdL t ∧ vlt b n p = vlL t ∧ Sfx b n (nxp b n p) s := by
  obtain ⟨k, W, B⟩ := t
  have h : Sfx b n p (W ++ (B ++ s)) := by
    have e : tbt (k, W, B) ++ s = W ++ (B ++ s) := List.append_assoc _ _ _
    rw [← e]; exact h
  unfold okt at ok
  rw [Bool.and_eq_true, Bool.and_eq_true] at ok
  obtain ⟨⟨ok, hB⟩, hs⟩ := ok
  dsimp only at ok hB hs
  have hW := h.wrd
  -- whatever the kind: once the end of the token is known
  have fin : ∀ (hp : p < n), tke b n p = p + W.length → tkc b n p = kdL (k, W, B) → p < n ∧ kd b n p = kdL (k, W, B) ∧ vlt b n p = vlL (k, W, B) ∧ Sfx b n (nxp b n p) s := by
    intro hp he hk
    have h2 := (h.ap).wh (g := chb) hB hs
    refine ⟨hp, by unfold kd; rw [if_pos hp]; exact hk, ?_, ?_⟩
    · unfold vlt vlL tkv
      rw [if_pos hp, hk, he, show (p + (W.length : Int) - p).toNat = W.length by omega, nfd_L hW _ (Nat.le_refl _), pcf_L hW]
    · unfold nxp skp
      rw [if_pos hp, he]
      rw [h2.1]; exact h2.2
  match k, W, ok, h, hW, fin with
  | 0, c :: w, ok, h, hW, fin =>
    simp only [Bool.and_eq_true] at ok
    obtain ⟨⟨hc, hw⟩, hn⟩ := ok
    obtain ⟨h1, h2, h3⟩ := h.c
    have hl : ((c :: w).length : Int) = w.length + 1 := by simp
    have he : tke b n p = p + ((c :: w).length : Int) := by
      unfold tke
      rw [h1, hc, if_pos rfl, (h3.wh (g := chl) hw hn).1, hl]; omega
    refine fin h2 he ?_
    unfold tkc kdL
    rw [h1, hc, if_pos rfl, he, kwI_L hW, if_pos rfl, show p + ((c :: w).length : Int) - p = ((c :: w).length : Int) by omega]
    by_cases q : kwL (c :: w) < 16
    · rw [if_pos q, if_pos q]
    · rw [if_neg q, if_neg q]
      by_cases r : 6 < (c :: w).length
      · rw [if_pos r, if_pos (by omega)]
      · rw [if_neg r, if_neg (by omega)]
  | 1, c :: w, ok, h, hW, fin =>
    simp only [Bool.and_eq_true, Bool.not_eq_true'] at ok
    obtain ⟨⟨⟨hc, hd⟩, hw⟩, hn⟩ := ok
    obtain ⟨h1, h2, h3⟩ := h.c
    have hl : ((c :: w).length : Int) = w.length + 1 := by simp
    have he : tke b n p = p + ((c :: w).length : Int) := by
      unfold tke
      rw [h1, hc, hd, if_neg (by decide), if_pos rfl, (h3.wh (g := chd) hw hn).1, hl]; omega
    refine fin h2 he ?_
    unfold tkc kdL
    rw [h1, hc, hd, if_neg (by decide), if_pos rfl]
    rfl
  | 2, [c], ok, h, hW, fin =>
    simp only [Bool.and_eq_true, Bool.not_eq_true', decide_eq_true_eq] at ok
    obtain ⟨⟨⟨hc, hd⟩, -⟩, -⟩ := ok
    obtain ⟨h1, h2, -⟩ := h.c
    have he : tke b n p = p + (([c] : List Int).length : Int) := by
      unfold tke
      rw [h1, hc, hd, if_neg (by decide), if_neg (by decide)]; rfl
    refine fin h2 he ?_
    unfold tkc kdL
    rw [h1, hc, hd, if_neg (by decide), if_neg (by decide)]
    rfl
/-- the tokens from p on: kinds and values -/
def Tks (b : Int → Int) (n : Int) : Int → List (Int × Int) → Prop
  | p, [] => p = n
  | p, q :: l => p < n ∧ kd b n p = q.1 ∧ vlt b n p = q.2 ∧ Tks b n (nxp b n p) l
theorem Sfx.toks {b : Int → Int} {n : Int} : ∀ {l : List tT} {p : Int}, Sfx b n p (tkT l) → oktA l = true → Tks b n p (l.map fun t => (kdL t, vlL t)) := by
  intro l
  induction l with
  | nil => intro p h _; have := h.2.1; simp [tkT] at this; exact this
  | cons t l ih =>
    intro p h ok
    unfold oktA at ok
    rw [Bool.and_eq_true] at ok
    have h : Sfx b n p (tbt t ++ tkT l) := by
      have e : tkT (t :: l) = tbt t ++ tkT l := List.flatMap_cons
      rw [← e]; exact h
    obtain ⟨h1, h2, h3, h4⟩ := h.tok ok.1
    exact ⟨h1, h2, h3, ih h4 ok.2⟩
theorem Tks.k {b : Int → Int} {n p k v : Int} {l : List (Int × Int)} (h : Tks b n p ((k, v) :: l)) : p < n ∧ kd b n p = k ∧ vlt b n p = v ∧ Tks b n (nxp b n p) l := h
theorem Tks.e {b : Int → Int} {n p : Int} (h : Tks b n p []) : kd b n p = 0 := by
  unfold kd
  rw [if_neg (by have : p = n := h; omega)]
/-! numbers in digits -/
def dg (v : Int) : List Int := if v < 10 then [48 + v] else if v < 100 then [48 + v / 10, 48 + v % 10] else [48 + v / 100, 48 + v / 10 % 10, 48 + v % 10]
theorem chd_of {c : Int} (h0 : 48 ≤ c) (h1 : c ≤ 57) : chd c = true := chd_t.mpr ⟨h0, h1⟩
theorem chl_n {c : Int} (h : c ≤ 57) : chl c = false := by
  cases e : chl c with
  | false => rfl
  | true => have := (chl_t.mp e).1; omega
theorem mn_k {x : Int} (h : x ≤ 100000) : mn 100000 x = x := by
  unfold mn
  split <;> omega
theorem dg_ok {v : Int} (v0 : 0 ≤ v) (v1 : v ≤ 999) {B s : List Int} (hB : B.all chb = true) (hn : hdn chd (B ++ s) = true) (hs : hdn chb s = true) : okt (1, dg v, B) s = true ∧ ndL (dg v) (dg v).length = v := by
  unfold dg
  by_cases c1 : v < 10
  · rw [if_pos c1]
    refine ⟨?_, ?_⟩
    · unfold okt
      simp only [chl_n (show 48 + v ≤ 57 by omega), chd_of (show 48 ≤ 48 + v by omega) (show 48 + v ≤ 57 by omega), List.all_nil, hB, hn, hs]
      rfl
    · show mn 100000 (0 * 10 + (48 + v) - 48) = v
      rw [mn_k (by omega)]; omega
  · rw [if_neg c1]
    by_cases c2 : v < 100
    · rw [if_pos c2]
      refine ⟨?_, ?_⟩
      · unfold okt
        simp only [chl_n (show 48 + v / 10 ≤ 57 by omega), chd_of (show 48 ≤ 48 + v / 10 by omega) (show 48 + v / 10 ≤ 57 by omega), chd_of (show 48 ≤ 48 + v % 10 by omega) (show 48 + v % 10 ≤ 57 by omega), List.all_nil, List.all_cons, hB, hn, hs]
        rfl
      · show mn 100000 (mn 100000 (0 * 10 + (48 + v / 10) - 48) * 10 + (48 + v % 10) - 48) = v
        rw [mn_k (x := 0 * 10 + (48 + v / 10) - 48) (by omega), mn_k (by omega)]; omega
    · rw [if_neg c2]
      refine ⟨?_, ?_⟩
      · unfold okt
        simp only [chl_n (show 48 + v / 100 ≤ 57 by omega), chd_of (show 48 ≤ 48 + v / 100 by omega) (show 48 + v / 100 ≤ 57 by omega), chd_of (show 48 ≤ 48 + v / 10 % 10 by omega) (show 48 + v / 10 % 10 ≤ 57 by omega), chd_of (show 48 ≤ 48 + v % 10 by omega) (show 48 + v % 10 ≤ 57 by omega), List.all_nil, List.all_cons, hB, hn, hs]
        rfl
      · show mn 100000 (mn 100000 (mn 100000 (0 * 10 + (48 + v / 100) - 48) * 10 + (48 + v / 10 % 10) - 48) * 10 + (48 + v % 10) - 48) = v
        rw [mn_k (x := 0 * 10 + (48 + v / 100) - 48) (by omega), mn_k (x := (0 * 10 + (48 + v / 100) - 48) * 10 + (48 + v / 10 % 10) - 48) (by omega), mn_k (by omega)]; omega
