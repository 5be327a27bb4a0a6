/-! lines out of tokens -/
theorem aNamed_0 {T : aH} {w l : Int} (h : T 0 w = 0) (w0 : 0 ≤ w) (w3 : w < 3) : aNamed T w l = -1 := by
  unfold aNamed
  have := ff_0 (fun i => decide (T 11 (5 * w + i) = l)) (n := T 0 w)
  rw [if_pos ⟨w0, w3⟩, if_neg (by omega)]
theorem aNamed_1 {T : aH} {w l : Int} (h : T 0 w = 1) (w0 : 0 ≤ w) (w3 : w < 3) : aNamed T w l = if T 11 (5 * w) = l then 0 else -1 := by
  unfold aNamed
  rw [if_pos ⟨w0, w3⟩, h]
  by_cases c : T 11 (5 * w) = l
  · have e : ff (fun i => decide (T 11 (5 * w + i) = l)) 1 = 0 := ff_uniq (by omega) (by omega) (fun j j0 j1 => by omega) (fun _ => by rw [Int.add_zero]; exact decide_eq_true c)
    rw [if_pos c, e]; rfl
  · have e : ff (fun i => decide (T 11 (5 * w + i) = l)) 1 = 1 := ff_uniq (by omega) (by omega) (fun j j0 j1 => by rw [show j = 0 by omega, Int.add_zero]; exact decide_eq_false c) (fun q => by omega)
    rw [if_neg c, e]; rfl
theorem aNamed_2 {T : aH} {w l : Int} (h : T 0 w = 2) (w0 : 0 ≤ w) (w3 : w < 3) : aNamed T w l = if T 11 (5 * w) = l then 0 else if T 11 (5 * w + 1) = l then 1 else -1 := by
  unfold aNamed
  rw [if_pos ⟨w0, w3⟩, h]
  by_cases c : T 11 (5 * w) = l
  · have e : ff (fun i => decide (T 11 (5 * w + i) = l)) 2 = 0 := ff_uniq (by omega) (by omega) (fun j j0 j1 => by omega) (fun _ => by rw [Int.add_zero]; exact decide_eq_true c)
    rw [if_pos c, e]; rfl
  · by_cases d : T 11 (5 * w + 1) = l
    · have e : ff (fun i => decide (T 11 (5 * w + i) = l)) 2 = 1 := ff_uniq (by omega) (by omega) (fun j j0 j1 => by rw [show j = 0 by omega, Int.add_zero]; exact decide_eq_false c) (fun _ => decide_eq_true d)
      rw [if_neg c, if_pos d, e]; rfl
    · have e : ff (fun i => decide (T 11 (5 * w + i) = l)) 2 = 2 := ff_uniq (by omega) (by omega) (fun j j0 j1 => by
        rcases (show j = 0 ∨ j = 1 by omega) with q | q
        · rw [q, Int.add_zero]; exact decide_eq_false c
        · rw [q]; exact decide_eq_false d) (fun q => by omega)
      rw [if_neg c, if_neg d, e]; rfl
theorem nwF_ok {b : Int → Int} {n P w most l : Int} {T : aH} (h1 : T 0 w < most) (h2 : kd b n (nxp b n P) = 3) (h3 : vlt b n (nxp b n P) = l) (h4 : aNamed T w l = -1) : nwF b n T w most P = (0, nxp b n (nxp b n P)) := by
  unfold nwF
  rw [if_neg (by omega), if_neg (fun q => q h2), h3, if_neg (fun q => q h4)]
theorem pNum_ok {b : Int → Int} {n P lo hi v : Int} (h1 : kd b n P = 2) (h2 : vlt b n P = v) (h3 : lo ≤ v) (h4 : v ≤ hi) : pNum b n lo hi P = 0 := by
  unfold pNum
  rw [if_pos h1, h2, if_neg (by omega)]
theorem odF_ok {b : Int → Int} {n P w l : Int} {T : aH} (h1 : kd b n P = 3) (h2 : vlt b n P = l) (h3 : aNamed T w l ≠ -1) : odF b n T w P = 0 := by
  unfold odF
  rw [if_neg (fun q => q h1), h2, if_neg h3]
theorem tkN_ok {b : Int → Int} {n P lo hi v : Int} {q : Int × Int} (h : q = (0, P)) (h1 : kd b n P = 2) (h2 : vlt b n P = v) (h3 : lo ≤ v) (h4 : v ≤ hi) : tkN b n lo hi q = (0, nxp b n P) := by
  unfold tkN
  rw [h]
  dsimp only
  rw [if_neg (by omega), pNum_ok h1 h2 h3 h4, if_neg (by omega)]
/-- a line and its end -/
theorem lnZ_ok {b : Int → Int} {n P Q v : Int} {T U : aH} {l : List (Int × Int)} (h : ln b n P T = (0, Q, U)) (ht : Tks b n Q ((59, v) :: l)) : lnZ b n P T = (0, nxp b n Q, stv U 22 0 (U 22 0 + 1)) ∧ Tks b n (nxp b n Q) l := by
  obtain ⟨-, k, -, t⟩ := ht.k
  unfold lnZ
  rw [h]
  dsimp only
  rw [if_neg (by omega), if_pos k]
  exact ⟨rfl, t⟩
theorem txt_s {b : Int → Int} {n P Q : Int} {k : Nat} {T U : aH} (h0 : kd b n P ≠ 0) (h : lnZ b n P T = (0, Q, U)) : txt b n (k + 1) P T = txt b n k Q U := by
  show (if kd b n P = 0 then (0, P, T) else if (lnZ b n P T).1 ≠ 0 then lnZ b n P T else txt b n k (lnZ b n P T).2.1 (lnZ b n P T).2.2) = _
  rw [if_neg h0, h]
  dsimp only
  rw [if_neg (by omega)]
theorem txt_e {b : Int → Int} {n P : Int} {k : Nat} {T : aH} (h : Tks b n P []) : txt b n (k + 1) P T = (0, P, T) := by
  show (if kd b n P = 0 then (0, P, T) else if (lnZ b n P T).1 ≠ 0 then lnZ b n P T else txt b n k (lnZ b n P T).2.1 (lnZ b n P T).2.2) = _
  rw [if_pos h.e]
/-- a fault in a line -/
theorem txt_f {b : Int → Int} {n P : Int} {k : Nat} {T : aH} (h0 : kd b n P ≠ 0) (h : (ln b n P T).1 ≠ 0) : (txt b n (k + 1) P T).1 = (ln b n P T).1 := by
  have e : lnZ b n P T = ln b n P T := by unfold lnZ; rw [if_pos h]
  show (if kd b n P = 0 then (0, P, T) else if (lnZ b n P T).1 ≠ 0 then lnZ b n P T else txt b n k (lnZ b n P T).2.1 (lnZ b n P T).2.2).1 = _
  rw [if_neg h0, e, if_pos h]
def goodT (T : aH) (nm c : Int) : aH := stv (stv (stv T 11 (5 * 0 + T 0 0) nm) 0 0 (T 0 0 + 1)) 1 (T 0 0) c
theorem ln_good {b : Int → Int} {n P a nm c : Int} {T : aH} {l : List (Int × Int)} (h : Tks b n P ((100, a) :: (3, nm) :: (2, c) :: l)) (h5 : T 0 0 < 5) (hn : aNamed T 0 nm = -1) (c0 : 0 ≤ c) (c1 : c ≤ 999) :
    ∃ Q, ln b n P T = (0, Q, goodT T nm c) ∧ Tks b n Q l := by
  obtain ⟨-, k0, -, t⟩ := h.k
  obtain ⟨-, k1, v1, t⟩ := t.k
  obtain ⟨-, k2, v2, t⟩ := t.k
  refine ⟨_, ?_, t⟩
  unfold ln lnG
  rw [if_pos k0, nwF_ok h5 k1 v1 hn]
  dsimp only
  rw [if_neg (by omega), pNum_ok k2 v2 c0 c1, if_neg (by omega)]
  unfold nwT goodT
  rw [v1, v2]
def fltU (T : aH) (nm m p o v : Int) : aH :=
  stv (stv (stv (addT (stv (stv T 11 (5 * 1 + T 0 1) nm) 0 1 (T 0 1 + 1)) (T 0 1) m) 2 (4 * T 0 1 + 1) p) 2 (4 * T 0 1 + 2) o) 2 (4 * T 0 1 + 3) v
def wantT (T : aH) (s g w : Int) : aH := stv (stv T 20 (5 * s + g) 1) 3 (5 * s + g) w
theorem ln_flt {b : Int → Int} {n P a nm m p o v : Int} {T : aH} {l : List (Int × Int)} (h : Tks b n P ((101, a) :: (3, nm) :: (2, m) :: (2, p) :: (2, o) :: (2, v) :: l)) (h5 : T 0 1 < 5) (hn : aNamed T 1 nm = -1)
    (m0 : 1 ≤ m) (m1 : m ≤ mn 6 (12 - T 0 3)) (p0 : 0 ≤ p) (p1 : p ≤ 99) (o0 : 0 ≤ o) (o1 : o ≤ 999) (v0 : 0 ≤ v) (v1 : v ≤ 99) :
    ∃ Q, ln b n P T = lnWs b n (T 0 1) 800 Q (fltU T nm m p o v) ∧ Tks b n Q l := by
  obtain ⟨-, k0, -, t⟩ := h.k
  obtain ⟨-, k1, w1, t⟩ := t.k
  obtain ⟨-, k2, w2, t⟩ := t.k
  obtain ⟨-, k3, w3, t⟩ := t.k
  obtain ⟨-, k4, w4, t⟩ := t.k
  obtain ⟨-, k5, w5, t⟩ := t.k
  refine ⟨_, ?_, t⟩
  have e : fltQ b n P T = (0, nxp b n (nxp b n (nxp b n (nxp b n (nxp b n (nxp b n P)))))) := by
    unfold fltQ
    exact tkN_ok (tkN_ok (tkN_ok (tkN_ok (nwF_ok h5 k1 w1 hn) k2 w2 m0 m1) k3 w3 p0 p1) k4 w4 o0 o1) k5 w5 v0 v1
  unfold ln lnF
  rw [if_neg (by omega), if_pos k0, e]
  dsimp only
  rw [if_neg (by omega)]
  unfold fltT nwT fltU
  rw [w1, w2, w3, w4, w5]
theorem lnWs_0 {b : Int → Int} {n s P : Int} {k : Nat} {T : aH} (h : kd b n P ≠ 102) : lnWs b n s (k + 1) P T = (0, P, T) := by
  show (if kd b n P = 102 then (if (lnW b n s P T).1 ≠ 0 then lnW b n s P T else lnWs b n s k (lnW b n s P T).2.1 (lnW b n s P T).2.2) else (0, P, T)) = _
  rw [if_neg h]
theorem lnWs_1 {b : Int → Int} {n s P a nm w g : Int} {k : Nat} {T : aH} {l : List (Int × Int)} (h : Tks b n P ((102, a) :: (3, nm) :: (2, w) :: l)) (hn : aNamed T 0 nm = g) (g0 : 0 ≤ g) (hz : T 20 (5 * s + g) = 0) (w0 : 0 ≤ w) (w1 : w ≤ 99) :
    ∃ Q, lnWs b n s (k + 1) P T = lnWs b n s k Q (wantT T s g w) ∧ Tks b n Q l := by
  obtain ⟨-, k0, -, t⟩ := h.k
  obtain ⟨-, k1, v1, t⟩ := t.k
  obtain ⟨-, k2, v2, t⟩ := t.k
  refine ⟨_, ?_, t⟩
  have e : lnW b n s P T = (0, nxp b n (nxp b n (nxp b n P)), wantT T s g w) := by
    unfold lnW
    rw [odF_ok (w := 0) k1 v1 (by omega), if_neg (by omega), v1, hn, if_neg (fun q => q hz), pNum_ok k2 v2 w0 w1, if_neg (by omega), v2]
    rfl
  show (if kd b n P = 102 then (if (lnW b n s P T).1 ≠ 0 then lnW b n s P T else lnWs b n s k (lnW b n s P T).2.1 (lnW b n s P T).2.2) else (0, P, T)) = _
  rw [if_pos k0, e]
  dsimp only
  rw [if_neg (by omega)]
def likeT (T : aH) (x v : Int) : aH := stv (stv T 21 x 1) 4 x v
/-- a like, with a minus sign or without -/
theorem ln_like {b : Int → Int} {n P a na nb v s o : Int} {T : aH} {l : List (Int × Int)} (h : Tks b n P ((103, a) :: (3, na) :: (3, nb) :: (2, v) :: l)) (h1 : aNamed T 1 na = s) (h2 : aNamed T 1 nb = o) (s0 : 0 ≤ s) (o0 : 0 ≤ o) (hz : T 21 (5 * s + o) = 0) (v0 : 0 ≤ v) (v1 : v ≤ 20) :
    ∃ Q, ln b n P T = (0, Q, likeT T (5 * s + o) v) ∧ Tks b n Q l := by
  obtain ⟨-, k0, -, t⟩ := h.k
  obtain ⟨-, k1, w1, t⟩ := t.k
  obtain ⟨-, k2, w2, t⟩ := t.k
  obtain ⟨-, k3, w3, t⟩ := t.k
  refine ⟨_, ?_, t⟩
  have eP : lkP b n P = nxp b n (nxp b n (nxp b n P)) := by unfold lkP; rw [if_neg (by omega)]
  have eV : lkV b n P = v := by unfold lkV; rw [if_neg (by omega), eP, w3]
  have eI : lkI b n P T = 5 * s + o := by unfold lkI; rw [w1, w2, h1, h2]
  unfold ln lnL
  rw [if_neg (by omega), if_neg (by omega), if_pos k0, odF_ok (w := 1) k1 w1 (by omega), if_neg (by omega), odF_ok (w := 1) k2 w2 (by omega), if_neg (by omega), eI, if_neg (fun q => q hz), eP, pNum_ok k3 w3 v0 v1, if_neg (by omega), eV]
  rfl
theorem ln_likeN {b : Int → Int} {n P a na nb m v s o : Int} {T : aH} {l : List (Int × Int)} (h : Tks b n P ((103, a) :: (3, na) :: (3, nb) :: (45, m) :: (2, v) :: l)) (h1 : aNamed T 1 na = s) (h2 : aNamed T 1 nb = o) (s0 : 0 ≤ s) (o0 : 0 ≤ o) (hz : T 21 (5 * s + o) = 0) (v0 : 0 ≤ v) (v1 : v ≤ 20) :
    ∃ Q, ln b n P T = (0, Q, likeT T (5 * s + o) (-v)) ∧ Tks b n Q l := by
  obtain ⟨-, k0, -, t⟩ := h.k
  obtain ⟨-, k1, w1, t⟩ := t.k
  obtain ⟨-, k2, w2, t⟩ := t.k
  obtain ⟨-, k3, w3, t⟩ := t.k
  obtain ⟨-, k4, w4, t⟩ := t.k
  refine ⟨_, ?_, t⟩
  have eP : lkP b n P = nxp b n (nxp b n (nxp b n (nxp b n P))) := by unfold lkP; rw [if_pos k3]
  have eV : lkV b n P = -v := by unfold lkV; rw [if_pos k3, eP, w4]
  have eI : lkI b n P T = 5 * s + o := by unfold lkI; rw [w1, w2, h1, h2]
  unfold ln lnL
  rw [if_neg (by omega), if_neg (by omega), if_pos k0, odF_ok (w := 1) k1 w1 (by omega), if_neg (by omega), odF_ok (w := 1) k2 w2 (by omega), if_neg (by omega), eI, if_neg (fun q => q hz), eP, pNum_ok k4 w4 v0 v1, if_neg (by omega), eV]
  rfl
/-! towns and their rules -/
def stpT (T : aH) (v : Int) : aH := stv (stv T 8 (T 24 0) v) 24 0 (T 24 0 + 1)
theorem wrT_ok {T : aH} {v : Int} (h : T 24 0 < 64) (v0 : 0 ≤ v) : wrT T v = stpT T v := if_pos ⟨h, v0⟩
theorem rlE_end {b : Int → Int} {n P v : Int} {k : Nat} {W : List Int} {T : aH} {l : List (Int × Int)} (h : Tks b n P ((59, v) :: l)) : rlE b n (k + 1) 0 W 0 P T = (0, P, (flW 1 W T).2) := by
  obtain ⟨-, k0, -, -⟩ := h.k
  rw [rlE_s, if_pos rfl, if_neg (by omega), if_neg (by unfold isS; omega)]
  exact if_neg (by omega)
theorem rlE_n {b : Int → Int} {n P v : Int} {k : Nat} {W : List Int} {T : aH} {l : List (Int × Int)} (h : Tks b n P ((2, v) :: l)) (h4 : T 0 4 < 64) (v0 : 0 ≤ v) (v1 : v ≤ 999) :
    rlE b n (k + 1) 1 W 0 P T = rlE b n k 0 (flN W (wrT (kntT T) v)).1 0 (nxp b n P) (flN W (wrT (kntT T) v)).2 ∧ Tks b n (nxp b n P) l := by
  obtain ⟨-, k0, w0, t⟩ := h.k
  refine ⟨?_, t⟩
  rw [rlE_s, if_neg (by omega), if_pos k0, if_neg (by omega), pNum_ok k0 w0 v0 v1, if_neg (by omega), w0]
theorem rlE_w {b : Int → Int} {n P c v : Int} {k : Nat} {W : List Int} {T : aH} {l : List (Int × Int)} (h : Tks b n P ((c, v) :: l)) (h4 : T 0 4 < 64) (c0 : 111 ≤ c) (c1 : c ≤ 115) :
    rlE b n (k + 1) 1 W 0 P T = rlE b n k 0 (flN W (wrT (kntT T) (1000 + c - 111))).1 0 (nxp b n P) (flN W (wrT (kntT T) (1000 + c - 111))).2 ∧ Tks b n (nxp b n P) l := by
  obtain ⟨-, k0, w0, t⟩ := h.k
  refine ⟨?_, t⟩
  rw [rlE_s, if_neg (by omega), if_neg (by omega), if_pos (by omega), if_neg (by omega), k0]
theorem rlE_m {b : Int → Int} {n P v : Int} {k : Nat} {W : List Int} {T : aH} {l : List (Int × Int)} (h : Tks b n P ((45, v) :: l)) (h4 : T 0 4 < 64) :
    rlE b n (k + 1) 1 W 0 P T = rlE b n k 1 (pushW W 2000) 0 (nxp b n P) (kntT T) ∧ Tks b n (nxp b n P) l := by
  obtain ⟨-, k0, w0, t⟩ := h.k
  refine ⟨?_, t⟩
  rw [rlE_s, if_neg (by omega), if_neg (by omega), if_neg (by omega), if_pos k0, if_neg (by omega)]
theorem rlE_d {b : Int → Int} {n P v : Int} {k : Nat} {W : List Int} {T : aH} {l : List (Int × Int)} (h : Tks b n P ((47, v) :: l)) (h4 : T 0 4 < 64) :
    rlE b n (k + 1) 0 W 0 P T = rlE b n k 1 (pushW (flW 2 W (kntT T)).1 3047) 0 (nxp b n P) (flW 2 W (kntT T)).2 ∧ Tks b n (nxp b n P) l := by
  obtain ⟨-, k0, w0, t⟩ := h.k
  refine ⟨?_, t⟩
  rw [rlE_s, if_pos rfl, if_neg (by omega), if_pos (by unfold isS; omega), if_neg (by omega), k0]
  rfl
theorem lnE_ok {b : Int → Int} {n t P Q : Int} {T U : aH} (h : rlE b n 800 1 [] 0 P (stv T 9 t (T 24 0)) = (0, Q, U)) : lnE b n t P T = (0, Q, stv U 10 t (U 24 0)) := by
  unfold lnE
  rw [h]
  dsimp only
  rw [if_neg (by omega)]
/-- what a rule of one number tells -/
def rulT (T : aH) (t v : Int) : aH := stv (stpT (kntT (stv T 9 t (T 24 0))) v) 10 t (T 24 0 + 1)
theorem kntT_24 (T : aH) : kntT T 24 0 = T 24 0 := stv_x (by omega) _
theorem stp_24 (T : aH) (v : Int) : stpT T v 24 0 = T 24 0 + 1 := stv_s _ _ _ _
theorem s9_24 (T : aH) (t v : Int) : stv T 9 t v 24 0 = T 24 0 := stv_x (by omega) _
theorem s9_04 (T : aH) (t v : Int) : stv T 9 t v 0 4 = T 0 4 := stv_x (by omega) _
theorem lnE_n {b : Int → Int} {n t P v a : Int} {T : aH} {l : List (Int × Int)} (h : Tks b n P ((2, v) :: (59, a) :: l)) (h4 : T 0 4 < 64) (h24 : T 24 0 < 64) (v0 : 0 ≤ v) (v1 : v ≤ 999) : ∃ Q, lnE b n t P T = (0, Q, rulT T t v) ∧ Tks b n Q ((59, a) :: l) := by
  obtain ⟨e, t1⟩ := rlE_n (k := 799) (W := []) (T := stv T 9 t (T 24 0)) h (by rw [s9_04]; exact h4) v0 v1
  rw [wrT_ok (by rw [kntT_24, s9_24]; exact h24) v0] at e
  refine ⟨_, ?_, t1⟩
  have e2 := lnE_ok (t := t) (e.trans (rlE_end (k := 798) t1))
  rw [e2]
  show (0, _, stv (stpT (kntT (stv T 9 t (T 24 0))) v) 10 t (stpT (kntT (stv T 9 t (T 24 0))) v 24 0)) = _
  rw [stp_24, kntT_24, s9_24]
  rfl
theorem lnE_w {b : Int → Int} {n t P c v a : Int} {T : aH} {l : List (Int × Int)} (h : Tks b n P ((c, v) :: (59, a) :: l)) (h4 : T 0 4 < 64) (h24 : T 24 0 < 64) (c0 : 111 ≤ c) (c1 : c ≤ 115) : ∃ Q, lnE b n t P T = (0, Q, rulT T t (1000 + c - 111)) ∧ Tks b n Q ((59, a) :: l) := by
  obtain ⟨e, t1⟩ := rlE_w (k := 799) (W := []) (T := stv T 9 t (T 24 0)) h (by rw [s9_04]; exact h4) c0 c1
  rw [wrT_ok (by rw [kntT_24, s9_24]; exact h24) (by omega)] at e
  refine ⟨_, ?_, t1⟩
  have e2 := lnE_ok (t := t) (e.trans (rlE_end (k := 798) t1))
  rw [e2]
  show (0, _, stv (stpT (kntT (stv T 9 t (T 24 0))) (1000 + c - 111)) 10 t (stpT (kntT (stv T 9 t (T 24 0))) (1000 + c - 111) 24 0)) = _
  rw [stp_24, kntT_24, s9_24]
  rfl
/-- a number with a minus sign -/
def rulN (T : aH) (t v : Int) : aH := stv (stpT (stpT (kntT (kntT (stv T 9 t (T 24 0)))) v) 2000) 10 t (T 24 0 + 1 + 1)
theorem lnE_m {b : Int → Int} {n t P m v a : Int} {T : aH} {l : List (Int × Int)} (h : Tks b n P ((45, m) :: (2, v) :: (59, a) :: l)) (h4 : T 0 4 < 63) (h24 : T 24 0 < 63) (v0 : 0 ≤ v) (v1 : v ≤ 999) : ∃ Q, lnE b n t P T = (0, Q, rulN T t v) ∧ Tks b n Q ((59, a) :: l) := by
  obtain ⟨e, t1⟩ := rlE_m (k := 799) (W := []) (T := stv T 9 t (T 24 0)) h (by rw [s9_04]; omega)
  have k4 : kntT (stv T 9 t (T 24 0)) 0 4 = T 0 4 + 1 := by unfold kntT; rw [stv_s, s9_04]
  obtain ⟨e1, t2⟩ := rlE_n (k := 798) (W := pushW [] 2000) (T := kntT (stv T 9 t (T 24 0))) t1 (by rw [k4]; omega) v0 v1
  have ew : flN (pushW [] 2000) (wrT (kntT (kntT (stv T 9 t (T 24 0)))) v) = ([], stpT (stpT (kntT (kntT (stv T 9 t (T 24 0)))) v) 2000) := by
    rw [wrT_ok (by rw [kntT_24, kntT_24, s9_24]; omega) v0]
    show flN [] (wrT (stpT (kntT (kntT (stv T 9 t (T 24 0)))) v) 2000) = _
    rw [wrT_ok (by rw [stp_24, kntT_24, kntT_24, s9_24]; omega) (by omega)]
    rfl
  rw [ew] at e1
  refine ⟨_, ?_, t2⟩
  have e2 := lnE_ok (t := t) (e.trans (e1.trans (rlE_end (k := 797) t2)))
  rw [e2]
  show (0, _, stv (stpT (stpT (kntT (kntT (stv T 9 t (T 24 0)))) v) 2000) 10 t (stpT (stpT (kntT (kntT (stv T 9 t (T 24 0)))) v) 2000 24 0)) = _
  rw [stp_24, stp_24, kntT_24, kntT_24, s9_24]
  rfl
/-- cost/members -/
def rulD (T : aH) (t c d : Int) : aH := stv (stpT (stpT (kntT (kntT (stpT (kntT (stv T 9 t (T 24 0))) (1000 + c - 111)))) (1000 + d - 111)) 3047) 10 t (T 24 0 + 1 + 1 + 1)
theorem lnE_d {b : Int → Int} {n t P c v m d w a : Int} {T : aH} {l : List (Int × Int)} (h : Tks b n P ((c, v) :: (47, m) :: (d, w) :: (59, a) :: l)) (h4 : T 0 4 < 62) (h24 : T 24 0 < 62) (c0 : 111 ≤ c) (c1 : c ≤ 115) (d0 : 111 ≤ d) (d1 : d ≤ 115) : ∃ Q, lnE b n t P T = (0, Q, rulD T t c d) ∧ Tks b n Q ((59, a) :: l) := by
  obtain ⟨e, t1⟩ := rlE_w (k := 799) (W := []) (T := stv T 9 t (T 24 0)) h (by rw [s9_04]; omega) c0 c1
  rw [wrT_ok (by rw [kntT_24, s9_24]; omega) (by omega)] at e
  have k4 : stpT (kntT (stv T 9 t (T 24 0))) (1000 + c - 111) 0 4 = T 0 4 + 1 := by unfold stpT kntT; rw [stv_x (by omega), stv_x (by omega), stv_s, s9_04]
  have k24 : stpT (kntT (stv T 9 t (T 24 0))) (1000 + c - 111) 24 0 = T 24 0 + 1 := by rw [stp_24, kntT_24, s9_24]
  generalize hU : stpT (kntT (stv T 9 t (T 24 0))) (1000 + c - 111) = U at e k4 k24
  obtain ⟨e1, t2⟩ := rlE_d (k := 798) (W := []) (T := U) t1 (by omega)
  have k44 : kntT U 0 4 = T 0 4 + 1 + 1 := by unfold kntT; rw [stv_s, k4]
  obtain ⟨e2, t3⟩ := rlE_w (k := 797) (W := pushW (flW 2 [] (kntT U)).1 3047) (T := (flW 2 [] (kntT U)).2) t2 (by show kntT U 0 4 < 64; omega) d0 d1
  have ew : flN (pushW (flW 2 [] (kntT U)).1 3047) (wrT (kntT (flW 2 [] (kntT U)).2) (1000 + d - 111)) = ([3047], stpT (kntT (kntT U)) (1000 + d - 111)) := by
    show flN [3047] (wrT (kntT (kntT U)) (1000 + d - 111)) = _
    rw [wrT_ok (by rw [kntT_24, kntT_24]; omega) (by omega)]
    rfl
  rw [ew] at e2
  refine ⟨_, ?_, t3⟩
  have e3 := rlE_end (k := 796) (W := [3047]) (T := stpT (kntT (kntT U)) (1000 + d - 111)) t3
  have ef : (flW 1 [3047] (stpT (kntT (kntT U)) (1000 + d - 111))).2 = stpT (stpT (kntT (kntT U)) (1000 + d - 111)) 3047 := by
    show wrT (stpT (kntT (kntT U)) (1000 + d - 111)) 3047 = _
    exact wrT_ok (by rw [stp_24, kntT_24, kntT_24]; omega) (by omega)
  rw [ef] at e3
  have e9 := lnE_ok (t := t) (e.trans (e1.trans (e2.trans e3)))
  rw [e9, stp_24, stp_24, kntT_24, kntT_24, k24, ← hU]
  rfl
def twnT (T : aH) (nm : Int) : aH := stv (stv T 11 (5 * 2 + T 0 2) nm) 0 2 (T 0 2 + 1)
theorem lnIs_0 {b : Int → Int} {n t P : Int} {k : Nat} {T : aH} (h : kd b n P ≠ 105) : lnIs b n t (k + 1) P T = (0, P, T) := by
  show (if kd b n P = 105 then (if (lnI b n t P T).1 ≠ 0 then lnI b n t P T else lnIs b n t k (lnI b n t P T).2.1 (lnI b n t P T).2.2) else (0, P, T)) = _
  rw [if_neg h]
def giveT (T : aH) (t g : Int) : aH := stv T 5 t (aor (T 5 t) (ashl 1 g))
theorem lnIs_1 {b : Int → Int} {n t P a nm g : Int} {k : Nat} {T : aH} {l : List (Int × Int)} (h : Tks b n P ((105, a) :: (3, nm) :: l)) (hn : aNamed T 0 nm = g) (g0 : 0 ≤ g) (hz : bI (T 5 t) g = 0) :
    ∃ Q, lnIs b n t (k + 1) P T = lnIs b n t k Q (giveT T t g) ∧ Tks b n Q l := by
  obtain ⟨-, k0, -, t1⟩ := h.k
  obtain ⟨-, k1, v1, t2⟩ := t1.k
  refine ⟨_, ?_, t2⟩
  have e : lnI b n t P T = (0, nxp b n (nxp b n P), giveT T t g) := by
    unfold lnI
    rw [odF_ok (w := 0) k1 v1 (by omega), if_neg (by omega), v1, hn, if_neg (fun q => q hz)]
    rfl
  show (if kd b n P = 105 then (if (lnI b n t P T).1 ≠ 0 then lnI b n t P T else lnIs b n t k (lnI b n t P T).2.1 (lnI b n t P T).2.2) else (0, P, T)) = _
  rw [if_pos k0, e]
  dsimp only
  rw [if_neg (by omega)]
/-- a town line up to what it gives -/
theorem ln_twn {b : Int → Int} {n P a nm : Int} {T : aH} {l : List (Int × Int)} (h : Tks b n P ((104, a) :: (3, nm) :: l)) (h5 : T 0 2 < 4) (hn : aNamed T 2 nm = -1) :
    ∃ Q, Tks b n Q l ∧ ∀ R U, lnIs b n (T 0 2) 800 Q (twnT T nm) = (0, R, U) → ln b n P T = twV b n (T 0 2) R U := by
  obtain ⟨-, k0, -, t⟩ := h.k
  obtain ⟨-, k1, v1, t⟩ := t.k
  refine ⟨_, t, fun R U hR => ?_⟩
  unfold ln lnT
  rw [if_neg (by omega), if_neg (by omega), if_neg (by omega), if_pos k0, nwF_ok h5 k1 v1 hn]
  have eN : nwT b n T 2 P = twnT T nm := by unfold nwT twnT; rw [v1]
  dsimp only
  rw [if_neg (by omega), eN, hR]
  dsimp only
  rw [if_neg (by omega)]
/-- neither votes nor bound -/
theorem twV_0 {b : Int → Int} {n t P a : Int} {T : aH} {l : List (Int × Int)} (h : Tks b n P ((108, a) :: l)) : twV b n t P T = lnE b n t (nxp b n P) T ∧ Tks b n (nxp b n P) l := by
  obtain ⟨-, k0, -, t1⟩ := h.k
  refine ⟨?_, t1⟩
  unfold twV twB twE vtP vtT
  rw [if_neg (show ¬ kd b n P = 106 by omega), if_neg (show ¬ kd b n P = 106 by omega), if_neg (show ¬ kd b n P = 107 by omega), if_neg (show ¬ kd b n P = 107 by omega), if_pos k0]
theorem twV_1 {b : Int → Int} {n t P a c : Int} {T : aH} {l : List (Int × Int)} (h : Tks b n P ((106, c) :: (108, a) :: l)) : ∃ Q, twV b n t P T = lnE b n t Q (stv T 6 t 1) ∧ Tks b n Q l := by
  obtain ⟨-, k0, -, t1⟩ := h.k
  obtain ⟨-, k1, -, t2⟩ := t1.k
  refine ⟨_, ?_, t2⟩
  unfold twV twB twE vtP vtT
  rw [if_pos k0, if_pos k0, if_neg (show ¬ kd b n (nxp b n P) = 107 by omega), if_neg (show ¬ kd b n (nxp b n P) = 107 by omega), if_pos k1]
/-! grounds -/
def rowT (T : aH) (t i v : Int) : aH := stv (stv T 14 (6 * t + i) v) 13 t (i + 1)
theorem lnRs_1 {b : Int → Int} {n t w i P v : Int} {k : Nat} {T : aH} {l : List (Int × Int)} (h : Tks b n P ((2, v) :: l)) (hi : i ≠ 6) (v0 : 0 ≤ v) (v1 : v ≤ p2 w - 1) : ∃ Q, lnRs b n t w (k + 1) i P T = lnRs b n t w k (i + 1) Q (rowT T t i v) ∧ Tks b n Q l := by
  obtain ⟨-, k0, w0, t1⟩ := h.k
  refine ⟨_, ?_, t1⟩
  show (if kd b n P = 2 then (if i = 6 then (2, P, T) else if pNum b n 0 (p2 w - 1) P ≠ 0 then (pNum b n 0 (p2 w - 1) P, P, T) else lnRs b n t w k (i + 1) (nxp b n P) (stv (stv T 14 (6 * t + i) (vlt b n P)) 13 t (i + 1))) else (0, P, T)) = _
  rw [if_pos k0, if_neg hi, pNum_ok k0 w0 v0 v1, if_neg (by omega), w0]
  rfl
theorem lnRs_0 {b : Int → Int} {n t w i P : Int} {k : Nat} {T : aH} (h : kd b n P ≠ 2) : lnRs b n t w (k + 1) i P T = (0, P, T) := by
  show (if kd b n P = 2 then (if i = 6 then (2, P, T) else if pNum b n 0 (p2 w - 1) P ≠ 0 then (pNum b n 0 (p2 w - 1) P, P, T) else lnRs b n t w k (i + 1) (nxp b n P) (stv (stv T 14 (6 * t + i) (vlt b n P)) 13 t (i + 1))) else (0, P, T)) = _
  rw [if_neg h]
theorem ln_grd {b : Int → Int} {n P a nm w t : Int} {T : aH} {l : List (Int × Int)} (h : Tks b n P ((109, a) :: (3, nm) :: (2, w) :: l)) (hn : aNamed T 2 nm = t) (t0 : 0 ≤ t) (hz : T 12 t = 0) (w0 : 1 ≤ w) (w1 : w ≤ 6) :
    ∃ Q, ln b n P T = lnRs b n t w 7 0 Q (stv T 12 t w) ∧ Tks b n Q l := by
  obtain ⟨-, k0, -, t1⟩ := h.k
  obtain ⟨-, k1, v1, t2⟩ := t1.k
  obtain ⟨-, k2, v2, t3⟩ := t2.k
  refine ⟨_, ?_, t3⟩
  unfold ln lnD
  rw [if_neg (by omega), if_neg (by omega), if_neg (by omega), if_neg (by omega), if_pos k0, odF_ok (w := 2) k1 v1 (by omega), if_neg (by omega), v1, hn, if_neg (by omega), pNum_ok k2 v2 w0 w1, if_neg (by omega), v2]
/-- a second ground of a town -/
theorem ln_grd2 {b : Int → Int} {n P a nm t : Int} {T : aH} {l : List (Int × Int)} (h : Tks b n P ((109, a) :: (3, nm) :: l)) (hn : aNamed T 2 nm = t) (t0 : 0 ≤ t) (hz : 0 < T 12 t) : (ln b n P T).1 = 3 := by
  obtain ⟨-, k0, -, t1⟩ := h.k
  obtain ⟨-, k1, v1, t2⟩ := t1.k
  unfold ln lnD
  rw [if_neg (by omega), if_neg (by omega), if_neg (by omega), if_neg (by omega), if_pos k0, odF_ok (w := 2) k1 v1 (by omega), if_neg (by omega), v1, hn, if_pos hz]
