/-! the class's half of whole's part of this name -/
def SFc (b : Int → Int) (n : Int) (q : Int × Int) (σ : aS) : Prop := (q.1 = 0 ∧ PKc b n q.2 σ) ∨ (q.1 ≠ 0 ∧ FTc q.1 q.2 σ)
/-- a number, if all is sound: fault and place -/
def tkN (b : Int → Int) (n lo hi : Int) (q : Int × Int) : Int × Int := if q.1 ≠ 0 then q else if pNum b n lo hi q.2 ≠ 0 then (pNum b n lo hi q.2, q.2) else (0, nxp b n q.2)
theorem tkN_z {b : Int → Int} {n lo hi : Int} {q : Int × Int} (h : (tkN b n lo hi q).1 = 0) : q.1 = 0 ∧ pNum b n lo hi q.2 = 0 ∧ tkN b n lo hi q = (0, nxp b n q.2) := by
  by_cases c : q.1 = 0
  · by_cases d : pNum b n lo hi q.2 = 0
    · exact ⟨c, d, by unfold tkN; rw [if_neg (fun w => w c), if_neg (fun w => w d)]⟩
    · unfold tkN at h
      rw [if_neg (fun w => w c), if_pos d] at h
      exact absurd h d
  · unfold tkN at h
    rw [if_pos c] at h
    exact absurd h c
theorem tkN_n {b : Int → Int} {n lo hi : Int} {q : Int × Int} (h : q.1 ≠ 0) : tkN b n lo hi q = q := if_pos h
theorem pNum_bd {b : Int → Int} {n lo hi P : Int} (h : pNum b n lo hi P = 0) : lo ≤ vlt b n P ∧ vlt b n P ≤ hi := by
  unfold pNum at h
  by_cases c : kd b n P = 2
  · rw [if_pos c] at h
    by_cases d : vlt b n P < lo ∨ hi < vlt b n P
    · rw [if_pos d] at h; omega
    · omega
  · rw [if_neg c] at h; omega
theorem takeN_s {b : Int → Int} {n : Int} {q : Int × Int} {σ : aS} (h : SFc b n q σ) (lo hi : Int) :
    ∃ v τ, c10_takeNumber 2 lo hi σ = some (0, [v], τ) ∧ Fp wtq σ τ ∧ SFc b n (tkN b n lo hi q) τ ∧ ((tkN b n lo hi q).1 = 0 → v = vlt b n q.2) := by
  rcases h with ⟨z, hP⟩ | ⟨z, hX⟩
  · rcases c10_takeNumber_p hP lo hi with ⟨y, hv, τ, h1, hF, hK⟩ | ⟨y, τ, h1, hF, hX⟩
    · refine ⟨_, τ, h1, hF, ?_, fun _ => rfl⟩
      unfold tkN
      rw [if_neg (fun w => w z), if_neg (fun w => w y)]
      exact Or.inl ⟨rfl, hK⟩
    · refine ⟨_, τ, h1, hF, ?_, fun w => ?_⟩
      · unfold tkN
        rw [if_neg (fun w => w z), if_pos y]
        exact Or.inr ⟨y, hX⟩
      · exact absurd (tkN_z w).2.1 y
  · refine ⟨-1, σ, c10_takeNumber_f hX, Fp.rf _ _, ?_, fun w => absurd (tkN_z w).1 z⟩
    rw [tkN_n z]; exact Or.inr ⟨z, hX⟩
/-- of a sort no more than six; none of a sort that isn't told -/
def BFk (T : aH) : Prop := ∀ s, 0 ≤ s → s < 5 → (0 ≤ T 2 (4 * s) ∧ T 2 (4 * s) ≤ 6) ∧ (T 0 1 ≤ s → T 2 (4 * s) = 0)
theorem ctm_3 {j : Int} (j0 : 0 ≤ j) (j1 : j < 20) : ctm 3 j = some (2, j) := by
  unfold ctm
  repeat (rw [if_neg (by omega)])
  rw [if_pos (by omega)]
/-- a figure of a sort that isn't how many -/
theorem hsf_fig {T : aH} {i v : Int} (h : i % 4 ≠ 0) : hsf (stv T 2 i v) = hsf T := by
  unfold hsf
  funext s
  rw [stv_x (by omega), stv_j (by omega)]
theorem pk_add {f : Int → Int} {s m : Int} (s0 : 0 ≤ s) (s1 : s < 5) : pk5 (fun j => if j = s then f j + m else f j) = pk5 f + m * p2 (3 * s) := by
  rcases (show s = 0 ∨ s = 1 ∨ s = 2 ∨ s = 3 ∨ s = 4 by omega) with rfl | rfl | rfl | rfl | rfl
  · rw [p2_30]; unfold pk5; simp only [Int.reduceEq, ↓reduceIte]; omega
  · rw [p2_31]; unfold pk5; simp only [Int.reduceEq, ↓reduceIte]; omega
  · rw [p2_32]; unfold pk5; simp only [Int.reduceEq, ↓reduceIte]; omega
  · rw [p2_33]; unfold pk5; simp only [Int.reduceEq, ↓reduceIte]; omega
  · rw [p2_34]; unfold pk5; simp only [Int.reduceEq, ↓reduceIte]; omega
def addT (T : aH) (s m : Int) : aH := stv (stv T 2 (4 * s) m) 0 3 (T 0 3 + m)
theorem hsf_add {T : aH} {s m : Int} (s0 : 0 ≤ s) (s1 : s < T 0 1) (hz : T 2 (4 * s) = 0) : hsf (addT T s m) = fun j => if j = s then hsf T j + m else hsf T j := by
  unfold hsf addT
  funext j
  have e1 : stv (stv T 2 (4 * s) m) 0 3 (T 0 3 + m) 0 1 = T 0 1 := by rw [stv_j (by omega), stv_x (by omega)]
  have e2 : stv (stv T 2 (4 * s) m) 0 3 (T 0 3 + m) 2 (4 * j) = stv T 2 (4 * s) m 2 (4 * j) := by rw [stv_x (by omega)]
  rw [e1, e2]
  by_cases c : j = s
  · rw [c, if_pos ⟨s0, s1⟩, if_pos rfl, stv_s, if_pos ⟨s0, s1⟩, hz]; omega
  · rw [if_neg c, stv_j (by omega)]
theorem RC.add {pl : Int} {b : Int → Int} {n P : Int} {T : aH} {σ : aS} (h : RC pl b n P T σ) (hB : BTk T) (hH : ∀ s, 0 ≤ s → s < 5 → 0 ≤ hsf T s ∧ hsf T s ≤ 6) {s m : Int} (s0 : 0 ≤ s) (s1 : s < T 0 1) (m0 : 0 ≤ m) (m1 : m ≤ 6) (hz : T 2 (4 * s) = 0) :
    ∃ τ, c4_addFloats pl s m σ = some (0, [], τ) ∧ Fp (wrd pl) σ τ ∧ RC pl b n P (addT T s m) τ := by
  have hp := h.2.2.1
  have hL := h.lr
  obtain ⟨hk, hm, -, hTM, h8, h9, h10, h11, h15⟩ := h
  have s5 := hB.2.1
  have hf3 := hB.2.2.2.1
  have e14 : aget σ pl 14 = T 0 3 := by have := hTM 0 14 0 3 rfl; rw [Int.add_zero] at this; exact this
  have t1 := hTM.put (ctm_3 (show 0 ≤ 4 * s by omega) (by omega)) m
  have t2 := t1.put (x := 0) (j := 14) rfl (T 0 3 + m)
  rw [Int.add_zero] at t2
  have hF : Fp (fun x j => (x = pl + 3 ∧ j = 4 * s) ∨ (x = pl ∧ (j = 14 ∨ j = 15))) σ (aput (aput (aput σ (pl + 3) (4 * s) m) pl 14 (T 0 3 + m)) pl 15 (pk5 (hsf T) + m * p2 (3 * s))) :=
    (((Fp.rf _ _).put _ (Or.inl ⟨rfl, rfl⟩)).put _ (Or.inr ⟨rfl, Or.inl rfl⟩)).put _ (Or.inr ⟨rfl, Or.inr rfl⟩)
  have hF2 : Fp (wrd pl) σ (aput (aput (aput σ (pl + 3) (4 * s) m) pl 14 (T 0 3 + m)) pl 15 (pk5 (hsf T) + m * p2 (3 * s))) := hF.mono (fun x j q => Or.inr (by unfold wrp; omega))
  have hL2 := hL.rd hp hF2 (fun _ _ q => q)
  have g : ∀ w, w < 14 → aget (aput (aput (aput σ (pl + 3) (4 * s) m) pl 14 (T 0 3 + m)) pl 15 (pk5 (hsf T) + m * p2 (3 * s))) pl w = aget σ pl w := fun w hw => by
    rw [ag_j (by omega), ag_j (by omega), ag_x (by omega)]
  have hpk := pk5_bd (f := hsf T) (fun j j0 j1 => by have := hH j j0 j1; omega)
  have hpw : 0 ≤ p2 (3 * s) ∧ p2 (3 * s) ≤ 4096 := by
    rcases (show s = 0 ∨ s = 1 ∨ s = 2 ∨ s = 3 ∨ s = 4 by omega) with e | e | e | e | e <;> rw [e]
    · rw [p2_30]; omega
    · rw [p2_31]; omega
    · rw [p2_32]; omega
    · rw [p2_33]; omega
    · rw [p2_34]; omega
  have hmul : 0 ≤ m * p2 (3 * s) ∧ m * p2 (3 * s) ≤ 6 * 4096 := by
    refine ⟨Int.mul_nonneg m0 (by omega), Int.le_trans (Int.mul_le_mul_of_nonneg_right m1 (by omega)) (by omega)⟩
  refine ⟨aput (aput (aput σ (pl + 3) (4 * s) m) pl 14 (T 0 3 + m)) pl 15 (pk5 (hsf T) + m * p2 (3 * s)), ?_, hF2, hk.pf hL2 hF (fun x j q => by omega), by rw [hF.g (by omega)]; exact hm, hp, ?_, ?_, ?_, ?_, ?_, ?_⟩
  · unfold c4_addFloats
    have hL1 : LR (aput σ (pl + 3) (4 * s) m) := hL.rd hp (P := fun x j => x = pl + 3 ∧ j = 4 * s) ((Fp.rf _ _).put _ ⟨rfl, rfl⟩) (fun x j q => Or.inr (by unfold wrp; omega))
    have e1 : w32 ((w32 (s * 4)) + 0) = 4 * s := by rw [wq (x := s * 4) (by omega) (by omega), wq (by omega) (by omega)]; omega
    rw [rp_2 hL hp, np_3 hL hp, e1, ag_x (show pl ≠ pl + 3 by omega), e14, wq (x := T 0 3 + m) (by omega) (by omega), c11_one_ok _ s0 (by omega), acall1_some, ag_j (show (15 : Int) ≠ 14 by omega), ag_x (show pl ≠ pl + 3 by omega), h15, wq (x := m * p2 (3 * s)) (by omega) (by omega), wq (x := pk5 (hsf T) + m * p2 (3 * s)) (by omega) (by omega)]
    exact ite_n (by omega) (ite_p (by omega) rfl)
  · intro x j a i hc
    by_cases q : pl + x = pl ∧ j = 15
    · rw [show x = 0 by omega, q.2] at hc; cases hc
    · have := t2 x j a i hc
      by_cases ex : pl + x = pl
      · rw [ex, ag_j (by omega)]; rw [ex] at this; exact this
      · rw [ag_x ex]; exact this
  · exact h8.ot (g 8 (by omega)) (fun j _ _ => by unfold addT; rw [stv_x (by omega), stv_x (by omega)])
  · exact h9.ot (g 9 (by omega)) (fun j _ _ => by unfold addT; rw [stv_x (by omega), stv_x (by omega)])
  · exact h10.ot (g 10 (by omega)) (fun j _ _ => by unfold addT; rw [stv_x (by omega), stv_x (by omega)])
  · exact h11.ot (g 11 (by omega)) (fun j _ _ => by unfold addT; rw [stv_x (by omega), stv_x (by omega)])
  · rw [ag_s, hsf_add s0 s1 hz, pk_add s0 (by omega)]
/-- a float's figures -/
def fltT (b : Int → Int) (n P : Int) (T : aH) : aH :=
  stv (stv (stv (addT (nwT b n T 1 P) (T 0 1) (vlt b n (nxp b n (nxp b n P)))) 2 (4 * T 0 1 + 1) (vlt b n (nxp b n (nxp b n (nxp b n P))))) 2 (4 * T 0 1 + 2) (vlt b n (nxp b n (nxp b n (nxp b n (nxp b n P)))))) 2 (4 * T 0 1 + 3) (vlt b n (nxp b n (nxp b n (nxp b n (nxp b n (nxp b n P))))))
def fltQ (b : Int → Int) (n P : Int) (T : aH) : Int × Int := tkN b n 0 99 (tkN b n 0 999 (tkN b n 0 99 (tkN b n 1 (mn 6 (12 - T 0 3)) (nwF b n T 1 5 P))))
def lnF (b : Int → Int) (n P : Int) (T : aH) : Int × Int × aH := if (fltQ b n P T).1 ≠ 0 then ((fltQ b n P T).1, (fltQ b n P T).2, T) else lnWs b n (T 0 1) 800 (fltQ b n P T).2 (fltT b n P T)
theorem nwF_0 {b : Int → Int} {n : Int} {T : aH} {w most P : Int} (h : (nwF b n T w most P).1 = 0) : (nwF b n T w most P).2 = nxp b n (nxp b n P) := by
  unfold nwF at h ⊢
  by_cases c : most ≤ T 0 w
  · rw [if_pos c] at h; exact absurd (show (2 : Int) = 0 from h) (by decide)
  · rw [if_neg c] at h ⊢
    by_cases d : kd b n (nxp b n P) ≠ 3
    · rw [if_pos d] at h; exact absurd (show (1 : Int) = 0 from h) (by decide)
    · rw [if_neg d] at h ⊢
      by_cases e : aNamed T w (vlt b n (nxp b n P)) ≠ -1
      · rw [if_pos e] at h; exact absurd (show (3 : Int) = 0 from h) (by decide)
      · rw [if_neg e]
theorem fltQ_z {b : Int → Int} {n P : Int} {T : aH} (h : (fltQ b n P T).1 = 0) :
    (nwF b n T 1 5 P).1 = 0 ∧ (1 ≤ vlt b n (nxp b n (nxp b n P)) ∧ vlt b n (nxp b n (nxp b n P)) ≤ mn 6 (12 - T 0 3)) ∧ (0 ≤ vlt b n (nxp b n (nxp b n (nxp b n P))) ∧ vlt b n (nxp b n (nxp b n (nxp b n P))) ≤ 99) ∧
    (0 ≤ vlt b n (nxp b n (nxp b n (nxp b n (nxp b n P)))) ∧ vlt b n (nxp b n (nxp b n (nxp b n (nxp b n P)))) ≤ 999) ∧ (0 ≤ vlt b n (nxp b n (nxp b n (nxp b n (nxp b n (nxp b n P))))) ∧ vlt b n (nxp b n (nxp b n (nxp b n (nxp b n (nxp b n P))))) ≤ 99) ∧
    (tkN b n 1 (mn 6 (12 - T 0 3)) (nwF b n T 1 5 P)).1 = 0 ∧ (tkN b n 0 99 (tkN b n 1 (mn 6 (12 - T 0 3)) (nwF b n T 1 5 P))).1 = 0 ∧ (tkN b n 0 999 (tkN b n 0 99 (tkN b n 1 (mn 6 (12 - T 0 3)) (nwF b n T 1 5 P)))).1 = 0 ∧
    (nwF b n T 1 5 P).2 = nxp b n (nxp b n P) ∧ (tkN b n 1 (mn 6 (12 - T 0 3)) (nwF b n T 1 5 P)).2 = nxp b n (nxp b n (nxp b n P)) ∧ (tkN b n 0 99 (tkN b n 1 (mn 6 (12 - T 0 3)) (nwF b n T 1 5 P))).2 = nxp b n (nxp b n (nxp b n (nxp b n P))) ∧ (tkN b n 0 999 (tkN b n 0 99 (tkN b n 1 (mn 6 (12 - T 0 3)) (nwF b n T 1 5 P)))).2 = nxp b n (nxp b n (nxp b n (nxp b n (nxp b n P)))) := by
  obtain ⟨a1, a2, a3⟩ := tkN_z h
  obtain ⟨b1, b2, b3⟩ := tkN_z a1
  obtain ⟨c1, c2, c3⟩ := tkN_z b1
  obtain ⟨d1, d2, d3⟩ := tkN_z c1
  have e0 := nwF_0 d1
  have e1 : (tkN b n 1 (mn 6 (12 - T 0 3)) (nwF b n T 1 5 P)).2 = nxp b n (nxp b n (nxp b n P)) := by rw [d3]; show nxp b n (nwF b n T 1 5 P).2 = _; rw [e0]
  have e2 : (tkN b n 0 99 (tkN b n 1 (mn 6 (12 - T 0 3)) (nwF b n T 1 5 P))).2 = nxp b n (nxp b n (nxp b n (nxp b n P))) := by rw [c3]; show nxp b n (tkN b n 1 (mn 6 (12 - T 0 3)) (nwF b n T 1 5 P)).2 = _; rw [e1]
  have e3 : (tkN b n 0 999 (tkN b n 0 99 (tkN b n 1 (mn 6 (12 - T 0 3)) (nwF b n T 1 5 P)))).2 = nxp b n (nxp b n (nxp b n (nxp b n (nxp b n P)))) := by rw [b3]; show nxp b n (tkN b n 0 99 (tkN b n 1 (mn 6 (12 - T 0 3)) (nwF b n T 1 5 P))).2 = _; rw [e2]
  have v1 := pNum_bd d2
  have v2 := pNum_bd c2
  have v3 := pNum_bd b2
  have v4 := pNum_bd a2
  rw [e0] at v1
  rw [e1] at v2
  rw [e2] at v3
  rw [e3] at v4
  exact ⟨d1, v1, v2, v3, v4, c1, b1, a1, e0, e1, e2, e3⟩
