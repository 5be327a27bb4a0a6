/-! one sort, one town: all partings, parties, edges -/
section ONE
variable {T N : aH} {n o v w k j r e b : Int}
theorem A1.np (h : A1 T n o v w k) : npT T = n + 1 := by
  unfold npT
  rw [h.1.2.1]
  show 1 * wyI (T 2 (4 * ((0 : Nat) : Int))) (T 0 2) = n + 1
  rw [show 4 * ((0 : Nat) : Int) = 0 by omega, h.2.1.1, h.1.2.2]
  show 1 * Int.tdiv (1 * (n + (((0 : Nat) : Int) + 1))) (((0 : Nat) : Int) + 1) = _
  rw [show (((0 : Nat) : Int) + 1) = 1 by omega, Int.tdiv_one]; omega
theorem A1.pn (h : A1 T n o v w k) (hN : M1 N j r e b) : ∀ i : Nat, (i : Int) ≤ n → M1 (PNn T N i) i (n - i) e b := by
  obtain ⟨-, -, h3, h4, h5⟩ := hN
  intro i
  induction i with
  | zero =>
    intro _
    refine ⟨?_, ?_, by rw [PNn_x T N (by omega)]; exact h3, by rw [PNn_x T N (by omega)]; exact h4, by rw [PNn_x T N (by omega)]; exact h5⟩
    · have := PN0_0 T N (u := 0) (p := 0) (by omega) (by omega)
      show PN0 T N 0 (5 * 0 + 0) = _
      rw [this]
      unfold alv
      rw [if_neg (by have := h.1.2.2; omega)]; rfl
    · have := PN0_0 T N (u := 0) (p := 1) (by omega) (by omega)
      show PN0 T N 0 (5 * 0 + 1) = _
      rw [this]
      unfold alv
      rw [if_pos h.1.2.2.symm, show 4 * (0 : Int) = 0 by omega, h.2.1.1]; omega
  | succ i ih =>
    intro hi
    obtain ⟨i0, i1, -, -, -⟩ := ih (by omega)
    refine ⟨?_, ?_, by rw [PNn_x T N (by omega)]; exact h3, by rw [PNn_x T N (by omega)]; exact h4, by rw [PNn_x T N (by omega)]; exact h5⟩
    all_goals
      have e1 : lsp T (PNn T N i) 0 = 1 := by
        unfold lsp
        rw [h.1.2.2, ff1, show 5 * (0 : Int) + (1 - 0) = 1 by omega, i1, if_pos (decide_eq_true (by omega))]; omega
      have e2 : lss T (PNn T N i) = 0 := by
        unfold lss
        rw [h.1.2.1, ff1, show (1 : Int) - 1 - 0 = 0 by omega, e1, if_pos (decide_eq_true (by omega))]; omega
    · have := sq_0 T (PNn T N i) (u := 0) (p := 0) (by omega) (by omega)
      show sq T (PNn T N i) 0 (5 * 0 + 0) = _
      rw [this]
      unfold sqv
      rw [e2, if_neg (by omega), if_pos rfl]
      unfold nwv
      rw [e1, if_pos (by omega), show 5 * (0 : Int) + 0 = 0 by omega, i0]; omega
    · have := sq_0 T (PNn T N i) (u := 0) (p := 1) (by omega) (by omega)
      show sq T (PNn T N i) 0 (5 * 0 + 1) = _
      rw [this]
      unfold sqv
      rw [e2, if_neg (by omega), if_pos rfl]
      unfold nwv
      rw [e1, if_neg (by omega), if_pos h.1.2.2.symm, show 5 * (0 : Int) + 1 = 1 by omega, i1]; omega
theorem A1.tt (h : A1 T n o v w k) (hN : M1 N j r e b) : tot T N = j * (27720 * (w - k - e)) + r * (27720 * o) := by
  unfold tot
  rw [h.1.2.2, show (1 : Int) + 1 = 2 from rfl, sI2]
  unfold suW
  rw [h.1.2.1, sI1, sI1, h.w0 hN, h.w1, h.cn, h.cn, c1_0, c1_0, hN.1, hN.2.1]
theorem PN_n (T N : aH) (i : Nat) : PN T N i = PNn T N i := by unfold PN; rw [Int.toNat_natCast]
theorem A1.sA (h : A1 T n o v w k) (hN : M1 N j r e b) (i : Nat) (hi : (i : Int) ≤ n) : svA T N i = i * (27720 * (w - k - e)) + (n - i) * (27720 * o) := by
  unfold svA
  rw [PN_n, h.tt (h.pn hN i hi)]
theorem A1.all (h : A1 T n o v w k) (hN : M1 N j r e b) (hg : 0 < w - k - e - o - v) : hcT T N = 1 ∧ hel T N 0 = n ∧ bsN (svA T N) (npT T).toNat = n ∧ ghN (svA T N) (svH T N) (npT T).toNat = svA T N n ∧ lhN (svA T N) (svH T N) (npT T).toNat = svA T N n := by
  obtain ⟨hv, n1, n6⟩ := h.2.2.2.2.2.2
  obtain ⟨m, rfl⟩ := Int.eq_ofNat_of_zero_le (show 0 ≤ n by omega)
  have hp : (npT T).toNat = m + 1 := by rw [h.np]; omega
  have hH0 : ∀ i : Nat, i < m → svH T N i = false := fun i hi => by
    unfold svH
    rw [PN_n, ((h.up (h.pn hN i (by omega)) (by omega) hg).1).1, h.1.2.1]; rfl
  have hH1 : svH T N m = true := by
    unfold svH
    rw [PN_n, decide_eq_false (h.no (h.pn hN m (Int.le_refl _)) (by omega) (by omega))]; rfl
  obtain ⟨a1, a2, a3, a4⟩ := one_hc (A := svA T N) hH0 hH1
  rw [hp]
  refine ⟨by unfold hcT; rw [hp]; exact a1, ?_, ?_, a2, a3⟩
  · unfold hel
    refine ff_uniq (by omega) (by rw [h.np]; omega) (fun j j0 j1 => ?_) (fun _ => ?_)
    · obtain ⟨i, rfl⟩ := Int.eq_ofNat_of_zero_le j0
      rw [hH0 i (by omega)]; rfl
    · rw [hH1, Int.toNat_natCast, a4 m (Nat.le_refl _)]; rfl
  · refine inc_bs (fun i hi => ?_)
    have e1 := h.sA hN i (by omega)
    have e2 := h.sA hN (i + 1) (by omega)
    rw [show (((i + 1 : Nat) : Int)) = (i : Int) + 1 by omega] at e2
    have q1 : ((i : Int) + 1) * (27720 * (w - k - e)) = i * (27720 * (w - k - e)) + 27720 * (w - k - e) := by rw [Int.add_mul, Int.one_mul]
    have q2 : ((m : Int) - ((i : Int) + 1)) * (27720 * o) = (m - i) * (27720 * o) - 27720 * o := by rw [show (m : Int) - ((i : Int) + 1) = ((m : Int) - i) - 1 by omega, Int.sub_mul, Int.one_mul]
    rw [e1, e2, q1, q2]
    generalize (i : Int) * (27720 * (w - k - e)) = X
    generalize ((m : Int) - i) * (27720 * o) = Y
    omega
theorem A1.aAl (h : A1 T n o v w k) (hN : M1 N j r e b) (hg : 0 < w - k - e - o - v) : aAll T N 0 = n + 1 ∧ aAll T N 1 = 1 ∧ aHeld T N 0 0 0 = n ∧ aLost T N 1 = 0 ∧ aLost T N 2 = 0 ∧ (j = n → bsB T N = false) := by
  obtain ⟨hv, n1, n6⟩ := h.2.2.2.2.2.2
  obtain ⟨a1, a2, a3, a4, a5⟩ := h.all hN hg
  have hp := h.np
  obtain ⟨m, hm⟩ := Int.eq_ofNat_of_zero_le (show 0 ≤ n by omega)
  have hN9 := h.pn hN m (by omega)
  refine ⟨?_, ?_, ?_, ?_, ?_, fun hj => ?_⟩
  · unfold aAll
    rw [if_pos (by omega), hp, if_pos (by omega), if_pos rfl]
  · unfold aAll
    rw [if_pos (by omega), hp, if_pos (by omega), if_neg (by omega), a1]
  · unfold aHeld
    rw [hp, if_pos (by omega), if_neg (by omega), h.1.2.1, if_pos (by omega), h.1.2.2, if_pos (by omega), a1, if_pos (by omega), a2, show 5 * (0 : Int) + 0 = 0 by omega, hm, PN_n, hN9.1]
  · unfold aLost
    rw [if_pos (by omega), hp, if_pos (by omega), if_neg (by omega), a1, if_neg (by omega), if_pos rfl, ← hp, a4]
    unfold bsT
    rw [a3]; omega
  · unfold aLost
    rw [if_pos (by omega), hp, if_pos (by omega), if_neg (by omega), a1, if_neg (by omega), if_neg (by omega), ← hp, a5]
    unfold bsT
    rw [a3]; omega
  · unfold bsB same bstN
    rw [a3, h.pk, h.pk, hm, PN_n, hN9.1, hN.1, hj, hm, decide_eq_true (rfl : ((m : Nat) : Int) = m)]
    exact Bool.and_false _
theorem A1.hs (h : A1 T n o v w k) : hsf T = c1 n := by
  funext s
  unfold hsf c1
  rw [h.1.2.1]
  by_cases c : s = 0
  · rw [c, if_pos ⟨Int.le_refl _, by omega⟩, if_pos rfl, show 4 * (0 : Int) = 0 by omega, h.2.1.1]
  · rw [if_neg (by omega), if_neg c]
theorem A1.wt (h : A1 T n o v w k) : wt3 T = 1 ∧ wt2 T = 1 ∧ wt1 T = 1 ∧ wt0 T = 1 ∧ crw T = n + 1 := by
  have e3 : wt3 T = 1 := by unfold wt3; rw [h.hs, c1_n _ (by omega)]; rfl
  have e2 : wt2 T = 1 := by unfold wt2; rw [h.hs, c1_n _ (by omega), e3]; rfl
  have e1 : wt1 T = 1 := by unfold wt1; rw [h.hs, c1_n _ (by omega), e2]; rfl
  have e0 : wt0 T = 1 := by unfold wt0; rw [h.hs, c1_n _ (by omega), e1]; rfl
  refine ⟨e3, e2, e1, e0, ?_⟩
  unfold crw
  rw [h.hs, c1_0, e0]; omega
theorem A1.cr (h : A1 T n o v w k) (x : Int) : crf T x = c1 x := by
  obtain ⟨e3, e2, e1, e0, -⟩ := h.wt
  funext s
  unfold crf c1
  rw [e3, e2, e1, e0]
  by_cases c : s = 0
  · rw [if_pos c, if_pos c]; omega
  · rw [if_neg c, if_neg c]
    repeat' split
    all_goals omega
/-- a party of x from alone would go -/
theorem A1.pw (h : A1 T n o v w k) (hN : M1 N j r e b) (hg : 0 < w - k - e - o - v) (x : Int) : pwB T N (c1 x) 1 0 = true := by
  unfold pwB
  rw [h.bn1]
  have e : pwS T N (c1 x) 1 0 = 1 := by
    unfold pwS
    rw [h.1.2.1, ff1, h.w1, h.w0 hN, show 4 * (0 : Int) + 3 = 3 by omega, h.2.1.2.2.2, decide_eq_true (show 27720 * o + 27720 * v < 27720 * (w - k - e) by omega), if_neg (by simp)]
  rw [e, h.1.2.1]; rfl
theorem c1_cv {x y : Int} (h : x ≤ y) : cvf (c1 y) (c1 x) = true := by
  unfold cvf
  refine decide_eq_true (ff_uniq (by omega) (Int.le_refl _) (fun s s0 s1 => decide_eq_false ?_) (fun q => by omega))
  unfold c1
  split <;> omega
theorem A1.pA (h : A1 T n o v w k) (hN : M1 N j r e b) (hg : 0 < w - k - e - o - v) {x : Int} (hx : x ≤ r) : plA T N (c1 x) ≤ 1 := by
  have eB : plB T N (c1 x) 1 = 0 := by
    unfold plB
    rw [h.1.2.2, show (1 : Int) + 1 = 2 from rfl, ff2, h.pw hN hg, decide_eq_false (show ¬ (0 : Int) = 1 by omega)]; rfl
  unfold plA
  rw [h.1.2.2, show (1 : Int) + 1 = 2 from rfl, ff2]
  split
  · omega
  · rw [h.bn1, h.cn, hN.2.1, c1_cv hx, eB]; exact Int.le_refl 1
theorem A1.ptx (h : A1 T n o v w k) (hN : M1 N j r e b) (hr : r = n) (hg : 0 < w - k - e - o - v) : aParty T N 12 0 = 1 := by
  obtain ⟨hv, n1, n6⟩ := h.2.2.2.2.2.2
  have ec := h.wt.2.2.2.2
  have eJ : pnJ T N 1 = n - 1 := by
    unfold pnJ
    refine ff_uniq (by omega) (by omega) (fun j j0 j1 => ?_) (fun _ => ?_)
    · unfold pnB
      rw [h.cr, c1_sz, ec, decide_eq_false (by omega)]; rfl
    · unfold pnB
      rw [h.cr, c1_sz, ec, show n + 1 - 1 - (n - 1) = 1 by omega, h.1.2.2, decide_eq_true (h.pA hN hg (by omega))]; rfl
  have eZ : pnZ T N 12 = 0 := by
    unfold pnZ
    refine ff_uniq (by omega) (by omega) (fun j j0 j1 => by omega) (fun _ => ?_)
    rw [show (0 : Int) + 1 = 1 from rfl, eJ, ec]
    exact decide_eq_true (by omega)
  unfold aParty
  rw [if_pos (by omega), if_pos (by omega), eZ, if_pos (by omega), if_pos rfl]
  unfold pnG
  rw [eZ, show (0 : Int) + 1 = 1 from rfl, eJ, ec, h.cr, show n + 1 - 1 - (n - 1) = 1 by omega]
  unfold pty
  rw [c1_0, c1_n _ (by omega), c1_n _ (by omega), c1_n _ (by omega), c1_n _ (by omega)]; rfl
theorem dg7_1 {x : Int} (x0 : 0 ≤ x) (x6 : x ≤ 6) : dg7 x = c1 x ∧ dqN x 5 = 0 := by
  have e1 : dqN x 1 = 0 := by show x / 7 = 0; omega
  have e2 : dqN x 2 = 0 := by show dqN x 1 / 7 = 0; rw [e1]; rfl
  have e3 : dqN x 3 = 0 := by show dqN x 2 / 7 = 0; rw [e2]; rfl
  have e4 : dqN x 4 = 0 := by show dqN x 3 / 7 = 0; rw [e3]; rfl
  refine ⟨?_, by show dqN x 4 / 7 = 0; rw [e4]; rfl⟩
  funext s
  unfold dg7 c1
  by_cases c : s = 0
  · rw [c, if_pos (by omega), if_pos rfl]
    show x % 7 = x; omega
  · rw [if_neg c]
    by_cases d : 0 ≤ s ∧ s < 5
    · rw [if_pos d]
      rcases (show s = 1 ∨ s = 2 ∨ s = 3 ∨ s = 4 by omega) with q | q | q | q <;> rw [q]
      · show dqN x 1 % 7 = 0; rw [e1]; rfl
      · show dqN x 2 % 7 = 0; rw [e2]; rfl
      · show dqN x 3 % 7 = 0; rw [e3]; rfl
      · show dqN x 4 % 7 = 0; rw [e4]; rfl
    · rw [if_neg d]
theorem A1.wd (h : A1 T n o v w k) (hN : M1 N j r e b) (hr : r = n) (hg : 0 < w - k - e - o - v) {x : Int} (x1 : 1 ≤ x) (xn : x ≤ n) : aWould T N x 1 0 = 1 := by
  obtain ⟨hv, n1, n6⟩ := h.2.2.2.2.2.2
  obtain ⟨d1, d2⟩ := dg7_1 (x := x) (by omega) (by omega)
  unfold aWould
  rw [h.1.2.2, if_pos (by omega), if_pos (by omega), if_neg (by omega)]
  unfold wdB
  rw [d1, d2, h.cn, hN.2.1, c1_cv (by omega), decide_eq_true ⟨by omega, rfl⟩, h.pw hN hg]; rfl
theorem A1.edg (h : A1 T n o v w k) (hN : M1 N j r e b) (hj : j ≠ 0) (hb : b = 0) (hg : 0 < w - k - e - o - v) (hw : w - k - e - o + v < 999) : aEdge T N 0 0 = w - k - e - o + v + 1 := by
  obtain ⟨hv, n1, n6⟩ := h.2.2.2.2.2.2
  unfold aEdge
  rw [h.1.2.2, if_pos (by omega), h.1.2.1, if_pos (by omega), show 5 * (0 : Int) + 0 = 0 by omega, hN.1, if_neg hj]
  unfold edE
  rw [h.bn0 hN, if_pos hb, h.1.2.2]
  show (if ((1 : Nat) : Int) = 0 then edM T N 0 0 1 else if edV (gai T N 0 0 ((1 : Nat) : Int)) < edM T N 0 0 1 then edV (gai T N 0 0 ((1 : Nat) : Int)) else edM T N 0 0 1) = _
  have e1 : edM T N 0 0 1 = 1000 := by
    show (if ((0 : Nat) : Int) = 0 then (1000 : Int) else _) = 1000
    exact if_pos rfl
  have e2 : edV (gai T N 0 0 ((1 : Nat) : Int)) = w - k - e - o + v + 1 := by
    rw [show ((1 : Nat) : Int) = 1 from rfl, h.g01 hN]
    unfold edV
    rw [if_neg (by omega), show -(27720 * (o - (w - k - e) - v)) = 27720 * (w - k - e - o + v) by omega, Int.mul_tdiv_cancel_left _ (by omega)]
  rw [e1, e2, if_neg (by omega), if_pos (by omega)]
theorem A1.edb (h : A1 T n o v w k) (hN : M1 N j r e b) (hj : j ≠ 0) (hb : b ≠ 0) : aEdge T N 0 0 = 1000 := by
  unfold aEdge
  rw [h.1.2.2, if_pos (by omega), h.1.2.1, if_pos (by omega), show 5 * (0 : Int) + 0 = 0 by omega, hN.1, if_neg hj]
  unfold edE
  rw [h.bn0 hN, if_neg hb]
theorem M1.st (hN : M1 N j r e b) (x : Int) : M1 (stv N 1 0 x) j r x b :=
  ⟨by rw [stv_x (by omega)]; exact hN.1, by rw [stv_x (by omega)]; exact hN.2.1, stv_s _ _ _ _, by rw [stv_x (by omega)]; exact hN.2.2.2.1, by rw [stv_x (by omega)]; exact hN.2.2.2.2⟩
theorem M1.bd (hN : M1 N j r e b) (x : Int) : M1 (stv N 2 0 x) j r e x :=
  ⟨by rw [stv_x (by omega)]; exact hN.1, by rw [stv_x (by omega)]; exact hN.2.1, by rw [stv_x (by omega)]; exact hN.2.2.1, stv_s _ _ _ _, by rw [stv_x (by omega)]; exact hN.2.2.2.2⟩
theorem A1.emp (h : A1 T n o v w k) (hN : M1 N n 0 0 0) (hg : 0 < w - k - o - v) : aEmpties T N 0 = if 40 < w - k - o + v + 1 then 41 else w - k - o + v + 1 := by
  obtain ⟨hv, n1, n6⟩ := h.2.2.2.2.2.2
  unfold aEmpties
  rw [h.1.2.2, if_pos (by omega)]
  unfold emE
  have hlo : ∀ x, 0 ≤ x → x < w - k - o + v + 1 → emB T N 0 x = false := by
    intro x x0 x1
    have hM := hN.st (N 1 0 + x)
    rw [hN.2.2.1, show (0 : Int) + x = x by omega] at hM
    have hno := h.no hM (by omega) (by omega)
    obtain ⟨a1, a2, -, -⟩ := chain (T := T) (N := stv N 1 0 x) (r := 0) (by omega) (fun i hi => by omega) hno (fun i g h1 h2 => by omega)
    unfold emB
    rw [hN.2.2.1, show (0 : Int) + x = x by omega, a1]
    show (_ && decide (szf (ctn T (itN T (stv N 1 0 x) ((0 : Nat) : Int)) 0) = 0)) = false
    rw [show itN T (stv N 1 0 x) ((0 : Nat) : Int) = stv N 1 0 x from rfl, h.cn, c1_sz, hM.1, decide_eq_false (show ¬ n = 0 by omega)]
    exact Bool.and_false _
  have hhi : emB T N 0 (w - k - o + v + 1) = true := by
    have hM := hN.st (N 1 0 + (w - k - o + v + 1))
    rw [hN.2.2.1, show (0 : Int) + (w - k - o + v + 1) = w - k - o + v + 1 by omega] at hM
    obtain ⟨a1, a2, -, -, a5⟩ := h.fall hM (by omega) n6 rfl (by omega)
    unfold emB
    rw [hN.2.2.1, show (0 : Int) + (w - k - o + v + 1) = w - k - o + v + 1 by omega, a1, a2, h.cn, c1_sz, a5.1]; rfl
  by_cases c : 40 < w - k - o + v + 1
  · rw [if_pos c]
    exact ff_uniq (by omega) (Int.le_refl _) (fun x x0 x1 => hlo x x0 (by omega)) (fun q => by omega)
  · rw [if_neg c]
    exact ff_uniq (by omega) (by omega) hlo (fun _ => hhi)
end ONE
