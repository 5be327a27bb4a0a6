/-! the reference: what changes the state -/
/-- the state: what is now, what can be undone and how much of it, whether there is an image, the image -/
def wma : List (Int × List Int) := [(155, []), (156, []), (144, []), (157, []), (158, []), (159, []), (160, []), (161, []), (162, []), (163, []), (164, []), (165, []), (166, []), (130, [2, 54, 55, 56, 58, 59, 60, 61, 62, 63, 64, 67, 68, 71, 72, 73, 75, 76, 77, 78, 80, 81, 82, 83, 85])]
def MSt (T : aH) (S : aH × (Int → aH) × Int × Int × aH) (σ : aS) : Prop := MI T σ ∧ MN T S.1 σ ∧ UH T S.2.1 S.2.2.1 σ ∧ UI T S.2.2.2.1 S.2.2.2.2 σ
def psS (S : aH × (Int → aH) × Int × Int × aH) (N : aH) : aH × (Int → aH) × Int × Int × aH := (N, pshH S.2.1 S.2.2.1 S.1, pshN S.2.2.1, S.2.2.2)
def AnsR (T : aH) (S : aH × (Int → aH) × Int × Int × aH) (σ : aS) (r : aR) (v : Int) : Prop := ∃ τ, r = some (0, [v], τ) ∧ Fr wma σ τ ∧ MSt T S τ
theorem AnsR.k {T : aH} {S : aH × (Int → aH) × Int × Int × aH} {σ τ : aS} {v w : Int} (hF : Fr wma σ τ) (hS : MSt T S τ) (e : w = v) : AnsR T S σ (some (0, [w], τ)) v := ⟨τ, by rw [e], hF, hS⟩
theorem MSt.fr {T : aH} {S : aH × (Int → aH) × Int × Int × aH} {N : aH} {σ τ : aS} (h : MSt T S σ) (hF : Fr wmq σ τ) (hS : MN T N τ) : MSt T (N, S.2) τ :=
  ⟨h.1.mq hF, hS, h.2.2.1.fr h.1.2.2 hF (wdj_spec (by decide +kernel)), h.2.2.2.fr h.1.2.2 hF (wdj_spec (by decide +kernel))⟩
theorem AnsM.r {T N : aH} {S : aH × (Int → aH) × Int × Int × aH} {σ : aS} {r : aR} {v : Int} (h : MSt T S σ) (ha : AnsM T N σ r v) : AnsR T (N, S.2) σ r v := by
  obtain ⟨τ, h1, h2, h3⟩ := ha
  exact ⟨τ, h1, h2.mono rfl, h.fr h2 h3⟩
theorem MSt.t2 {T : aH} {S : aH × (Int → aH) × Int × Int × aH} {σ : aS} (h : MSt T S σ) : MSt T S (st2 σ) := h.fr (st2_q σ) h.2.1.t2
theorem st2_a (σ : aS) : Fr wma σ (st2 σ) := (st2_q σ).mono rfl
/-- remembered -/
theorem MSt.rem {T : aH} {S : aH × (Int → aH) × Int × Int × aH} {σ : aS} (h : MSt T S σ) : ∃ τ, c12_remembers 130 σ = some (0, [], τ) ∧ Fr wrm σ τ ∧ MSt T (psS S S.1) τ := by
  obtain ⟨τ, h1, h2, h3⟩ := c12_remembers_ok h.1 h.2.1 h.2.2.1
  exact ⟨τ, h1, h2, h.1.rm h2, h.2.1.rm h2, h3, h.2.2.2.fr h.1.2.2 h2 (wdj_spec (by decide +kernel))⟩
/-- then changed -/
def wch : List (Int × List Int) := [(155, []), (156, []), (144, []), (157, []), (158, []), (130, [54, 55, 56, 58, 62, 63, 64, 80, 81, 82])]
theorem MSt.ch {T : aH} {S : aH × (Int → aH) × Int × Int × aH} {N : aH} {σ τ : aS} (h : MSt T S σ) (hF : Fr wch σ τ) (hS : MN T N τ) : MSt T (N, S.2) τ :=
  ⟨h.1.fr hF (by decide +kernel) (wdj_spec (by decide +kernel)), hS, h.2.2.1.fr h.1.2.2 hF (wdj_spec (by decide +kernel)), h.2.2.2.fr h.1.2.2 hF (wdj_spec (by decide +kernel))⟩
theorem MN.st1 {T N : aH} {σ : aS} (hS : MN T N σ) (t v : Int) : MN T (stv N 1 t v) (aput σ 156 t v) := by
  refine ⟨fun s p a b c d => ?_, fun u a b => ?_, fun u a b => ?_, ?_, ?_, ?_, ?_⟩
  · rw [ag_x (by omega), stv_x (by omega)]; exact hS.1 s p a b c d
  · by_cases e : u = t
    · rw [e, ag_s, stv_s]
    · rw [ag_j e, stv_j e]; exact hS.2.1 u a b
  · rw [ag_x (by omega), stv_x (by omega)]; exact hS.2.2.1 u a b
  · rw [ag_x (by omega), stv_x (by omega)]; exact hS.2.2.2.1
  · rw [ag_x (by omega), stv_x (by omega)]; exact hS.2.2.2.2.1
  · rw [ag_x (by omega), stv_x (by omega)]; exact hS.2.2.2.2.2.1
  · rw [ag_x (by omega), ag_x (by omega), stv_x (by omega), stv_x (by omega), stv_x (by omega)]; exact hS.2.2.2.2.2.2
theorem MN.st2 {T N : aH} {σ : aS} (hS : MN T N σ) (t v : Int) : MN T (stv N 2 t v) (aput σ 144 t v) := by
  refine ⟨fun s p a b c d => ?_, fun u a b => ?_, fun u a b => ?_, ?_, ?_, ?_, ?_⟩
  · rw [ag_x (by omega), stv_x (by omega)]; exact hS.1 s p a b c d
  · rw [ag_x (by omega), stv_x (by omega)]; exact hS.2.1 u a b
  · by_cases e : u = t
    · rw [e, ag_s, stv_s]
    · rw [ag_j e, stv_j e]; exact hS.2.2.1 u a b
  · rw [ag_x (by omega), stv_x (by omega)]; exact hS.2.2.2.1
  · rw [ag_x (by omega), stv_x (by omega)]; exact hS.2.2.2.2.1
  · rw [ag_x (by omega), stv_x (by omega)]; exact hS.2.2.2.2.2.1
  · rw [ag_x (by omega), ag_x (by omega), stv_x (by omega), stv_x (by omega), stv_x (by omega)]; exact hS.2.2.2.2.2.2
theorem MN.st31 {T N : aH} {σ : aS} (hS : MN T N σ) (v : Int) : MN T (stv N 3 1 v) (aput σ 130 81 v) := by
  refine ⟨fun s p a b c d => ?_, fun u a b => ?_, fun u a b => ?_, ?_, ?_, ?_, ?_⟩
  · rw [ag_x (by omega), stv_x (by omega)]; exact hS.1 s p a b c d
  · rw [ag_x (by omega), stv_x (by omega)]; exact hS.2.1 u a b
  · rw [ag_x (by omega), stv_x (by omega)]; exact hS.2.2.1 u a b
  · rw [ag_j (by omega), stv_j (by omega)]; exact hS.2.2.2.1
  · rw [ag_s, stv_s]
  · rw [ag_j (by omega), stv_x (by omega)]; exact hS.2.2.2.2.2.1
  · rw [ag_j (by omega), ag_j (by omega), stv_x (by omega), stv_x (by omega), stv_x (by omega)]; exact hS.2.2.2.2.2.2
def sGo (T : aH) (S : aH × (Int → aH) × Int × Int × aH) (s a b : Int) : aH × (Int → aH) × Int × Int × aH := if mgoB T S.1 s a b = true then psS S (mvN S.1 (on1 s) a b) else S
theorem c12_go_q {T : aH} {S : aH × (Int → aH) × Int × Int × aH} {σ : aS} (h : MSt T S σ) (hN : NB T S.1) (s a b : Int) : AnsR T (sGo T S s a b) σ (c12_go 130 s a b σ) (if mgoB T S.1 s a b = true then 1 else 0) := by
  have h0 := h.t2
  unfold c12_go sGo
  rw [show aput σ 130 2 0 = st2 σ from rfl, c12_mayGo_ok h0.1 h0.2.1, acall1_some]
  by_cases q : mgoB T S.1 s a b = true
  · rw [if_pos q, if_pos q]
    obtain ⟨⟨hs, ha, hb⟩, hab, -⟩ := mgoB_t.1 q
    obtain ⟨τ, h1, hF1, hS1⟩ := h0.rem
    obtain ⟨υ, h2, hS2, hF2⟩ := c12_goes_ok hS1.1 hN hS1.2.1 hs.1 hs.2 ha.1 ha.2 hb.1 hb.2 hab
    rw [if_neg (show ¬ (1 : Int) = 0 by omega), h1, acall0_some, h2, acall0_some, if_pos (show (1 : Int) = 0 ∨ (1 : Int) = 1 by omega)]
    exact AnsR.k ((st2_a σ).tr ((hF1.mono rfl).tr (hF2.mono rfl))) (hS1.ch (hF2.mono rfl) hS2) rfl
  · rw [if_neg q, if_neg q, if_pos rfl, if_pos (show (0 : Int) = 0 ∨ (0 : Int) = 1 by omega)]
    exact AnsR.k (st2_a σ) h0 rfl
def exB (T N : aH) (t e : Int) : Bool := decide ((0 ≤ t ∧ t < T 0 2) ∧ (-999 ≤ e ∧ e ≤ 999) ∧ N 1 t ≠ e)
theorem exB_t {T N : aH} {t e : Int} : exB T N t e = true ↔ (0 ≤ t ∧ t < T 0 2) ∧ (-999 ≤ e ∧ e ≤ 999) ∧ N 1 t ≠ e := decide_eq_true_iff
def sExtra (T : aH) (S : aH × (Int → aH) × Int × Int × aH) (t e : Int) : aH × (Int → aH) × Int × Int × aH := if exB T S.1 t e = true then psS S (stv S.1 1 t e) else S
theorem c12_extra_q {T : aH} {S : aH × (Int → aH) × Int × Int × aH} {σ : aS} (h : MSt T S σ) (t e : Int) : AnsR T (sExtra T S t e) σ (c12_extra 130 t e σ) (if exB T S.1 t e = true then 1 else 0) := by
  have h0 := h.t2
  have hL := h0.1.1
  have h4 := h.1.2.2.2.2.1
  have no : ¬ ((0 ≤ t ∧ t < T 0 2) ∧ (-999 ≤ e ∧ e ≤ 999) ∧ S.1 1 t ≠ e) → AnsR T (sExtra T S t e) σ (some (0, [0], st2 σ)) (if exB T S.1 t e = true then 1 else 0) := fun q => by
    unfold sExtra
    rw [if_neg (fun z => q (exB_t.1 z)), if_neg (fun z => q (exB_t.1 z))]; exact AnsR.k (st2_a σ) h0 rfl
  unfold c12_extra
  rw [show aput σ 130 2 0 = st2 σ from rfl, c12_isTown_ok h0.1, acall1_some]
  by_cases c1 : 0 ≤ t ∧ t < T 0 2
  · rw [if_pos c1, if_neg (show ¬ (1 : Int) = 0 by omega), c12_isIn_ok, acall1_some]
    by_cases c2 : -999 ≤ e ∧ e ≤ 999
    · rw [if_pos c2, if_neg (show ¬ (1 : Int) = 0 by omega), r_130_52 hL, n_156 hL, if_neg (show ¬ (156 : Int) = 0 by omega), if_pos (show (0 : Int) ≤ t ∧ t < 4 by omega), h0.2.1.2.1 t c1.1 (by omega)]
      by_cases c3 : S.1 1 t = e
      · rw [if_pos c3, if_pos (show (0 : Int) = 0 ∨ (0 : Int) = 1 by omega)]; exact no (fun q => q.2.2 c3)
      · obtain ⟨τ, h1, hF1, hS1⟩ := h0.rem
        have hL1 := hS1.1.1
        have q := exB_t.2 ⟨c1, c2, c3⟩
        unfold sExtra
        rw [if_neg c3, h1, acall0_some, r_130_52 hL1, n_156 hL1, if_neg (show ¬ (156 : Int) = 0 by omega), if_pos (show (0 : Int) ≤ t ∧ t < 4 by omega), if_pos (show (1 : Int) = 0 ∨ (1 : Int) = 1 by omega), if_pos q, if_pos q]
        have hF2 : Fr wch τ (aput τ 156 t e) := (Fr.rf _ _).put _ rfl
        exact AnsR.k ((st2_a σ).tr ((hF1.mono rfl).tr (hF2.mono rfl))) (hS1.ch hF2 (hS1.2.1.st1 t e)) rfl
    · rw [if_neg c2, if_pos rfl, if_pos (show (0 : Int) = 0 ∨ (0 : Int) = 1 by omega)]; exact no (fun q => c2 q.2.1)
  · rw [if_neg c1, if_pos rfl, if_pos (show (0 : Int) = 0 ∨ (0 : Int) = 1 by omega)]; exact no (fun q => c1 q.1)
def bdB (T N : aH) (t on : Int) : Bool := decide ((0 ≤ t ∧ t < T 0 2) ∧ N 2 t ≠ on)
theorem bdB_t {T N : aH} {t on : Int} : bdB T N t on = true ↔ (0 ≤ t ∧ t < T 0 2) ∧ N 2 t ≠ on := decide_eq_true_iff
def sBind (T : aH) (S : aH × (Int → aH) × Int × Int × aH) (t on : Int) : aH × (Int → aH) × Int × Int × aH := if bdB T S.1 t on = true then psS S (stv S.1 2 t on) else S
theorem c12_bind_q {T : aH} {S : aH × (Int → aH) × Int × Int × aH} {σ : aS} (h : MSt T S σ) (hN : NB T S.1) (t : Int) {on : Int} (ho : on = 0 ∨ on = 1) : AnsR T (sBind T S t on) σ (c12_bind 130 t on σ) (if bdB T S.1 t on = true then 1 else 0) := by
  have h0 := h.t2
  have hL := h0.1.1
  have h4 := h.1.2.2.2.2.1
  have no : ¬ ((0 ≤ t ∧ t < T 0 2) ∧ S.1 2 t ≠ on) → AnsR T (sBind T S t on) σ (some (0, [0], st2 σ)) (if bdB T S.1 t on = true then 1 else 0) := fun q => by
    unfold sBind
    rw [if_neg (fun z => q (bdB_t.1 z)), if_neg (fun z => q (bdB_t.1 z))]; exact AnsR.k (st2_a σ) h0 rfl
  unfold c12_bind
  rw [show aput σ 130 2 0 = st2 σ from rfl, c12_isTown_ok h0.1, acall1_some]
  by_cases c1 : 0 ≤ t ∧ t < T 0 2
  · have h2 := hN.2.2.2.2.1 t c1.1 c1.2
    have p28 : ∀ s0, s0 = S.1 2 t → AnsR T (sBind T S t on) σ (c12_bind_p28 s0 130 t on (st2 σ)) (if bdB T S.1 t on = true then 1 else 0) := by
      intro s0 e0
      unfold c12_bind_p28
      by_cases c3 : s0 = on
      · rw [if_pos c3, if_pos (show (0 : Int) = 0 ∨ (0 : Int) = 1 by omega)]; exact no (fun q => q.2 (by omega))
      · obtain ⟨τ, h1, hF1, hS1⟩ := h0.rem
        have hL1 := hS1.1.1
        have q := bdB_t.2 ⟨c1, show S.1 2 t ≠ on by omega⟩
        have hF2 : Fr wch τ (aput τ 144 t on) := (Fr.rf _ _).put _ rfl
        have e52 : c12_bind_p52 on t 144 τ = some (0, [1], aput τ 144 t on) := by
          unfold c12_bind_p52
          rw [n_144 hL1]
          exact ite_p (by omega) (ite_p (by omega) rfl)
        have fin : (if on = 0 then c12_bind_p52 0 t 144 τ else c12_bind_p52 1 t 144 τ) = some (0, [1], aput τ 144 t on) := by
          rcases ho with e | e
          · rw [if_pos e, ← e52, e]
          · rw [if_neg (by omega), ← e52, e]
        unfold sBind
        rw [if_neg c3, h1, acall0_some, r_130_35 hL1, if_neg (show ¬ (144 : Int) = 0 by omega), fin, if_pos q, if_pos q]
        exact AnsR.k ((st2_a σ).tr ((hF1.mono rfl).tr (hF2.mono rfl))) (hS1.ch hF2 (hS1.2.1.st2 t on)) rfl
    rw [if_pos c1, if_neg (show ¬ (1 : Int) = 0 by omega), r_130_35 hL, n_144 hL, if_neg (show ¬ (144 : Int) = 0 by omega), if_pos (show (0 : Int) ≤ t ∧ t < 8 by omega), h0.2.1.2.2.1 t c1.1 c1.2]
    by_cases c2 : S.1 2 t = 1
    · rw [if_pos c2]; exact p28 1 c2.symm
    · rw [if_neg c2]; exact p28 0 (by omega)
  · rw [if_neg c1, if_pos rfl, if_pos (show (0 : Int) = 0 ∨ (0 : Int) = 1 by omega)]; exact no (fun q => c1 q.1)
def goC (T N : aH) (n : Int) : Prop := (0 ≤ n ∧ n ≤ 300) ∧ n ≠ 0 ∧ fiS T N < T 0 1
def goB (T N : aH) (n : Int) : Bool := decide ((0 ≤ n ∧ n ≤ 300) ∧ n ≠ 0 ∧ fiS T N < T 0 1)
theorem goB_t {T N : aH} {n : Int} : goB T N n = true ↔ goC T N n := decide_eq_true_iff
def sGoings (T : aH) (S : aH × (Int → aH) × Int × Int × aH) (n : Int) : aH × (Int → aH) × Int × Int × aH := if goB T S.1 n = true then psS S (itN T S.1 (stN T S.1 n)) else S
def aGoings (T N : aH) (n : Int) : Int := if 0 ≤ n ∧ n ≤ 300 then (if n = 0 then 0 else if fiS T N < T 0 1 then stN T N n else 0) else -1
theorem c12_goings_q {T : aH} {S : aH × (Int → aH) × Int × Int × aH} {σ : aS} (h : MSt T S σ) (hN : NB T S.1) (n : Int) : AnsR T (sGoings T S n) σ (c12_goings 130 n σ) (aGoings T S.1 n) := by
  have h0 := h.t2
  have no : ∀ τ, Fr wmq σ τ → MN T S.1 τ → ¬ goC T S.1 n → ∀ v, AnsR T (sGoings T S n) σ (some (0, [v], τ)) v := fun τ hF hS q v => by
    unfold sGoings
    rw [if_neg (fun z => q (goB_t.1 z))]; exact AnsR.k (hF.mono rfl) (h.fr hF hS) rfl
  unfold c12_goings aGoings
  rw [show aput σ 130 2 0 = st2 σ from rfl, c12_isIn_ok, acall1_some]
  by_cases c1 : 0 ≤ n ∧ n ≤ 300
  · rw [if_pos c1, if_pos c1, if_neg (show ¬ (1 : Int) = 0 by omega)]
    by_cases c2 : n = 0
    · rw [if_pos c2, if_pos c2]; exact no _ (st2_q σ) h0.2.1 (fun q => q.2.1 c2) 0
    · rw [if_neg c2, if_neg c2]
      obtain ⟨τ, h1, hF1, hF1'⟩ := ff1 h0.1 hN h0.2.1
      rw [h1, acall1_some]
      have hS1 : MSt T S τ := h0.fr (hF1.mono rfl) (h0.2.1.ff hF1)
      by_cases c3 : fiS T S.1 < T 0 1
      · rw [if_pos c3, if_pos c3, if_neg (show ¬ (1 : Int) = 0 by omega)]
        obtain ⟨υ, h2, hF2, hS2⟩ := hS1.rem
        obtain ⟨ψ, h3, hS3, hF3⟩ := c12_goingsNow_ok hS2.1 hN hS2.2.1 c1.1 c1.2
        have q : goB T S.1 n = true := goB_t.2 ⟨c1, c2, c3⟩
        unfold sGoings
        rw [h2, acall0_some, h3, acall1_some, if_pos q]
        exact AnsR.k ((st2_a σ).tr ((hF1.mono rfl).tr ((hF2.mono rfl).tr (hF3.mono rfl)))) (hS2.ch (hF3.mono rfl) hS3) rfl
      · rw [if_neg c3, if_neg c3, if_pos rfl]
        exact no τ ((st2_q σ).tr (hF1.mono rfl)) hS1.2.1 (fun q => c3 q.2.2) 0
  · rw [if_neg c1, if_neg c1, if_pos rfl]; exact no _ (st2_q σ) h0.2.1 (fun q => c1 q.1) (-1)
/-! months -/
theorem mbK_NB {T N : aH} (hN : NB T N) (hB : TB T) (c : Int) {k : Int} : NB T (mbK T N c k) := by
  have h : ∀ n : Nat, ∀ (M : aH) (d : Int), NB T M → NB T (mbN T n M d) := by
    intro n
    induction n with
    | zero => intro M d hM; exact hM
    | succ n ih =>
      intro M d hM
      have e := mbK_s (T := T) (N := M) (c := d) (k := n) (by omega)
      have e1 : mbK T M d ((n : Int) + 1) = mbN T (n + 1) M d := by unfold mbK; rw [show ((n : Int) + 1).toNat = n + 1 by omega]
      have e2 : mbK T M d (n : Int) = mbN T n M d := by unfold mbK; rw [Int.toNat_natCast]
      rw [e1, e2] at e
      rw [e]
      exact moB_NB (ih M d hM) hB _
  exact h _ N c hN
theorem month_loop {T N : aH} {σ : aS} (hM : MI T σ) (hN : NB T N) (hS : MN T N σ) {c m : Int} (hc : aget σ 130 82 = c) (c0 : 0 ≤ c) (c1 : c ≤ 2147483647) (m0 : 0 ≤ m) (m1 : m ≤ 240) :
    ∃ τ, aloop 39 (aU3 c12_months_b38) aBig [130, m, 0] σ = some (54, [130, m], τ) ∧ MN T (mbK T N c m) τ ∧ aget τ 130 82 = moS T N c m ∧ Fr wmo σ τ := by
  have hB := hM.2.2
  have hal := al_I (c := 39) (B := aU3 c12_months_b38) (n := m) (i := 0) (vs := [130, m, 0]) (σ := σ)
    (fun k vs τ => 0 ≤ k ∧ vs = [130, m, k] ∧ MN T (mbK T N c k) τ ∧ aget τ 130 82 = moS T N c k ∧ Fr wmo σ τ)
    (fun r => ∃ τ, r = (54, [130, m], τ) ∧ MN T (mbK T N c m) τ ∧ aget τ 130 82 = moS T N c m ∧ Fr wmo σ τ) (by omega) (by omega) ⟨Int.le_refl _, rfl, hS, hc, Fr.rf _ _⟩ ?_
  · obtain ⟨r, hr, τ, rfl, h1, h2, h3⟩ := hal
    exact ⟨τ, hr, h1, h2, h3⟩
  · rintro k vs τ hk ⟨k0, rfl, hSt, h82, hF⟩
    by_cases d : k < m
    · have hb := moS_bd T N c0 c1 k0
      obtain ⟨υ, h1, h2, h3, h5⟩ := c12_month_ok (wmo_MI hM hF) (mbK_NB hN hB c (k := k)) hSt h82 hb.1 hb.2
      refine Or.inl ⟨d, [130, m, k + 1], υ, ?_, by omega, rfl, by rw [mbK_s k0]; exact h2, ?_, hF.tr h5⟩
      · show c12_months_b38 130 m k τ = _
        unfold c12_months_b38
        rw [h1, acall0_some, wq (by omega) (by omega)]
        exact ite_p d rfl
      · rw [h3]; exact (moK_s (T := T) (N := N) (c := c) k0).2.symm
    · have hke : k = m := by omega
      subst hke
      refine Or.inr ⟨(54, [130, k], τ), ?_, Nat.ne_of_beq_eq_false rfl, τ, rfl, hSt, h82, hF⟩
      show c12_months_b38 130 k k τ = _
      unfold c12_months_b38
      exact ite_n (by omega) rfl
def mtB (c m : Int) : Bool := decide (0 ≤ c ∧ 0 ≤ m ∧ m ≤ 240)
def sMonths (T : aH) (S : aH × (Int → aH) × Int × Int × aH) (c m : Int) : aH × (Int → aH) × Int × Int × aH :=
  if c < 0 then S else if 0 ≤ m ∧ m ≤ 240 then (if 0 < m then psS S (moK T S.1 c m) else S) else S
def aMonths (N : aH) (c m : Int) : Int := if c < 0 then -1 else if 0 ≤ m ∧ m ≤ 240 then N 3 1 + m else -1
theorem stv_id (N : aH) (x j : Int) : stv N x j (N x j) = N := by
  funext x' j'
  rw [stv_g]
  split
  · rename_i q; rw [q.1, q.2]
  · rfl
theorem mo_tail {T N : aH} {σ : aS} {S : aH × (Int → aH) × Int × Int × aH} (h : MSt T S σ) (e : S.1 = N) (hN : NB T N) {c m : Int} (c0 : 0 ≤ c) (c1 : c ≤ 2147483647) (m0 : 0 ≤ m) (m1 : m ≤ 240) (hm : N 3 1 + m ≤ 130000) :
    AnsR T (moK T N c m, S.2) σ (c12_months_p30 130 c m σ) (N 3 1 + m) := by
  have h31 := hN.2.2.2.2.2.2.1
  have hF0 : Fr wmo σ (aput σ 130 82 c) := (Fr.rf _ _).put _ rfl
  have hM0 := wmo_MI h.1 hF0
  have hS0 : MN T N (aput σ 130 82 c) := by
    have g : Fr [(130, [82])] σ (aput σ 130 82 c) := (Fr.rf _ _).put _ rfl
    rw [← e]
    exact h.2.1.fr g (wdj_spec (by decide +kernel))
  obtain ⟨τ, h1, h2, h3, h5⟩ := month_loop hM0 hN hS0 (ag_s _ _ _ _) c0 c1 m0 m1
  obtain ⟨k1, k2⟩ := mbK_mo T N c m0
  have e81 : aget τ 130 81 = N 3 1 := by rw [h2.2.2.2.2.1, k2]
  have hF : Fr wch σ (aput τ 130 81 (N 3 1 + m)) := ((hF0.mono rfl).tr (h5.mono rfl)).put _ rfl
  have hf : c12_months_p30 130 c m σ = some (0, [N 3 1 + m], aput τ 130 81 (N 3 1 + m)) := by
    unfold c12_months_p30 c12_months_l38
    rw [h1]
    show c12_months_p53 130 m τ = _
    unfold c12_months_p53
    rw [e81, wq (by omega) (by omega), ag_s]
  rw [hf]
  refine AnsR.k (hF.mono rfl) (h.ch hF ?_) rfl
  rw [k1]
  exact h2.st31 _
theorem c12_months_q {T : aH} {S : aH × (Int → aH) × Int × Int × aH} {σ : aS} (h : MSt T S σ) (hN : NB T S.1) {c m : Int} (c1 : c ≤ 2147483647) (hm : S.1 3 1 + 240 ≤ 130000) : AnsR T (sMonths T S c m) σ (c12_months 130 c m σ) (aMonths S.1 c m) := by
  have h0 := h.t2
  unfold c12_months sMonths aMonths
  rw [show aput σ 130 2 0 = st2 σ from rfl]
  by_cases a : c < 0
  · rw [if_pos a, if_pos a, if_pos a]; exact AnsR.k (st2_a σ) h0 rfl
  · rw [if_neg a, if_neg a, if_neg a, c12_isIn_ok, acall1_some]
    by_cases b : 0 ≤ m ∧ m ≤ 240
    · rw [if_pos b, if_pos b, if_pos b, if_neg (show ¬ (1 : Int) = 0 by omega)]
      by_cases d : 0 < m
      · rw [if_pos d, if_pos d]
        obtain ⟨τ, h1, hF1, hS1⟩ := h0.rem
        rw [h1, acall0_some]
        obtain ⟨υ, g1, g2, g3⟩ := mo_tail hS1 rfl hN (show 0 ≤ c by omega) c1 b.1 b.2 (show S.1 3 1 + m ≤ 130000 by omega)
        exact ⟨υ, g1, (st2_a σ).tr ((hF1.mono rfl).tr g2), g3⟩
      · rw [if_neg d, if_neg d]
        obtain ⟨υ, g1, g2, g3⟩ := mo_tail h0 rfl hN (show 0 ≤ c by omega) c1 b.1 b.2 (show S.1 3 1 + m ≤ 130000 by omega)
        have ek : moK T S.1 c m = S.1 := by
          rw [show m = 0 by omega]; rfl
        refine ⟨υ, g1, (st2_a σ).tr g2, ?_⟩
        rw [ek] at g3; exact g3
    · rw [if_neg b, if_neg b, if_neg b, if_pos rfl]; exact AnsR.k (st2_a σ) h0 rfl
/-! undo, keep, back, count -/
def sUndo (S : aH × (Int → aH) × Int × Int × aH) : aH × (Int → aH) × Int × Int × aH := if S.2.2.1 = 0 then S else (S.2.1 (S.2.2.1 - 1), S.2.1, S.2.2.1 - 1, S.2.2.2)
def aUndo (S : aH × (Int → aH) × Int × Int × aH) : Int := if S.2.2.1 = 0 then -1 else S.2.2.1 - 1
theorem c12_undo_q {T : aH} {S : aH × (Int → aH) × Int × Int × aH} {σ : aS} (h : MSt T S σ) (hN4 : S.1 4 0 = -1) (hH4 : ∀ i, 0 ≤ i → i < S.2.2.1 → S.2.1 i 4 0 = -1) : AnsR T (sUndo S) σ (c12_undo 130 σ) (aUndo S) := by
  have h0 := h.t2
  have hL := h0.1.1
  have h83 := h0.2.2.1.1
  have hn := h.2.2.1.2.1
  unfold c12_undo sUndo aUndo
  rw [show aput σ 130 2 0 = st2 σ from rfl, h83]
  by_cases z : S.2.2.1 = 0
  · rw [if_pos z, if_pos z, if_pos z]; exact AnsR.k (st2_a σ) h0 rfl
  · rw [if_neg z, if_neg z, if_neg z, wq (x := S.2.2.1 - 1) (by omega) (by omega), ag_s]
    have f1 : Fr [(130, [83])] (st2 σ) (aput (st2 σ) 130 83 (S.2.2.1 - 1)) := (Fr.rf _ _).put _ rfl
    have hM1 : MI T (aput (st2 σ) 130 83 (S.2.2.1 - 1)) := h0.1.rm (f1.mono rfl)
    have hS1 : MN T S.1 (aput (st2 σ) 130 83 (S.2.2.1 - 1)) := h0.2.1.rm (f1.mono rfl)
    have hR := (h0.2.2.1.2.2 (S.2.2.1 - 1) (by omega) (by omega)).co (τ := aput (st2 σ) 130 83 (S.2.2.1 - 1)) (x' := 165) (o' := 35 * (S.2.2.1 - 1)) h.1.2.2 (fun j _ _ => f1.g rfl)
    obtain ⟨τ, h1, h2, h3⟩ := c12_takes_ok hM1 hS1 hN4 (hH4 (S.2.2.1 - 1) (by omega) (by omega)) (Or.inl rfl) (by omega) (by rw [n_165 hM1.1]; omega) (by omega) hR
    have e83 : aget τ 130 83 = S.2.2.1 - 1 := by rw [h2.g rfl, ag_s]
    rw [r_130_84 hM1.1, if_neg (show ¬ (165 : Int) = 0 by omega), wq (x := 35 * (S.2.2.1 - 1)) (by omega) (by omega), h1, acall0_some, e83]
    have fA : Fr wma σ τ := (st2_a σ).tr ((f1.mono rfl).tr (h2.mono rfl))
    have fB : Fr [(155, []), (156, []), (144, []), (130, [80, 81, 83, 2])] σ τ := ((st2_F σ).mono rfl).tr ((f1.mono rfl).tr (h2.mono rfl))
    refine AnsR.k fA ⟨hM1.tk h2, h3, ⟨e83, by show 0 ≤ S.2.2.1 - 1 ∧ S.2.2.1 - 1 ≤ 30; omega, fun i i0 i1 => (h.2.2.1.2.2 i i0 (show i < S.2.2.1 by have : i < S.2.2.1 - 1 := i1; omega)).co h.1.2.2 (fun j _ _ => fB.g rfl)⟩, h.2.2.2.fr h.1.2.2 fB (wdj_spec (by decide +kernel))⟩ rfl
def sKeep (S : aH × (Int → aH) × Int × Int × aH) : aH × (Int → aH) × Int × Int × aH := (S.1, S.2.1, S.2.2.1, 1, S.1)
theorem c12_keep_q {T : aH} {S : aH × (Int → aH) × Int × Int × aH} {σ : aS} (h : MSt T S σ) : AnsR T (sKeep S) σ (c12_keep 130 σ) (S.1 3 1) := by
  have h0 := h.t2
  have f1 : Fr [(130, [85])] (st2 σ) (aput (st2 σ) 130 85 1) := (Fr.rf _ _).put _ rfl
  have hM1 : MI T (aput (st2 σ) 130 85 1) := h0.1.fr f1 (by decide +kernel) (wdj_spec (by decide +kernel))
  have hS1 : MN T S.1 (aput (st2 σ) 130 85 1) := h0.2.1.fr f1 (wdj_spec (by decide +kernel))
  obtain ⟨τ, h1, h2, h3⟩ := c12_lays_ok hM1 hS1 (x := 166) (o := 0) (Or.inr rfl) (by omega) (by rw [n_166 hM1.1]; omega) (by omega)
  have h2' : Fr [(166, [])] (aput (st2 σ) 130 85 1) τ := h2.fr (fun y j q => by rw [q.1]; rfl)
  have fB : Fr [(166, []), (130, [2, 85])] σ τ := ((st2_F σ).mono rfl).tr ((f1.mono rfl).tr (h2'.mono rfl))
  have hM2 : MI T τ := h.1.fr fB (by decide +kernel) (wdj_spec (by decide +kernel))
  have hS2 : MN T S.1 τ := h.2.1.fr fB (wdj_spec (by decide +kernel))
  unfold c12_keep
  rw [show aput σ 130 2 0 = st2 σ from rfl, if_pos (show (1 : Int) = 0 ∨ (1 : Int) = 1 by omega), r_130_86 hM1.1, if_neg (show ¬ (166 : Int) = 0 by omega), h1, acall0_some]
  exact AnsR.k (fB.mono rfl) ⟨hM2, hS2, h.2.2.1.fr h.1.2.2 fB (wdj_spec (by decide +kernel)), by rw [h2'.g rfl, ag_s]; rfl, Or.inr rfl, fun _ => h3⟩ hS2.2.2.2.2.1
def sBack (S : aH × (Int → aH) × Int × Int × aH) : aH × (Int → aH) × Int × Int × aH := if S.2.2.2.1 = 0 then S else (S.2.2.2.2, S.2.1, 0, S.2.2.2)
def aBack (S : aH × (Int → aH) × Int × Int × aH) : Int := if S.2.2.2.1 = 0 then -1 else S.2.2.2.2 3 1
theorem c12_back_q {T : aH} {S : aH × (Int → aH) × Int × Int × aH} {σ : aS} (h : MSt T S σ) (hN4 : S.1 4 0 = -1) (hI4 : S.2.2.2.1 = 1 → S.2.2.2.2 4 0 = -1) : AnsR T (sBack S) σ (c12_back 130 σ) (aBack S) := by
  have h0 := h.t2
  have hL := h0.1.1
  have h85 := h0.2.2.2.1
  have h01 := h.2.2.2.2.1
  unfold c12_back sBack aBack
  rw [show aput σ 130 2 0 = st2 σ from rfl, h85]
  by_cases z : S.2.2.2.1 = 0
  · rw [if_pos z, if_pos z, if_pos z]; exact AnsR.k (st2_a σ) h0 rfl
  · have o : S.2.2.2.1 = 1 := by omega
    obtain ⟨τ, h1, h2, h3⟩ := c12_takes_ok h0.1 h0.2.1 hN4 (hI4 o) (x := 166) (o := 0) (Or.inr rfl) (by omega) (by rw [n_166 hL]; omega) (by omega) (h0.2.2.2.2.2 o)
    rw [if_neg z, if_neg z, if_neg z, r_130_86 hL, if_neg (show ¬ (166 : Int) = 0 by omega), h1, acall0_some]
    have f3 : Fr [(130, [83])] τ (aput τ 130 83 0) := (Fr.rf _ _).put _ rfl
    have fB : Fr [(155, []), (156, []), (144, []), (130, [80, 81, 83, 2])] σ (aput τ 130 83 0) := ((st2_F σ).mono rfl).tr ((h2.mono rfl).tr (f3.mono rfl))
    have hM2 : MI T (aput τ 130 83 0) := h.1.fr fB (by decide +kernel) (wdj_spec (by decide +kernel))
    have hS2 : MN T S.2.2.2.2 (aput τ 130 83 0) := h3.fr f3 (wdj_spec (by decide +kernel))
    exact AnsR.k (fB.mono rfl) ⟨hM2, hS2, ⟨ag_s _ _ _ _, ⟨Int.le_refl _, by show (0 : Int) ≤ 30; omega⟩, fun i i0 i1 => absurd (show i < 0 from i1) (by omega)⟩, h.2.2.2.fr h.1.2.2 fB (wdj_spec (by decide +kernel))⟩ hS2.2.2.2.2.1
def aCount (T : aH) (S : aH × (Int → aH) × Int × Int × aH) (w : Int) : Int :=
  if w = 0 then T 0 0 else if w = 1 then T 0 1 else if w = 2 then T 0 2 else if w = 3 then T 0 3 else if w = 4 then T 0 4 else if w = 5 then T 0 5 else if w = 6 then S.1 3 1 else if w = 7 then S.2.2.1 else -1
theorem c12_count_q {T : aH} {S : aH × (Int → aH) × Int × Int × aH} {σ : aS} (h : MSt T S σ) (w : Int) : AnsR T S σ (c12_count 130 w σ) (aCount T S w) := by
  have h0 := h.t2
  obtain ⟨⟨t0, t1, t2, t3, t4, t5⟩, -⟩ := h0.1.2.1
  have k : ∀ {x v : Int}, x = v → AnsR T S σ (some (0, [x], st2 σ)) v := fun e => AnsR.k (st2_a σ) h0 e
  unfold c12_count aCount
  rw [show aput σ 130 2 0 = st2 σ from rfl]
  repeat' split
  · exact k t0
  · exact k t1
  · exact k t2
  · exact k t3
  · exact k t4
  · exact k t5
  · exact k h0.2.1.2.2.2.2.1
  · exact k h0.2.2.1.1
  · exact k rfl
