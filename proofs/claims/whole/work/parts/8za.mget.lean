/-! what a call answers: the figures -/
def MINL : Int := -9223372036854775808
def aWants (T : aH) (s g : Int) : Int := if 0 ≤ s ∧ s < T 0 1 then (if 0 ≤ g ∧ g < T 0 0 then T 3 (5 * s + g) else -1) else -1
def aLikes (T : aH) (s o : Int) : Int := if 0 ≤ s ∧ s < T 0 1 then (if 0 ≤ o ∧ o < T 0 1 then T 4 (5 * s + o) else -99) else -99
def aTown (T N : aH) (t w : Int) : Int :=
  if 0 ≤ t ∧ t < T 0 2 then (if w = 0 then T 5 t else if w = 1 then gvn T t (ctn T N t) else if w = 2 then T 6 t else if w = 3 then N 2 t else if w = 4 then N 1 t else if w = 5 then szf (ctn T N t) else -1) else -1
def aAt (T N : aH) (s p : Int) : Int := if 0 ≤ s ∧ s < T 0 1 then (if 0 ≤ p ∧ p ≤ T 0 2 then N 0 (5 * s + p) else -1) else -1
def aWorth (T N : aH) (s p c : Int) : Int :=
  if 0 ≤ s ∧ s < T 0 1 then (if 0 ≤ p ∧ p ≤ T 0 2 then (if c = 0 then (if N 0 (5 * s + p) = 0 then MINL else wrA T N s p (ctn T N p)) else wrA T N s p (adc (ctn T N p) s)) else MINL) else MINL
def aAsked (T N : aH) (s t : Int) : Int :=
  if 0 ≤ s ∧ s < T 0 1 then (if 0 ≤ t ∧ t < T 0 2 then (if N 0 (5 * s + t) = 0 then MINL else ask T N t (ctn T N t) s) else MINL) else MINL
/-- one of a sort may go -/
def mgo (T N : aH) (s a b : Int) : Prop := ((0 ≤ s ∧ s < T 0 1) ∧ (0 ≤ a ∧ a ≤ T 0 2) ∧ (0 ≤ b ∧ b ≤ T 0 2)) ∧ a ≠ b ∧ 0 < N 0 (5 * s + a)
def mgoB (T N : aH) (s a b : Int) : Bool := decide (((0 ≤ s ∧ s < T 0 1) ∧ (0 ≤ a ∧ a ≤ T 0 2) ∧ (0 ≤ b ∧ b ≤ T 0 2)) ∧ a ≠ b ∧ 0 < N 0 (5 * s + a))
theorem mgoB_t {T N : aH} {s a b : Int} : mgoB T N s a b = true ↔ mgo T N s a b := decide_eq_true_iff
def aGain (T N : aH) (s a b : Int) : Int := if mgoB T N s a b = true then gai T N s a b else MINL
def aFirst (T N : aH) (w : Int) : Int :=
  if 0 ≤ w ∧ w ≤ 2 then (if fiS T N < T 0 1 then (if w = 0 then fiS T N else if w = 1 then fiA T N (fiS T N) else fiB T N (fiS T N) (fiA T N (fiS T N))) else -1) else -1
def aRing (T N : aH) (w : Int) : Int := if 0 ≤ w ∧ w ≤ 2 then (if w = 0 then trE T N else if w = 1 then trB T N else trP T N) else -1
def aMet (T N : aH) (t : Int) : Int := if 0 ≤ t ∧ t < T 0 2 then (if metB T N t = true then 1 else 0) else -1
/-- what a method of the reference may change while it looks -/
def wmq : List (Int × List Int) := [(155, []), (157, []), (158, []), (159, []), (160, []), (161, []), (162, []), (163, []), (164, []), (156, []), (130, [2, 54, 55, 56, 58, 59, 60, 61, 62, 63, 64, 67, 68, 71, 72, 73, 75, 76, 77, 78, 80, 82])]
theorem MI.mq {T : aH} {σ τ : aS} (h : MI T σ) (hF : Fr wmq σ τ) : MI T τ := h.fr hF (by decide +kernel) (wdj_spec (by decide +kernel))
def AnsM (T N : aH) (σ : aS) (r : aR) (v : Int) : Prop := ∃ τ, r = some (0, [v], τ) ∧ Fr wmq σ τ ∧ MN T N τ
theorem AnsM.k {T N : aH} {σ τ : aS} {v w : Int} (hF : Fr wmq σ τ) (hS : MN T N τ) (e : w = v) : AnsM T N σ (some (0, [w], τ)) v := ⟨τ, by rw [e], hF, hS⟩
theorem AnsM.ite {T N : aH} {σ : aS} {c : Prop} [Decidable c] {A B : aR} {v w : Int} (h1 : c → AnsM T N σ A v) (h2 : ¬ c → AnsM T N σ B w) : AnsM T N σ (if c then A else B) (if c then v else w) := by
  by_cases q : c
  · rw [if_pos q, if_pos q]; exact h1 q
  · rw [if_neg q, if_neg q]; exact h2 q
theorem AnsM.chk {T N : aH} {σ τ : aS} {c : Prop} [Decidable c] {r : aR} {A B : aS → aR} {v w : Int} (h : r = some (0, [if c then 1 else 0], τ)) (h1 : c → AnsM T N σ (B τ) v) (h2 : ¬ c → AnsM T N σ (A τ) w) :
    AnsM T N σ (acall1 r fun v1 σ1 => if v1 = 0 then A σ1 else B σ1) (if c then v else w) := by
  rw [h, acall1_some]
  by_cases q : c
  · rw [if_pos q, if_pos q]; exact h1 q
  · rw [if_neg q, if_neg q]; exact h2 q
theorem AnsM.e {T N : aH} {σ : aS} {r r' : aR} {v : Int} (h : r' = r) (h2 : AnsM T N σ r v) : AnsM T N σ r' v := h ▸ h2
def st2 (σ : aS) : aS := aput σ 130 2 0
theorem st2_F (σ : aS) : Fr [(130, [2])] σ (st2 σ) := (Fr.rf _ _).put _ rfl
theorem st2_q (σ : aS) : Fr wmq σ (st2 σ) := (Fr.rf _ _).put _ rfl
theorem MI.t2 {T : aH} {σ : aS} (h : MI T σ) : MI T (st2 σ) := h.mq (st2_q σ)
theorem MN.t2 {T N : aH} {σ : aS} (h : MN T N σ) : MN T N (st2 σ) := h.fr (st2_F σ) (wdj_spec (by decide +kernel))
theorem c12_isSort_ok {T : aH} {σ : aS} (hM : MI T σ) (s : Int) : c12_isSort 130 s σ = some (0, [if 0 ≤ s ∧ s < T 0 1 then 1 else 0], σ) := by
  unfold c12_isSort
  rw [hM.2.1.1.2.1]
  by_cases c : 0 ≤ s ∧ s < T 0 1
  · rw [if_pos c]
    exact ite_n (by omega) (ite_p c.2 (ite_p (by omega) rfl))
  · rw [if_neg c]
    by_cases a : s < 0
    · exact ite_p a (ite_p (by omega) rfl)
    · exact ite_n a (ite_n (by omega) (ite_p (by omega) rfl))
theorem c12_isTown_ok {T : aH} {σ : aS} (hM : MI T σ) (s : Int) : c12_isTown 130 s σ = some (0, [if 0 ≤ s ∧ s < T 0 2 then 1 else 0], σ) := by
  unfold c12_isTown
  rw [hM.2.1.1.2.2.1]
  by_cases c : 0 ≤ s ∧ s < T 0 2
  · rw [if_pos c]
    exact ite_n (by omega) (ite_p c.2 (ite_p (by omega) rfl))
  · rw [if_neg c]
    by_cases a : s < 0
    · exact ite_p a (ite_p (by omega) rfl)
    · exact ite_n a (ite_n (by omega) (ite_p (by omega) rfl))
theorem c12_isPlace_ok {T : aH} {σ : aS} (hM : MI T σ) (s : Int) : c12_isPlace 130 s σ = some (0, [if 0 ≤ s ∧ s ≤ T 0 2 then 1 else 0], σ) := by
  unfold c12_isPlace
  rw [hM.2.1.1.2.2.1]
  by_cases c : 0 ≤ s ∧ s ≤ T 0 2
  · rw [if_pos c]
    exact ite_n (by omega) (ite_n (by omega) (ite_p (by omega) rfl))
  · rw [if_neg c]
    by_cases a : s < 0
    · exact ite_p a (ite_p (by omega) rfl)
    · exact ite_n a (ite_p (by omega) (ite_p (by omega) rfl))
theorem w5 {s j : Int} (s0 : 0 ≤ s) (s1 : s ≤ 9) (j0 : 0 ≤ j) (j1 : j ≤ 9) : w32 ((w32 (5 * s)) + j) = 5 * s + j := by
  have e : w32 (5 * s) = 5 * s := wq (by omega) (by omega)
  rw [e]; exact wq (by omega) (by omega)
theorem c12_wants_q {T N : aH} {σ : aS} (hM : MI T σ) (hS : MN T N σ) (s g : Int) : AnsM T N σ (c12_wants 130 s g σ) (aWants T s g) := by
  have hM0 := hM.t2
  have hL := hM0.1
  have h5 := hM.2.2.2.1
  have h4 := hM.2.2.1
  unfold c12_wants aWants
  refine AnsM.chk (c12_isSort_ok hM0 s) (fun hs => ?_) (fun _ => AnsM.k (st2_q σ) hS.t2 rfl)
  rw [hM0.2.1.1.1]
  by_cases a : g < 0
  · rw [if_pos a, if_neg (show ¬ (0 ≤ g ∧ g < T 0 0) from fun q => by omega)]; exact AnsM.k (st2_q σ) hS.t2 rfl
  · rw [if_neg a]
    by_cases b : g < T 0 0
    · rw [if_pos b, if_pos (show 0 ≤ g ∧ g < T 0 0 from ⟨by omega, b⟩), r_130_28 hL, n_137 hL, w5 (by omega) (by omega) (by omega) (by omega), if_neg (by omega), if_pos (by omega)]
      exact AnsM.k (st2_q σ) hS.t2 (hM0.2.1.2.2.2.1 _ (by omega) (by omega))
    · rw [if_neg b, if_neg (show ¬ (0 ≤ g ∧ g < T 0 0) from fun q => by omega)]; exact AnsM.k (st2_q σ) hS.t2 rfl
theorem c12_likes_q {T N : aH} {σ : aS} (hM : MI T σ) (hS : MN T N σ) (s o : Int) : AnsM T N σ (c12_likes 130 s o σ) (aLikes T s o) := by
  have hM0 := hM.t2
  have hL := hM0.1
  have h5 := hM.2.2.2.1
  unfold c12_likes aLikes
  refine AnsM.chk (c12_isSort_ok hM0 s) (fun hs => ?_) (fun _ => AnsM.k (st2_q σ) hS.t2 rfl)
  refine AnsM.chk (c12_isSort_ok hM0 o) (fun ho => ?_) (fun _ => AnsM.k (st2_q σ) hS.t2 rfl)
  rw [r_130_30 hL, n_139 hL, w5 (by omega) (by omega) (by omega) (by omega), if_neg (by omega), if_pos (by omega)]
  exact AnsM.k (st2_q σ) hS.t2 (hM0.2.1.2.2.2.2.1 _ (by omega) (by omega))
theorem c12_at_q {T N : aH} {σ : aS} (hM : MI T σ) (hS : MN T N σ) (s p : Int) : AnsM T N σ (c12_at 130 s p σ) (aAt T N s p) := by
  have hM0 := hM.t2
  have hL := hM0.1
  have h5 := hM.2.2.2.1
  have h4 := hM.2.2.2.2.1
  unfold c12_at aAt
  refine AnsM.chk (c12_isSort_ok hM0 s) (fun hs => ?_) (fun _ => AnsM.k (st2_q σ) hS.t2 rfl)
  refine AnsM.chk (c12_isPlace_ok hM0 p) (fun ho => ?_) (fun _ => AnsM.k (st2_q σ) hS.t2 rfl)
  rw [r_130_51 hL, n_155 hL, w5 (by omega) (by omega) (by omega) (by omega), if_neg (by omega), if_pos (by omega)]
  exact AnsM.k (st2_q σ) hS.t2 (hS.t2.1 _ _ (by omega) (by omega) (by omega) (by omega))
theorem c12_town_q {T N : aH} {σ : aS} (hM : MI T σ) (hN : NB T N) (hS : MN T N σ) (t w : Int) : AnsM T N σ (c12_town 130 t w σ) (aTown T N t w) := by
  have hM0 := hM.t2
  have hS0 := hS.t2
  have h4 := hM.2.2.2.2.1
  unfold c12_town aTown
  refine AnsM.chk (c12_isTown_ok hM0 t) (fun ht => ?_) (fun _ => AnsM.k (st2_q σ) hS.t2 rfl)
  show AnsM T N σ (acall0 (c12_layCrew 130 t (st2 σ)) _) _
  rw [c12_layCrew_ok hM0 hN hS0 ht.1 ht.2, acall0_some]
  have hF : Fr wmq σ (lay T t (ctn T N t) (st2 σ)) := (st2_q σ).tr ((lay_fr T t (ctn T N t) (st2 σ)).mono rfl)
  have hM1 := hM.mq hF
  have hS1 : MN T N (lay T t (ctn T N t) (st2 σ)) := lay_MN hS0 t (ctn T N t)
  have hL := hM1.1
  obtain ⟨c1, c2, -⟩ := hM1.2.1.2.2.2.2.2.1 t ht.1 (by omega)
  refine AnsM.ite (fun _ => ?_) (fun _ => AnsM.ite (fun _ => ?_) (fun _ => AnsM.ite (fun _ => ?_) (fun _ => AnsM.ite (fun _ => ?_) (fun _ => AnsM.ite (fun _ => ?_) (fun _ => AnsM.ite (fun _ => ?_) (fun _ => ?_))))))
  · rw [r_130_33 hL, n_142 hL, if_neg (by omega), if_pos (by omega)]; exact AnsM.k hF hS1 c1
  · exact AnsM.k hF hS1 (lay_55 _ _ _ _)
  · rw [r_130_34 hL, n_143 hL, if_neg (by omega), if_pos (by omega)]; exact AnsM.k hF hS1 c2
  · rw [r_130_35 hL, n_144 hL, if_neg (by omega), if_pos (by omega)]; exact AnsM.k hF hS1 (hS1.2.2.1 t ht.1 ht.2)
  · rw [r_130_52 hL, n_156 hL, if_neg (by omega), if_pos (by omega)]; exact AnsM.k hF hS1 (hS1.2.1 t ht.1 (by omega))
  · exact AnsM.k hF hS1 (lay_54 _ _ _ _)
  · exact AnsM.k hF hS1 rfl
theorem MN.wo {T N : aH} {σ τ : aS} (h : MN T N σ) (hF : Fr wwor σ τ) : MN T N τ := h.fr hF (wdj_spec (by decide +kernel))
theorem c12_worth_q {T N : aH} {σ : aS} (hM : MI T σ) (hN : NB T N) (hS : MN T N σ) (s p : Int) {c : Int} (hc : c = 0 ∨ c = 1) : AnsM T N σ (c12_worth 130 s p c σ) (aWorth T N s p c) := by
  have hM0 := hM.t2
  have hS0 := hS.t2
  have hL := hM0.1
  have h5 := hM.2.2.2.1
  have h4 := hM.2.2.2.2.1
  unfold c12_worth aWorth
  refine AnsM.chk (c12_isSort_ok hM0 s) (fun hs => ?_) (fun _ => AnsM.k (st2_q σ) hS.t2 rfl)
  refine AnsM.chk (c12_isPlace_ok hM0 p) (fun hp => ?_) (fun _ => AnsM.k (st2_q σ) hS.t2 rfl)
  refine AnsM.ite (fun z => ?_) (fun z => ?_)
  · show AnsM T N σ (if aget (st2 σ) 130 51 = 0 then none else _) _
    rw [r_130_51 hL, n_155 hL, w5 (by omega) (by omega) (by omega) (by omega), if_neg (by omega), if_pos (by omega), hS0.1 _ _ hs.1 hs.2 hp.1 hp.2]
    refine AnsM.ite (fun _ => AnsM.k (st2_q σ) hS0 rfl) (fun _ => ?_)
    obtain ⟨τ, h, hF⟩ := c12_worthAt_0 hM0 hN hS0 hs.1 hs.2 hp.1 hp.2
    unfold c12_worth_p42
    rw [z, h, acall1_some]
    exact AnsM.k ((st2_q σ).tr (hF.mono rfl)) (hS0.wo hF) rfl
  · obtain ⟨τ, h, hF⟩ := c12_worthAt_1 hM0 hN hS0 hs.1 hs.2 hp.1 hp.2
    show AnsM T N σ (c12_worth_p42 130 s p c (st2 σ)) _
    unfold c12_worth_p42
    rw [show c = 1 by omega, h, acall1_some]
    exact AnsM.k ((st2_q σ).tr (hF.mono rfl)) (hS0.wo hF) rfl
theorem c12_asked_q {T N : aH} {σ : aS} (hM : MI T σ) (hN : NB T N) (hS : MN T N σ) (s t : Int) : AnsM T N σ (c12_asked 130 s t σ) (aAsked T N s t) := by
  have hM0 := hM.t2
  have hS0 := hS.t2
  have hL := hM0.1
  have hB := hM.2.2
  have h5 := hB.2.1
  have h4 := hB.2.2.1
  unfold c12_asked aAsked
  refine AnsM.chk (c12_isSort_ok hM0 s) (fun hs => ?_) (fun _ => AnsM.k (st2_q σ) hS.t2 rfl)
  refine AnsM.chk (c12_isTown_ok hM0 t) (fun ht => ?_) (fun _ => AnsM.k (st2_q σ) hS.t2 rfl)
  show AnsM T N σ (if aget (st2 σ) 130 51 = 0 then none else _) _
  rw [r_130_51 hL, n_155 hL, w5 (by omega) (by omega) (by omega) (by omega), if_neg (by omega), if_pos (by omega), hS0.1 _ _ hs.1 hs.2 ht.1 (by omega)]
  refine AnsM.ite (fun _ => AnsM.k (st2_q σ) hS0 rfl) (fun _ => ?_)
  rw [c12_layCrew_ok hM0 hN hS0 ht.1 ht.2, acall0_some]
  have hf := ctn_BF hN hB ht.1 (show t ≤ T 0 2 by omega)
  obtain ⟨τ, h, hF⟩ := c12_askedOf_ok (lay_MI hM0 t (ctn T N t)) hN (lay_MN hS0 t (ctn T N t)) (B7.of hB hf) (lay_CR T t _ _) (lay_54 _ _ _ _) (lay_56 _ _ _ _) hs.1 hs.2 ht.1 ht.2
  rw [h, acall1_some]
  have hF2 : Fr wwor (st2 σ) τ := ((lay_fr T t (ctn T N t) (st2 σ)).mono rfl).tr (hF.mono rfl)
  exact AnsM.k ((st2_q σ).tr (hF2.mono rfl)) (hS0.wo hF2) rfl
theorem c12_mayGo_ok {T N : aH} {σ : aS} (hM : MI T σ) (hS : MN T N σ) (s a b : Int) : c12_mayGo 130 s a b σ = some (0, [if mgoB T N s a b = true then 1 else 0], σ) := by
  have hL := hM.1
  have h5 := hM.2.2.2.1
  have h4 := hM.2.2.2.2.1
  have no : ¬ mgo T N s a b → (some (0, [0], σ) : aR) = some (0, [if mgoB T N s a b = true then 1 else 0], σ) := fun h => by rw [if_neg (fun q => h (mgoB_t.1 q))]
  unfold c12_mayGo
  refine acall1_h (c12_isSort_ok hM s) ?_
  by_cases hs : 0 ≤ s ∧ s < T 0 1
  · rw [if_pos hs, if_neg (by omega)]
    refine acall1_h (c12_isPlace_ok hM a) ?_
    by_cases ha : 0 ≤ a ∧ a ≤ T 0 2
    · rw [if_pos ha, if_neg (by omega)]
      refine acall1_h (c12_isPlace_ok hM b) ?_
      by_cases hb : 0 ≤ b ∧ b ≤ T 0 2
      · rw [if_pos hb, if_neg (by omega)]
        by_cases e : a = b
        · exact ite_p e (ite_p (by omega) (no (fun q => q.2.1 e)))
        · rw [if_neg e, r_130_51 hL, n_155 hL, w5 (by omega) (by omega) (by omega) (by omega), if_neg (by omega), if_pos (by omega), hS.1 _ _ hs.1 hs.2 ha.1 ha.2]
          by_cases z : 0 < N 0 (5 * s + a)
          · rw [if_pos z, if_pos (mgoB_t.2 ⟨⟨hs, ha, hb⟩, e, z⟩)]; rfl
          · exact ite_n z (ite_p (by omega) (no (fun q => z q.2.2)))
      · rw [if_neg hb, if_pos rfl]
        exact ite_p (by omega) (no (fun q => hb q.1.2.2))
    · rw [if_neg ha, if_pos rfl]
      exact ite_p (by omega) (no (fun q => ha q.1.2.1))
  · rw [if_neg hs, if_pos rfl]
    exact ite_p (by omega) (no (fun q => hs q.1.1))
theorem c12_gain_q {T N : aH} {σ : aS} (hM : MI T σ) (hN : NB T N) (hS : MN T N σ) (s a b : Int) : AnsM T N σ (c12_gain 130 s a b σ) (aGain T N s a b) := by
  have hM0 := hM.t2
  have hS0 := hS.t2
  unfold c12_gain aGain
  refine AnsM.chk (c12_mayGo_ok hM0 hS0 s a b) (fun hq => ?_) (fun _ => AnsM.k (st2_q σ) hS.t2 rfl)
  obtain ⟨⟨hs, ha, hb⟩, -, -⟩ := mgoB_t.1 hq
  obtain ⟨τ, h, hF⟩ := c12_gainOf_ok hM0 hN hS0 hs.1 hs.2 ha.1 ha.2 hb.1 hb.2
  show AnsM T N σ (acall1 (c12_gainOf 130 s a b (st2 σ)) _) _
  rw [h, acall1_some]
  exact AnsM.k ((st2_q σ).tr (hF.mono rfl)) (hS0.wo hF) rfl
theorem c12_first_q {T N : aH} {σ : aS} (hM : MI T σ) (hN : NB T N) (hS : MN T N σ) (w : Int) : AnsM T N σ (c12_first 130 w σ) (aFirst T N w) := by
  have hM0 := hM.t2
  have hS0 := hS.t2
  unfold c12_first aFirst
  refine AnsM.chk (c12_isIn_ok w 0 2 _) (fun hw => ?_) (fun _ => AnsM.k (st2_q σ) hS.t2 rfl)
  obtain ⟨τ, hF, h⟩ := c12_findFirst_ok hM0 hN hS0
  show AnsM T N σ (acall1 (c12_findFirst 130 (st2 σ)) _) _
  by_cases c : fiS T N < T 0 1
  · rw [if_pos c] at h
    rw [if_pos c, h, acall1_some, if_neg (by omega)]
    have hF2 : Fr wff (st2 σ) (aput (aput (aput τ 130 62 (fiS T N)) 130 63 (fiA T N (fiS T N))) 130 64 (fiB T N (fiS T N) (fiA T N (fiS T N)))) := (((hF.mono rfl).put _ rfl).put _ rfl).put _ rfl
    have hS2 : MN T N (aput (aput (aput τ 130 62 (fiS T N)) 130 63 (fiA T N (fiS T N))) 130 64 (fiB T N (fiS T N) (fiA T N (fiS T N)))) := hS0.fr hF2 (wdj_spec (by decide +kernel))
    have hq := (st2_q σ).tr (hF2.mono rfl)
    exact AnsM.ite (fun _ => AnsM.k hq hS2 (by rw [ag_j (by omega), ag_j (by omega), ag_s])) (fun _ => AnsM.ite (fun _ => AnsM.k hq hS2 (by rw [ag_j (by omega), ag_s])) (fun _ => AnsM.k hq hS2 (by rw [ag_s])))
  · rw [if_neg c] at h
    rw [if_neg c, h, acall1_some, if_pos rfl]
    exact AnsM.k ((st2_q σ).tr (hF.mono rfl)) (hS0.wo hF) rfl
theorem c12_met_q {T N : aH} {σ : aS} (hM : MI T σ) (hN : NB T N) (hS : MN T N σ) (t : Int) : AnsM T N σ (c12_met 130 t σ) (aMet T N t) := by
  have hM0 := hM.t2
  have hS0 := hS.t2
  unfold c12_met aMet
  refine AnsM.chk (c12_isTown_ok hM0 t) (fun ht => ?_) (fun _ => AnsM.k (st2_q σ) hS.t2 rfl)
  obtain ⟨τ, h, hF⟩ := c12_isMet_ok hM0 hN hS0 ht.1 ht.2
  exact AnsM.chk h (fun _ => AnsM.k ((st2_q σ).tr (hF.mono rfl)) (hS0.wo hF) rfl) (fun _ => AnsM.k ((st2_q σ).tr (hF.mono rfl)) (hS0.wo hF) rfl)
theorem c12_total_q {T N : aH} {σ : aS} (hM : MI T σ) (hN : NB T N) (hS : MN T N σ) : AnsM T N σ (c12_total 130 σ) (tot T N) := by
  obtain ⟨τ, h, hF⟩ := c12_totalNow_ok hM.t2 hN hS.t2
  show AnsM T N σ (acall1 (c12_totalNow 130 (st2 σ)) _) _
  rw [h, acall1_some]
  exact AnsM.k ((st2_q σ).tr (hF.mono rfl)) (hS.t2.wo hF) rfl
theorem c12_tied_q {T N : aH} {σ : aS} (hS : MN T N σ) : AnsM T N σ (c12_tied 130 σ) (N 3 0) :=
  AnsM.k (st2_q σ) hS.t2 hS.t2.2.2.2.1
