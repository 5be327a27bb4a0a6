/-! the reference: ring, all, held, lost -/
def wkq : List (Int × List Int) := [(155, []), (157, []), (158, []), (159, []), (160, []), (161, []), (163, []), (164, []), (130, [2, 54, 55, 56, 58, 62, 63, 64, 67, 68, 71, 72, 73, 75, 76, 77, 78, 82])]
def kpt (σ : aS) : aS := apf σ 162 (aget σ 155) 25
theorem kpt_F (σ : aS) : Fr [(162, [])] σ (kpt σ) := (Fr.rf _ σ).apf (x := 162) _ 25 (fun _ => rfl)
theorem MI.kp {T : aH} {σ : aS} (h : MI T σ) : MI T (kpt σ) := h.mq ((kpt_F σ).mono rfl)
theorem MN.kp {T N : aH} {σ : aS} (h : MN T N σ) : MN T N (kpt σ) := h.fr (kpt_F σ) (wdj_spec (by decide +kernel))
theorem kpt_i {σ : aS} {j : Int} (h0 : 0 ≤ j) (h1 : j < 25) : aget (kpt σ) 162 j = aget σ 155 j := apf_i h0 h1
theorem kpt_155 (σ : aS) (j : Int) : aget (kpt σ) 155 j = aget σ 155 j := apf_x (by omega)
/-- taken back -/
theorem kpt_back {T N : aH} {σ υ : aS} (hM : MI T σ) (hS : MN T N σ) (hF : Fr wkq (kpt σ) υ) :
    c12_takeKept 130 υ = some (0, [], apf υ 155 (aget υ 162) 25) ∧ Fr wmq σ (apf υ 155 (aget υ 162) 25) ∧ MN T N (apf υ 155 (aget υ 162) 25) := by
  have hM2 : MI T υ := hM.kp.mq (hF.mono rfl)
  have fA : Fr wmq σ υ := ((kpt_F σ).mono rfl).tr (hF.mono rfl)
  refine ⟨c12_takeKept_ok hM2.1, fA.apf (x := 155) _ 25 (fun _ => rfl), kept_MN hM.2.2 hS (fun j j0 j1 => by rw [hF.g rfl]; exact kpt_i j0 j1) (fun x j hx => ?_)⟩
  have h : Fr ((162, []) :: wkq) σ υ := ((kpt_F σ).mono rfl).tr (hF.mono rfl)
  exact h.g (wdj_spec (l := [(156, []), (144, []), (130, [80, 81, 59, 60, 61])]) (by decide +kernel) x j hx)
theorem c12_ring_q {T N : aH} {σ : aS} (hM : MI T σ) (hN : NB T N) (hS : MN T N σ) (w : Int) : AnsM T N σ (c12_ring 130 w σ) (aRing T N w) := by
  have hM0 := hM.t2
  have hS0 := hS.t2
  unfold c12_ring aRing
  refine AnsM.chk (c12_isIn_ok w 0 2 _) (fun hw => ?_) (fun _ => AnsM.k (st2_q σ) hS.t2 rfl)
  show AnsM T N σ (acall0 (c12_keepNow 130 (st2 σ)) _) _
  rw [c12_keepNow_ok hM0.1, acall0_some]
  obtain ⟨τ, h, e1, e2, e3, -, hF⟩ := c12_findEnd_ok hM0.kp hN hS0.kp
  show AnsM T N σ (acall0 (c12_findEnd 130 (kpt (st2 σ))) _) _
  rw [h, acall0_some]
  obtain ⟨b1, b2, b3⟩ := kpt_back hM0 hS0 (hF.mono rfl)
  rw [b1, acall0_some]
  have hq := (st2_q σ).tr b2
  exact AnsM.ite (fun _ => AnsM.k hq b3 (by rw [apf_x (by omega), e1])) (fun _ => AnsM.ite (fun _ => AnsM.k hq b3 (by rw [apf_x (by omega), e2])) (fun _ => AnsM.k hq b3 (by rw [apf_x (by omega), e3])))
/-- how many hold -/
def hcT (T N : aH) : Int := hcN (svH T N) (npT T).toNat
def aAll (T N : aH) (w : Int) : Int := if 0 ≤ w ∧ w ≤ 1 then (if npT T ≤ 3000 then (if w = 0 then npT T else hcT T N) else -2) else -1
theorem AnsM.prt {T N : aH} {σ τ : aS} (hM : MI T τ) {A B : Int → aS → aR} {v w : Int} (h1 : npT T ≤ 3000 → AnsM T N σ (B (npT T) τ) v) (h2 : ¬ npT T ≤ 3000 → AnsM T N σ (A (-2) τ) w) :
    AnsM T N σ (acall1 (c12_partings 130 τ) fun v1 σ1 => if v1 = -2 then A v1 σ1 else B v1 σ1) (if npT T ≤ 3000 then v else w) := by
  have hn1 : 1 ≤ npT T := npK_pos hM.2.2 hM.2.2.2.1.1 (Int.le_refl _)
  rw [c12_partings_ok hM, acall1_some]
  by_cases q : npT T ≤ 3000
  · rw [if_pos q, if_pos q, if_neg (by omega)]; exact h1 q
  · rw [if_neg q, if_neg q, if_pos rfl]; exact h2 q
theorem c12_all_q {T N : aH} {σ : aS} (hM : MI T σ) (hN : NB T N) (hS : MN T N σ) (w : Int) : AnsM T N σ (c12_all 130 w σ) (aAll T N w) := by
  have hM0 := hM.t2
  have hS0 := hS.t2
  unfold c12_all aAll
  refine AnsM.chk (c12_isIn_ok w 0 1 _) (fun hw => ?_) (fun _ => AnsM.k (st2_q σ) hS.t2 rfl)
  refine AnsM.prt hM0 (A := fun v τ => some (0, [v], τ)) (fun h3 => ?_) (fun _ => AnsM.k (st2_q σ) hS.t2 rfl)
  refine AnsM.ite (fun _ => AnsM.k (st2_q σ) hS.t2 rfl) (fun _ => ?_)
  rw [c12_keepNow_ok hM0.1, acall0_some]
  obtain ⟨τ, h1, hF1, hS1⟩ := c12_firstParting_ok hM0.kp hS0.kp
  show AnsM T N σ (acall0 (c12_firstParting 130 (kpt (st2 σ))) _) _
  rw [h1, acall0_some]
  obtain ⟨υ, h2, hF2⟩ := all_loop (hM0.kp.now hF1) hN hS1 h3
  obtain ⟨b1, b2, b3⟩ := kpt_back hM0 hS0 ((hF1.mono rfl).tr (hF2.mono rfl))
  unfold c12_all_l46
  rw [h2]
  show AnsM T N σ (c12_all_p83 130 (hcN (svH T N) (npT T).toNat) υ) _
  unfold c12_all_p83
  rw [b1, acall0_some]
  exact AnsM.k ((st2_q σ).tr b2) b3 rfl
/-- the K-th that holds -/
def hel (T N : aH) (K : Int) : Int := ff (fun j => svH T N j && decide (hcN (svH T N) j.toNat = K)) (npT T)
theorem hcN_s (H : Int → Bool) {j : Int} (j0 : 0 ≤ j) : hcN H (j + 1).toNat = hcN H j.toNat + if H j = true then 1 else 0 := by
  rw [show (j + 1).toNat = j.toNat + 1 by omega]
  show hcN H j.toNat + (if H ((j.toNat : Nat) : Int) = true then 1 else 0) = _
  rw [Int.toNat_of_nonneg j0]
theorem hel_eq {T N : aH} {K k : Int} (k0 : 0 ≤ k) (k1 : k < npT T) (hk : svH T N k = true) (e : hcN (svH T N) k.toNat = K) : hel T N K = k := by
  have p0 := ff_0 (fun j => svH T N j && decide (hcN (svH T N) j.toNat = K)) (n := npT T)
  have hat : (fun j => svH T N j && decide (hcN (svH T N) j.toNat = K)) k = true := by
    show (svH T N k && decide (hcN (svH T N) k.toNat = K)) = true
    rw [hk, decide_eq_true e]; rfl
  unfold hel
  rcases (show ff (fun j => svH T N j && decide (hcN (svH T N) j.toNat = K)) (npT T) < k ∨ ff (fun j => svH T N j && decide (hcN (svH T N) j.toNat = K)) (npT T) = k ∨ k < ff (fun j => svH T N j && decide (hcN (svH T N) j.toNat = K)) (npT T) by omega) with c | c | c
  · exfalso
    have q := ff_at (P := fun j => svH T N j && decide (hcN (svH T N) j.toNat = K)) (n := npT T) (by omega)
    rw [Bool.and_eq_true, decide_eq_true_iff] at q
    have a := hcN_s (svH T N) p0
    rw [if_pos q.1, q.2] at a
    have b := hcN_mono (svH T N) (m := (ff (fun j => svH T N j && decide (hcN (svH T N) j.toNat = K)) (npT T) + 1).toNat) k.toNat (by omega)
    omega
  · exact c
  · exfalso
    have q := ff_no (P := fun j => svH T N j && decide (hcN (svH T N) j.toNat = K)) k0 c
    exact absurd (hat.symm.trans q) (by decide)
theorem hel_in {T N : aH} {K : Int} : ∀ n : Nat, (n : Int) ≤ npT T → 0 ≤ K → K < hcN (svH T N) n → 0 ≤ hel T N K ∧ hel T N K < n ∧ svH T N (hel T N K) = true ∧ hcN (svH T N) (hel T N K).toNat = K := by
  intro n
  induction n with
  | zero => intro _ h0 h; have h' : K < 0 := h; omega
  | succ n ih =>
    intro hn h0 h
    by_cases c : K < hcN (svH T N) n
    · have := ih (by omega) h0 c
      exact ⟨this.1, by omega, this.2.2⟩
    · have e : hcN (svH T N) (n + 1) = hcN (svH T N) n + if svH T N n = true then 1 else 0 := rfl
      by_cases q : svH T N n = true
      · rw [if_pos q] at e
        have he := hel_eq (T := T) (N := N) (K := K) (k := n) (by omega) (by omega) q (by rw [Int.toNat_natCast]; omega)
        rw [he]
        exact ⟨by omega, by omega, q, by rw [Int.toNat_natCast]; omega⟩
      · rw [if_neg q] at e; omega
def aHeld (T N : aH) (K s p : Int) : Int :=
  if npT T ≤ 3000 then (if K < 0 then -1 else if 0 ≤ s ∧ s < T 0 1 then (if 0 ≤ p ∧ p ≤ T 0 2 then (if K < hcT T N then PN T N (hel T N K) 0 (5 * s + p) else -1) else -1) else -1) else -2
def helV (T N : aH) (K s p : Int) : Int := if K < hcT T N then PN T N (hel T N K) 0 (5 * s + p) else -1
theorem held_loop {T N : aH} {σ : aS} (hM : MI T σ) (hN : NB T N) (hS : MN T (PN T N 0) σ) (h3 : npT T ≤ 3000) {K s p : Int} (K0 : 0 ≤ K) (K1 : K ≤ 2147483647) (hs : 0 ≤ s ∧ s < T 0 1) (hp : 0 ≤ p ∧ p ≤ T 0 2) :
    ∃ τ, aloop 61 (aU7 c12_held_b60) aBig [130, s, p, npT T, K, -1, 0] σ = some (146, [130, helV T N K s p], τ) ∧ Fr wsv σ τ := by
  have hB := hM.2.2
  have h5 := hB.2.1
  have h4 := hB.2.2.1
  have hn1 : 1 ≤ npT T := npK_pos hB hB.2.1.1 (Int.le_refl _)
  have hal := al_I (c := 61) (B := aU7 c12_held_b60) (n := npT T) (i := 0) (vs := [130, s, p, npT T, K, -1, 0]) (σ := σ)
    (fun k vs τ => 0 ≤ k ∧ Fr wsv σ τ ∧ ((∃ i, vs = [130, s, p, npT T, K - hcN (svH T N) k.toNat, -1, i] ∧ nxi (npT T) k i ∧ MN T (PN T N k) τ ∧ hcN (svH T N) k.toNat ≤ K) ∨ (∃ x i, vs = [130, s, p, npT T, x, helV T N K s p, i] ∧ 0 ≤ helV T N K s p)))
    (fun r => ∃ τ, r = (146, [130, helV T N K s p], τ) ∧ Fr wsv σ τ) (by omega) (by omega) ⟨Int.le_refl _, Fr.rf _ _, Or.inl ⟨0, by rw [show hcN (svH T N) (0 : Int).toNat = 0 from rfl, Int.sub_zero], Or.inl rfl, hS, K0⟩⟩ ?_
  · obtain ⟨r, hr, τ, rfl, hF⟩ := hal
    exact ⟨τ, hr, hF⟩
  · rintro k vs τ hk ⟨k0, hF, ⟨i, rfl, hi, hSt, hcK⟩ | ⟨x, i, rfl, hx⟩⟩
    · have hMt := hM.sv hF
      by_cases c : k < npT T
      · have ei : i = k := by rcases hi with q | q; exact q; omega
        subst ei
        have hNk := PN_NB hN hB i
        obtain ⟨φ, hf, hF2, -⟩ := ff1 hMt hNk hSt
        have hM2 := hMt.fr hF2 (by decide +kernel) (wdj_spec (by decide +kernel))
        have hS2 := hSt.ff hF2
        have hL := hM2.1
        have hb := hcN_bd (svH T N) i.toNat
        have eh := hcN_s (svH T N) k0
        have esv : svH T N i = !decide (fiS T (PN T N i) < T 0 1) := rfl
        obtain ⟨ψ, hn, hF3, hS3⟩ := c12_nextParting_ok hM2 hS2 hNk
        rw [← PN_s T N k0] at hS3
        have hF' : Fr wsv σ ψ := hF.tr ((hF2.mono rfl).tr (hF3.mono rfl))
        have p120 : ∀ y, (y = 0 ∨ y = 1) → 0 ≤ K - hcN (svH T N) i.toNat - y → ∃ i', c12_held_p120 y (K - hcN (svH T N) i.toNat) 130 s p (npT T) (-1) i φ = some (61, [130, s, p, npT T, K - hcN (svH T N) i.toNat - y, -1, i'], ψ) ∧ nxi (npT T) (i + 1) i' := by
          intro y hy hy0
          have e : w32 (K - hcN (svH T N) i.toNat - y) = K - hcN (svH T N) i.toNat - y := wq (by omega) (by omega)
          by_cases d : 0 ≤ lss T (PN T N i)
          · rw [if_pos d] at hn
            refine ⟨i + 1, ?_, Or.inl rfl⟩
            unfold c12_held_p120
            refine ite_p (by omega) (acall1_h hn (ite_n (by omega) ?_))
            unfold c12_held_p139
            rw [e, wq (by omega) (by omega)]
          · rw [if_neg d] at hn
            have hl : i + 1 = npT T := by
              rcases (show i < npT T - 1 ∨ i + 1 = npT T by omega) with q | q
              · exact absurd (lss_k hN hB k0 q) d
              · exact q
            refine ⟨npT T + 1, ?_, Or.inr ⟨hl, rfl⟩⟩
            unfold c12_held_p120
            refine ite_p (by omega) (acall1_h hn (ite_p rfl ?_))
            unfold c12_held_p139
            rw [e, wq (by omega) (by omega)]
        by_cases q : fiS T (PN T N i) < T 0 1
        · rw [if_pos q] at hf
          rw [if_neg (by rw [esv, decide_eq_true q]; simp)] at eh
          obtain ⟨i', h1, h2⟩ := p120 0 (Or.inl rfl) (by omega)
          refine Or.inl ⟨c, _, ψ, ?_, by omega, hF', Or.inl ⟨i', rfl, h2, hS3, by omega⟩⟩
          rw [eh, Int.add_zero]
          rw [Int.sub_zero] at h1
          rw [← h1]
          show c12_held_b60 130 s p (npT T) _ (-1) i τ = _
          unfold c12_held_b60
          exact ite_p c (ite_p (by omega) (acall1_h hf (ite_n (by omega) (by unfold c12_held_p84; exact ite_p rfl (by unfold c12_held_p108; exact ite_p rfl rfl)))))
        · rw [if_neg q] at hf
          have hh : svH T N i = true := by rw [esv, decide_eq_false q]; rfl
          rw [if_pos hh] at eh
          by_cases z : K - hcN (svH T N) i.toNat = 0
          · have he := hel_eq k0 c hh (show hcN (svH T N) i.toNat = K by omega)
            have hm := hcN_mono (svH T N) (m := (i + 1).toNat) (npT T).toNat (by omega)
            have hv : helV T N K s p = PN T N i 0 (5 * s + p) := by unfold helV; rw [if_pos (by unfold hcT; omega), he]
            have hnn := hNk.1 s p hs.1 hs.2 hp.1 hp.2
            refine Or.inl ⟨c, [130, s, p, npT T, -1, helV T N K s p, i + 1], φ, ?_, by omega, hF.tr (hF2.mono rfl), Or.inr ⟨_, _, rfl, by omega⟩⟩
            show c12_held_b60 130 s p (npT T) _ (-1) i τ = _
            unfold c12_held_b60
            refine ite_p c (ite_p (by omega) (acall1_h hf (ite_p rfl ?_)))
            unfold c12_held_p84
            refine ite_n (by omega) (ite_p z ?_)
            rw [r_130_51 hL, n_155 hL, w5 (by omega) (by omega) (by omega) (by omega), if_neg (by omega), if_pos (by omega), hS2.1 s p hs.1 hs.2 hp.1 hp.2, ← hv]
            unfold c12_held_p108
            refine ite_n (by omega) ?_
            unfold c12_held_p120
            refine ite_n (by omega) ?_
            unfold c12_held_p139
            rw [z, wq (by omega) (by omega), wq (by omega) (by omega)]
            rfl
          · obtain ⟨i', h1, h2⟩ := p120 1 (Or.inr rfl) (by omega)
            refine Or.inl ⟨c, _, ψ, ?_, by omega, hF', Or.inl ⟨i', rfl, h2, hS3, by omega⟩⟩
            rw [eh, ← Int.sub_sub, ← h1]
            show c12_held_b60 130 s p (npT T) _ (-1) i τ = _
            unfold c12_held_b60
            exact ite_p c (ite_p (by omega) (acall1_h hf (ite_p rfl (by unfold c12_held_p84; exact ite_n (by omega) (ite_n z (by unfold c12_held_p108; exact ite_n (by omega) rfl))))))
      · have hke : k = npT T := by omega
        subst hke
        have hv : helV T N K s p = -1 := if_neg (by unfold hcT; omega)
        refine Or.inr ⟨(146, [130, helV T N K s p], τ), ?_, Nat.ne_of_beq_eq_false rfl, τ, rfl, hF⟩
        rw [hv]
        show c12_held_b60 130 s p (npT T) _ (-1) i τ = _
        unfold c12_held_b60
        exact ite_n (by unfold nxi at hi; omega) rfl
    · refine Or.inr ⟨(146, [130, helV T N K s p], τ), ?_, Nat.ne_of_beq_eq_false rfl, τ, rfl, hF⟩
      show c12_held_b60 130 s p (npT T) x (helV T N K s p) i τ = _
      unfold c12_held_b60
      by_cases d : i < npT T
      · exact ite_p d (ite_n (by omega) rfl)
      · exact ite_n d rfl
theorem c12_held_q {T N : aH} {σ : aS} (hM : MI T σ) (hN : NB T N) (hS : MN T N σ) {K : Int} (K1 : K ≤ 2147483647) (s p : Int) : AnsM T N σ (c12_held 130 K s p σ) (aHeld T N K s p) := by
  have hM0 := hM.t2
  have hS0 := hS.t2
  unfold c12_held aHeld
  refine AnsM.prt hM0 (A := fun v τ => some (0, [-2], τ)) (fun h3 => ?_) (fun _ => AnsM.k (st2_q σ) hS.t2 rfl)
  refine AnsM.ite (fun _ => AnsM.k (st2_q σ) hS.t2 rfl) (fun hK => ?_)
  refine AnsM.chk (c12_isSort_ok hM0 s) (fun hs => ?_) (fun _ => AnsM.k (st2_q σ) hS.t2 rfl)
  refine AnsM.chk (c12_isPlace_ok hM0 p) (fun hp => ?_) (fun _ => AnsM.k (st2_q σ) hS.t2 rfl)
  rw [c12_keepNow_ok hM0.1, acall0_some]
  obtain ⟨τ, h1, hF1, hS1⟩ := c12_firstParting_ok hM0.kp hS0.kp
  show AnsM T N σ (acall0 (c12_firstParting 130 (kpt (st2 σ))) _) _
  rw [h1, acall0_some]
  obtain ⟨υ, h2, hF2⟩ := held_loop (hM0.kp.now hF1) hN hS1 h3 (show 0 ≤ K by omega) K1 hs hp
  obtain ⟨b1, b2, b3⟩ := kpt_back hM0 hS0 ((hF1.mono rfl).tr (hF2.mono rfl))
  unfold c12_held_l60
  rw [h2]
  show AnsM T N σ (c12_held_p145 130 (helV T N K s p) υ) _
  unfold c12_held_p145
  rw [b1, acall0_some]
  exact AnsM.k ((st2_q σ).tr b2) b3 rfl
/-! lost -/
def bsT (T N : aH) : Int := svA T N (bsN (svA T N) (npT T).toNat)
def aLost (T N : aH) (w : Int) : Int :=
  if 0 ≤ w ∧ w ≤ 2 then (if npT T ≤ 3000 then (if w = 0 then bsT T N else if hcT T N = 0 then MINL else if w = 1 then bsT T N - ghN (svA T N) (svH T N) (npT T).toNat else bsT T N - lhN (svA T N) (svH T N) (npT T).toNat) else -2) else MINL
theorem svA_bd {T N : aH} (hN : NB T N) (hB : TB T) (k : Int) : -210000000000000 ≤ svA T N k ∧ svA T N k ≤ 210000000000000 :=
  tot_bd hB (PN_NB hN hB k) (by have := hB.2.2.1; omega) (Int.le_refl _)
theorem ghN_bd {A : Int → Int} {H : Int → Bool} {b : Int} (b0 : 0 ≤ b) (h : ∀ k, -b ≤ A k ∧ A k ≤ b) : ∀ n : Nat, (-b ≤ ghN A H n ∧ ghN A H n ≤ b) ∧ (-b ≤ lhN A H n ∧ lhN A H n ≤ b) := by
  intro n
  induction n with
  | zero => exact ⟨⟨by show -b ≤ 0; omega, b0⟩, by show -b ≤ 0; omega, b0⟩
  | succ n ih =>
    have hn := h n
    refine ⟨?_, ?_⟩
    · show -b ≤ (if H n = true then (if hcN H n = 0 then A n else if ghN A H n < A n then A n else ghN A H n) else ghN A H n) ∧ (if H n = true then (if hcN H n = 0 then A n else if ghN A H n < A n then A n else ghN A H n) else ghN A H n) ≤ b
      split
      · split
        · exact hn
        · split
          · exact hn
          · exact ih.1
      · exact ih.1
    · show -b ≤ (if H n = true then (if hcN H n = 0 then A n else if A n < lhN A H n then A n else lhN A H n) else lhN A H n) ∧ (if H n = true then (if hcN H n = 0 then A n else if A n < lhN A H n then A n else lhN A H n) else lhN A H n) ≤ b
      split
      · split
        · exact hn
        · split
          · exact hn
          · exact ih.2
      · exact ih.2
theorem c12_lost_q {T N : aH} {σ : aS} (hM : MI T σ) (hN : NB T N) (hS : MN T N σ) (w : Int) : AnsM T N σ (c12_lost 130 w σ) (aLost T N w) := by
  have hM0 := hM.t2
  have hS0 := hS.t2
  have hB := hM.2.2
  have hn1 : 1 ≤ npT T := npK_pos hB hB.2.1.1 (Int.le_refl _)
  unfold c12_lost aLost
  refine AnsM.chk (c12_isIn_ok w 0 2 _) (fun hw => ?_) (fun _ => AnsM.k (st2_q σ) hS.t2 rfl)
  refine AnsM.prt hM0 (A := fun v τ => some (0, [-2], τ)) (fun h3 => ?_) (fun _ => AnsM.k (st2_q σ) hS.t2 rfl)
  obtain ⟨τ, h1, hF1, hS1, -, hFB⟩ := c12_findBest_ok hM0 hN hS0 h3
  rw [h1, acall0_some]
  have hq := (st2_q σ).tr (hF1.mono rfl)
  obtain ⟨f1, f2, f3⟩ := hFB
  have f1 := (f1 (by omega)).1
  have hb := hcN_bd (svH T N) (npT T).toNat
  have b1 := svA_bd hN hB (bsN (svA T N) (npT T).toNat)
  have b2 := ghN_bd (A := svA T N) (H := svH T N) (b := 210000000000000) (by omega) (svA_bd hN hB) (npT T).toNat
  refine AnsM.ite (fun _ => AnsM.k hq hS1 f1) (fun _ => ?_)
  by_cases z : hcN (svH T N) (npT T).toNat = 0
  · rw [if_neg (by omega)] at f2
    rw [if_pos (show hcT T N = 0 from z), f2, if_pos rfl]
    exact AnsM.k hq hS1 rfl
  · rw [if_pos (by omega)] at f2
    obtain ⟨g1, g2⟩ := f3 (by omega)
    rw [if_neg (show ¬ hcT T N = 0 from z), f2, if_neg (by omega), f1, g1, g2]
    exact AnsM.ite (fun _ => AnsM.k hq hS1 (wQ (by omega) (by omega))) (fun _ => AnsM.k hq hS1 (wQ (by omega) (by omega)))
