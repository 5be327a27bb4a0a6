/-! printed by mkr.py: the law's pieces, one after another -/
section LCH
variable {p : Program} {l0 : Launch} {e : Env} {s : State} {mi : MethodId} {args : Array Value} {below : List Frame} {meth : Method} {cc : Code} {Q : State → Prop} {H : Heap} {locs : List Loc} {ls : Array Slot}
variable {d : aD} {ad : Nat → Nat} {σ : aS} {A : Nat → Prop} {cB : ClassId} {b L : Nat} {xs : Nat → Int32} {X : aX}
theorem sk_b {υ : aS} (h : SK (aexn σ 40 9000) υ) (hc : σ.2.2.1 + 40 ≤ 600000 ∧ σ.2.2.2 + 9000 ≤ 7302250) : υ.2.2.1 ≤ 600000 ∧ υ.2.2.2 ≤ 7302250 := by
  have a1 : υ.2.2.1 = σ.2.2.1 + 40 := congrArg Prod.fst h.2
  have a2 : υ.2.2.2 = σ.2.2.2 + 9000 := congrArg Prod.snd h.2
  omega
theorem aSt_drop {Lc L' : aL} {S : List aV} (hst : aSt s 18 d A b True 0 0 (fun _ => 0) [] ad ls H locs Lc S σ) (hl : L'.length = 18) (hv : ∀ (i : Nat) (v : aV), L'[i]? = some (some v) → Lc[i]? = some (some v)) : aSt s 18 d A b True 0 0 (fun _ => 0) [] ad ls H locs L' S σ := by
  obtain ⟨g1, g2, g3, g4, g5, g6, g7, g8⟩ := hst
  exact ⟨g1, g2, g3, g4, ⟨g5.1, hl, g5.2.2.1, fun i v hi => g5.2.2.2 i v (hv i v hi)⟩, fun i v hi => g6 i v (hv i v hi), g7, g8⟩
set_option maxRecDepth 100000 in
set_option maxHeartbeats 4000000 in
theorem lg_0 (C : aCx p l0 room_1 s mi args meth cc m_law d A b True X) (X0 : lwX p l0 s mi args cc d A cB) (hI : jI b L xs A s s.heap) (hL : L ≤ 260) (hb : σ.2.2.1 ≤ 600000 ∧ σ.2.2.2 ≤ 7302250) (hst : aSt s 18 d A b True 0 0 (fun _ => 0) [] ad ls H locs [some (6, 0), some (21, 1), none, none, none, none, none, none, none, none, none, none, none, none, none, none, none, none] [(0, 1)] σ)
    (kk : ∀ (n o v w k : Nat) (ad : Nat → Nat) (ls : Array Slot) (H : Heap) (locs : List Loc), 1 ≤ n → n ≤ 6 → o ≤ 99 → v ≤ 99 → w ≤ 99 → k ≤ 99 → (0 : Int) < (w : Int) - k - o - v → aSt s 18 d A b True 0 0 (fun _ => 0) [] ad ls H locs (L_117 n o v w k) [] σ → aW p l0 e room_1 s mi args below meth cc Q d b 0 0 117 ad ls H locs [] σ) : aW p l0 e room_1 s mi args below meth cc Q d b 0 0 9 ad ls H locs [(0, 1)] σ := by
  have q0 : inV L xs 0 6 < 6 := inV_lt (by decide)
  have q1 : inV L xs 1 50 < 50 := inV_lt (by decide)
  have q2 : inV L xs 2 20 < 20 := inV_lt (by decide)
  have q3 : inV L xs 3 40 < 40 := inV_lt (by decide)
  have q4 : inV L xs 4 30 < 30 := inV_lt (by decide)
  refine li_9 X0 hI hL hst rfl hb (by show (1 : Nat) ≤ 5; decide) (fun hst => ?_)
  refine l_seg (pc := 19) (pc' := 21) (vs := [(inV L xs 0 6 : Int), 1, 0, 1]) (vs' := [0, 1, ((1 + inV L xs 0 6 : Nat) : Int)]) (L := [some (6, 0), some (21, 1), none, none, none, none, none, none, none, none, none, none, none, none, none, none, none, none]) (S := [(0, (inV L xs 0 6 : Int)), (0, 1)]) (L' := [some (6, 0), some (21, 1), some (0, ((1 + inV L xs 0 6 : Nat) : Int)), none, none, none, none, none, none, none, none, none, none, none, none, none, none, none]) (S' := []) C (T_law_p19 X ((inV L xs 0 6 : Int)) 1 0 1 σ) (congrArg (fun z => some (22, [0, 1, z], σ)) (e1i _ (by omega))) hb rfl rfl rfl st_21 rfl rfl hst (fun ad ls H locs hst => ?_)
  refine li_21 X0 hI hL hst rfl hb (by show (0 : Nat) ≤ 5; decide) (fun hst => ?_)
  refine l_seg (pc := 31) (pc' := 32) (vs := [(inV L xs 1 50 : Int), 0, 1, ((1 + inV L xs 0 6 : Nat) : Int)]) (vs' := [0, 1, ((1 + inV L xs 0 6 : Nat) : Int), (inV L xs 1 50 : Int)]) (L := [some (6, 0), some (21, 1), some (0, ((1 + inV L xs 0 6 : Nat) : Int)), none, none, none, none, none, none, none, none, none, none, none, none, none, none, none]) (S := [(0, (inV L xs 1 50 : Int))]) (L' := [some (6, 0), some (21, 1), some (0, ((1 + inV L xs 0 6 : Nat) : Int)), some (0, (inV L xs 1 50 : Int)), none, none, none, none, none, none, none, none, none, none, none, none, none, none]) (S' := []) C (T_law_p31 X ((inV L xs 1 50 : Int)) 0 1 (((1 + inV L xs 0 6 : Nat) : Int)) σ) rfl hb rfl rfl rfl st_32 rfl rfl hst (fun ad ls H locs hst => ?_)
  refine li_32 X0 hI hL hst rfl hb (by show (0 : Nat) ≤ 5; decide) (fun hst => ?_)
  refine l_seg (pc := 42) (pc' := 45) (vs := [(inV L xs 2 20 : Int), 0, 1, ((1 + inV L xs 0 6 : Nat) : Int), (inV L xs 1 50 : Int)]) (vs' := [1, 0, 1, ((1 + inV L xs 0 6 : Nat) : Int), (inV L xs 1 50 : Int), (inV L xs 2 20 : Int)]) (L := [some (6, 0), some (21, 1), some (0, ((1 + inV L xs 0 6 : Nat) : Int)), some (0, (inV L xs 1 50 : Int)), none, none, none, none, none, none, none, none, none, none, none, none, none, none]) (S := [(0, (inV L xs 2 20 : Int))]) (L' := [some (6, 0), some (21, 1), some (0, ((1 + inV L xs 0 6 : Nat) : Int)), some (0, (inV L xs 1 50 : Int)), some (0, (inV L xs 2 20 : Int)), none, none, none, none, none, none, none, none, none, none, none, none, none]) (S' := [(0, 1)]) C (T_law_p42 X ((inV L xs 2 20 : Int)) 0 1 (((1 + inV L xs 0 6 : Nat) : Int)) ((inV L xs 1 50 : Int)) σ) rfl hb rfl rfl rfl st_45 rfl rfl hst (fun ad ls H locs hst => ?_)
  refine li_45 X0 hI hL hst rfl hb (by show (1 : Nat) ≤ 5; decide) (fun hst => ?_)
  refine l_seg (pc := 55) (pc' := 58) (vs := [(inV L xs 3 40 : Int), 1, 0, 1, ((1 + inV L xs 0 6 : Nat) : Int), (inV L xs 1 50 : Int), (inV L xs 2 20 : Int)]) (vs' := [0, 1, ((1 + inV L xs 0 6 : Nat) : Int), (inV L xs 1 50 : Int), (inV L xs 2 20 : Int), ((1 + inV L xs 3 40 : Nat) : Int)]) (L := [some (6, 0), some (21, 1), some (0, ((1 + inV L xs 0 6 : Nat) : Int)), some (0, (inV L xs 1 50 : Int)), some (0, (inV L xs 2 20 : Int)), none, none, none, none, none, none, none, none, none, none, none, none, none]) (S := [(0, (inV L xs 3 40 : Int)), (0, 1)]) (L' := [some (6, 0), some (21, 1), some (0, ((1 + inV L xs 0 6 : Nat) : Int)), some (0, (inV L xs 1 50 : Int)), some (0, (inV L xs 2 20 : Int)), some (0, ((1 + inV L xs 3 40 : Nat) : Int)), none, none, none, none, none, none, none, none, none, none, none, none]) (S' := []) C (T_law_p55 X ((inV L xs 3 40 : Int)) 1 0 1 (((1 + inV L xs 0 6 : Nat) : Int)) ((inV L xs 1 50 : Int)) ((inV L xs 2 20 : Int)) σ) (congrArg (fun z => some (59, [0, 1, ((1 + inV L xs 0 6 : Nat) : Int), (inV L xs 1 50 : Int), (inV L xs 2 20 : Int), z], σ)) (e1i _ (by omega))) hb rfl rfl rfl st_58 rfl rfl hst (fun ad ls H locs hst => ?_)
  refine li_58 X0 hI hL hst rfl hb (by show (0 : Nat) ≤ 5; decide) (fun hst => ?_)
  obtain ⟨o9, w9, e68, ⟨o0, o1⟩, ⟨w0, w1⟩, hg⟩ := p68_ok (σ := σ) (o := (inV L xs 1 50 : Int)) (v := (inV L xs 2 20 : Int)) (k := (inV L xs 4 30 : Int)) (g := ((1 + inV L xs 3 40 : Nat) : Int)) (n := ((1 + inV L xs 0 6 : Nat) : Int)) (by omega) (by omega) (by omega) (by omega) (by omega) (by omega) (by omega) (by omega)
  obtain ⟨o9, rfl⟩ := Int.eq_ofNat_of_zero_le o0
  obtain ⟨w9, rfl⟩ := Int.eq_ofNat_of_zero_le w0
  refine l_seg (pc := 68) (pc' := 117) (vs := [(inV L xs 4 30 : Int), 0, 1, ((1 + inV L xs 0 6 : Nat) : Int), (inV L xs 1 50 : Int), (inV L xs 2 20 : Int), ((1 + inV L xs 3 40 : Nat) : Int)]) (vs' := [0, 1, ((1 + inV L xs 0 6 : Nat) : Int), (o9 : Int), (inV L xs 2 20 : Int), ((w9 : Int) - o9 - inV L xs 2 20 - inV L xs 4 30), (inV L xs 4 30 : Int), (w9 : Int)]) (L := [some (6, 0), some (21, 1), some (0, ((1 + inV L xs 0 6 : Nat) : Int)), some (0, (inV L xs 1 50 : Int)), some (0, (inV L xs 2 20 : Int)), some (0, ((1 + inV L xs 3 40 : Nat) : Int)), none, none, none, none, none, none, none, none, none, none, none, none]) (S := [(0, (inV L xs 4 30 : Int))]) (L' := [some (6, 0), some (21, 1), some (0, ((1 + inV L xs 0 6 : Nat) : Int)), some (0, (o9 : Int)), some (0, (inV L xs 2 20 : Int)), some (0, ((w9 : Int) - o9 - inV L xs 2 20 - inV L xs 4 30)), some (0, (inV L xs 4 30 : Int)), some (0, (w9 : Int)), none, none, none, none, none, none, none, none, none, none]) (S' := []) C (T_law_p68 X ((inV L xs 4 30 : Int)) 0 1 (((1 + inV L xs 0 6 : Nat) : Int)) ((inV L xs 1 50 : Int)) ((inV L xs 2 20 : Int)) (((1 + inV L xs 3 40 : Nat) : Int)) σ) e68 hb rfl rfl rfl st_117 rfl rfl hst (fun ad ls H locs hst => ?_)
  exact kk _ o9 _ w9 _ ad ls H locs (by omega) (by omega) (by omega) (by omega) (by omega) (by omega) hg hst
set_option maxRecDepth 100000 in
set_option maxHeartbeats 4000000 in
theorem lg_1 {n o v w k : Nat} (C : aCx p l0 room_1 s mi args meth cc m_law d A b True X) (X0 : lwX p l0 s mi args cc d A cB) (hI : jI b L xs A s s.heap) (hL : L ≤ 260) (n0 : 1 ≤ n) (n1 : n ≤ 6) (o1 : o ≤ 99) (v1 : v ≤ 99) (w1 : w ≤ 99) (k1 : k ≤ 99) (hg : (0 : Int) < (w : Int) - k - o - v) (hO : OBJ σ) (h0 : σ.1[0]? = some (21, 11)) (hc : σ.2.2.1 + 40 ≤ 600000 ∧ σ.2.2.2 + 9000 ≤ 7302250) (hst : aSt s 18 d A b True 0 0 (fun _ => 0) [] ad ls H locs (L_117 n o v w k) [] σ)
    (kk : ∀ (l : Nat) (υ : aS) (ad : Nat → Nat) (ls : Array Slot) (H : Heap) (locs : List Loc), 1 ≤ l → l ≤ 20 → OBJ υ → SK (aexn σ 40 9000) υ → aSt s 18 d A b True 0 0 (fun _ => 0) [] ad ls H locs (L_649 n l) [] υ → aW p l0 e room_1 s mi args below meth cc Q d b 0 0 649 ad ls H locs [] υ) : aW p l0 e room_1 s mi args below meth cc Q d b 0 0 117 ad ls H locs [] σ := by
  refine lt_117 X0 n0 n1 o1 v1 w1 k1 hg hO h0 hc hst (fun τ x ad ls H locs hP hK hst => ?_)
  obtain ⟨υ, e2, hK2, hO2⟩ := hP
  have hKK : SK (aexn σ 40 9000) υ := ⟨hK2.1.trans hK.1, hK2.2.trans hK.2⟩
  have hb := sk_b hKK hc
  have q5 : inV L xs 5 20 < 20 := inV_lt (by decide)
  refine l_seg (pc := 188) (pc' := 636) (vs := [x, 0, 1, (n : Int), (o : Int), (v : Int), ((w : Int) - o - v - k), (k : Int), (w : Int)]) (vs' := [1, 0, 1, (n : Int)]) (L := [some (6, 0), some (21, 1), some (0, (n : Int)), some (0, (o : Int)), some (0, (v : Int)), some (0, ((w : Int) - o - v - k)), some (0, (k : Int)), some (0, (w : Int)), none, none, none, none, none, none, none, none, none, none]) (S := [(0, x)]) (L' := [some (6, 0), some (21, 1), some (0, (n : Int)), none, none, none, none, none, none, none, none, none, none, none, none, none, none, none]) (S' := [(0, 1)]) C (T_law_p188 X x 0 1 ((n : Int)) ((o : Int)) ((v : Int)) (((w : Int) - o - v - k)) ((k : Int)) ((w : Int)) τ) e2 hb rfl rfl rfl st_636 rfl rfl hst (fun ad ls H locs hst => ?_)
  refine li_636 X0 hI hL hst rfl hb (by show (1 : Nat) ≤ 5; decide) (fun hst => ?_)
  refine l_seg (pc := 646) (pc' := 649) (vs := [(inV L xs 5 20 : Int), 1, 0, 1, (n : Int)]) (vs' := [0, 1, (n : Int), ((1 + inV L xs 5 20 : Nat) : Int)]) (L := [some (6, 0), some (21, 1), some (0, (n : Int)), none, none, none, none, none, none, none, none, none, none, none, none, none, none, none]) (S := [(0, (inV L xs 5 20 : Int)), (0, 1)]) (L' := [some (6, 0), some (21, 1), some (0, (n : Int)), none, none, none, none, none, none, none, some (0, ((1 + inV L xs 5 20 : Nat) : Int)), none, none, none, none, none, none, none]) (S' := []) C (T_law_p646 X ((inV L xs 5 20 : Int)) 1 0 1 ((n : Int)) υ) (congrArg (fun z => some (650, [0, 1, (n : Int), z], υ)) (e1i _ (by omega))) hb rfl rfl rfl st_649 rfl rfl hst (fun ad ls H locs hst => ?_)
  exact kk _ υ ad ls H locs (by omega) (by omega) hO2 hKK hst
set_option maxRecDepth 100000 in
set_option maxHeartbeats 4000000 in
theorem lg_2 {n l : Nat} (C : aCx p l0 room_1 s mi args meth cc m_law d A b True X) (X0 : lwX p l0 s mi args cc d A cB) (hI : jI b L xs A s s.heap) (hL : L ≤ 260) (la : 1 ≤ l) (lb : l ≤ 20) (hO : OBJ σ) (h0 : σ.1[0]? = some (21, 11)) (hc : σ.2.2.1 + 40 ≤ 600000 ∧ σ.2.2.2 + 9000 ≤ 7302250) (hst : aSt s 18 d A b True 0 0 (fun _ => 0) [] ad ls H locs (L_649 n l) [] σ)
    (kk : ∀ (c : Nat) (υ : aS) (ad : Nat → Nat) (ls : Array Slot) (H : Heap) (locs : List Loc), c ≤ 999 → OBJ υ → SK (aexn σ 40 9000) υ → aSt s 18 d A b True 0 0 (fun _ => 0) [] ad ls H locs (L_805 n l c) [] υ → aW p l0 e room_1 s mi args below meth cc Q d b 0 0 805 ad ls H locs [] υ) : aW p l0 e room_1 s mi args below meth cc Q d b 0 0 649 ad ls H locs [] σ := by
  refine lt_649 X0 la lb hO h0 hc hst (fun τ x ad ls H locs hP hK hst => ?_)
  obtain ⟨υ, e2, hK2, hO2⟩ := hP
  have hKK : SK (aexn σ 40 9000) υ := ⟨hK2.1.trans hK.1, hK2.2.trans hK.2⟩
  have hb := sk_b hKK hc
  have q6 : inV L xs 6 40 < 40 := inV_lt (by decide)
  have q7 : inV L xs 7 1000 < 1000 := inV_lt (by decide)
  refine l_seg (pc := 692) (pc' := 740) (vs := [x, 0, 1, (n : Int), (l : Int)]) (vs' := [7, 1, 0, 1, (n : Int), (l : Int)]) (L := [some (6, 0), some (21, 1), some (0, (n : Int)), none, none, none, none, none, none, none, some (0, (l : Int)), none, none, none, none, none, none, none]) (S := [(0, x)]) (L' := [some (6, 0), some (21, 1), some (0, (n : Int)), none, none, none, none, none, none, none, some (0, (l : Int)), none, none, none, none, none, none, none]) (S' := [(0, 7), (21, 1)]) C (T_law_p692 X x 0 1 ((n : Int)) ((l : Int)) τ) e2 hb rfl rfl rfl st_740 rfl rfl hst (fun ad ls H locs hst => ?_)
  refine li_740 X0 hI hL hst rfl hb (by show (2 : Nat) ≤ 5; decide) (fun hst => ?_)
  obtain ⟨ω, e3, hK3, hO3⟩ := hO2 (inV L xs 6 40 : Int) (by omega) (by omega)
  have hKK3 : SK (aexn σ 40 9000) ω := ⟨hK3.1.trans hKK.1, hK3.2.trans hKK.2⟩
  have hb3 := sk_b hKK3 hc
  refine l_seg (pc := 751) (pc' := 791) (vs := [(inV L xs 6 40 : Int), 7, 1, 0, 1, (n : Int), (l : Int)]) (vs' := [0, 1, (n : Int), (l : Int)]) (L := [some (6, 0), some (21, 1), some (0, (n : Int)), none, none, none, none, none, none, none, some (0, (l : Int)), none, none, none, none, none, none, none]) (S := [(0, (inV L xs 6 40 : Int)), (0, 7), (21, 1)]) (L' := [some (6, 0), some (21, 1), some (0, (n : Int)), none, none, none, none, none, none, none, some (0, (l : Int)), none, none, none, none, none, none, none]) (S' := []) C (T_law_p751 X ((inV L xs 6 40 : Int)) 7 1 0 1 ((n : Int)) ((l : Int)) υ) e3 hb3 rfl rfl rfl st_791 rfl rfl hst (fun ad ls H locs hst => ?_)
  refine li_791 X0 hI hL hst rfl hb3 (by show (0 : Nat) ≤ 5; decide) (fun hst => ?_)
  refine l_seg (pc := 803) (pc' := 805) (vs := [(inV L xs 7 1000 : Int), 0, 1, (n : Int), (l : Int)]) (vs' := [0, 1, (n : Int), (l : Int), (inV L xs 7 1000 : Int)]) (L := [some (6, 0), some (21, 1), some (0, (n : Int)), none, none, none, none, none, none, none, some (0, (l : Int)), none, none, none, none, none, none, none]) (S := [(0, (inV L xs 7 1000 : Int))]) (L' := [some (6, 0), some (21, 1), some (0, (n : Int)), none, none, none, none, none, none, none, some (0, (l : Int)), none, some (0, (inV L xs 7 1000 : Int)), none, none, none, none, none]) (S' := []) C (T_law_p803 X ((inV L xs 7 1000 : Int)) 0 1 ((n : Int)) ((l : Int)) ω) rfl hb3 rfl rfl rfl st_805 rfl rfl hst (fun ad ls H locs hst => ?_)
  exact kk _ ω ad ls H locs (by omega) hO3 hKK3 hst
set_option maxRecDepth 100000 in
set_option maxHeartbeats 4000000 in
theorem lg_3 {n l c : Nat} (C : aCx p l0 room_1 s mi args meth cc m_law d A b True X) (X0 : lwX p l0 s mi args cc d A cB) (hI : jI b L xs A s s.heap) (hL : L ≤ 260) (c1 : c ≤ 999) (n0 : 1 ≤ n) (n1 : n ≤ 6) (hO : OBJ σ) (h0 : σ.1[0]? = some (21, 11)) (hc : σ.2.2.1 + 40 ≤ 600000 ∧ σ.2.2.2 + 9000 ≤ 7302250) (hst : aSt s 18 d A b True 0 0 (fun _ => 0) [] ad ls H locs (L_805 n l c) [] σ)
    (kk : ∀ (w : Nat) (υ : aS) (ad : Nat → Nat) (ls : Array Slot) (H : Heap) (locs : List Loc), w ≤ 99 → OBJ υ → SK (aexn σ 40 9000) υ → aSt s 18 d A b True 0 0 (fun _ => 0) [] ad ls H locs (L_959 n l c w) [] υ → aW p l0 e room_1 s mi args below meth cc Q d b 0 0 959 ad ls H locs [] υ) : aW p l0 e room_1 s mi args below meth cc Q d b 0 0 805 ad ls H locs [] σ := by
  refine lt_805 X0 c1 n0 n1 hO h0 hc hst (fun τ x ad ls H locs hP hK hst => ?_)
  obtain ⟨υ, e2, hK2, hO2⟩ := hP
  have hKK : SK (aexn σ 40 9000) υ := ⟨hK2.1.trans hK.1, hK2.2.trans hK.2⟩
  have hb := sk_b hKK hc
  have q8 : inV L xs 8 100 < 100 := inV_lt (by decide)
  refine l_seg (pc := 843) (pc' := 946) (vs := [x, 0, 1, (n : Int), (l : Int), (c : Int)]) (vs' := [0, 1, (n : Int), (l : Int), (c : Int)]) (L := [some (6, 0), some (21, 1), some (0, (n : Int)), none, none, none, none, none, none, none, some (0, (l : Int)), none, some (0, (c : Int)), none, none, none, none, none]) (S := [(0, x)]) (L' := [some (6, 0), some (21, 1), some (0, (n : Int)), none, none, none, none, none, none, none, some (0, (l : Int)), none, some (0, (c : Int)), none, none, none, none, none]) (S' := []) C (T_law_p843 X x 0 1 ((n : Int)) ((l : Int)) ((c : Int)) τ) e2 hb rfl rfl rfl st_946 rfl rfl hst (fun ad ls H locs hst => ?_)
  refine li_946 X0 hI hL hst rfl hb (by show (0 : Nat) ≤ 5; decide) (fun hst => ?_)
  refine l_seg (pc := 957) (pc' := 959) (vs := [(inV L xs 8 100 : Int), 0, 1, (n : Int), (l : Int), (c : Int)]) (vs' := [0, 1, (n : Int), (l : Int), (c : Int), (inV L xs 8 100 : Int)]) (L := [some (6, 0), some (21, 1), some (0, (n : Int)), none, none, none, none, none, none, none, some (0, (l : Int)), none, some (0, (c : Int)), none, none, none, none, none]) (S := [(0, (inV L xs 8 100 : Int))]) (L' := [some (6, 0), some (21, 1), some (0, (n : Int)), none, none, none, none, none, none, none, some (0, (l : Int)), none, some (0, (c : Int)), some (0, (inV L xs 8 100 : Int)), none, none, none, none]) (S' := []) C (T_law_p957 X ((inV L xs 8 100 : Int)) 0 1 ((n : Int)) ((l : Int)) ((c : Int)) υ) rfl hb rfl rfl rfl st_959 rfl rfl hst (fun ad ls H locs hst => ?_)
  exact kk _ υ ad ls H locs (by omega) hO2 hKK hst
set_option maxRecDepth 100000 in
set_option maxHeartbeats 4000000 in
theorem lg_4 {n l c w : Nat} (C : aCx p l0 room_1 s mi args meth cc m_law d A b True X) (X0 : lwX p l0 s mi args cc d A cB) (hI : jI b L xs A s s.heap) (hL : L ≤ 260) (c1 : c ≤ 999) (n0 : 1 ≤ n) (n1 : n ≤ 6) (w1 : w ≤ 99) (hO : OBJ σ) (h0 : σ.1[0]? = some (21, 11)) (hc : σ.2.2.1 + 40 ≤ 600000 ∧ σ.2.2.2 + 9000 ≤ 7302250) (hst : aSt s 18 d A b True 0 0 (fun _ => 0) [] ad ls H locs (L_959 n l c w) [] σ)
    (kk : ∀ (m : Nat) (υ : aS) (ad : Nat → Nat) (ls : Array Slot) (H : Heap) (locs : List Loc), 1 ≤ m → m ≤ 6 → OBJ υ → SK (aexn σ 40 9000) υ → aSt s 18 d A b True 0 0 (fun _ => 0) [] ad ls H locs (L_1120 n l m) [] υ → aW p l0 e room_1 s mi args below meth cc Q d b 0 0 1120 ad ls H locs [] υ) : aW p l0 e room_1 s mi args below meth cc Q d b 0 0 959 ad ls H locs [] σ := by
  refine lt_959 X0 c1 n0 n1 w1 hO h0 hc hst (fun τ x ad ls H locs hP hK hst => ?_)
  obtain ⟨υ, e2, hK2, hO2⟩ := hP
  have hKK : SK (aexn σ 40 9000) υ := ⟨hK2.1.trans hK.1, hK2.2.trans hK.2⟩
  have hb := sk_b hKK hc
  have q9 : inV L xs 9 6 < 6 := inV_lt (by decide)
  refine l_seg (pc := 1007) (pc' := 1106) (vs := [x, 0, 1, (n : Int), (l : Int), (c : Int), (w : Int)]) (vs' := [1, 0, 1, (n : Int), (l : Int)]) (L := [some (6, 0), some (21, 1), some (0, (n : Int)), none, none, none, none, none, none, none, some (0, (l : Int)), none, some (0, (c : Int)), some (0, (w : Int)), none, none, none, none]) (S := [(0, x)]) (L' := [some (6, 0), some (21, 1), some (0, (n : Int)), none, none, none, none, none, none, none, some (0, (l : Int)), none, none, none, none, none, none, none]) (S' := [(0, 1)]) C (T_law_p1007 X x 0 1 ((n : Int)) ((l : Int)) ((c : Int)) ((w : Int)) τ) e2 hb rfl rfl rfl st_1106 rfl rfl hst (fun ad ls H locs hst => ?_)
  refine li_1106 X0 hI hL hst rfl hb (by show (1 : Nat) ≤ 5; decide) (fun hst => ?_)
  have hst := aSt_drop (L' := [none, some (21, 1), some (0, (n : Int)), none, none, none, none, none, none, none, some (0, (l : Int)), none, none, none, none, none, none, none]) hst rfl (fun i v hi => by
    match i, hi with
    | 0, hi => cases hi
    | 1, hi => exact hi
    | 2, hi => exact hi
    | 3, hi => cases hi
    | 4, hi => cases hi
    | 5, hi => cases hi
    | 6, hi => cases hi
    | 7, hi => cases hi
    | 8, hi => cases hi
    | 9, hi => cases hi
    | 10, hi => exact hi
    | 11, hi => cases hi
    | 12, hi => cases hi
    | 13, hi => cases hi
    | 14, hi => cases hi
    | 15, hi => cases hi
    | 16, hi => cases hi
    | 17, hi => cases hi
    | k + 18, hi => cases hi)
  refine l_seg (pc := 1117) (pc' := 1120) (vs := [(inV L xs 9 6 : Int), 1, 1, (n : Int), (l : Int)]) (vs' := [1, (n : Int), (l : Int), ((1 + inV L xs 9 6 : Nat) : Int)]) (L := [none, some (21, 1), some (0, (n : Int)), none, none, none, none, none, none, none, some (0, (l : Int)), none, none, none, none, none, none, none]) (S := [(0, (inV L xs 9 6 : Int)), (0, 1)]) (L' := [none, some (21, 1), some (0, (n : Int)), none, none, none, none, none, none, none, some (0, (l : Int)), none, none, none, some (0, ((1 + inV L xs 9 6 : Nat) : Int)), none, none, none]) (S' := []) C (T_law_p1117 X ((inV L xs 9 6 : Int)) 1 1 ((n : Int)) ((l : Int)) υ) (congrArg (fun z => some (1121, [1, (n : Int), (l : Int), z], υ)) (e1i _ (by omega))) hb rfl rfl rfl st_1120 rfl rfl hst (fun ad ls H locs hst => ?_)
  exact kk _ υ ad ls H locs (by omega) (by omega) hO2 hKK hst
set_option maxRecDepth 100000 in
set_option maxHeartbeats 4000000 in
theorem lg_5 {n l m : Nat} (C : aCx p l0 room_1 s mi args meth cc m_law d A b True X) (X0 : lwX p l0 s mi args cc d A cB) (hI : jI b L xs A s s.heap) (hL : L ≤ 260) (n0 : 1 ≤ n) (n1 : n ≤ 6) (m0 : 1 ≤ m) (m1 : m ≤ 6) (la : 1 ≤ l) (lb : l ≤ 20) (hO : OBJ σ) (h0 : σ.1[0]? = some (21, 11)) (hc : σ.2.2.1 + 40 ≤ 600000 ∧ σ.2.2.2 + 9000 ≤ 7302250) (hst : aSt s 18 d A b True 0 0 (fun _ => 0) [] ad ls H locs (L_1120 n l m) [] σ)
    (kk : ∀ (υ : aS) (ad : Nat → Nat) (ls : Array Slot) (H : Heap) (locs : List Loc), OBJ υ → SK (aexn σ 40 9000) υ → aSt s 18 d A b True 0 0 (fun _ => 0) [] ad ls H locs L_1335 [] υ → aW p l0 e room_1 s mi args below meth cc Q d b 0 0 1335 ad ls H locs [] υ) : aW p l0 e room_1 s mi args below meth cc Q d b 0 0 1120 ad ls H locs [] σ := by
  refine lt_1120 X0 n0 n1 m0 m1 la lb hO h0 hc hst (fun τ x ad ls H locs hP hK hst => ?_)
  obtain ⟨υ, e2, hK2, hO2⟩ := hP
  have hKK : SK (aexn σ 40 9000) υ := ⟨hK2.1.trans hK.1, hK2.2.trans hK.2⟩
  have hb := sk_b hKK hc
  refine l_seg (pc := 1178) (pc' := 1335) (vs := [x, 1, (n : Int), (l : Int), (m : Int)]) (vs' := [1]) (L := [none, some (21, 1), some (0, (n : Int)), none, none, none, none, none, none, none, some (0, (l : Int)), none, none, none, some (0, (m : Int)), none, none, none]) (S := [(0, x)]) (L' := [none, some (21, 1), none, none, none, none, none, none, none, none, none, none, none, none, none, none, none, none]) (S' := []) C (T_law_p1178 X x 1 ((n : Int)) ((l : Int)) ((m : Int)) τ) e2 hb rfl rfl rfl st_1335 rfl rfl hst (fun ad ls H locs hst => ?_)
  exact kk υ ad ls H locs hO2 hKK hst
set_option maxRecDepth 100000 in
set_option maxHeartbeats 4000000 in
theorem lg_6 (C : aCx p l0 room_1 s mi args meth cc m_law d A b True X) (X0 : lwX p l0 s mi args cc d A cB) (hI : jI b L xs A s s.heap) (hL : L ≤ 260)  (hO : OBJ σ) (h0 : σ.1[0]? = some (21, 11)) (hc : σ.2.2.1 + 40 ≤ 600000 ∧ σ.2.2.2 + 9000 ≤ 7302250) (hst : aSt s 18 d A b True 0 0 (fun _ => 0) [] ad ls H locs L_1335 [] σ)
    (kk : ∀ (υ : aS) (ad : Nat → Nat) (ls : Array Slot) (H : Heap) (locs : List Loc), OBJ υ → SK (aexn σ 40 9000) υ → aSt s 18 d A b True 0 0 (fun _ => 0) [] ad ls H locs L_1354 [] υ → aW p l0 e room_1 s mi args below meth cc Q d b 0 0 1354 ad ls H locs [] υ) : aW p l0 e room_1 s mi args below meth cc Q d b 0 0 1335 ad ls H locs [] σ := by
  refine lt_1335 X0  hO h0 hc hst (fun τ x ad ls H locs hP hK hst => ?_)
  obtain ⟨υ, e2, hK2, hO2⟩ := hP
  have hKK : SK (aexn σ 40 9000) υ := ⟨hK2.1.trans hK.1, hK2.2.trans hK.2⟩
  have hb := sk_b hKK hc
  refine l_seg (pc := 1341) (pc' := 1354) (vs := [x, 1]) (vs' := [1]) (L := [none, some (21, 1), none, none, none, none, none, none, none, none, none, none, none, none, none, none, none, none]) (S := [(0, x)]) (L' := [none, some (21, 1), none, none, none, none, none, none, none, none, none, none, none, none, none, none, none, none]) (S' := []) C (T_law_p1341 X x 1 τ) e2 hb rfl rfl rfl st_1354 rfl rfl hst (fun ad ls H locs hst => ?_)
  exact kk υ ad ls H locs hO2 hKK hst
set_option maxRecDepth 100000 in
set_option maxHeartbeats 4000000 in
theorem lg_7 (C : aCx p l0 room_1 s mi args meth cc m_law d A b True X) (X0 : lwX p l0 s mi args cc d A cB) (hI : jI b L xs A s s.heap) (hL : L ≤ 260) (hO : OBJ σ) (h0 : σ.1[0]? = some (21, 11)) (hc : σ.2.2.1 + 40 ≤ 600000 ∧ σ.2.2.2 + 9000 ≤ 7302250) (hA2 : ∀ q, A q → s.heap.size ≤ q) (hret : ∀ (pc : Nat) (H : Heap) (ls : Array Slot), decode code pc = .ok (.ireturn, 1) → W p l0 e room_1 s mi args below meth cc H [] 600000 7302250 Q (F0 mi pc ls [.int 1])) (hst : aSt s 18 d A b True 0 0 (fun _ => 0) [] ad ls H locs L_1354 [] σ) : aW p l0 e room_1 s mi args below meth cc Q d b 0 0 1354 ad ls H locs [] σ := by
  refine lt_1354 X0 hO h0 hc hst (fun τ x ad ls H locs hP hK hst => ?_)
  obtain ⟨υ, e2, hK2, hO2⟩ := hP
  have hKK : SK (aexn σ 40 9000) υ := ⟨hK2.1.trans hK.1, hK2.2.trans hK.2⟩
  exact l_end (pc := 1360) (vs := [x, 1]) (L := [none, some (21, 1), none, none, none, none, none, none, none, none, none, none, none, none, none, none, none, none]) (S := [(0, x)]) C (T_law_p1360 X x 1 τ) e2 (sk_b hKK hc) rfl rfl rfl rfl hst hA2 hret
theorem sk_h {υ : aS} (h : SK (aexn σ 40 9000) υ) (h0 : σ.1[0]? = some (21, 11)) : υ.1[0]? = some (21, 11) := by rw [h.1]; exact h0
theorem sk_c {υ : aS} {k : Nat} (h : SK (aexn σ 40 9000) υ) (hc : σ.2.2.1 + 40 * (k + 1) ≤ 600000 ∧ σ.2.2.2 + 9000 * (k + 1) ≤ 7302250) : υ.2.2.1 + 40 * k ≤ 600000 ∧ υ.2.2.2 + 9000 * k ≤ 7302250 := by
  have a1 : υ.2.2.1 = σ.2.2.1 + 40 := congrArg Prod.fst h.2
  have a2 : υ.2.2.2 = σ.2.2.2 + 9000 := congrArg Prod.snd h.2
  omega
theorem law_run (C : aCx p l0 room_1 s mi args meth cc m_law d A b True X) (X0 : lwX p l0 s mi args cc d A cB) (hI : jI b L xs A s s.heap) (hL : L ≤ 260) (hO : OBJ σ) (h0 : σ.1[0]? = some (21, 11)) (hc : σ.2.2.1 + 40 * 7 ≤ 600000 ∧ σ.2.2.2 + 9000 * 7 ≤ 7302250) (hA2 : ∀ q, A q → s.heap.size ≤ q) (hret : ∀ (pc : Nat) (H : Heap) (ls : Array Slot), decode code pc = .ok (.ireturn, 1) → W p l0 e room_1 s mi args below meth cc H [] 600000 7302250 Q (F0 mi pc ls [.int 1])) (hst : aSt s 18 d A b True 0 0 (fun _ => 0) [] ad ls H locs [some (6, 0), some (21, 1), none, none, none, none, none, none, none, none, none, none, none, none, none, none, none, none] [(0, 1)] σ) : aW p l0 e room_1 s mi args below meth cc Q d b 0 0 9 ad ls H locs [(0, 1)] σ := by
  refine lg_0 C X0 hI hL ⟨by omega, by omega⟩ hst (fun n o v w k ad ls H locs n0 n1 o1 v1 w1 k1 hg hst => ?_)
  refine lg_1 C X0 hI hL n0 n1 o1 v1 w1 k1 hg hO h0 ⟨by omega, by omega⟩ hst (fun l υ1 ad ls H locs la lb hO1 hK1 hst => ?_)
  have c1 := sk_c (k := 6) hK1 hc
  have z1 := sk_h hK1 h0
  refine lg_2 C X0 hI hL la lb hO1 z1 ⟨by omega, by omega⟩ hst (fun c υ2 ad ls H locs cb hO2 hK2 hst => ?_)
  have c2 := sk_c (k := 5) hK2 c1
  have z2 := sk_h hK2 z1
  refine lg_3 C X0 hI hL cb n0 n1 hO2 z2 ⟨by omega, by omega⟩ hst (fun w' υ3 ad ls H locs wb hO3 hK3 hst => ?_)
  have c3 := sk_c (k := 4) hK3 c2
  have z3 := sk_h hK3 z2
  refine lg_4 C X0 hI hL cb n0 n1 wb hO3 z3 ⟨by omega, by omega⟩ hst (fun m υ4 ad ls H locs m0 m1 hO4 hK4 hst => ?_)
  have c4 := sk_c (k := 3) hK4 c3
  have z4 := sk_h hK4 z3
  refine lg_5 C X0 hI hL n0 n1 m0 m1 la lb hO4 z4 ⟨by omega, by omega⟩ hst (fun υ5 ad ls H locs hO5 hK5 hst => ?_)
  have c5 := sk_c (k := 2) hK5 c4
  have z5 := sk_h hK5 z4
  refine lg_6 C X0 hI hL hO5 z5 ⟨by omega, by omega⟩ hst (fun υ6 ad ls H locs hO6 hK6 hst => ?_)
  have c6 := sk_c (k := 1) hK6 c5
  exact lg_7 C X0 hI hL hO6 (sk_h hK6 z5) ⟨by omega, by omega⟩ hA2 hret hst
end LCH
