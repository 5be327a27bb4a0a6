/-! law.look: FloatTowns.look and its two throws, caught by the law; printed in part by mk47.py -/
def tNm : List String := ["java/lang/RuntimeException", "java/lang/Exception"]
def tIO : String := "java/lang/IndexOutOfBoundsException"
def tNS : String := "java/util/NoSuchElementException"
def tGet (q : Nat × Nat) : Option Cond := match q.1 with
  | 1 => tables_1_1[q.2]?
  | 6 => tables_1_6[q.2]?
  | _ => none
theorem tGet_in {q : Nat × Nat} {w : Cond} (h : tGet q = some w) : w ∈ lw_tbl := by
  unfold tGet at h
  split at h
  · exact ch_1 _ (List.mem_of_getElem? h)
  · exact ch_6 _ (List.mem_of_getElem? h)
  · cases h
theorem tGet_all {L : List Cond} (ps : List (Nat × Nat)) (hp : L.filter goodWord = ps.filterMap tGet) {w : Cond} (hw : w ∈ L) (hg : goodWord w = true) : w ∈ aTB := by
  have h : w ∈ L.filter goodWord := List.mem_filter.mpr ⟨hw, hg⟩
  rw [hp] at h
  obtain ⟨i, -, hi⟩ := List.mem_filterMap.mp h
  exact List.mem_filter.mpr ⟨tGet_in hi, hg⟩
theorem tLI_p : (vx_atS "FloatTowns" 131 tIO tNm).filter goodWord = ([(1, 20), (6, 139), (6, 148), (6, 151), (6, 154), (6, 156), (6, 140), (6, 141), (1, 32), (1, 33), (6, 142), (6, 147), (6, 152), (6, 172), (6, 129), (6, 173), (6, 131), (6, 174), (6, 133), (6, 143), (6, 145), (6, 135), (6, 168), (6, 169), (6, 171), (6, 135), (6, 159), (6, 160), (6, 161), (6, 162), (6, 162), (6, 163), (6, 164), (6, 165), (6, 165), (6, 166), (6, 167), (6, 168), (6, 158), (6, 118), (6, 126), (6, 127), (6, 128), (6, 130), (6, 132), (6, 134), (6, 138), (6, 137), (6, 136)] : List (Nat × Nat)).filterMap tGet := by decide +kernel
theorem tLN_p : (vx_atSX "FloatTowns" 138 tNS 13 prog_30_method_4_code tNm).filter goodWord = ([(1, 20), (6, 139), (6, 148), (6, 151), (6, 154), (6, 156), (6, 140), (6, 141), (1, 32), (1, 33), (6, 142), (6, 147), (6, 152), (6, 172), (6, 129), (6, 173), (6, 131), (6, 174), (6, 133), (6, 143), (6, 145), (6, 135), (6, 168), (6, 169), (6, 171), (6, 135), (6, 194), (6, 195), (6, 196), (6, 162), (6, 162), (6, 163), (6, 164), (6, 165), (6, 165), (6, 166), (6, 167), (6, 168), (6, 193), (6, 184), (6, 186), (6, 150), (6, 187), (6, 188), (6, 189), (6, 190), (6, 138), (6, 137), (6, 191)] : List (Nat × Nat)).filterMap tGet := by decide +kernel
def tDe : List MethodName := [⟨"java/lang/RuntimeException", "<init>", "(Ljava/lang/String;)V"⟩, ⟨"java/lang/Exception", "<init>", "(Ljava/lang/String;)V"⟩, ⟨"java/lang/Throwable", "<init>", "(Ljava/lang/String;)V"⟩]
def tBad : List Cond := tDe.map Cond.declares ++ [.castable tIO tIO, .castable tNS tNS]
theorem tLI_b : ∀ w ∈ vx_atS "FloatTowns" 131 tIO tNm, goodWord w = false → w ∈ tBad := by decide +kernel
theorem tLN_b : ∀ w ∈ vx_atSX "FloatTowns" 138 tNS 13 prog_30_method_4_code tNm, goodWord w = false → w ∈ tBad := by decide +kernel
theorem tBad_ot : ∀ w ∈ tBad, w.onTables = true := by decide +kernel
/-- what a throw needs beside the tables' good words -/
def tX (s1 s2 : Nat) (A : Nat → Prop) (U : State) (H : Heap) : Prop :=
  vk_R "FloatTowns" 129 "no such sort" s1 U ∧ vk_R "FloatTowns" 136 "no such figure of a sort" s2 U ∧ vx_Zq Bundle.tN "UNASSIGNED_STACK" Bundle.steD A U H ∧ vx_Zq Bundle.tN "SUPPRESSED_SENTINEL" Bundle.listD A U H ∧ va_Nc tNS tIO U ∧
  (∀ y ∈ tDe, va_Nw (.declares y) U) ∧ va_Nw (.castable tIO tIO) U ∧ va_Nw (.castable tNS tNS) U
theorem tX.to {s1 s2 : Nat} {A B : Nat → Prop} {s U : State} {H H1 : Heap} (h : tX s1 s2 A s H) (hW : s.WarmedH U.vm) (hq : ∀ a : Nat, a < H.size → ¬ A a → H1[a]? = H[a]?) (hAB : ∀ q, B q → A q) : tX s1 s2 B U H1 := by
  obtain ⟨h1, h2, h3, h4, h5, h6, h7, h8⟩ := h
  exact ⟨h1.warm hW, h2.warm hW, ((h3.kept hq).narrow hAB).moved hW.alike, ((h4.kept hq).narrow hAB).moved hW.alike, h5.moved hW.alike, fun y hy => va_Nw.warmD hW (h6 y hy), va_Nw.warmC hW h7, va_Nw.warmC hW h8⟩
theorem tX.calling {s1 s2 : Nat} {A : Nat → Prop} {U : State} {g : JFrame} {mk : MethodId} {a : Array Value} (h : tX s1 s2 A U U.heap) : tX s1 s2 A (U.calling g mk a) (U.calling g mk a).heap := by
  obtain ⟨h1, h2, h3, h4, h5, h6, h7, h8⟩ := h
  exact ⟨vk_R.same (u := U) rfl h1, vk_R.same (u := U) rfl h2, vx_Zq.moved (u := U) (U := U.calling g mk a) (Vm.Alike.refl U.vm) h3, vx_Zq.moved (u := U) (U := U.calling g mk a) (Vm.Alike.refl U.vm) h4, va_Nc.moved (u := U) (U := U.calling g mk a) (Vm.Alike.refl U.vm) h5,
    fun y hy => va_Nw.same (u := U) rfl rfl (h6 y hy), va_Nw.same (u := U) rfl rfl h7, va_Nw.same (u := U) rfl rfl h8⟩
theorem tX.bad {s1 s2 : Nat} {A : Nat → Prop} {s : State} {H : Heap} {args : Array Value} (h : tX s1 s2 A s H) {w : Cond} (hw : w ∈ tBad) : w.before args s = true := by
  obtain ⟨h1, h2, h3, h4, h5, h6, h7, h8⟩ := h
  refine va_Nw.use (tBad_ot w hw) ?_
  rcases List.mem_append.mp hw with hw | hw
  · obtain ⟨y, hy, rfl⟩ := List.mem_map.mp hw
    exact h6 y hy
  · rcases List.mem_cons.mp hw with rfl | hw
    · exact h7
    · obtain rfl := List.mem_singleton.mp hw
      exact h8
theorem lk_lsU : (Cond.laysStatic Bundle.tN "UNASSIGNED_STACK" Bundle.steD : Cond) ∈ lw_tbl := ch_6 _ (List.mem_of_getElem? (i := 144) (by decide +kernel))
theorem lk_lsN : (Cond.laysStatic Bundle.tN "SUPPRESSED_SENTINEL" Bundle.listD : Cond) ∈ lw_tbl := ch_6 _ (List.mem_of_getElem? (i := 146) (by decide +kernel))
theorem lk_inT : (Cond.initialized Bundle.tN : Cond) ∈ lw_tbl := ch_1 _ (List.mem_of_getElem? (i := 20) (by decide +kernel))
theorem lk_s129 : (Cond.stringRef "FloatTowns" 129 "no such sort" : Cond) ∈ lw_tbl := ch_6 _ (List.mem_of_getElem? (i := 157) (by decide +kernel))
theorem lk_s136 : (Cond.stringRef "FloatTowns" 136 "no such figure of a sort" : Cond) ∈ lw_tbl := ch_6 _ (List.mem_of_getElem? (i := 192) (by decide +kernel))
theorem lk_cIO : (Cond.castable tIO tIO : Cond) ∈ lw_tbl := ch_6 _ (List.mem_of_getElem? (i := 119) (by decide +kernel))
theorem lk_cNS : (Cond.castable tNS tNS : Cond) ∈ lw_tbl := ch_6 _ (List.mem_of_getElem? (i := 185) (by decide +kernel))
theorem lk_cl127 : (Cond.classLink "FloatTowns" 127 tIO : Cond) ∈ lw_tbl := ch_6 _ (List.mem_of_getElem? (i := 117) (by decide +kernel))
theorem lk_cl134 : (Cond.classLink "FloatTowns" 134 tNS : Cond) ∈ lw_tbl := ch_6 _ (List.mem_of_getElem? (i := 183) (by decide +kernel))
theorem lk_inIO : (Cond.initialized tIO : Cond) ∈ lw_tbl := ch_1 _ (List.mem_of_getElem? (i := 23) (by decide +kernel))
theorem lk_inNS : (Cond.initialized tNS : Cond) ∈ lw_tbl := ch_1 _ (List.mem_of_getElem? (i := 24) (by decide +kernel))
theorem lk_l13 : (Cond.classLink "FloatTownsLaw" 13 tIO : Cond) ∈ lw_tbl := ch_6 _ (List.mem_of_getElem? (i := 111) (by decide +kernel))
theorem lk_l15 : (Cond.classLink "FloatTownsLaw" 15 tNS : Cond) ∈ lw_tbl := ch_6 _ (List.mem_of_getElem? (i := 112) (by decide +kernel))
theorem lk_d0 : (Cond.declares ⟨"java/lang/RuntimeException", "<init>", "(Ljava/lang/String;)V"⟩ : Cond) ∈ lw_tbl := ch_6 _ (List.mem_of_getElem? (i := 121) (by decide +kernel))
theorem lk_d1 : (Cond.declares ⟨"java/lang/Exception", "<init>", "(Ljava/lang/String;)V"⟩ : Cond) ∈ lw_tbl := ch_6 _ (List.mem_of_getElem? (i := 123) (by decide +kernel))
theorem lk_d2 : (Cond.declares ⟨"java/lang/Throwable", "<init>", "(Ljava/lang/String;)V"⟩ : Cond) ∈ lw_tbl := ch_6 _ (List.mem_of_getElem? (i := 125) (by decide +kernel))
theorem a_start_X {args : Array Value} {s : State} {A : Nat → Prop} (hts : ∀ w ∈ lw_tbl, w.before args s = true) (hgv : (Jvm.Cond.and given_1 narrow_1).before args s = true) (hA : ∀ a : Nat, a < s.heap.size → ¬ A a) : ∃ s1 s2, tX s1 s2 A s s.heap := by
  have hs := flat_of_before _ hgv
  obtain ⟨s1, c1, e1, k1, q1, -⟩ := Cond.exactly_spec (args := args) (first := s) (o := none) (s := s) (idx := []) (t := .string "FloatTowns" 129) (cls := "java/lang/String") (hs _ (List.mem_of_getElem? (i := 132) (by decide +kernel)))
  obtain ⟨s2, c2, e2, k2, q2, -⟩ := Cond.exactly_spec (args := args) (first := s) (o := none) (s := s) (idx := []) (t := .string "FloatTowns" 136) (cls := "java/lang/String") (hs _ (List.mem_of_getElem? (i := 149) (by decide +kernel)))
  refine ⟨s1, s2, vk_R.of (hts _ lk_s129) q1, vk_R.of (hts _ lk_s136) q2, vx_Zqof (hts _ lk_lsU) (hts _ lk_inT) (hs _ (List.mem_of_getElem? (i := 9) (by decide +kernel))) hA, vx_Zqof (hts _ lk_lsN) (hts _ lk_inT) (hs _ (List.mem_of_getElem? (i := 10) (by decide +kernel))) hA,
    va_Nc.of (hs _ (List.mem_of_getElem? (i := 24) (by decide +kernel))), ?_, va_Nw.of rfl (hts _ lk_cIO), va_Nw.of rfl (hts _ lk_cNS)⟩
  intro y hy
  refine va_Nw.of rfl (A := args) ?_
  rcases List.mem_cons.mp hy with rfl | hy
  · exact hts _ lk_d0
  · rcases List.mem_cons.mp hy with rfl | hy
    · exact hts _ lk_d1
    · obtain rfl := List.mem_singleton.mp hy
      exact hts _ lk_d2
