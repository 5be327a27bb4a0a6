/-! printed by mkp.py: the law's seven text pieces -/
theorem ld_L_law_117 : decode cL_law 117 = .ok (.new 44, 3) := by decide +kernel
theorem ld_L_law_120 : decode cL_law 120 = .ok (.dup, 1) := by decide +kernel
theorem ld_L_law_121 : decode cL_law 121 = .ok (.invokespecial 46, 3) := by decide +kernel
theorem ld_L_law_124 : decode cL_law 124 = .ok (.ldc 47, 2) := by decide +kernel
theorem ld_L_law_126 : decode cL_law 126 = .ok (.invokevirtual 49, 3) := by decide +kernel
theorem ld_L_law_129 : decode cL_law 129 = .ok (.iload_n 2, 1) := by decide +kernel
theorem ld_L_law_130 : decode cL_law 130 = .ok (.invokevirtual 53, 3) := by decide +kernel
theorem ld_L_law_133 : decode cL_law 133 = .ok (.ldc 56, 2) := by decide +kernel
theorem ld_L_law_135 : decode cL_law 135 = .ok (.invokevirtual 49, 3) := by decide +kernel
theorem ld_L_law_138 : decode cL_law 138 = .ok (.iload_n 3, 1) := by decide +kernel
theorem ld_L_law_139 : decode cL_law 139 = .ok (.invokevirtual 53, 3) := by decide +kernel
theorem ld_L_law_142 : decode cL_law 142 = .ok (.ldc 58, 2) := by decide +kernel
theorem ld_L_law_144 : decode cL_law 144 = .ok (.invokevirtual 49, 3) := by decide +kernel
theorem ld_L_law_147 : decode cL_law 147 = .ok (.iload 4, 2) := by decide +kernel
theorem ld_L_law_149 : decode cL_law 149 = .ok (.invokevirtual 53, 3) := by decide +kernel
theorem ld_L_law_152 : decode cL_law 152 = .ok (.ldc 60, 2) := by decide +kernel
theorem ld_L_law_154 : decode cL_law 154 = .ok (.invokevirtual 49, 3) := by decide +kernel
theorem ld_L_law_157 : decode cL_law 157 = .ok (.iload 7, 2) := by decide +kernel
theorem ld_L_law_159 : decode cL_law 159 = .ok (.invokevirtual 53, 3) := by decide +kernel
theorem ld_L_law_162 : decode cL_law 162 = .ok (.ldc 62, 2) := by decide +kernel
theorem ld_L_law_164 : decode cL_law 164 = .ok (.invokevirtual 49, 3) := by decide +kernel
theorem ld_L_law_167 : decode cL_law 167 = .ok (.iload 6, 2) := by decide +kernel
theorem ld_L_law_169 : decode cL_law 169 = .ok (.invokevirtual 53, 3) := by decide +kernel
theorem ld_L_law_172 : decode cL_law 172 = .ok (.ldc 64, 2) := by decide +kernel
theorem ld_L_law_174 : decode cL_law 174 = .ok (.invokevirtual 49, 3) := by decide +kernel
theorem ld_L_law_177 : decode cL_law 177 = .ok (.invokevirtual 66, 3) := by decide +kernel
theorem ld_L_law_180 : decode cL_law 180 = .ok (.astore 8, 2) := by decide +kernel
theorem ld_L_law_182 : decode cL_law 182 = .ok (.aload_n 1, 1) := by decide +kernel
theorem ld_L_law_183 : decode cL_law 183 = .ok (.aload 8, 2) := by decide +kernel
theorem ld_L_law_185 : decode cL_law 185 = .ok (.invokestatic 70, 3) := by decide +kernel
theorem ld_L_law_649 : decode cL_law 649 = .ok (.new 44, 3) := by decide +kernel
theorem ld_L_law_652 : decode cL_law 652 = .ok (.dup, 1) := by decide +kernel
theorem ld_L_law_653 : decode cL_law 653 = .ok (.invokespecial 46, 3) := by decide +kernel
theorem ld_L_law_656 : decode cL_law 656 = .ok (.ldc 140, 2) := by decide +kernel
theorem ld_L_law_658 : decode cL_law 658 = .ok (.invokevirtual 49, 3) := by decide +kernel
theorem ld_L_law_661 : decode cL_law 661 = .ok (.iload 10, 2) := by decide +kernel
theorem ld_L_law_663 : decode cL_law 663 = .ok (.invokevirtual 53, 3) := by decide +kernel
theorem ld_L_law_666 : decode cL_law 666 = .ok (.ldc 142, 2) := by decide +kernel
theorem ld_L_law_668 : decode cL_law 668 = .ok (.invokevirtual 49, 3) := by decide +kernel
theorem ld_L_law_671 : decode cL_law 671 = .ok (.iload 10, 2) := by decide +kernel
theorem ld_L_law_673 : decode cL_law 673 = .ok (.invokevirtual 53, 3) := by decide +kernel
theorem ld_L_law_676 : decode cL_law 676 = .ok (.ldc 144, 2) := by decide +kernel
theorem ld_L_law_678 : decode cL_law 678 = .ok (.invokevirtual 49, 3) := by decide +kernel
theorem ld_L_law_681 : decode cL_law 681 = .ok (.invokevirtual 66, 3) := by decide +kernel
theorem ld_L_law_684 : decode cL_law 684 = .ok (.astore 8, 2) := by decide +kernel
theorem ld_L_law_686 : decode cL_law 686 = .ok (.aload_n 1, 1) := by decide +kernel
theorem ld_L_law_687 : decode cL_law 687 = .ok (.aload 8, 2) := by decide +kernel
theorem ld_L_law_689 : decode cL_law 689 = .ok (.invokestatic 70, 3) := by decide +kernel
theorem ld_L_law_805 : decode cL_law 805 = .ok (.aload_n 1, 1) := by decide +kernel
theorem ld_L_law_806 : decode cL_law 806 = .ok (.new 44, 3) := by decide +kernel
theorem ld_L_law_809 : decode cL_law 809 = .ok (.dup, 1) := by decide +kernel
theorem ld_L_law_810 : decode cL_law 810 = .ok (.invokespecial 46, 3) := by decide +kernel
theorem ld_L_law_813 : decode cL_law 813 = .ok (.ldc 156, 2) := by decide +kernel
theorem ld_L_law_815 : decode cL_law 815 = .ok (.invokevirtual 49, 3) := by decide +kernel
theorem ld_L_law_818 : decode cL_law 818 = .ok (.iload 12, 2) := by decide +kernel
theorem ld_L_law_820 : decode cL_law 820 = .ok (.invokevirtual 53, 3) := by decide +kernel
theorem ld_L_law_823 : decode cL_law 823 = .ok (.ldc 158, 2) := by decide +kernel
theorem ld_L_law_825 : decode cL_law 825 = .ok (.invokevirtual 49, 3) := by decide +kernel
theorem ld_L_law_828 : decode cL_law 828 = .ok (.iload_n 2, 1) := by decide +kernel
theorem ld_L_law_829 : decode cL_law 829 = .ok (.invokevirtual 53, 3) := by decide +kernel
theorem ld_L_law_832 : decode cL_law 832 = .ok (.ldc 160, 2) := by decide +kernel
theorem ld_L_law_834 : decode cL_law 834 = .ok (.invokevirtual 49, 3) := by decide +kernel
theorem ld_L_law_837 : decode cL_law 837 = .ok (.invokevirtual 66, 3) := by decide +kernel
theorem ld_L_law_840 : decode cL_law 840 = .ok (.invokestatic 70, 3) := by decide +kernel
theorem ld_L_law_959 : decode cL_law 959 = .ok (.aload_n 1, 1) := by decide +kernel
theorem ld_L_law_960 : decode cL_law 960 = .ok (.new 44, 3) := by decide +kernel
theorem ld_L_law_963 : decode cL_law 963 = .ok (.dup, 1) := by decide +kernel
theorem ld_L_law_964 : decode cL_law 964 = .ok (.invokespecial 46, 3) := by decide +kernel
theorem ld_L_law_967 : decode cL_law 967 = .ok (.ldc 156, 2) := by decide +kernel
theorem ld_L_law_969 : decode cL_law 969 = .ok (.invokevirtual 49, 3) := by decide +kernel
theorem ld_L_law_972 : decode cL_law 972 = .ok (.iload 12, 2) := by decide +kernel
theorem ld_L_law_974 : decode cL_law 974 = .ok (.invokevirtual 53, 3) := by decide +kernel
theorem ld_L_law_977 : decode cL_law 977 = .ok (.ldc 158, 2) := by decide +kernel
theorem ld_L_law_979 : decode cL_law 979 = .ok (.invokevirtual 49, 3) := by decide +kernel
theorem ld_L_law_982 : decode cL_law 982 = .ok (.iload_n 2, 1) := by decide +kernel
theorem ld_L_law_983 : decode cL_law 983 = .ok (.invokevirtual 53, 3) := by decide +kernel
theorem ld_L_law_986 : decode cL_law 986 = .ok (.ldc 173, 2) := by decide +kernel
theorem ld_L_law_988 : decode cL_law 988 = .ok (.invokevirtual 49, 3) := by decide +kernel
theorem ld_L_law_991 : decode cL_law 991 = .ok (.iload 13, 2) := by decide +kernel
theorem ld_L_law_993 : decode cL_law 993 = .ok (.invokevirtual 53, 3) := by decide +kernel
theorem ld_L_law_996 : decode cL_law 996 = .ok (.ldc 175, 2) := by decide +kernel
theorem ld_L_law_998 : decode cL_law 998 = .ok (.invokevirtual 49, 3) := by decide +kernel
theorem ld_L_law_1001 : decode cL_law 1001 = .ok (.invokevirtual 66, 3) := by decide +kernel
theorem ld_L_law_1004 : decode cL_law 1004 = .ok (.invokestatic 70, 3) := by decide +kernel
theorem ld_L_law_1120 : decode cL_law 1120 = .ok (.aload_n 1, 1) := by decide +kernel
theorem ld_L_law_1121 : decode cL_law 1121 = .ok (.new 44, 3) := by decide +kernel
theorem ld_L_law_1124 : decode cL_law 1124 = .ok (.dup, 1) := by decide +kernel
theorem ld_L_law_1125 : decode cL_law 1125 = .ok (.invokespecial 46, 3) := by decide +kernel
theorem ld_L_law_1128 : decode cL_law 1128 = .ok (.ldc 177, 2) := by decide +kernel
theorem ld_L_law_1130 : decode cL_law 1130 = .ok (.invokevirtual 49, 3) := by decide +kernel
theorem ld_L_law_1133 : decode cL_law 1133 = .ok (.iload_n 2, 1) := by decide +kernel
theorem ld_L_law_1134 : decode cL_law 1134 = .ok (.invokevirtual 53, 3) := by decide +kernel
theorem ld_L_law_1137 : decode cL_law 1137 = .ok (.ldc 179, 2) := by decide +kernel
theorem ld_L_law_1139 : decode cL_law 1139 = .ok (.invokevirtual 49, 3) := by decide +kernel
theorem ld_L_law_1142 : decode cL_law 1142 = .ok (.iload 14, 2) := by decide +kernel
theorem ld_L_law_1144 : decode cL_law 1144 = .ok (.invokevirtual 53, 3) := by decide +kernel
theorem ld_L_law_1147 : decode cL_law 1147 = .ok (.ldc 181, 2) := by decide +kernel
theorem ld_L_law_1149 : decode cL_law 1149 = .ok (.invokevirtual 49, 3) := by decide +kernel
theorem ld_L_law_1152 : decode cL_law 1152 = .ok (.iload 10, 2) := by decide +kernel
theorem ld_L_law_1154 : decode cL_law 1154 = .ok (.invokevirtual 53, 3) := by decide +kernel
theorem ld_L_law_1157 : decode cL_law 1157 = .ok (.ldc 183, 2) := by decide +kernel
theorem ld_L_law_1159 : decode cL_law 1159 = .ok (.invokevirtual 49, 3) := by decide +kernel
theorem ld_L_law_1162 : decode cL_law 1162 = .ok (.iload 10, 2) := by decide +kernel
theorem ld_L_law_1164 : decode cL_law 1164 = .ok (.invokevirtual 53, 3) := by decide +kernel
theorem ld_L_law_1167 : decode cL_law 1167 = .ok (.ldc 185, 2) := by decide +kernel
theorem ld_L_law_1169 : decode cL_law 1169 = .ok (.invokevirtual 49, 3) := by decide +kernel
theorem ld_L_law_1172 : decode cL_law 1172 = .ok (.invokevirtual 66, 3) := by decide +kernel
theorem ld_L_law_1175 : decode cL_law 1175 = .ok (.invokestatic 70, 3) := by decide +kernel
theorem ld_L_law_1335 : decode cL_law 1335 = .ok (.aload_n 1, 1) := by decide +kernel
theorem ld_L_law_1336 : decode cL_law 1336 = .ok (.ldc 196, 2) := by decide +kernel
theorem ld_L_law_1338 : decode cL_law 1338 = .ok (.invokestatic 70, 3) := by decide +kernel
theorem ld_L_law_1354 : decode cL_law 1354 = .ok (.aload_n 1, 1) := by decide +kernel
theorem ld_L_law_1355 : decode cL_law 1355 = .ok (.ldc 201, 2) := by decide +kernel
theorem ld_L_law_1357 : decode cL_law 1357 = .ok (.invokestatic 70, 3) := by decide +kernel
def lwL : List (Nat × List Nat) := [(47, [103, 111, 111, 100, 32, 119, 32, 48, 59, 102, 108, 111, 97, 116, 32, 97, 32]), (56, [32, 51, 32]), (58, [32]), (60, [32, 119, 97, 110, 116, 115, 32, 119, 32]), (62, [59, 116, 111, 119, 110, 32, 116, 32, 103, 105, 118, 101, 115, 32, 119, 32, 97, 115, 107, 32]), (64, [59]), (140, [102, 108, 111, 97, 116, 32, 104, 117, 110, 116, 32, 49, 32, 48, 32, 48, 32, 48, 59, 102, 108, 111, 97, 116, 32, 102, 108, 101, 101, 32, 49, 32, 48, 32, 48, 32, 48, 59, 108, 105, 107, 101, 32, 104, 117, 110, 116, 32, 102, 108, 101, 101, 32]), (142, [59, 108, 105, 107, 101, 32, 102, 108, 101, 101, 32, 104, 117, 110, 116, 32, 45, 32]), (144, [59, 116, 111, 119, 110, 32, 97, 32, 97, 115, 107, 32, 45, 32, 51, 48, 59, 116, 111, 119, 110, 32, 98, 32, 97, 115, 107, 32, 45, 51, 48, 59]), (156, [103, 111, 111, 100, 32, 119, 32]), (158, [59, 102, 108, 111, 97, 116, 32, 97, 32]), (160, [32, 49, 32, 48, 32, 48, 32, 119, 97, 110, 116, 115, 32, 119, 32, 57, 57, 59, 116, 111, 119, 110, 32, 116, 32, 103, 105, 118, 101, 115, 32, 119, 32, 97, 115, 107, 32, 99, 111, 115, 116, 47, 109, 101, 109, 98, 101, 114, 115, 59, 116, 111, 119, 110, 32, 117, 32, 97, 115, 107, 32, 99, 111, 115, 116, 59]), (173, [32, 49, 32, 48, 32, 48, 32, 119, 97, 110, 116, 115, 32, 119, 32]), (175, [59, 116, 111, 119, 110, 32, 116, 32, 103, 105, 118, 101, 115, 32, 119, 32, 118, 111, 116, 101, 115, 32, 97, 115, 107, 32, 48, 59]), (177, [102, 108, 111, 97, 116, 32, 97, 32]), (179, [32, 48, 32, 48, 32, 48, 59, 102, 108, 111, 97, 116, 32, 98, 32]), (181, [32, 48, 32, 48, 32, 48, 59, 108, 105, 107, 101, 32, 97, 32, 98, 32, 45]), (183, [59, 108, 105, 107, 101, 32, 98, 32, 97, 32, 45]), (185, [59, 116, 111, 119, 110, 32, 116, 32, 97, 115, 107, 32, 48, 59, 116, 111, 119, 110, 32, 117, 32, 97, 115, 107, 32, 48, 59]), (196, [116, 111, 119, 110, 32, 116, 32, 97, 115, 107, 32, 48, 59, 103, 114, 111, 117, 110, 100, 32, 116, 32, 53, 32, 51, 49, 32, 49, 55, 32, 50, 49, 32, 49, 55, 32, 51, 49, 59, 103, 114, 111, 117, 110, 100, 32, 116, 32, 49, 59]), (201, [116, 111, 119, 110, 32, 116, 32, 97, 115, 107, 32, 48, 59, 103, 114, 111, 117, 110, 100, 32, 116, 32, 53, 32, 51, 49, 32, 49, 55, 32, 50, 49, 32, 49, 55, 32, 51, 49, 59])]
/-- what holds all along the law -/
def lwX (p : Program) (l : Launch) (s : State) (m : MethodId) (args : Array Value) (c : Code) (d : aD) (A : Nat → Prop) (cB : ClassId) : Prop :=
  CallFix p m c cL_law 18 s args jTB "FloatTownsLaw" ∧ jC A s s.heap ∧ va_K d.1 vwCl (aTy0 d) s ∧ va_K d.1 vwCl [(cB, .byte)] s ∧ (∀ q, s.heap.size ≤ q → A q) ∧ aStr d.2.2.2.2 A s s.heap ∧ aNx s ∧ l.flags = flags0 ∧ aGoodj 128 ∧ aGoodj 129 ∧ ∀ x ∈ lwL, lst x.1 x.2 A s
theorem rdS_congr {q av L : Nat} {f g : Nat → Int32} {A : Nat → Prop} {U : State} {H : Heap} (h : rdS q av L f A U H) (he : ∀ j, j < L → f j = g j) : rdS q av L g A U H := by
  obtain ⟨h1, h2, h3, cell, a1, a2, a3, a4, a5, a6, a7⟩ := h
  exact ⟨h1, h2, h3, cell, a1, a2, a3, a4, a5, fun j hj => (a6 j hj).trans (by show some (Value.int (f j)) = some (Value.int (g j)); rw [he j hj]), a7⟩
theorem dgs_dg (x : Nat) (hx : x < 1000) : (dgs x).map (fun z => ((z : Nat) : Int)) = dg (x : Int) := by
  unfold dgs dg
  by_cases h1 : x < 10
  · rw [if_pos h1, if_pos (by omega)]; simp
  · by_cases h2 : x < 100
    · rw [if_neg h1, if_pos h2, if_neg (by omega), if_pos (by omega)]; simp
    · rw [if_neg h1, if_neg h2, if_neg (by omega), if_neg (by omega)]
      simp only [List.map_cons, List.map_nil]
      rw [show ((48 + x / 100 : Nat) : Int) = 48 + (x : Int) / 100 by omega, show ((48 + x % 100 / 10 : Nat) : Int) = 48 + (x : Int) / 10 % 10 by omega, show ((48 + x % 100 % 10 : Nat) : Int) = 48 + (x : Int) % 10 by omega]
theorem dgs_128 {x : Nat} (hx : x < 1000) : (dgs x).all (fun z => Nat.blt z 128) = true := by
  have e : ∀ z : Nat, z < 128 → Nat.blt z 128 = true := fun z h => Nat.ble_eq_true_of_le h
  unfold dgs
  split
  · simp only [List.all_cons, List.all_nil, e (48 + x) (by omega), Bool.and_true]
  · split
    · simp only [List.all_cons, List.all_nil, e (48 + x / 10) (by omega), e (48 + x % 10) (by omega), Bool.and_true]
    · simp only [List.all_cons, List.all_nil, e (48 + x / 100) (by omega), e (48 + x % 100 / 10) (by omega), e (48 + x % 100 % 10) (by omega), Bool.and_true]
theorem dgs_l (x : Nat) : (dgs x).length ≤ 3 := (dgl_bd x).2
/-- a text told: feeds, then text -/
theorem tx_go {u : List Nat} {s : List Int} {σ : aS} {P : Int → aS → Prop} (hO : OBJ σ) (h8 : u.all (fun z => Nat.blt z 128) = true) (hl : u.length ≤ 300) (hs : u.map (fun z => ((z : Nat) : Int)) = s)
    (hp : ∀ (T : aH) (S : aSS) (bt : Int → Int) (mT : Int) (τ : aS), CSt T S τ → TPc bt mT τ → (u.length : Int) ≤ mT → Sfx bt (u.length : Int) 0 s → TXR (u.length : Int) τ P) :
    ∃ n σ1 υ v, n ≤ 20 ∧ FD (fun j => u.getD j 0) u.length n 0 σ σ1 ∧ SK σ σ1 ∧ c11_text 1 (u.length : Int) σ1 = some (0, [v], υ) ∧ SK σ1 υ ∧ P v υ := by
  obtain ⟨⟨T, S, hC⟩, bt, hT⟩ := hO
  obtain ⟨σ1, bt', M, a1, a2, a3, a4, a5, a6⟩ := FD_ok (fun j _ => lt_128 h8 j) hl ((u.length + 19) / 20) 0 σ bt (by omega) (by omega) hC hT (fun j hj => absurd hj (Nat.not_lt_zero j))
  have hsf : Sfx bt' (u.length : Int) 0 s := by
    have := Sfx_of (t := fun j => u.getD j 0) (s := s) (bt := bt') (fun i v hv => by
      rw [← hs, List.getElem?_map] at hv
      show ((u.getD i 0 : Nat) : Int) = v
      rw [List.getD_eq_getElem?_getD]
      cases e : u[i]? with
      | none => rw [e] at hv; cases hv
      | some z => rw [e] at hv; cases hv; rfl) (fun j hj => a5 j (by rw [← hs, List.length_map] at hj; exact hj))
    rw [← hs, List.length_map] at this
    rw [← hs]; exact this
  obtain ⟨υ, v, b1, b2, b3⟩ := hp T S bt' M σ1 a2 a3 a4 hsf
  exact ⟨_, σ1, υ, v, by omega, a1, a6, b1, b2, b3⟩
theorem aLok_env {sa ad : Nat → Nat} {b : Nat} {ls : Array Slot} {n : Nat} {L : aL} {env : List (Nat × Value)} (h : aLok sa ad b ls n L) (hv : ∀ q ∈ env, ∃ v, L[q.1]? = some (some v) ∧ aconc sa ad b v = q.2) : lv_has ls n env :=
  ⟨h.1, h.2.2.1, fun q hq => by obtain ⟨v, h1, h2⟩ := hv q hq; rw [h.2.2.2 _ v h1, h2]⟩
theorem aLok_of {sa ad : Nat → Nat} {b : Nat} {ls : Array Slot} {n : Nat} {L : aL} {env : List (Nat × Value)} (h : lv_has ls n env) (hL : L.length = n) (hv : ∀ (i : Nat) (v : aV), L[i]? = some (some v) → ∃ j : Nat, env[j]? = some (i, aconc sa ad b v)) : aLok sa ad b ls n L :=
  ⟨h.1, hL, h.2.1, fun i v hi => by obtain ⟨j, hj⟩ := hv i v hi; exact h.2.2 _ (List.mem_of_getElem? hj)⟩
section LWT
variable {p : Program} {l0 : Launch} {e : Env} {s : State} {mi : MethodId} {args : Array Value} {below : List Frame} {meth : Method} {cc : Code} {Q : State → Prop} {H : Heap} {locs : List Loc} {cells slots pc : Nat} {ls : Array Slot}
variable {d : aD} {ad : Nat → Nat} {σ : aS} {A : Nat → Prop} {cB : ClassId} {b : Nat}
set_option maxHeartbeats 2000000 in
theorem l_go {u : List Nat} {sx : List Int} {q av : Nat} {P : Int → aS → Prop} (X : lwX p l0 s mi args cc d A cB) (hO : OBJ σ) (h8 : u.all (fun z => Nat.blt z 128) = true) (hl : u.length ≤ 300) (hs : u.map (fun z => ((z : Nat) : Int)) = sx)
    (hp : ∀ (T : aH) (S : aSS) (bt : Int → Int) (mT : Int) (τ : aS), CSt T S τ → TPc bt mT τ → (u.length : Int) ≤ mT → Sfx bt (u.length : Int) 0 sx → TXR (u.length : Int) τ P) (hG : aGood σ) (h0 : σ.1[0]? = some (21, 11))
    (hX : ∀ U : State, U.heap = H → s.WarmedH U.vm → rdS q av u.length (fun j => nI (u.getD j 0)) (va_A (aW0 d ad σ) H.size) U H) (hP : va_P d.1 vwCl (aW0 d ad σ) H) (hD : va_D A (aW0 d ad σ)) (hS : va_S A s.heap H locs) (hsz : ls.size = 18) (hc : cells + 20 ≤ room_1.cells ∧ slots + 100 ≤ room_1.slots) (hd2 : decode cL_law pc = .ok (.invokestatic 70, 3))
    (kk : ∀ (υ : aS) (v : Int) (ad' : Nat → Nat) (H1 : Heap) (l1 : List Loc), P v υ → SK σ υ → aGood υ → (∀ k, k < σ.1.length → ad' k = ad k) → va_P d.1 vwCl (aW0 d ad' υ) H1 → va_D A (aW0 d ad' υ) → va_S A s.heap H1 l1 → ar32 v → W p l0 e room_1 s mi args below meth cc H1 l1 (cells + 20) (slots + 100) Q (F0 mi (pc + 3) ls [.int (Int32.ofInt v)])) : W p l0 e room_1 s mi args below meth cc H locs cells slots Q (F0 mi pc ls [.ref q, .ref (ad 0)]) := by
  obtain ⟨S, hC, hK, hKb, hA, hStr, hNx, hfl, hg1, hg2, -⟩ := X
  obtain ⟨n, σ1, υ, v, hn, hF, hk1, hT, hk2, hPv⟩ := tx_go hO h8 hl hs hp
  exact l_text (t := fun j => u.getD j 0) hfl hg1 hg2 S hC hK hStr hNx hA hG h0 hl (fun j _ => lt_128 h8 j) hn hF hT hk2.2 hX hP hD hS hsz hc hd2 (fun ad' H1 l1 a1 a2 a3 a4 a5 a6 a7 => kk υ v ad' H1 l1 hPv ⟨hk2.1.trans hk1.1, hk2.2.trans hk1.2⟩ a1 a3 a4 a5 a6 a7)
def u1 (n o v w k : Nat) : List Nat := [103, 111, 111, 100, 32, 119, 32, 48, 59, 102, 108, 111, 97, 116, 32, 97, 32] ++ (dgs n ++ ([32, 51, 32] ++ (dgs o ++ ([32] ++ (dgs v ++ ([32, 119, 97, 110, 116, 115, 32, 119, 32] ++ (dgs w ++ ([59, 116, 111, 119, 110, 32, 116, 32, 103, 105, 118, 101, 115, 32, 119, 32, 97, 115, 107, 32] ++ (dgs k ++ ([59]))))))))))
theorem u1_8 {n o v w k : Nat} (n9 : n < 1000) (o9 : o < 1000) (v9 : v < 1000) (w9 : w < 1000) (k9 : k < 1000) : (u1 n o v w k).all (fun z => Nat.blt z 128) = true := by
  unfold u1
  simp only [List.all_append, Bool.and_eq_true, dgs_128 n9, dgs_128 o9, dgs_128 v9, dgs_128 w9, dgs_128 k9]
  decide +kernel
theorem u1_l {n o v w k : Nat} : (u1 n o v w k).length ≤ 66 := by
  unfold u1
  have h_n := dgs_l n
  have h_o := dgs_l o
  have h_v := dgs_l v
  have h_w := dgs_l w
  have h_k := dgs_l k
  simp only [List.length_append, List.length_cons, List.length_nil]
  omega
theorem u1_s {n o v w k : Nat} (n9 : n < 1000) (o9 : o < 1000) (v9 : v < 1000) (w9 : w < 1000) (k9 : k < 1000) : (u1 n o v w k).map (fun z => ((z : Nat) : Int)) = tx1 (n : Int) (o : Int) (v : Int) (w : Int) (k : Int) := by
  unfold u1 tx1
  simp only [List.map_append, dgs_dg n n9, dgs_dg o o9, dgs_dg v v9, dgs_dg w w9, dgs_dg k k9]
  rfl
abbrev L_117 (n o v w k : Nat) : aL := [some (6, 0), some (21, 1), some (0, (n : Int)), some (0, (o : Int)), some (0, (v : Int)), some (0, ((w : Int) - o - v - k)), some (0, (k : Int)), some (0, (w : Int)), none, none, none, none, none, none, none, none, none, none]
set_option maxHeartbeats 4000000 in
theorem lt_117 {n o v w k : Nat} (X : lwX p l0 s mi args cc d A cB) (n0 : 1 ≤ n) (n1 : n ≤ 6) (o1 : o ≤ 99) (v1 : v ≤ 99) (w1 : w ≤ 99) (k1 : k ≤ 99) (hg : (0 : Int) < (w : Int) - k - o - v) (hO : OBJ σ) (h0 : σ.1[0]? = some (21, 11)) (hc : σ.2.2.1 + 40 ≤ 600000 ∧ σ.2.2.2 + 9000 ≤ 7302250) (hst : aSt s 18 d A b True 0 0 (fun _ => 0) [] ad ls H locs (L_117 n o v w k) [] σ)
    (kk : ∀ (υ : aS) (x : Int) (ad' : Nat → Nat) (ls' : Array Slot) (H1 : Heap) (l1 : List Loc), (fun (x : Int) (τ : aS) => SGR (law_p188 x 0 1 n o v ((w : Int) - o - v - k) k w τ) τ 637 [1, 0, 1, n] OBJ) x υ → SK (aexn σ 40 9000) υ → aSt s 18 d A b True 0 0 (fun _ => 0) [] ad' ls' H1 l1 (L_117 n o v w k) [(0, x)] υ → aW p l0 e room_1 s mi args below meth cc Q d b 0 0 188 ad' ls' H1 l1 [(0, x)] υ) : aW p l0 e room_1 s mi args below meth cc Q d b 0 0 117 ad ls H locs [] σ := by
  have X0 := X
  obtain ⟨S, hC, hK, hKb, hA, -, -, -, -, -, hLw⟩ := X
  obtain ⟨hP, hD, hS, hG, hlo, hgl, hgs, hcn, -, -⟩ := hst
  have hR1 : room_1.cells = 600000 := rfl
  have hR2 : room_1.slots = 7302250 := rfl
  have hl : lv_has ls 18 [(0, .ref b), (1, .ref (ad 0)), (2, .int (nI n)), (3, .int (nI o)), (4, .int (nI v)), (5, .int (Int32.ofInt ((w : Int) - o - v - k))), (6, .int (nI k)), (7, .int (nI w))] := aLok_env hlo (List.forall_mem_cons.mpr ⟨⟨_, rfl, rfl⟩, List.forall_mem_cons.mpr ⟨⟨_, rfl, rfl⟩, List.forall_mem_cons.mpr ⟨⟨_, rfl, congrArg Value.int (nI_ofInt _)⟩, List.forall_mem_cons.mpr ⟨⟨_, rfl, congrArg Value.int (nI_ofInt _)⟩, List.forall_mem_cons.mpr ⟨⟨_, rfl, congrArg Value.int (nI_ofInt _)⟩, List.forall_mem_cons.mpr ⟨⟨_, rfl, rfl⟩, List.forall_mem_cons.mpr ⟨⟨_, rfl, congrArg Value.int (nI_ofInt _)⟩, List.forall_mem_cons.mpr ⟨⟨_, rfl, congrArg Value.int (nI_ofInt _)⟩, (fun _ h => absurd h List.not_mem_nil)⟩⟩⟩⟩⟩⟩⟩⟩)
  have hO9 : OBJ (aexn σ 40 9000) := hO
  have hG9 : aGood (aexn σ 40 9000) := hG
  show W p l0 e room_1 s mi args below meth cc H locs (σ.2.2.1 - 0) (σ.2.2.2 - 0) Q (F0 mi 117 ls [])
  rw [Nat.sub_zero, Nat.sub_zero]
  refine l_new (rest := []) (d := d) (ad := ad) (σ := aexn σ 40 9000) (cB := cB) S hC hKb hA hP hD hS hl.1 ⟨by omega, by omega⟩ (by show (0 : Nat) ≤ 3; decide) ld_L_law_117 ld_L_law_120 ld_L_law_121 (fun sb H1 l1 hB hS => ?_)
  refine l_apS (rest := []) (w := [103, 111, 111, 100, 32, 119, 32, 48, 59, 102, 108, 111, 97, 116, 32, 97, 32]) S hC hKb hA hB hS hl.1 (hLw (47, [103, 111, 111, 100, 32, 119, 32, 48, 59, 102, 108, 111, 97, 116, 32, 97, 32]) (List.mem_of_getElem? (i := 0) rfl)) (by decide) (by simp only [List.length_append, List.length_cons, List.length_nil]; omega) ⟨by omega, by omega⟩ (by show (0 : Nat) ≤ 3; decide) ld_L_law_124 ld_L_law_126 (fun H1 l1 hB hS => ?_)
  refine lv_iload_n S.1 S.2.1 ld_L_law_129 rfl (lv_at hl 2 rfl) ?_
  have h_n := dgs_l n
  refine l_apI (x := n) (rest := []) S hC hKb hA hB hS hl.1 (by omega) (by simp only [List.length_append, List.length_cons, List.length_nil]; omega) ⟨by omega, by omega⟩ (by show (0 : Nat) ≤ 3; decide) ld_L_law_130 (fun H1 l1 hB hS => ?_)
  refine l_apS (rest := []) (w := [32, 51, 32]) S hC hKb hA hB hS hl.1 (hLw (56, [32, 51, 32]) (List.mem_of_getElem? (i := 1) rfl)) (by decide) (by simp only [List.length_append, List.length_cons, List.length_nil]; omega) ⟨by omega, by omega⟩ (by show (0 : Nat) ≤ 3; decide) ld_L_law_133 ld_L_law_135 (fun H1 l1 hB hS => ?_)
  refine lv_iload_n S.1 S.2.1 ld_L_law_138 rfl (lv_at hl 3 rfl) ?_
  have h_o := dgs_l o
  refine l_apI (x := o) (rest := []) S hC hKb hA hB hS hl.1 (by omega) (by simp only [List.length_append, List.length_cons, List.length_nil]; omega) ⟨by omega, by omega⟩ (by show (0 : Nat) ≤ 3; decide) ld_L_law_139 (fun H1 l1 hB hS => ?_)
  refine l_apS (rest := []) (w := [32]) S hC hKb hA hB hS hl.1 (hLw (58, [32]) (List.mem_of_getElem? (i := 2) rfl)) (by decide) (by simp only [List.length_append, List.length_cons, List.length_nil]; omega) ⟨by omega, by omega⟩ (by show (0 : Nat) ≤ 3; decide) ld_L_law_142 ld_L_law_144 (fun H1 l1 hB hS => ?_)
  refine lv_iload S.1 S.2.1 ld_L_law_147 (lv_at hl 4 rfl) ?_
  have h_v := dgs_l v
  refine l_apI (x := v) (rest := []) S hC hKb hA hB hS hl.1 (by omega) (by simp only [List.length_append, List.length_cons, List.length_nil]; omega) ⟨by omega, by omega⟩ (by show (0 : Nat) ≤ 3; decide) ld_L_law_149 (fun H1 l1 hB hS => ?_)
  refine l_apS (rest := []) (w := [32, 119, 97, 110, 116, 115, 32, 119, 32]) S hC hKb hA hB hS hl.1 (hLw (60, [32, 119, 97, 110, 116, 115, 32, 119, 32]) (List.mem_of_getElem? (i := 3) rfl)) (by decide) (by simp only [List.length_append, List.length_cons, List.length_nil]; omega) ⟨by omega, by omega⟩ (by show (0 : Nat) ≤ 3; decide) ld_L_law_152 ld_L_law_154 (fun H1 l1 hB hS => ?_)
  refine lv_iload S.1 S.2.1 ld_L_law_157 (lv_at hl 7 rfl) ?_
  have h_w := dgs_l w
  refine l_apI (x := w) (rest := []) S hC hKb hA hB hS hl.1 (by omega) (by simp only [List.length_append, List.length_cons, List.length_nil]; omega) ⟨by omega, by omega⟩ (by show (0 : Nat) ≤ 3; decide) ld_L_law_159 (fun H1 l1 hB hS => ?_)
  refine l_apS (rest := []) (w := [59, 116, 111, 119, 110, 32, 116, 32, 103, 105, 118, 101, 115, 32, 119, 32, 97, 115, 107, 32]) S hC hKb hA hB hS hl.1 (hLw (62, [59, 116, 111, 119, 110, 32, 116, 32, 103, 105, 118, 101, 115, 32, 119, 32, 97, 115, 107, 32]) (List.mem_of_getElem? (i := 4) rfl)) (by decide) (by simp only [List.length_append, List.length_cons, List.length_nil]; omega) ⟨by omega, by omega⟩ (by show (0 : Nat) ≤ 3; decide) ld_L_law_162 ld_L_law_164 (fun H1 l1 hB hS => ?_)
  refine lv_iload S.1 S.2.1 ld_L_law_167 (lv_at hl 6 rfl) ?_
  have h_k := dgs_l k
  refine l_apI (x := k) (rest := []) S hC hKb hA hB hS hl.1 (by omega) (by simp only [List.length_append, List.length_cons, List.length_nil]; omega) ⟨by omega, by omega⟩ (by show (0 : Nat) ≤ 3; decide) ld_L_law_169 (fun H1 l1 hB hS => ?_)
  refine l_apS (rest := []) (w := [59]) S hC hKb hA hB hS hl.1 (hLw (64, [59]) (List.mem_of_getElem? (i := 5) rfl)) (by decide) (by simp only [List.length_append, List.length_cons, List.length_nil]; omega) ⟨by omega, by omega⟩ (by show (0 : Nat) ≤ 3; decide) ld_L_law_172 ld_L_law_174 (fun H1 l1 hB hS => ?_)
  have eu : ((((((((((([] ++ [103, 111, 111, 100, 32, 119, 32, 48, 59, 102, 108, 111, 97, 116, 32, 97, 32]) ++ dgs n) ++ [32, 51, 32]) ++ dgs o) ++ [32]) ++ dgs v) ++ [32, 119, 97, 110, 116, 115, 32, 119, 32]) ++ dgs w) ++ [59, 116, 111, 119, 110, 32, 116, 32, 103, 105, 118, 101, 115, 32, 119, 32, 97, 115, 107, 32]) ++ dgs k) ++ [59]) = u1 n o v w k := by simp only [u1, List.nil_append, List.append_assoc]
  rw [eu] at hB
  refine l_toS (rest := []) S hC hKb hA hB hS hl.1 ⟨by omega, by omega⟩ (by show (0 : Nat) ≤ 3; decide) ld_L_law_177 (fun st x9 b9 H1 l1 hb hX hP hD hS => ?_)
  have hX9 : ∀ U : State, U.heap = H1 → s.WarmedH U.vm → rdS st x9 (u1 n o v w k).length (fun j => nI ((u1 n o v w k).getD j 0)) (va_A (aW0 d ad (aexn σ 40 9000)) H1.size) U H1 := fun U hU hW => jst_S (rdS_congr hX (fun j hj => hb j _ (by rw [List.getD_eq_getElem?_getD, List.getElem?_eq_getElem hj]; rfl))) hW.alike (fun _ _ _ => rfl) (fun _ h => h)
  refine lv_astore S.1 S.2.1 ld_L_law_180 hl (by decide) rfl (fun ls (hl : lv_has ls 18 [(8, .ref st), (0, .ref b), (1, .ref (ad 0)), (2, .int (nI n)), (3, .int (nI o)), (4, .int (nI v)), (5, .int (Int32.ofInt ((w : Int) - o - v - k))), (6, .int (nI k)), (7, .int (nI w))]) => ?_)
  refine lv_aload_n S.1 S.2.1 ld_L_law_182 rfl (lv_at hl 2 rfl) ?_
  refine lv_aload S.1 S.2.1 ld_L_law_183 (lv_at hl 0 rfl) ?_
  refine l_go (u := u1 n o v w k) (q := st) (av := x9) (P := (fun (x : Int) (τ : aS) => SGR (law_p188 x 0 1 n o v ((w : Int) - o - v - k) k w τ) τ 637 [1, 0, 1, n] OBJ)) (σ := aexn σ 40 9000) X0 hO9 (u1_8 (by omega) (by omega) (by omega) (by omega) (by omega)) (Nat.le_trans (u1_l) (by decide)) (u1_s (by omega) (by omega) (by omega) (by omega) (by omega)) (fun T Sx bt mT τ c1 c2 c3 c4 => pq1 c1 c2 c3 c4 (by omega) (by omega) (by omega) (by omega) (by omega) (by omega) (by omega) (by omega) (by omega) hg) hG9 h0 hX9 hP hD hS hl.1 ⟨by omega, by omega⟩ ld_L_law_185 (fun υ x ad2 H2 l2 hPx hK2 hG2 hag hP hD hS hx => ?_)
  have e1 : υ.1 = σ.1 := hK2.1
  have e2 : υ.2.2 = (σ.2.2.1 + 40, σ.2.2.2 + 9000) := hK2.2
  have e3 : υ.2.2.1 = σ.2.2.1 + 40 := congrArg Prod.fst e2
  have e4 : υ.2.2.2 = σ.2.2.2 + 9000 := congrArg Prod.snd e2
  have ea : ad2 0 = ad 0 := hag 0 (List.getElem?_eq_some_iff.mp h0).1
  have hk := kk υ x ad2 ls H2 l2 hPx hK2 ⟨hP, hD, hS, hG2, aLok_of hl rfl ?_, fun i v hi => by rw [e1]; exact hgl i v hi, fun v hv => ?_, ⟨Nat.zero_le _, Nat.zero_le _⟩, fun k h => absurd h (Nat.not_lt_zero k), fun k q h => by cases h⟩
  · change W p l0 e room_1 s mi args below meth cc H2 l2 (υ.2.2.1 - 0) (υ.2.2.2 - 0) Q (F0 mi 188 ls [.int (Int32.ofInt x)]) at hk
    rw [Nat.sub_zero, Nat.sub_zero, e3, e4] at hk
    exact W.widen (by omega) (by omega) hk
  · intro i v hi
    match i, hi with
    | 0, hi => cases hi; exact ⟨1, rfl⟩
    | 1, hi => cases hi; exact ⟨2, by show some (1, Value.ref (ad 0)) = some (1, Value.ref (ad2 0)); rw [ea]⟩
    | 2, hi => cases hi; exact ⟨3, congrArg (fun z => some (2, Value.int z)) (nI_ofInt _).symm⟩
    | 3, hi => cases hi; exact ⟨4, congrArg (fun z => some (3, Value.int z)) (nI_ofInt _).symm⟩
    | 4, hi => cases hi; exact ⟨5, congrArg (fun z => some (4, Value.int z)) (nI_ofInt _).symm⟩
    | 5, hi => cases hi; exact ⟨6, rfl⟩
    | 6, hi => cases hi; exact ⟨7, congrArg (fun z => some (6, Value.int z)) (nI_ofInt _).symm⟩
    | 7, hi => cases hi; exact ⟨8, congrArg (fun z => some (7, Value.int z)) (nI_ofInt _).symm⟩
    | 8, hi => cases hi
    | 9, hi => cases hi
    | 10, hi => cases hi
    | 11, hi => cases hi
    | 12, hi => cases hi
    | 13, hi => cases hi
    | 14, hi => cases hi
    | 15, hi => cases hi
    | 16, hi => cases hi
    | 17, hi => cases hi
    | k + 18, hi => cases hi
  · rcases List.mem_cons.mp hv with rfl | hv
    · exact aGv_int hx
    · cases hv
def u2 (l : Nat) : List Nat := [102, 108, 111, 97, 116, 32, 104, 117, 110, 116, 32, 49, 32, 48, 32, 48, 32, 48, 59, 102, 108, 111, 97, 116, 32, 102, 108, 101, 101, 32, 49, 32, 48, 32, 48, 32, 48, 59, 108, 105, 107, 101, 32, 104, 117, 110, 116, 32, 102, 108, 101, 101, 32] ++ (dgs l ++ ([59, 108, 105, 107, 101, 32, 102, 108, 101, 101, 32, 104, 117, 110, 116, 32, 45, 32] ++ (dgs l ++ ([59, 116, 111, 119, 110, 32, 97, 32, 97, 115, 107, 32, 45, 32, 51, 48, 59, 116, 111, 119, 110, 32, 98, 32, 97, 115, 107, 32, 45, 51, 48, 59]))))
theorem u2_8 {l : Nat} (l9 : l < 1000) : (u2 l).all (fun z => Nat.blt z 128) = true := by
  unfold u2
  simp only [List.all_append, Bool.and_eq_true, dgs_128 l9]
  decide +kernel
theorem u2_l {l : Nat} : (u2 l).length ≤ 109 := by
  unfold u2
  have h_l := dgs_l l
  simp only [List.length_append, List.length_cons, List.length_nil]
  omega
theorem u2_s {l : Nat} (l9 : l < 1000) : (u2 l).map (fun z => ((z : Nat) : Int)) = tx2 (l : Int) := by
  unfold u2 tx2
  simp only [List.map_append, dgs_dg l l9]
  rfl
abbrev L_649 (n l : Nat) : aL := [some (6, 0), some (21, 1), some (0, (n : Int)), none, none, none, none, none, none, none, some (0, (l : Int)), none, none, none, none, none, none, none]
set_option maxHeartbeats 4000000 in
theorem lt_649 {n l : Nat} (X : lwX p l0 s mi args cc d A cB) (la : 1 ≤ l) (lb : l ≤ 20) (hO : OBJ σ) (h0 : σ.1[0]? = some (21, 11)) (hc : σ.2.2.1 + 40 ≤ 600000 ∧ σ.2.2.2 + 9000 ≤ 7302250) (hst : aSt s 18 d A b True 0 0 (fun _ => 0) [] ad ls H locs (L_649 n l) [] σ)
    (kk : ∀ (υ : aS) (x : Int) (ad' : Nat → Nat) (ls' : Array Slot) (H1 : Heap) (l1 : List Loc), (fun (x : Int) (τ : aS) => SGR (law_p692 x 0 1 n l τ) τ 741 [7, 1, 0, 1, n, l] (fun υ => ∀ m, 0 ≤ m → m < 40 → SGR (law_p751 m 7 1 0 1 n l υ) υ 792 [0, 1, n, l] OBJ)) x υ → SK (aexn σ 40 9000) υ → aSt s 18 d A b True 0 0 (fun _ => 0) [] ad' ls' H1 l1 (L_649 n l) [(0, x)] υ → aW p l0 e room_1 s mi args below meth cc Q d b 0 0 692 ad' ls' H1 l1 [(0, x)] υ) : aW p l0 e room_1 s mi args below meth cc Q d b 0 0 649 ad ls H locs [] σ := by
  have X0 := X
  obtain ⟨S, hC, hK, hKb, hA, -, -, -, -, -, hLw⟩ := X
  obtain ⟨hP, hD, hS, hG, hlo, hgl, hgs, hcn, -, -⟩ := hst
  have hR1 : room_1.cells = 600000 := rfl
  have hR2 : room_1.slots = 7302250 := rfl
  have hl : lv_has ls 18 [(0, .ref b), (1, .ref (ad 0)), (2, .int (nI n)), (10, .int (nI l))] := aLok_env hlo (List.forall_mem_cons.mpr ⟨⟨_, rfl, rfl⟩, List.forall_mem_cons.mpr ⟨⟨_, rfl, rfl⟩, List.forall_mem_cons.mpr ⟨⟨_, rfl, congrArg Value.int (nI_ofInt _)⟩, List.forall_mem_cons.mpr ⟨⟨_, rfl, congrArg Value.int (nI_ofInt _)⟩, (fun _ h => absurd h List.not_mem_nil)⟩⟩⟩⟩)
  have hO9 : OBJ (aexn σ 40 9000) := hO
  have hG9 : aGood (aexn σ 40 9000) := hG
  show W p l0 e room_1 s mi args below meth cc H locs (σ.2.2.1 - 0) (σ.2.2.2 - 0) Q (F0 mi 649 ls [])
  rw [Nat.sub_zero, Nat.sub_zero]
  refine l_new (rest := []) (d := d) (ad := ad) (σ := aexn σ 40 9000) (cB := cB) S hC hKb hA hP hD hS hl.1 ⟨by omega, by omega⟩ (by show (0 : Nat) ≤ 3; decide) ld_L_law_649 ld_L_law_652 ld_L_law_653 (fun sb H1 l1 hB hS => ?_)
  refine l_apS (rest := []) (w := [102, 108, 111, 97, 116, 32, 104, 117, 110, 116, 32, 49, 32, 48, 32, 48, 32, 48, 59, 102, 108, 111, 97, 116, 32, 102, 108, 101, 101, 32, 49, 32, 48, 32, 48, 32, 48, 59, 108, 105, 107, 101, 32, 104, 117, 110, 116, 32, 102, 108, 101, 101, 32]) S hC hKb hA hB hS hl.1 (hLw (140, [102, 108, 111, 97, 116, 32, 104, 117, 110, 116, 32, 49, 32, 48, 32, 48, 32, 48, 59, 102, 108, 111, 97, 116, 32, 102, 108, 101, 101, 32, 49, 32, 48, 32, 48, 32, 48, 59, 108, 105, 107, 101, 32, 104, 117, 110, 116, 32, 102, 108, 101, 101, 32]) (List.mem_of_getElem? (i := 6) rfl)) (by decide) (by simp only [List.length_append, List.length_cons, List.length_nil]; omega) ⟨by omega, by omega⟩ (by show (0 : Nat) ≤ 3; decide) ld_L_law_656 ld_L_law_658 (fun H1 l1 hB hS => ?_)
  refine lv_iload S.1 S.2.1 ld_L_law_661 (lv_at hl 3 rfl) ?_
  have h_l := dgs_l l
  refine l_apI (x := l) (rest := []) S hC hKb hA hB hS hl.1 (by omega) (by simp only [List.length_append, List.length_cons, List.length_nil]; omega) ⟨by omega, by omega⟩ (by show (0 : Nat) ≤ 3; decide) ld_L_law_663 (fun H1 l1 hB hS => ?_)
  refine l_apS (rest := []) (w := [59, 108, 105, 107, 101, 32, 102, 108, 101, 101, 32, 104, 117, 110, 116, 32, 45, 32]) S hC hKb hA hB hS hl.1 (hLw (142, [59, 108, 105, 107, 101, 32, 102, 108, 101, 101, 32, 104, 117, 110, 116, 32, 45, 32]) (List.mem_of_getElem? (i := 7) rfl)) (by decide) (by simp only [List.length_append, List.length_cons, List.length_nil]; omega) ⟨by omega, by omega⟩ (by show (0 : Nat) ≤ 3; decide) ld_L_law_666 ld_L_law_668 (fun H1 l1 hB hS => ?_)
  refine lv_iload S.1 S.2.1 ld_L_law_671 (lv_at hl 3 rfl) ?_
  refine l_apI (x := l) (rest := []) S hC hKb hA hB hS hl.1 (by omega) (by simp only [List.length_append, List.length_cons, List.length_nil]; omega) ⟨by omega, by omega⟩ (by show (0 : Nat) ≤ 3; decide) ld_L_law_673 (fun H1 l1 hB hS => ?_)
  refine l_apS (rest := []) (w := [59, 116, 111, 119, 110, 32, 97, 32, 97, 115, 107, 32, 45, 32, 51, 48, 59, 116, 111, 119, 110, 32, 98, 32, 97, 115, 107, 32, 45, 51, 48, 59]) S hC hKb hA hB hS hl.1 (hLw (144, [59, 116, 111, 119, 110, 32, 97, 32, 97, 115, 107, 32, 45, 32, 51, 48, 59, 116, 111, 119, 110, 32, 98, 32, 97, 115, 107, 32, 45, 51, 48, 59]) (List.mem_of_getElem? (i := 8) rfl)) (by decide) (by simp only [List.length_append, List.length_cons, List.length_nil]; omega) ⟨by omega, by omega⟩ (by show (0 : Nat) ≤ 3; decide) ld_L_law_676 ld_L_law_678 (fun H1 l1 hB hS => ?_)
  have eu : ((((([] ++ [102, 108, 111, 97, 116, 32, 104, 117, 110, 116, 32, 49, 32, 48, 32, 48, 32, 48, 59, 102, 108, 111, 97, 116, 32, 102, 108, 101, 101, 32, 49, 32, 48, 32, 48, 32, 48, 59, 108, 105, 107, 101, 32, 104, 117, 110, 116, 32, 102, 108, 101, 101, 32]) ++ dgs l) ++ [59, 108, 105, 107, 101, 32, 102, 108, 101, 101, 32, 104, 117, 110, 116, 32, 45, 32]) ++ dgs l) ++ [59, 116, 111, 119, 110, 32, 97, 32, 97, 115, 107, 32, 45, 32, 51, 48, 59, 116, 111, 119, 110, 32, 98, 32, 97, 115, 107, 32, 45, 51, 48, 59]) = u2 l := by simp only [u2, List.nil_append, List.append_assoc]
  rw [eu] at hB
  refine l_toS (rest := []) S hC hKb hA hB hS hl.1 ⟨by omega, by omega⟩ (by show (0 : Nat) ≤ 3; decide) ld_L_law_681 (fun st x9 b9 H1 l1 hb hX hP hD hS => ?_)
  have hX9 : ∀ U : State, U.heap = H1 → s.WarmedH U.vm → rdS st x9 (u2 l).length (fun j => nI ((u2 l).getD j 0)) (va_A (aW0 d ad (aexn σ 40 9000)) H1.size) U H1 := fun U hU hW => jst_S (rdS_congr hX (fun j hj => hb j _ (by rw [List.getD_eq_getElem?_getD, List.getElem?_eq_getElem hj]; rfl))) hW.alike (fun _ _ _ => rfl) (fun _ h => h)
  refine lv_astore S.1 S.2.1 ld_L_law_684 hl (by decide) rfl (fun ls (hl : lv_has ls 18 [(8, .ref st), (0, .ref b), (1, .ref (ad 0)), (2, .int (nI n)), (10, .int (nI l))]) => ?_)
  refine lv_aload_n S.1 S.2.1 ld_L_law_686 rfl (lv_at hl 2 rfl) ?_
  refine lv_aload S.1 S.2.1 ld_L_law_687 (lv_at hl 0 rfl) ?_
  refine l_go (u := u2 l) (q := st) (av := x9) (P := (fun (x : Int) (τ : aS) => SGR (law_p692 x 0 1 n l τ) τ 741 [7, 1, 0, 1, n, l] (fun υ => ∀ m, 0 ≤ m → m < 40 → SGR (law_p751 m 7 1 0 1 n l υ) υ 792 [0, 1, n, l] OBJ))) (σ := aexn σ 40 9000) X0 hO9 (u2_8 (by omega)) (Nat.le_trans (u2_l) (by decide)) (u2_s (by omega)) (fun T Sx bt mT τ c1 c2 c3 c4 => pq2 c1 c2 c3 c4 (by omega) (by omega)) hG9 h0 hX9 hP hD hS hl.1 ⟨by omega, by omega⟩ ld_L_law_689 (fun υ x ad2 H2 l2 hPx hK2 hG2 hag hP hD hS hx => ?_)
  have e1 : υ.1 = σ.1 := hK2.1
  have e2 : υ.2.2 = (σ.2.2.1 + 40, σ.2.2.2 + 9000) := hK2.2
  have e3 : υ.2.2.1 = σ.2.2.1 + 40 := congrArg Prod.fst e2
  have e4 : υ.2.2.2 = σ.2.2.2 + 9000 := congrArg Prod.snd e2
  have ea : ad2 0 = ad 0 := hag 0 (List.getElem?_eq_some_iff.mp h0).1
  have hk := kk υ x ad2 ls H2 l2 hPx hK2 ⟨hP, hD, hS, hG2, aLok_of hl rfl ?_, fun i v hi => by rw [e1]; exact hgl i v hi, fun v hv => ?_, ⟨Nat.zero_le _, Nat.zero_le _⟩, fun k h => absurd h (Nat.not_lt_zero k), fun k q h => by cases h⟩
  · change W p l0 e room_1 s mi args below meth cc H2 l2 (υ.2.2.1 - 0) (υ.2.2.2 - 0) Q (F0 mi 692 ls [.int (Int32.ofInt x)]) at hk
    rw [Nat.sub_zero, Nat.sub_zero, e3, e4] at hk
    exact W.widen (by omega) (by omega) hk
  · intro i v hi
    match i, hi with
    | 0, hi => cases hi; exact ⟨1, rfl⟩
    | 1, hi => cases hi; exact ⟨2, by show some (1, Value.ref (ad 0)) = some (1, Value.ref (ad2 0)); rw [ea]⟩
    | 2, hi => cases hi; exact ⟨3, congrArg (fun z => some (2, Value.int z)) (nI_ofInt _).symm⟩
    | 3, hi => cases hi
    | 4, hi => cases hi
    | 5, hi => cases hi
    | 6, hi => cases hi
    | 7, hi => cases hi
    | 8, hi => cases hi
    | 9, hi => cases hi
    | 10, hi => cases hi; exact ⟨4, congrArg (fun z => some (10, Value.int z)) (nI_ofInt _).symm⟩
    | 11, hi => cases hi
    | 12, hi => cases hi
    | 13, hi => cases hi
    | 14, hi => cases hi
    | 15, hi => cases hi
    | 16, hi => cases hi
    | 17, hi => cases hi
    | k + 18, hi => cases hi
  · rcases List.mem_cons.mp hv with rfl | hv
    · exact aGv_int hx
    · cases hv
def u3 (c n : Nat) : List Nat := [103, 111, 111, 100, 32, 119, 32] ++ (dgs c ++ ([59, 102, 108, 111, 97, 116, 32, 97, 32] ++ (dgs n ++ ([32, 49, 32, 48, 32, 48, 32, 119, 97, 110, 116, 115, 32, 119, 32, 57, 57, 59, 116, 111, 119, 110, 32, 116, 32, 103, 105, 118, 101, 115, 32, 119, 32, 97, 115, 107, 32, 99, 111, 115, 116, 47, 109, 101, 109, 98, 101, 114, 115, 59, 116, 111, 119, 110, 32, 117, 32, 97, 115, 107, 32, 99, 111, 115, 116, 59]))))
theorem u3_8 {c n : Nat} (c9 : c < 1000) (n9 : n < 1000) : (u3 c n).all (fun z => Nat.blt z 128) = true := by
  unfold u3
  simp only [List.all_append, Bool.and_eq_true, dgs_128 c9, dgs_128 n9]
  decide +kernel
theorem u3_l {c n : Nat} : (u3 c n).length ≤ 88 := by
  unfold u3
  have h_c := dgs_l c
  have h_n := dgs_l n
  simp only [List.length_append, List.length_cons, List.length_nil]
  omega
theorem u3_s {c n : Nat} (c9 : c < 1000) (n9 : n < 1000) : (u3 c n).map (fun z => ((z : Nat) : Int)) = tx3 (c : Int) (n : Int) := by
  unfold u3 tx3
  simp only [List.map_append, dgs_dg c c9, dgs_dg n n9]
  rfl
abbrev L_805 (n l c : Nat) : aL := [some (6, 0), some (21, 1), some (0, (n : Int)), none, none, none, none, none, none, none, some (0, (l : Int)), none, some (0, (c : Int)), none, none, none, none, none]
set_option maxHeartbeats 4000000 in
theorem lt_805 {n l c : Nat} (X : lwX p l0 s mi args cc d A cB) (c1 : c ≤ 999) (n0 : 1 ≤ n) (n1 : n ≤ 6) (hO : OBJ σ) (h0 : σ.1[0]? = some (21, 11)) (hc : σ.2.2.1 + 40 ≤ 600000 ∧ σ.2.2.2 + 9000 ≤ 7302250) (hst : aSt s 18 d A b True 0 0 (fun _ => 0) [] ad ls H locs (L_805 n l c) [] σ)
    (kk : ∀ (υ : aS) (x : Int) (ad' : Nat → Nat) (ls' : Array Slot) (H1 : Heap) (l1 : List Loc), (fun (x : Int) (τ : aS) => SGR (law_p843 x 0 1 n l c τ) τ 947 [0, 1, n, l, c] OBJ) x υ → SK (aexn σ 40 9000) υ → aSt s 18 d A b True 0 0 (fun _ => 0) [] ad' ls' H1 l1 (L_805 n l c) [(0, x)] υ → aW p l0 e room_1 s mi args below meth cc Q d b 0 0 843 ad' ls' H1 l1 [(0, x)] υ) : aW p l0 e room_1 s mi args below meth cc Q d b 0 0 805 ad ls H locs [] σ := by
  have X0 := X
  obtain ⟨S, hC, hK, hKb, hA, -, -, -, -, -, hLw⟩ := X
  obtain ⟨hP, hD, hS, hG, hlo, hgl, hgs, hcn, -, -⟩ := hst
  have hR1 : room_1.cells = 600000 := rfl
  have hR2 : room_1.slots = 7302250 := rfl
  have hl : lv_has ls 18 [(0, .ref b), (1, .ref (ad 0)), (2, .int (nI n)), (10, .int (nI l)), (12, .int (nI c))] := aLok_env hlo (List.forall_mem_cons.mpr ⟨⟨_, rfl, rfl⟩, List.forall_mem_cons.mpr ⟨⟨_, rfl, rfl⟩, List.forall_mem_cons.mpr ⟨⟨_, rfl, congrArg Value.int (nI_ofInt _)⟩, List.forall_mem_cons.mpr ⟨⟨_, rfl, congrArg Value.int (nI_ofInt _)⟩, List.forall_mem_cons.mpr ⟨⟨_, rfl, congrArg Value.int (nI_ofInt _)⟩, (fun _ h => absurd h List.not_mem_nil)⟩⟩⟩⟩⟩)
  have hO9 : OBJ (aexn σ 40 9000) := hO
  have hG9 : aGood (aexn σ 40 9000) := hG
  show W p l0 e room_1 s mi args below meth cc H locs (σ.2.2.1 - 0) (σ.2.2.2 - 0) Q (F0 mi 805 ls [])
  rw [Nat.sub_zero, Nat.sub_zero]
  refine lv_aload_n S.1 S.2.1 ld_L_law_805 rfl (lv_at hl 1 rfl) ?_
  refine l_new (rest := [.ref (ad 0)]) (d := d) (ad := ad) (σ := aexn σ 40 9000) (cB := cB) S hC hKb hA hP hD hS hl.1 ⟨by omega, by omega⟩ (by show (1 : Nat) ≤ 3; decide) ld_L_law_806 ld_L_law_809 ld_L_law_810 (fun sb H1 l1 hB hS => ?_)
  refine l_apS (rest := [.ref (ad 0)]) (w := [103, 111, 111, 100, 32, 119, 32]) S hC hKb hA hB hS hl.1 (hLw (156, [103, 111, 111, 100, 32, 119, 32]) (List.mem_of_getElem? (i := 9) rfl)) (by decide) (by simp only [List.length_append, List.length_cons, List.length_nil]; omega) ⟨by omega, by omega⟩ (by show (1 : Nat) ≤ 3; decide) ld_L_law_813 ld_L_law_815 (fun H1 l1 hB hS => ?_)
  refine lv_iload S.1 S.2.1 ld_L_law_818 (lv_at hl 4 rfl) ?_
  have h_c := dgs_l c
  refine l_apI (x := c) (rest := [.ref (ad 0)]) S hC hKb hA hB hS hl.1 (by omega) (by simp only [List.length_append, List.length_cons, List.length_nil]; omega) ⟨by omega, by omega⟩ (by show (1 : Nat) ≤ 3; decide) ld_L_law_820 (fun H1 l1 hB hS => ?_)
  refine l_apS (rest := [.ref (ad 0)]) (w := [59, 102, 108, 111, 97, 116, 32, 97, 32]) S hC hKb hA hB hS hl.1 (hLw (158, [59, 102, 108, 111, 97, 116, 32, 97, 32]) (List.mem_of_getElem? (i := 10) rfl)) (by decide) (by simp only [List.length_append, List.length_cons, List.length_nil]; omega) ⟨by omega, by omega⟩ (by show (1 : Nat) ≤ 3; decide) ld_L_law_823 ld_L_law_825 (fun H1 l1 hB hS => ?_)
  refine lv_iload_n S.1 S.2.1 ld_L_law_828 rfl (lv_at hl 2 rfl) ?_
  have h_n := dgs_l n
  refine l_apI (x := n) (rest := [.ref (ad 0)]) S hC hKb hA hB hS hl.1 (by omega) (by simp only [List.length_append, List.length_cons, List.length_nil]; omega) ⟨by omega, by omega⟩ (by show (1 : Nat) ≤ 3; decide) ld_L_law_829 (fun H1 l1 hB hS => ?_)
  refine l_apS (rest := [.ref (ad 0)]) (w := [32, 49, 32, 48, 32, 48, 32, 119, 97, 110, 116, 115, 32, 119, 32, 57, 57, 59, 116, 111, 119, 110, 32, 116, 32, 103, 105, 118, 101, 115, 32, 119, 32, 97, 115, 107, 32, 99, 111, 115, 116, 47, 109, 101, 109, 98, 101, 114, 115, 59, 116, 111, 119, 110, 32, 117, 32, 97, 115, 107, 32, 99, 111, 115, 116, 59]) S hC hKb hA hB hS hl.1 (hLw (160, [32, 49, 32, 48, 32, 48, 32, 119, 97, 110, 116, 115, 32, 119, 32, 57, 57, 59, 116, 111, 119, 110, 32, 116, 32, 103, 105, 118, 101, 115, 32, 119, 32, 97, 115, 107, 32, 99, 111, 115, 116, 47, 109, 101, 109, 98, 101, 114, 115, 59, 116, 111, 119, 110, 32, 117, 32, 97, 115, 107, 32, 99, 111, 115, 116, 59]) (List.mem_of_getElem? (i := 11) rfl)) (by decide) (by simp only [List.length_append, List.length_cons, List.length_nil]; omega) ⟨by omega, by omega⟩ (by show (1 : Nat) ≤ 3; decide) ld_L_law_832 ld_L_law_834 (fun H1 l1 hB hS => ?_)
  have eu : ((((([] ++ [103, 111, 111, 100, 32, 119, 32]) ++ dgs c) ++ [59, 102, 108, 111, 97, 116, 32, 97, 32]) ++ dgs n) ++ [32, 49, 32, 48, 32, 48, 32, 119, 97, 110, 116, 115, 32, 119, 32, 57, 57, 59, 116, 111, 119, 110, 32, 116, 32, 103, 105, 118, 101, 115, 32, 119, 32, 97, 115, 107, 32, 99, 111, 115, 116, 47, 109, 101, 109, 98, 101, 114, 115, 59, 116, 111, 119, 110, 32, 117, 32, 97, 115, 107, 32, 99, 111, 115, 116, 59]) = u3 c n := by simp only [u3, List.nil_append, List.append_assoc]
  rw [eu] at hB
  refine l_toS (rest := [.ref (ad 0)]) S hC hKb hA hB hS hl.1 ⟨by omega, by omega⟩ (by show (1 : Nat) ≤ 3; decide) ld_L_law_837 (fun st x9 b9 H1 l1 hb hX hP hD hS => ?_)
  have hX9 : ∀ U : State, U.heap = H1 → s.WarmedH U.vm → rdS st x9 (u3 c n).length (fun j => nI ((u3 c n).getD j 0)) (va_A (aW0 d ad (aexn σ 40 9000)) H1.size) U H1 := fun U hU hW => jst_S (rdS_congr hX (fun j hj => hb j _ (by rw [List.getD_eq_getElem?_getD, List.getElem?_eq_getElem hj]; rfl))) hW.alike (fun _ _ _ => rfl) (fun _ h => h)
  refine l_go (u := u3 c n) (q := st) (av := x9) (P := (fun (x : Int) (τ : aS) => SGR (law_p843 x 0 1 n l c τ) τ 947 [0, 1, n, l, c] OBJ)) (σ := aexn σ 40 9000) X0 hO9 (u3_8 (by omega) (by omega)) (Nat.le_trans (u3_l) (by decide)) (u3_s (by omega) (by omega)) (fun T Sx bt mT τ c1 c2 c3 c4 => pq3 c1 c2 c3 c4 (by omega) (by omega) (by omega) (by omega)) hG9 h0 hX9 hP hD hS hl.1 ⟨by omega, by omega⟩ ld_L_law_840 (fun υ x ad2 H2 l2 hPx hK2 hG2 hag hP hD hS hx => ?_)
  have e1 : υ.1 = σ.1 := hK2.1
  have e2 : υ.2.2 = (σ.2.2.1 + 40, σ.2.2.2 + 9000) := hK2.2
  have e3 : υ.2.2.1 = σ.2.2.1 + 40 := congrArg Prod.fst e2
  have e4 : υ.2.2.2 = σ.2.2.2 + 9000 := congrArg Prod.snd e2
  have ea : ad2 0 = ad 0 := hag 0 (List.getElem?_eq_some_iff.mp h0).1
  have hk := kk υ x ad2 ls H2 l2 hPx hK2 ⟨hP, hD, hS, hG2, aLok_of hl rfl ?_, fun i v hi => by rw [e1]; exact hgl i v hi, fun v hv => ?_, ⟨Nat.zero_le _, Nat.zero_le _⟩, fun k h => absurd h (Nat.not_lt_zero k), fun k q h => by cases h⟩
  · change W p l0 e room_1 s mi args below meth cc H2 l2 (υ.2.2.1 - 0) (υ.2.2.2 - 0) Q (F0 mi 843 ls [.int (Int32.ofInt x)]) at hk
    rw [Nat.sub_zero, Nat.sub_zero, e3, e4] at hk
    exact W.widen (by omega) (by omega) hk
  · intro i v hi
    match i, hi with
    | 0, hi => cases hi; exact ⟨0, rfl⟩
    | 1, hi => cases hi; exact ⟨1, by show some (1, Value.ref (ad 0)) = some (1, Value.ref (ad2 0)); rw [ea]⟩
    | 2, hi => cases hi; exact ⟨2, congrArg (fun z => some (2, Value.int z)) (nI_ofInt _).symm⟩
    | 3, hi => cases hi
    | 4, hi => cases hi
    | 5, hi => cases hi
    | 6, hi => cases hi
    | 7, hi => cases hi
    | 8, hi => cases hi
    | 9, hi => cases hi
    | 10, hi => cases hi; exact ⟨3, congrArg (fun z => some (10, Value.int z)) (nI_ofInt _).symm⟩
    | 11, hi => cases hi
    | 12, hi => cases hi; exact ⟨4, congrArg (fun z => some (12, Value.int z)) (nI_ofInt _).symm⟩
    | 13, hi => cases hi
    | 14, hi => cases hi
    | 15, hi => cases hi
    | 16, hi => cases hi
    | 17, hi => cases hi
    | k + 18, hi => cases hi
  · rcases List.mem_cons.mp hv with rfl | hv
    · exact aGv_int hx
    · cases hv
def u4 (c n w : Nat) : List Nat := [103, 111, 111, 100, 32, 119, 32] ++ (dgs c ++ ([59, 102, 108, 111, 97, 116, 32, 97, 32] ++ (dgs n ++ ([32, 49, 32, 48, 32, 48, 32, 119, 97, 110, 116, 115, 32, 119, 32] ++ (dgs w ++ ([59, 116, 111, 119, 110, 32, 116, 32, 103, 105, 118, 101, 115, 32, 119, 32, 118, 111, 116, 101, 115, 32, 97, 115, 107, 32, 48, 59]))))))
theorem u4_8 {c n w : Nat} (c9 : c < 1000) (n9 : n < 1000) (w9 : w < 1000) : (u4 c n w).all (fun z => Nat.blt z 128) = true := by
  unfold u4
  simp only [List.all_append, Bool.and_eq_true, dgs_128 c9, dgs_128 n9, dgs_128 w9]
  decide +kernel
theorem u4_l {c n w : Nat} : (u4 c n w).length ≤ 68 := by
  unfold u4
  have h_c := dgs_l c
  have h_n := dgs_l n
  have h_w := dgs_l w
  simp only [List.length_append, List.length_cons, List.length_nil]
  omega
theorem u4_s {c n w : Nat} (c9 : c < 1000) (n9 : n < 1000) (w9 : w < 1000) : (u4 c n w).map (fun z => ((z : Nat) : Int)) = tx4 (c : Int) (n : Int) (w : Int) := by
  unfold u4 tx4
  simp only [List.map_append, dgs_dg c c9, dgs_dg n n9, dgs_dg w w9]
  rfl
abbrev L_959 (n l c w : Nat) : aL := [some (6, 0), some (21, 1), some (0, (n : Int)), none, none, none, none, none, none, none, some (0, (l : Int)), none, some (0, (c : Int)), some (0, (w : Int)), none, none, none, none]
set_option maxHeartbeats 4000000 in
theorem lt_959 {n l c w : Nat} (X : lwX p l0 s mi args cc d A cB) (c1 : c ≤ 999) (n0 : 1 ≤ n) (n1 : n ≤ 6) (w1 : w ≤ 99) (hO : OBJ σ) (h0 : σ.1[0]? = some (21, 11)) (hc : σ.2.2.1 + 40 ≤ 600000 ∧ σ.2.2.2 + 9000 ≤ 7302250) (hst : aSt s 18 d A b True 0 0 (fun _ => 0) [] ad ls H locs (L_959 n l c w) [] σ)
    (kk : ∀ (υ : aS) (x : Int) (ad' : Nat → Nat) (ls' : Array Slot) (H1 : Heap) (l1 : List Loc), (fun (x : Int) (τ : aS) => SGR (law_p1007 x 0 1 n l c w τ) τ 1107 [1, 0, 1, n, l] OBJ) x υ → SK (aexn σ 40 9000) υ → aSt s 18 d A b True 0 0 (fun _ => 0) [] ad' ls' H1 l1 (L_959 n l c w) [(0, x)] υ → aW p l0 e room_1 s mi args below meth cc Q d b 0 0 1007 ad' ls' H1 l1 [(0, x)] υ) : aW p l0 e room_1 s mi args below meth cc Q d b 0 0 959 ad ls H locs [] σ := by
  have X0 := X
  obtain ⟨S, hC, hK, hKb, hA, -, -, -, -, -, hLw⟩ := X
  obtain ⟨hP, hD, hS, hG, hlo, hgl, hgs, hcn, -, -⟩ := hst
  have hR1 : room_1.cells = 600000 := rfl
  have hR2 : room_1.slots = 7302250 := rfl
  have hl : lv_has ls 18 [(0, .ref b), (1, .ref (ad 0)), (2, .int (nI n)), (10, .int (nI l)), (12, .int (nI c)), (13, .int (nI w))] := aLok_env hlo (List.forall_mem_cons.mpr ⟨⟨_, rfl, rfl⟩, List.forall_mem_cons.mpr ⟨⟨_, rfl, rfl⟩, List.forall_mem_cons.mpr ⟨⟨_, rfl, congrArg Value.int (nI_ofInt _)⟩, List.forall_mem_cons.mpr ⟨⟨_, rfl, congrArg Value.int (nI_ofInt _)⟩, List.forall_mem_cons.mpr ⟨⟨_, rfl, congrArg Value.int (nI_ofInt _)⟩, List.forall_mem_cons.mpr ⟨⟨_, rfl, congrArg Value.int (nI_ofInt _)⟩, (fun _ h => absurd h List.not_mem_nil)⟩⟩⟩⟩⟩⟩)
  have hO9 : OBJ (aexn σ 40 9000) := hO
  have hG9 : aGood (aexn σ 40 9000) := hG
  show W p l0 e room_1 s mi args below meth cc H locs (σ.2.2.1 - 0) (σ.2.2.2 - 0) Q (F0 mi 959 ls [])
  rw [Nat.sub_zero, Nat.sub_zero]
  refine lv_aload_n S.1 S.2.1 ld_L_law_959 rfl (lv_at hl 1 rfl) ?_
  refine l_new (rest := [.ref (ad 0)]) (d := d) (ad := ad) (σ := aexn σ 40 9000) (cB := cB) S hC hKb hA hP hD hS hl.1 ⟨by omega, by omega⟩ (by show (1 : Nat) ≤ 3; decide) ld_L_law_960 ld_L_law_963 ld_L_law_964 (fun sb H1 l1 hB hS => ?_)
  refine l_apS (rest := [.ref (ad 0)]) (w := [103, 111, 111, 100, 32, 119, 32]) S hC hKb hA hB hS hl.1 (hLw (156, [103, 111, 111, 100, 32, 119, 32]) (List.mem_of_getElem? (i := 9) rfl)) (by decide) (by simp only [List.length_append, List.length_cons, List.length_nil]; omega) ⟨by omega, by omega⟩ (by show (1 : Nat) ≤ 3; decide) ld_L_law_967 ld_L_law_969 (fun H1 l1 hB hS => ?_)
  refine lv_iload S.1 S.2.1 ld_L_law_972 (lv_at hl 4 rfl) ?_
  have h_c := dgs_l c
  refine l_apI (x := c) (rest := [.ref (ad 0)]) S hC hKb hA hB hS hl.1 (by omega) (by simp only [List.length_append, List.length_cons, List.length_nil]; omega) ⟨by omega, by omega⟩ (by show (1 : Nat) ≤ 3; decide) ld_L_law_974 (fun H1 l1 hB hS => ?_)
  refine l_apS (rest := [.ref (ad 0)]) (w := [59, 102, 108, 111, 97, 116, 32, 97, 32]) S hC hKb hA hB hS hl.1 (hLw (158, [59, 102, 108, 111, 97, 116, 32, 97, 32]) (List.mem_of_getElem? (i := 10) rfl)) (by decide) (by simp only [List.length_append, List.length_cons, List.length_nil]; omega) ⟨by omega, by omega⟩ (by show (1 : Nat) ≤ 3; decide) ld_L_law_977 ld_L_law_979 (fun H1 l1 hB hS => ?_)
  refine lv_iload_n S.1 S.2.1 ld_L_law_982 rfl (lv_at hl 2 rfl) ?_
  have h_n := dgs_l n
  refine l_apI (x := n) (rest := [.ref (ad 0)]) S hC hKb hA hB hS hl.1 (by omega) (by simp only [List.length_append, List.length_cons, List.length_nil]; omega) ⟨by omega, by omega⟩ (by show (1 : Nat) ≤ 3; decide) ld_L_law_983 (fun H1 l1 hB hS => ?_)
  refine l_apS (rest := [.ref (ad 0)]) (w := [32, 49, 32, 48, 32, 48, 32, 119, 97, 110, 116, 115, 32, 119, 32]) S hC hKb hA hB hS hl.1 (hLw (173, [32, 49, 32, 48, 32, 48, 32, 119, 97, 110, 116, 115, 32, 119, 32]) (List.mem_of_getElem? (i := 12) rfl)) (by decide) (by simp only [List.length_append, List.length_cons, List.length_nil]; omega) ⟨by omega, by omega⟩ (by show (1 : Nat) ≤ 3; decide) ld_L_law_986 ld_L_law_988 (fun H1 l1 hB hS => ?_)
  refine lv_iload S.1 S.2.1 ld_L_law_991 (lv_at hl 5 rfl) ?_
  have h_w := dgs_l w
  refine l_apI (x := w) (rest := [.ref (ad 0)]) S hC hKb hA hB hS hl.1 (by omega) (by simp only [List.length_append, List.length_cons, List.length_nil]; omega) ⟨by omega, by omega⟩ (by show (1 : Nat) ≤ 3; decide) ld_L_law_993 (fun H1 l1 hB hS => ?_)
  refine l_apS (rest := [.ref (ad 0)]) (w := [59, 116, 111, 119, 110, 32, 116, 32, 103, 105, 118, 101, 115, 32, 119, 32, 118, 111, 116, 101, 115, 32, 97, 115, 107, 32, 48, 59]) S hC hKb hA hB hS hl.1 (hLw (175, [59, 116, 111, 119, 110, 32, 116, 32, 103, 105, 118, 101, 115, 32, 119, 32, 118, 111, 116, 101, 115, 32, 97, 115, 107, 32, 48, 59]) (List.mem_of_getElem? (i := 13) rfl)) (by decide) (by simp only [List.length_append, List.length_cons, List.length_nil]; omega) ⟨by omega, by omega⟩ (by show (1 : Nat) ≤ 3; decide) ld_L_law_996 ld_L_law_998 (fun H1 l1 hB hS => ?_)
  have eu : ((((((([] ++ [103, 111, 111, 100, 32, 119, 32]) ++ dgs c) ++ [59, 102, 108, 111, 97, 116, 32, 97, 32]) ++ dgs n) ++ [32, 49, 32, 48, 32, 48, 32, 119, 97, 110, 116, 115, 32, 119, 32]) ++ dgs w) ++ [59, 116, 111, 119, 110, 32, 116, 32, 103, 105, 118, 101, 115, 32, 119, 32, 118, 111, 116, 101, 115, 32, 97, 115, 107, 32, 48, 59]) = u4 c n w := by simp only [u4, List.nil_append, List.append_assoc]
  rw [eu] at hB
  refine l_toS (rest := [.ref (ad 0)]) S hC hKb hA hB hS hl.1 ⟨by omega, by omega⟩ (by show (1 : Nat) ≤ 3; decide) ld_L_law_1001 (fun st x9 b9 H1 l1 hb hX hP hD hS => ?_)
  have hX9 : ∀ U : State, U.heap = H1 → s.WarmedH U.vm → rdS st x9 (u4 c n w).length (fun j => nI ((u4 c n w).getD j 0)) (va_A (aW0 d ad (aexn σ 40 9000)) H1.size) U H1 := fun U hU hW => jst_S (rdS_congr hX (fun j hj => hb j _ (by rw [List.getD_eq_getElem?_getD, List.getElem?_eq_getElem hj]; rfl))) hW.alike (fun _ _ _ => rfl) (fun _ h => h)
  refine l_go (u := u4 c n w) (q := st) (av := x9) (P := (fun (x : Int) (τ : aS) => SGR (law_p1007 x 0 1 n l c w τ) τ 1107 [1, 0, 1, n, l] OBJ)) (σ := aexn σ 40 9000) X0 hO9 (u4_8 (by omega) (by omega) (by omega)) (Nat.le_trans (u4_l) (by decide)) (u4_s (by omega) (by omega) (by omega)) (fun T Sx bt mT τ c1 c2 c3 c4 => pq4 c1 c2 c3 c4 (by omega) (by omega) (by omega) (by omega) (by omega) (by omega)) hG9 h0 hX9 hP hD hS hl.1 ⟨by omega, by omega⟩ ld_L_law_1004 (fun υ x ad2 H2 l2 hPx hK2 hG2 hag hP hD hS hx => ?_)
  have e1 : υ.1 = σ.1 := hK2.1
  have e2 : υ.2.2 = (σ.2.2.1 + 40, σ.2.2.2 + 9000) := hK2.2
  have e3 : υ.2.2.1 = σ.2.2.1 + 40 := congrArg Prod.fst e2
  have e4 : υ.2.2.2 = σ.2.2.2 + 9000 := congrArg Prod.snd e2
  have ea : ad2 0 = ad 0 := hag 0 (List.getElem?_eq_some_iff.mp h0).1
  have hk := kk υ x ad2 ls H2 l2 hPx hK2 ⟨hP, hD, hS, hG2, aLok_of hl rfl ?_, fun i v hi => by rw [e1]; exact hgl i v hi, fun v hv => ?_, ⟨Nat.zero_le _, Nat.zero_le _⟩, fun k h => absurd h (Nat.not_lt_zero k), fun k q h => by cases h⟩
  · change W p l0 e room_1 s mi args below meth cc H2 l2 (υ.2.2.1 - 0) (υ.2.2.2 - 0) Q (F0 mi 1007 ls [.int (Int32.ofInt x)]) at hk
    rw [Nat.sub_zero, Nat.sub_zero, e3, e4] at hk
    exact W.widen (by omega) (by omega) hk
  · intro i v hi
    match i, hi with
    | 0, hi => cases hi; exact ⟨0, rfl⟩
    | 1, hi => cases hi; exact ⟨1, by show some (1, Value.ref (ad 0)) = some (1, Value.ref (ad2 0)); rw [ea]⟩
    | 2, hi => cases hi; exact ⟨2, congrArg (fun z => some (2, Value.int z)) (nI_ofInt _).symm⟩
    | 3, hi => cases hi
    | 4, hi => cases hi
    | 5, hi => cases hi
    | 6, hi => cases hi
    | 7, hi => cases hi
    | 8, hi => cases hi
    | 9, hi => cases hi
    | 10, hi => cases hi; exact ⟨3, congrArg (fun z => some (10, Value.int z)) (nI_ofInt _).symm⟩
    | 11, hi => cases hi
    | 12, hi => cases hi; exact ⟨4, congrArg (fun z => some (12, Value.int z)) (nI_ofInt _).symm⟩
    | 13, hi => cases hi; exact ⟨5, congrArg (fun z => some (13, Value.int z)) (nI_ofInt _).symm⟩
    | 14, hi => cases hi
    | 15, hi => cases hi
    | 16, hi => cases hi
    | 17, hi => cases hi
    | k + 18, hi => cases hi
  · rcases List.mem_cons.mp hv with rfl | hv
    · exact aGv_int hx
    · cases hv
def u5 (n m l : Nat) : List Nat := [102, 108, 111, 97, 116, 32, 97, 32] ++ (dgs n ++ ([32, 48, 32, 48, 32, 48, 59, 102, 108, 111, 97, 116, 32, 98, 32] ++ (dgs m ++ ([32, 48, 32, 48, 32, 48, 59, 108, 105, 107, 101, 32, 97, 32, 98, 32, 45] ++ (dgs l ++ ([59, 108, 105, 107, 101, 32, 98, 32, 97, 32, 45] ++ (dgs l ++ ([59, 116, 111, 119, 110, 32, 116, 32, 97, 115, 107, 32, 48, 59, 116, 111, 119, 110, 32, 117, 32, 97, 115, 107, 32, 48, 59]))))))))
theorem u5_8 {n m l : Nat} (n9 : n < 1000) (m9 : m < 1000) (l9 : l < 1000) : (u5 n m l).all (fun z => Nat.blt z 128) = true := by
  unfold u5
  simp only [List.all_append, Bool.and_eq_true, dgs_128 n9, dgs_128 m9, dgs_128 l9]
  decide +kernel
theorem u5_l {n m l : Nat} : (u5 n m l).length ≤ 90 := by
  unfold u5
  have h_n := dgs_l n
  have h_m := dgs_l m
  have h_l := dgs_l l
  simp only [List.length_append, List.length_cons, List.length_nil]
  omega
theorem u5_s {n m l : Nat} (n9 : n < 1000) (m9 : m < 1000) (l9 : l < 1000) : (u5 n m l).map (fun z => ((z : Nat) : Int)) = tx5 (n : Int) (m : Int) (l : Int) := by
  unfold u5 tx5
  simp only [List.map_append, dgs_dg n n9, dgs_dg m m9, dgs_dg l l9]
  rfl
abbrev L_1120 (n l m : Nat) : aL := [none, some (21, 1), some (0, (n : Int)), none, none, none, none, none, none, none, some (0, (l : Int)), none, none, none, some (0, (m : Int)), none, none, none]
set_option maxHeartbeats 4000000 in
theorem lt_1120 {n l m : Nat} (X : lwX p l0 s mi args cc d A cB) (n0 : 1 ≤ n) (n1 : n ≤ 6) (m0 : 1 ≤ m) (m1 : m ≤ 6) (la : 1 ≤ l) (lb : l ≤ 20) (hO : OBJ σ) (h0 : σ.1[0]? = some (21, 11)) (hc : σ.2.2.1 + 40 ≤ 600000 ∧ σ.2.2.2 + 9000 ≤ 7302250) (hst : aSt s 18 d A b True 0 0 (fun _ => 0) [] ad ls H locs (L_1120 n l m) [] σ)
    (kk : ∀ (υ : aS) (x : Int) (ad' : Nat → Nat) (ls' : Array Slot) (H1 : Heap) (l1 : List Loc), (fun (x : Int) (τ : aS) => SGR (law_p1178 x 1 n l m τ) τ 1336 [1] OBJ) x υ → SK (aexn σ 40 9000) υ → aSt s 18 d A b True 0 0 (fun _ => 0) [] ad' ls' H1 l1 (L_1120 n l m) [(0, x)] υ → aW p l0 e room_1 s mi args below meth cc Q d b 0 0 1178 ad' ls' H1 l1 [(0, x)] υ) : aW p l0 e room_1 s mi args below meth cc Q d b 0 0 1120 ad ls H locs [] σ := by
  have X0 := X
  obtain ⟨S, hC, hK, hKb, hA, -, -, -, -, -, hLw⟩ := X
  obtain ⟨hP, hD, hS, hG, hlo, hgl, hgs, hcn, -, -⟩ := hst
  have hR1 : room_1.cells = 600000 := rfl
  have hR2 : room_1.slots = 7302250 := rfl
  have hl : lv_has ls 18 [(1, .ref (ad 0)), (2, .int (nI n)), (10, .int (nI l)), (14, .int (nI m))] := aLok_env hlo (List.forall_mem_cons.mpr ⟨⟨_, rfl, rfl⟩, List.forall_mem_cons.mpr ⟨⟨_, rfl, congrArg Value.int (nI_ofInt _)⟩, List.forall_mem_cons.mpr ⟨⟨_, rfl, congrArg Value.int (nI_ofInt _)⟩, List.forall_mem_cons.mpr ⟨⟨_, rfl, congrArg Value.int (nI_ofInt _)⟩, (fun _ h => absurd h List.not_mem_nil)⟩⟩⟩⟩)
  have hO9 : OBJ (aexn σ 40 9000) := hO
  have hG9 : aGood (aexn σ 40 9000) := hG
  show W p l0 e room_1 s mi args below meth cc H locs (σ.2.2.1 - 0) (σ.2.2.2 - 0) Q (F0 mi 1120 ls [])
  rw [Nat.sub_zero, Nat.sub_zero]
  refine lv_aload_n S.1 S.2.1 ld_L_law_1120 rfl (lv_at hl 0 rfl) ?_
  refine l_new (rest := [.ref (ad 0)]) (d := d) (ad := ad) (σ := aexn σ 40 9000) (cB := cB) S hC hKb hA hP hD hS hl.1 ⟨by omega, by omega⟩ (by show (1 : Nat) ≤ 3; decide) ld_L_law_1121 ld_L_law_1124 ld_L_law_1125 (fun sb H1 l1 hB hS => ?_)
  refine l_apS (rest := [.ref (ad 0)]) (w := [102, 108, 111, 97, 116, 32, 97, 32]) S hC hKb hA hB hS hl.1 (hLw (177, [102, 108, 111, 97, 116, 32, 97, 32]) (List.mem_of_getElem? (i := 14) rfl)) (by decide) (by simp only [List.length_append, List.length_cons, List.length_nil]; omega) ⟨by omega, by omega⟩ (by show (1 : Nat) ≤ 3; decide) ld_L_law_1128 ld_L_law_1130 (fun H1 l1 hB hS => ?_)
  refine lv_iload_n S.1 S.2.1 ld_L_law_1133 rfl (lv_at hl 1 rfl) ?_
  have h_n := dgs_l n
  refine l_apI (x := n) (rest := [.ref (ad 0)]) S hC hKb hA hB hS hl.1 (by omega) (by simp only [List.length_append, List.length_cons, List.length_nil]; omega) ⟨by omega, by omega⟩ (by show (1 : Nat) ≤ 3; decide) ld_L_law_1134 (fun H1 l1 hB hS => ?_)
  refine l_apS (rest := [.ref (ad 0)]) (w := [32, 48, 32, 48, 32, 48, 59, 102, 108, 111, 97, 116, 32, 98, 32]) S hC hKb hA hB hS hl.1 (hLw (179, [32, 48, 32, 48, 32, 48, 59, 102, 108, 111, 97, 116, 32, 98, 32]) (List.mem_of_getElem? (i := 15) rfl)) (by decide) (by simp only [List.length_append, List.length_cons, List.length_nil]; omega) ⟨by omega, by omega⟩ (by show (1 : Nat) ≤ 3; decide) ld_L_law_1137 ld_L_law_1139 (fun H1 l1 hB hS => ?_)
  refine lv_iload S.1 S.2.1 ld_L_law_1142 (lv_at hl 3 rfl) ?_
  have h_m := dgs_l m
  refine l_apI (x := m) (rest := [.ref (ad 0)]) S hC hKb hA hB hS hl.1 (by omega) (by simp only [List.length_append, List.length_cons, List.length_nil]; omega) ⟨by omega, by omega⟩ (by show (1 : Nat) ≤ 3; decide) ld_L_law_1144 (fun H1 l1 hB hS => ?_)
  refine l_apS (rest := [.ref (ad 0)]) (w := [32, 48, 32, 48, 32, 48, 59, 108, 105, 107, 101, 32, 97, 32, 98, 32, 45]) S hC hKb hA hB hS hl.1 (hLw (181, [32, 48, 32, 48, 32, 48, 59, 108, 105, 107, 101, 32, 97, 32, 98, 32, 45]) (List.mem_of_getElem? (i := 16) rfl)) (by decide) (by simp only [List.length_append, List.length_cons, List.length_nil]; omega) ⟨by omega, by omega⟩ (by show (1 : Nat) ≤ 3; decide) ld_L_law_1147 ld_L_law_1149 (fun H1 l1 hB hS => ?_)
  refine lv_iload S.1 S.2.1 ld_L_law_1152 (lv_at hl 2 rfl) ?_
  have h_l := dgs_l l
  refine l_apI (x := l) (rest := [.ref (ad 0)]) S hC hKb hA hB hS hl.1 (by omega) (by simp only [List.length_append, List.length_cons, List.length_nil]; omega) ⟨by omega, by omega⟩ (by show (1 : Nat) ≤ 3; decide) ld_L_law_1154 (fun H1 l1 hB hS => ?_)
  refine l_apS (rest := [.ref (ad 0)]) (w := [59, 108, 105, 107, 101, 32, 98, 32, 97, 32, 45]) S hC hKb hA hB hS hl.1 (hLw (183, [59, 108, 105, 107, 101, 32, 98, 32, 97, 32, 45]) (List.mem_of_getElem? (i := 17) rfl)) (by decide) (by simp only [List.length_append, List.length_cons, List.length_nil]; omega) ⟨by omega, by omega⟩ (by show (1 : Nat) ≤ 3; decide) ld_L_law_1157 ld_L_law_1159 (fun H1 l1 hB hS => ?_)
  refine lv_iload S.1 S.2.1 ld_L_law_1162 (lv_at hl 2 rfl) ?_
  refine l_apI (x := l) (rest := [.ref (ad 0)]) S hC hKb hA hB hS hl.1 (by omega) (by simp only [List.length_append, List.length_cons, List.length_nil]; omega) ⟨by omega, by omega⟩ (by show (1 : Nat) ≤ 3; decide) ld_L_law_1164 (fun H1 l1 hB hS => ?_)
  refine l_apS (rest := [.ref (ad 0)]) (w := [59, 116, 111, 119, 110, 32, 116, 32, 97, 115, 107, 32, 48, 59, 116, 111, 119, 110, 32, 117, 32, 97, 115, 107, 32, 48, 59]) S hC hKb hA hB hS hl.1 (hLw (185, [59, 116, 111, 119, 110, 32, 116, 32, 97, 115, 107, 32, 48, 59, 116, 111, 119, 110, 32, 117, 32, 97, 115, 107, 32, 48, 59]) (List.mem_of_getElem? (i := 18) rfl)) (by decide) (by simp only [List.length_append, List.length_cons, List.length_nil]; omega) ⟨by omega, by omega⟩ (by show (1 : Nat) ≤ 3; decide) ld_L_law_1167 ld_L_law_1169 (fun H1 l1 hB hS => ?_)
  have eu : ((((((((([] ++ [102, 108, 111, 97, 116, 32, 97, 32]) ++ dgs n) ++ [32, 48, 32, 48, 32, 48, 59, 102, 108, 111, 97, 116, 32, 98, 32]) ++ dgs m) ++ [32, 48, 32, 48, 32, 48, 59, 108, 105, 107, 101, 32, 97, 32, 98, 32, 45]) ++ dgs l) ++ [59, 108, 105, 107, 101, 32, 98, 32, 97, 32, 45]) ++ dgs l) ++ [59, 116, 111, 119, 110, 32, 116, 32, 97, 115, 107, 32, 48, 59, 116, 111, 119, 110, 32, 117, 32, 97, 115, 107, 32, 48, 59]) = u5 n m l := by simp only [u5, List.nil_append, List.append_assoc]
  rw [eu] at hB
  refine l_toS (rest := [.ref (ad 0)]) S hC hKb hA hB hS hl.1 ⟨by omega, by omega⟩ (by show (1 : Nat) ≤ 3; decide) ld_L_law_1172 (fun st x9 b9 H1 l1 hb hX hP hD hS => ?_)
  have hX9 : ∀ U : State, U.heap = H1 → s.WarmedH U.vm → rdS st x9 (u5 n m l).length (fun j => nI ((u5 n m l).getD j 0)) (va_A (aW0 d ad (aexn σ 40 9000)) H1.size) U H1 := fun U hU hW => jst_S (rdS_congr hX (fun j hj => hb j _ (by rw [List.getD_eq_getElem?_getD, List.getElem?_eq_getElem hj]; rfl))) hW.alike (fun _ _ _ => rfl) (fun _ h => h)
  refine l_go (u := u5 n m l) (q := st) (av := x9) (P := (fun (x : Int) (τ : aS) => SGR (law_p1178 x 1 n l m τ) τ 1336 [1] OBJ)) (σ := aexn σ 40 9000) X0 hO9 (u5_8 (by omega) (by omega) (by omega)) (Nat.le_trans (u5_l) (by decide)) (u5_s (by omega) (by omega) (by omega)) (fun T Sx bt mT τ c1 c2 c3 c4 => pq5 c1 c2 c3 c4 (by omega) (by omega) (by omega) (by omega) (by omega) (by omega)) hG9 h0 hX9 hP hD hS hl.1 ⟨by omega, by omega⟩ ld_L_law_1175 (fun υ x ad2 H2 l2 hPx hK2 hG2 hag hP hD hS hx => ?_)
  have e1 : υ.1 = σ.1 := hK2.1
  have e2 : υ.2.2 = (σ.2.2.1 + 40, σ.2.2.2 + 9000) := hK2.2
  have e3 : υ.2.2.1 = σ.2.2.1 + 40 := congrArg Prod.fst e2
  have e4 : υ.2.2.2 = σ.2.2.2 + 9000 := congrArg Prod.snd e2
  have ea : ad2 0 = ad 0 := hag 0 (List.getElem?_eq_some_iff.mp h0).1
  have hk := kk υ x ad2 ls H2 l2 hPx hK2 ⟨hP, hD, hS, hG2, aLok_of hl rfl ?_, fun i v hi => by rw [e1]; exact hgl i v hi, fun v hv => ?_, ⟨Nat.zero_le _, Nat.zero_le _⟩, fun k h => absurd h (Nat.not_lt_zero k), fun k q h => by cases h⟩
  · change W p l0 e room_1 s mi args below meth cc H2 l2 (υ.2.2.1 - 0) (υ.2.2.2 - 0) Q (F0 mi 1178 ls [.int (Int32.ofInt x)]) at hk
    rw [Nat.sub_zero, Nat.sub_zero, e3, e4] at hk
    exact W.widen (by omega) (by omega) hk
  · intro i v hi
    match i, hi with
    | 0, hi => cases hi
    | 1, hi => cases hi; exact ⟨0, by show some (1, Value.ref (ad 0)) = some (1, Value.ref (ad2 0)); rw [ea]⟩
    | 2, hi => cases hi; exact ⟨1, congrArg (fun z => some (2, Value.int z)) (nI_ofInt _).symm⟩
    | 3, hi => cases hi
    | 4, hi => cases hi
    | 5, hi => cases hi
    | 6, hi => cases hi
    | 7, hi => cases hi
    | 8, hi => cases hi
    | 9, hi => cases hi
    | 10, hi => cases hi; exact ⟨2, congrArg (fun z => some (10, Value.int z)) (nI_ofInt _).symm⟩
    | 11, hi => cases hi
    | 12, hi => cases hi
    | 13, hi => cases hi
    | 14, hi => cases hi; exact ⟨3, congrArg (fun z => some (14, Value.int z)) (nI_ofInt _).symm⟩
    | 15, hi => cases hi
    | 16, hi => cases hi
    | 17, hi => cases hi
    | k + 18, hi => cases hi
  · rcases List.mem_cons.mp hv with rfl | hv
    · exact aGv_int hx
    · cases hv
def u6 : List Nat := [116, 111, 119, 110, 32, 116, 32, 97, 115, 107, 32, 48, 59, 103, 114, 111, 117, 110, 100, 32, 116, 32, 53, 32, 51, 49, 32, 49, 55, 32, 50, 49, 32, 49, 55, 32, 51, 49, 59, 103, 114, 111, 117, 110, 100, 32, 116, 32, 49, 59]
theorem u6_8  : u6.all (fun z => Nat.blt z 128) = true := by
  unfold u6
  simp only [List.all_append, Bool.and_eq_true]
  decide
theorem u6_l : u6.length ≤ 50 := by
  unfold u6
  simp only [List.length_append, List.length_cons, List.length_nil]
  omega
theorem u6_s  : u6.map (fun z => ((z : Nat) : Int)) = tx6 := by
  unfold u6 tx6
  simp only [List.map_append]
  rfl
abbrev L_1335 : aL := [none, some (21, 1), none, none, none, none, none, none, none, none, none, none, none, none, none, none, none, none]
set_option maxHeartbeats 4000000 in
theorem lt_1335 (X : lwX p l0 s mi args cc d A cB)  (hO : OBJ σ) (h0 : σ.1[0]? = some (21, 11)) (hc : σ.2.2.1 + 40 ≤ 600000 ∧ σ.2.2.2 + 9000 ≤ 7302250) (hst : aSt s 18 d A b True 0 0 (fun _ => 0) [] ad ls H locs L_1335 [] σ)
    (kk : ∀ (υ : aS) (x : Int) (ad' : Nat → Nat) (ls' : Array Slot) (H1 : Heap) (l1 : List Loc), (fun (x : Int) (τ : aS) => SGR (law_p1341 x 1 τ) τ 1355 [1] OBJ) x υ → SK (aexn σ 40 9000) υ → aSt s 18 d A b True 0 0 (fun _ => 0) [] ad' ls' H1 l1 L_1335 [(0, x)] υ → aW p l0 e room_1 s mi args below meth cc Q d b 0 0 1341 ad' ls' H1 l1 [(0, x)] υ) : aW p l0 e room_1 s mi args below meth cc Q d b 0 0 1335 ad ls H locs [] σ := by
  have X0 := X
  obtain ⟨S, hC, hK, hKb, hA, -, -, -, -, -, hLw⟩ := X
  obtain ⟨hP, hD, hS, hG, hlo, hgl, hgs, hcn, -, -⟩ := hst
  have hR1 : room_1.cells = 600000 := rfl
  have hR2 : room_1.slots = 7302250 := rfl
  have hl : lv_has ls 18 [(1, .ref (ad 0))] := aLok_env hlo (List.forall_mem_cons.mpr ⟨⟨_, rfl, rfl⟩, (fun _ h => absurd h List.not_mem_nil)⟩)
  have hO9 : OBJ (aexn σ 40 9000) := hO
  have hG9 : aGood (aexn σ 40 9000) := hG
  show W p l0 e room_1 s mi args below meth cc H locs (σ.2.2.1 - 0) (σ.2.2.2 - 0) Q (F0 mi 1335 ls [])
  rw [Nat.sub_zero, Nat.sub_zero]
  refine lv_aload_n S.1 S.2.1 ld_L_law_1335 rfl (lv_at hl 0 rfl) ?_
  obtain ⟨tx, st, x9, hR, hX⟩ := hLw (196, [116, 111, 119, 110, 32, 116, 32, 97, 115, 107, 32, 48, 59, 103, 114, 111, 117, 110, 100, 32, 116, 32, 53, 32, 51, 49, 32, 49, 55, 32, 50, 49, 32, 49, 55, 32, 51, 49, 59, 103, 114, 111, 117, 110, 100, 32, 116, 32, 49, 59]) (List.mem_of_getElem? (i := 19) rfl)
  refine va_ldcS S.1 S.2.1 S.2.2.2.1 hR ld_L_law_1336 ?_
  have hX9 : ∀ U : State, U.heap = H → s.WarmedH U.vm → rdS st x9 u6.length (fun j => nI (u6.getD j 0)) (va_A (aW0 d ad (aexn σ 40 9000)) H.size) U H := fun U hU hW => jst_S hX hW.alike hS.2.1 (va_A_sub hD hA hS.1)
  refine l_go (u := u6) (q := st) (av := x9) (P := (fun (x : Int) (τ : aS) => SGR (law_p1341 x 1 τ) τ 1355 [1] OBJ)) (σ := aexn σ 40 9000) X0 hO9 (u6_8 ) (Nat.le_trans (u6_l) (by decide)) (u6_s ) (fun T Sx bt mT τ c1 c2 c3 c4 => pq6 c1 c2 c3 c4 ) hG9 h0 hX9 hP hD hS hl.1 ⟨by omega, by omega⟩ ld_L_law_1338 (fun υ x ad2 H2 l2 hPx hK2 hG2 hag hP hD hS hx => ?_)
  have e1 : υ.1 = σ.1 := hK2.1
  have e2 : υ.2.2 = (σ.2.2.1 + 40, σ.2.2.2 + 9000) := hK2.2
  have e3 : υ.2.2.1 = σ.2.2.1 + 40 := congrArg Prod.fst e2
  have e4 : υ.2.2.2 = σ.2.2.2 + 9000 := congrArg Prod.snd e2
  have ea : ad2 0 = ad 0 := hag 0 (List.getElem?_eq_some_iff.mp h0).1
  have hk := kk υ x ad2 ls H2 l2 hPx hK2 ⟨hP, hD, hS, hG2, aLok_of hl rfl ?_, fun i v hi => by rw [e1]; exact hgl i v hi, fun v hv => ?_, ⟨Nat.zero_le _, Nat.zero_le _⟩, fun k h => absurd h (Nat.not_lt_zero k), fun k q h => by cases h⟩
  · change W p l0 e room_1 s mi args below meth cc H2 l2 (υ.2.2.1 - 0) (υ.2.2.2 - 0) Q (F0 mi 1341 ls [.int (Int32.ofInt x)]) at hk
    rw [Nat.sub_zero, Nat.sub_zero, e3, e4] at hk
    exact W.widen (by omega) (by omega) hk
  · intro i v hi
    match i, hi with
    | 0, hi => cases hi
    | 1, hi => cases hi; exact ⟨0, by show some (1, Value.ref (ad 0)) = some (1, Value.ref (ad2 0)); rw [ea]⟩
    | 2, hi => cases hi
    | 3, hi => cases hi
    | 4, hi => cases hi
    | 5, hi => cases hi
    | 6, hi => cases hi
    | 7, hi => cases hi
    | 8, hi => cases hi
    | 9, hi => cases hi
    | 10, hi => cases hi
    | 11, hi => cases hi
    | 12, hi => cases hi
    | 13, hi => cases hi
    | 14, hi => cases hi
    | 15, hi => cases hi
    | 16, hi => cases hi
    | 17, hi => cases hi
    | k + 18, hi => cases hi
  · rcases List.mem_cons.mp hv with rfl | hv
    · exact aGv_int hx
    · cases hv
def u7 : List Nat := [116, 111, 119, 110, 32, 116, 32, 97, 115, 107, 32, 48, 59, 103, 114, 111, 117, 110, 100, 32, 116, 32, 53, 32, 51, 49, 32, 49, 55, 32, 50, 49, 32, 49, 55, 32, 51, 49, 59]
theorem u7_8  : u7.all (fun z => Nat.blt z 128) = true := by
  unfold u7
  simp only [List.all_append, Bool.and_eq_true]
  decide
theorem u7_l : u7.length ≤ 39 := by
  unfold u7
  simp only [List.length_append, List.length_cons, List.length_nil]
  omega
theorem u7_s  : u7.map (fun z => ((z : Nat) : Int)) = tx7 := by
  unfold u7 tx7
  simp only [List.map_append]
  rfl
abbrev L_1354 : aL := [none, some (21, 1), none, none, none, none, none, none, none, none, none, none, none, none, none, none, none, none]
set_option maxHeartbeats 4000000 in
theorem lt_1354 (X : lwX p l0 s mi args cc d A cB)  (hO : OBJ σ) (h0 : σ.1[0]? = some (21, 11)) (hc : σ.2.2.1 + 40 ≤ 600000 ∧ σ.2.2.2 + 9000 ≤ 7302250) (hst : aSt s 18 d A b True 0 0 (fun _ => 0) [] ad ls H locs L_1354 [] σ)
    (kk : ∀ (υ : aS) (x : Int) (ad' : Nat → Nat) (ls' : Array Slot) (H1 : Heap) (l1 : List Loc), (fun (x : Int) (τ : aS) => SGR (law_p1360 x 1 τ) τ 0 [1] OBJ) x υ → SK (aexn σ 40 9000) υ → aSt s 18 d A b True 0 0 (fun _ => 0) [] ad' ls' H1 l1 L_1354 [(0, x)] υ → aW p l0 e room_1 s mi args below meth cc Q d b 0 0 1360 ad' ls' H1 l1 [(0, x)] υ) : aW p l0 e room_1 s mi args below meth cc Q d b 0 0 1354 ad ls H locs [] σ := by
  have X0 := X
  obtain ⟨S, hC, hK, hKb, hA, -, -, -, -, -, hLw⟩ := X
  obtain ⟨hP, hD, hS, hG, hlo, hgl, hgs, hcn, -, -⟩ := hst
  have hR1 : room_1.cells = 600000 := rfl
  have hR2 : room_1.slots = 7302250 := rfl
  have hl : lv_has ls 18 [(1, .ref (ad 0))] := aLok_env hlo (List.forall_mem_cons.mpr ⟨⟨_, rfl, rfl⟩, (fun _ h => absurd h List.not_mem_nil)⟩)
  have hO9 : OBJ (aexn σ 40 9000) := hO
  have hG9 : aGood (aexn σ 40 9000) := hG
  show W p l0 e room_1 s mi args below meth cc H locs (σ.2.2.1 - 0) (σ.2.2.2 - 0) Q (F0 mi 1354 ls [])
  rw [Nat.sub_zero, Nat.sub_zero]
  refine lv_aload_n S.1 S.2.1 ld_L_law_1354 rfl (lv_at hl 0 rfl) ?_
  obtain ⟨tx, st, x9, hR, hX⟩ := hLw (201, [116, 111, 119, 110, 32, 116, 32, 97, 115, 107, 32, 48, 59, 103, 114, 111, 117, 110, 100, 32, 116, 32, 53, 32, 51, 49, 32, 49, 55, 32, 50, 49, 32, 49, 55, 32, 51, 49, 59]) (List.mem_of_getElem? (i := 20) rfl)
  refine va_ldcS S.1 S.2.1 S.2.2.2.1 hR ld_L_law_1355 ?_
  have hX9 : ∀ U : State, U.heap = H → s.WarmedH U.vm → rdS st x9 u7.length (fun j => nI (u7.getD j 0)) (va_A (aW0 d ad (aexn σ 40 9000)) H.size) U H := fun U hU hW => jst_S hX hW.alike hS.2.1 (va_A_sub hD hA hS.1)
  refine l_go (u := u7) (q := st) (av := x9) (P := (fun (x : Int) (τ : aS) => SGR (law_p1360 x 1 τ) τ 0 [1] OBJ)) (σ := aexn σ 40 9000) X0 hO9 (u7_8 ) (Nat.le_trans (u7_l) (by decide)) (u7_s ) (fun T Sx bt mT τ c1 c2 c3 c4 => pq7 c1 c2 c3 c4 ) hG9 h0 hX9 hP hD hS hl.1 ⟨by omega, by omega⟩ ld_L_law_1357 (fun υ x ad2 H2 l2 hPx hK2 hG2 hag hP hD hS hx => ?_)
  have e1 : υ.1 = σ.1 := hK2.1
  have e2 : υ.2.2 = (σ.2.2.1 + 40, σ.2.2.2 + 9000) := hK2.2
  have e3 : υ.2.2.1 = σ.2.2.1 + 40 := congrArg Prod.fst e2
  have e4 : υ.2.2.2 = σ.2.2.2 + 9000 := congrArg Prod.snd e2
  have ea : ad2 0 = ad 0 := hag 0 (List.getElem?_eq_some_iff.mp h0).1
  have hk := kk υ x ad2 ls H2 l2 hPx hK2 ⟨hP, hD, hS, hG2, aLok_of hl rfl ?_, fun i v hi => by rw [e1]; exact hgl i v hi, fun v hv => ?_, ⟨Nat.zero_le _, Nat.zero_le _⟩, fun k h => absurd h (Nat.not_lt_zero k), fun k q h => by cases h⟩
  · change W p l0 e room_1 s mi args below meth cc H2 l2 (υ.2.2.1 - 0) (υ.2.2.2 - 0) Q (F0 mi 1360 ls [.int (Int32.ofInt x)]) at hk
    rw [Nat.sub_zero, Nat.sub_zero, e3, e4] at hk
    exact W.widen (by omega) (by omega) hk
  · intro i v hi
    match i, hi with
    | 0, hi => cases hi
    | 1, hi => cases hi; exact ⟨0, by show some (1, Value.ref (ad 0)) = some (1, Value.ref (ad2 0)); rw [ea]⟩
    | 2, hi => cases hi
    | 3, hi => cases hi
    | 4, hi => cases hi
    | 5, hi => cases hi
    | 6, hi => cases hi
    | 7, hi => cases hi
    | 8, hi => cases hi
    | 9, hi => cases hi
    | 10, hi => cases hi
    | 11, hi => cases hi
    | 12, hi => cases hi
    | 13, hi => cases hi
    | 14, hi => cases hi
    | 15, hi => cases hi
    | 16, hi => cases hi
    | 17, hi => cases hi
    | k + 18, hi => cases hi
  · rcases List.mem_cons.mp hv with rfl | hv
    · exact aGv_int hx
    · cases hv
end LWT
