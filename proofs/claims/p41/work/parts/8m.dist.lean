/-! the class's half of whole's part of this name -/
def inn (W H x y : Int) : Prop := 0 ≤ x ∧ x < W ∧ 0 ≤ y ∧ y < H
def gat (W H : Int) (m : Int → Int → Int) (x y : Int) : Int := if 0 ≤ x ∧ x < W ∧ 0 ≤ y ∧ y < H then m x y else 1000
def gnr (W H : Int) (m : Int → Int → Int) (x y : Int) : Int := mn (mn (gat W H m (x - 1) y) (gat W H m (x + 1) y)) (mn (gat W H m x (y - 1)) (gat W H m x (y + 1)))
/-- all places at once -/
def gJ (W H : Int) (w : Int → Int → Int) (sx sy : Int) : Nat → Int → Int → Int
  | 0, x, y => if x = sx ∧ y = sy then 0 else 1000
  | r + 1, x, y => mn (gJ W H w sx sy r x y) (gnr W H (gJ W H w sx sy r) x y + w x y)
def gD (W H : Int) (w : Int → Int → Int) (sx sy : Int) : Int → Int → Int := gJ W H w sx sy 36
def adj (x y u v : Int) : Prop := (u = x - 1 ∧ v = y) ∨ (u = x + 1 ∧ v = y) ∨ (u = x ∧ v = y - 1) ∨ (u = x ∧ v = y + 1)
theorem mn_l (a b : Int) : mn a b ≤ a := by unfold mn; split <;> omega
theorem mn_r (a b : Int) : mn a b ≤ b := by unfold mn; split <;> omega
theorem mn_o (a b : Int) : mn a b = a ∨ mn a b = b := by unfold mn; split <;> simp
theorem gat_in {W H : Int} {m : Int → Int → Int} {x y : Int} (h : inn W H x y) : gat W H m x y = m x y := if_pos h
theorem gnr_le {W H : Int} (m : Int → Int → Int) {x y u v : Int} (h : adj x y u v) : gnr W H m x y ≤ gat W H m u v := by
  have a := mn_l (mn (gat W H m (x - 1) y) (gat W H m (x + 1) y)) (mn (gat W H m x (y - 1)) (gat W H m x (y + 1)))
  have b := mn_r (mn (gat W H m (x - 1) y) (gat W H m (x + 1) y)) (mn (gat W H m x (y - 1)) (gat W H m x (y + 1)))
  have c := mn_l (gat W H m (x - 1) y) (gat W H m (x + 1) y)
  have d := mn_r (gat W H m (x - 1) y) (gat W H m (x + 1) y)
  have e := mn_l (gat W H m x (y - 1)) (gat W H m x (y + 1))
  have f := mn_r (gat W H m x (y - 1)) (gat W H m x (y + 1))
  unfold gnr
  rcases h with ⟨rfl, rfl⟩ | ⟨rfl, rfl⟩ | ⟨rfl, rfl⟩ | ⟨rfl, rfl⟩ <;> omega
theorem gnr_at {W H : Int} (m : Int → Int → Int) (x y : Int) : ∃ u v, adj x y u v ∧ gnr W H m x y = gat W H m u v := by
  unfold gnr
  rcases mn_o (mn (gat W H m (x - 1) y) (gat W H m (x + 1) y)) (mn (gat W H m x (y - 1)) (gat W H m x (y + 1))) with a | a <;> rw [a]
  · rcases mn_o (gat W H m (x - 1) y) (gat W H m (x + 1) y) with b | b <;> rw [b]
    · exact ⟨_, _, Or.inl ⟨rfl, rfl⟩, rfl⟩
    · exact ⟨_, _, Or.inr (Or.inl ⟨rfl, rfl⟩), rfl⟩
  · rcases mn_o (gat W H m x (y - 1)) (gat W H m x (y + 1)) with b | b <;> rw [b]
    · exact ⟨_, _, Or.inr (Or.inr (Or.inl ⟨rfl, rfl⟩)), rfl⟩
    · exact ⟨_, _, Or.inr (Or.inr (Or.inr ⟨rfl, rfl⟩)), rfl⟩
/-- what is asked of the weights -/
def wok (w : Int → Int → Int) : Prop := ∀ x y, 0 ≤ w x y ∧ w x y ≤ 1
theorem gJ_bd {W H : Int} {w : Int → Int → Int} (hw : wok w) (sx sy : Int) : ∀ (r : Nat) (x y : Int), 0 ≤ gJ W H w sx sy r x y ∧ gJ W H w sx sy r x y ≤ 1000 := by
  intro r
  induction r with
  | zero => intro x y; show 0 ≤ (if x = sx ∧ y = sy then (0 : Int) else 1000) ∧ (if x = sx ∧ y = sy then (0 : Int) else 1000) ≤ 1000; split <;> omega
  | succ r ih =>
    intro x y
    have a := ih x y
    have b := hw x y
    obtain ⟨u, v, -, e⟩ := gnr_at (W := W) (H := H) (gJ W H w sx sy r) x y
    have c : 0 ≤ gat W H (gJ W H w sx sy r) u v := by unfold gat; split; exact (ih u v).1; omega
    show 0 ≤ mn (gJ W H w sx sy r x y) (gnr W H (gJ W H w sx sy r) x y + w x y) ∧ mn (gJ W H w sx sy r x y) (gnr W H (gJ W H w sx sy r) x y + w x y) ≤ 1000
    rw [e]
    unfold mn; split <;> omega
theorem gJ_dn (W H : Int) (w : Int → Int → Int) (sx sy : Int) (r : Nat) (x y : Int) : gJ W H w sx sy (r + 1) x y ≤ gJ W H w sx sy r x y := mn_l _ _
theorem gJ_adj {W H : Int} {w : Int → Int → Int} (sx sy : Int) (r : Nat) {x y u v : Int} (h : adj x y u v) (hi : inn W H u v) : gJ W H w sx sy (r + 1) x y ≤ gJ W H w sx sy r u v + w x y := by
  have a := gnr_le (W := W) (H := H) (gJ W H w sx sy r) h
  rw [gat_in hi] at a
  have b := mn_r (gJ W H w sx sy r x y) (gnr W H (gJ W H w sx sy r) x y + w x y)
  show mn (gJ W H w sx sy r x y) (gnr W H (gJ W H w sx sy r) x y + w x y) ≤ _
  omega
/-- a strict step comes from a place beside -/
theorem gJ_st {W H : Int} {w : Int → Int → Int} (hw : wok w) {sx sy : Int} {r : Nat} {x y : Int} (h : gJ W H w sx sy (r + 1) x y < gJ W H w sx sy r x y) : ∃ u v, adj x y u v ∧ inn W H u v ∧ gJ W H w sx sy (r + 1) x y = gJ W H w sx sy r u v + w x y := by
  have a := gJ_bd (W := W) (H := H) hw sx sy r x y
  have b := hw x y
  obtain ⟨u, v, hadj, e⟩ := gnr_at (W := W) (H := H) (gJ W H w sx sy r) x y
  have h2 : mn (gJ W H w sx sy r x y) (gnr W H (gJ W H w sx sy r) x y + w x y) < gJ W H w sx sy r x y := h
  have h3 : gJ W H w sx sy (r + 1) x y = gnr W H (gJ W H w sx sy r) x y + w x y := by
    rcases mn_o (gJ W H w sx sy r x y) (gnr W H (gJ W H w sx sy r) x y + w x y) with q | q
    · omega
    · exact q
  refine ⟨u, v, hadj, ?_, ?_⟩
  · by_cases c : 0 ≤ u ∧ u < W ∧ 0 ≤ v ∧ v < H
    · exact c
    · have : gat W H (gJ W H w sx sy r) u v = 1000 := if_neg c
      omega
  · by_cases c : 0 ≤ u ∧ u < W ∧ 0 ≤ v ∧ v < H
    · rw [h3, e, gat_in c]
    · have : gat W H (gJ W H w sx sy r) u v = 1000 := if_neg c
      omega
theorem pigeon : ∀ (n : Nat) (L : List Int), L.Nodup → (∀ c ∈ L, 0 ≤ c ∧ c < n) → L.length ≤ n := by
  intro n
  induction n with
  | zero =>
    intro L _ h
    cases L with
    | nil => exact Nat.le_refl _
    | cons a L => have := h a List.mem_cons_self; omega
  | succ n ih =>
    intro L hn h
    by_cases c : (n : Int) ∈ L
    · have e := List.length_erase_of_mem c
      have := ih (L.erase (n : Int)) (hn.erase _) (fun d hd => by
        have hd2 := (hn.mem_erase_iff).mp hd
        have := h d hd2.2
        have := hd2.1
        omega)
      omega
    · have := ih L hn (fun d hd => by
        have := h d hd
        have : d ≠ (n : Int) := fun q => c (q ▸ hd)
        omega)
      omega
theorem cde {x y : Int} (x0 : 0 ≤ x) (x6 : x < 6) : (6 * y + x) % 6 = x ∧ (6 * y + x) / 6 = y := by omega
theorem gJ_ch {W H : Int} {w : Int → Int → Int} (hw : wok w) (hW : W ≤ 6) (hH : H ≤ 6) {sx sy : Int} (hs : inn W H sx sy) : ∀ (r : Nat) (x y : Int), inn W H x y → gJ W H w sx sy (r + 1) x y < gJ W H w sx sy r x y →
    ∃ L : List Int, L.length = r + 2 ∧ L.Nodup ∧ (∀ c ∈ L, 0 ≤ c ∧ c < 36) ∧ ∀ c ∈ L, gJ W H w sx sy (r + 1) (c % 6) (c / 6) ≤ gJ W H w sx sy (r + 1) x y := by
  intro r
  induction r with
  | zero =>
    intro x y hi h
    obtain ⟨u, v, ha, hu, e⟩ := gJ_st hw h
    have b0 := hw x y
    have s0 : gJ W H w sx sy 0 sx sy = 0 := if_pos ⟨rfl, rfl⟩
    have s1 := gJ_dn W H w sx sy 0 sx sy
    have bx := gJ_bd (W := W) (H := H) hw sx sy (0 + 1) x y
    have hne : ¬ (x = sx ∧ y = sy) := fun q => by rw [q.1, q.2] at h bx; omega
    refine ⟨[6 * y + x, 6 * sy + sx], rfl, ?_, ?_, ?_⟩
    · rw [List.nodup_cons]
      refine ⟨fun q => ?_, by rw [List.nodup_cons]; exact ⟨(fun q => by cases q), List.nodup_nil⟩⟩
      rw [List.mem_singleton] at q
      unfold inn at hi hs
      exact hne (by omega)
    · intro c hc
      unfold inn at hi hs
      rcases List.mem_cons.mp hc with rfl | hc
      · omega
      · rw [List.mem_singleton] at hc; omega
    · intro c hc
      unfold inn at hi hs
      rcases List.mem_cons.mp hc with rfl | hc
      · rw [(cde hi.1 (by omega)).1, (cde hi.1 (by omega)).2]; exact Int.le_refl _
      · rw [List.mem_singleton] at hc
        rw [hc, (cde hs.1 (by omega)).1, (cde hs.1 (by omega)).2]
        have : (0 : Nat) + 1 = 1 := rfl
        rw [this] at s1 h bx ⊢
        omega
  | succ r ih =>
    intro x y hi h
    obtain ⟨u, v, ha, hu, e⟩ := gJ_st hw h
    have b0 := hw x y
    have hlt : gJ W H w sx sy (r + 1) u v < gJ W H w sx sy r u v := by
      have d := gJ_dn W H w sx sy r u v
      have a := gJ_adj (w := w) sx sy r ha hu
      omega
    obtain ⟨L, l1, l2, l3, l4⟩ := ih u v hu hlt
    refine ⟨(6 * y + x) :: L, by rw [List.length_cons, l1], ?_, ?_, ?_⟩
    · rw [List.nodup_cons]
      refine ⟨fun q => ?_, l2⟩
      have := l4 _ q
      unfold inn at hi
      rw [(cde hi.1 (by omega)).1, (cde hi.1 (by omega)).2] at this
      omega
    · intro c hc
      rcases List.mem_cons.mp hc with rfl | hc
      · unfold inn at hi; omega
      · exact l3 c hc
    · intro c hc
      rcases List.mem_cons.mp hc with rfl | hc
      · unfold inn at hi
        rw [(cde hi.1 (by omega)).1, (cde hi.1 (by omega)).2]; exact Int.le_refl _
      · have a := l4 c hc
        have d := gJ_dn W H w sx sy (r + 1) (c % 6) (c / 6)
        omega
theorem gJ_fx {W H : Int} {w : Int → Int → Int} (hw : wok w) (hW : W ≤ 6) (hH : H ≤ 6) {sx sy : Int} (hs : inn W H sx sy) {x y : Int} (hi : inn W H x y) : gJ W H w sx sy 36 x y = gJ W H w sx sy 35 x y := by
  have d := gJ_dn W H w sx sy 35 x y
  rcases (show gJ W H w sx sy (35 + 1) x y = gJ W H w sx sy 35 x y ∨ gJ W H w sx sy (35 + 1) x y < gJ W H w sx sy 35 x y by omega) with q | q
  · exact q
  · obtain ⟨L, l1, l2, l3, -⟩ := gJ_ch hw hW hH hs 35 x y hi q
    have := pigeon 36 L l2 l3
    omega
/-- the limit keeps every step -/
theorem gD_fx {W H : Int} {w : Int → Int → Int} (hw : wok w) (hW : W ≤ 6) (hH : H ≤ 6) {sx sy : Int} (hs : inn W H sx sy) {x y u v : Int} (ha : adj x y u v) (hu : inn W H u v) : gD W H w sx sy x y ≤ gD W H w sx sy u v + w x y := by
  have a := gJ_adj (W := W) (H := H) (w := w) sx sy 35 ha hu
  have b := gJ_fx hw hW hH hs hu
  unfold gD
  rw [b]; exact a
theorem gD_s {W H : Int} {w : Int → Int → Int} (hw : wok w) (sx sy : Int) : gD W H w sx sy sx sy = 0 := by
  have k : ∀ r : Nat, gJ W H w sx sy r sx sy ≤ 0 := by
    intro r
    induction r with
    | zero => show (if sx = sx ∧ sy = sy then (0 : Int) else 1000) ≤ 0; rw [if_pos ⟨rfl, rfl⟩]; exact Int.le_refl _
    | succ r ih => have := gJ_dn W H w sx sy r sx sy; omega
  have a := k 36
  have b := (gJ_bd (W := W) (H := H) hw sx sy 36 sx sy).1
  unfold gD; omega
/-- a fixpoint with nothing at the start is not above the limit -/
theorem fx_le {W H : Int} {w : Int → Int → Int} (hw : wok w) {sx sy : Int} {m : Int → Int → Int} (h0 : inn W H sx sy → m sx sy ≤ 0) (h1 : ∀ x y, inn W H x y → m x y ≤ 1000) (hf : ∀ x y u v, inn W H x y → inn W H u v → adj x y u v → m x y ≤ m u v + w x y) :
    ∀ (r : Nat) (x y : Int), inn W H x y → m x y ≤ gJ W H w sx sy r x y := by
  intro r
  induction r with
  | zero =>
    intro x y hi
    show m x y ≤ if x = sx ∧ y = sy then 0 else 1000
    by_cases c : x = sx ∧ y = sy
    · rw [if_pos c, c.1, c.2]; exact h0 (by rw [← c.1, ← c.2]; exact hi)
    · rw [if_neg c]; exact h1 x y hi
  | succ r ih =>
    intro x y hi
    have a := ih x y hi
    rcases (show gJ W H w sx sy (r + 1) x y = gJ W H w sx sy r x y ∨ gJ W H w sx sy (r + 1) x y < gJ W H w sx sy r x y by have := gJ_dn W H w sx sy r x y; omega) with q | q
    · omega
    · obtain ⟨u, v, ha, hu, e⟩ := gJ_st hw q
      have b := ih u v hu
      have c := hf x y u v hi hu ha
      omega
/-- on the border -/
def bdr (W H x y : Int) : Prop := inn W H x y ∧ (y = 0 ∨ y = H - 1 ∨ x = 0 ∨ x = W - 1)
/-- the least on the border, 1000 if it is no less -/
def isL (W H : Int) (D : Int → Int → Int) (l : Int) : Prop := l ≤ 1000 ∧ (∀ x y, bdr W H x y → l ≤ D x y) ∧ (l = 1000 ∨ ∃ x y, bdr W H x y ∧ l = D x y)
