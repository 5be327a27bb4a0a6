/-! crews in the order of words -/
def LX (a b : Int → Int) : Prop := a 0 < b 0 ∨ (a 0 = b 0 ∧ (a 1 < b 1 ∨ (a 1 = b 1 ∧ (a 2 < b 2 ∨ (a 2 = b 2 ∧ (a 3 < b 3 ∨ (a 3 = b 3 ∧ a 4 < b 4)))))))
def E5 (a b : Int → Int) : Prop := a 0 = b 0 ∧ a 1 = b 1 ∧ a 2 = b 2 ∧ a 3 = b 3 ∧ a 4 = b 4
theorem LX_tri (a b : Int → Int) : LX a b ∨ E5 a b ∨ LX b a := by unfold LX E5; omega
theorem LX_asym {a b : Int → Int} (h : LX a b) (h2 : LX b a) : False := by unfold LX at *; omega
theorem LX_irr {a b : Int → Int} (h : LX a b) (h2 : E5 a b) : False := by unfold LX at *; unfold E5 at h2; omega
theorem div_lx {n m w : Int} (hw : 1 ≤ w) (h : n < m) : n / w < m / w ∨ (n / w = m / w ∧ n % w < m % w) := by
  have a := dvq (n := n) hw
  have b := dvq (n := m) hw
  have c : n / w ≤ m / w := Int.ediv_le_ediv (by omega) (by omega)
  by_cases e : n / w = m / w
  · right
    rw [e] at a
    refine ⟨e, ?_⟩
    generalize m / w * w = q at a b
    omega
  · left; omega
theorem nuf_lx {T : aH} (hB : TB T) {a b : Int → Int} (ha : BF T a) (hb : BF T b) (h : nuf T a < nuf T b) : LX a b := by
  obtain ⟨w3, w2, w1, w0, -⟩ := wt_pos hB
  have ea := crf_nuf hB ha
  have eb := crf_nuf hB hb
  generalize nuf T a = n at h ea
  generalize nuf T b = m at h eb
  unfold LX
  rw [← ea 0, ← ea 1, ← ea 2, ← ea 3, ← ea 4, ← eb 0, ← eb 1, ← eb 2, ← eb 3, ← eb 4]
  show n / wt0 T < m / wt0 T ∨ (n / wt0 T = m / wt0 T ∧ (n % wt0 T / wt1 T < m % wt0 T / wt1 T ∨ (n % wt0 T / wt1 T = m % wt0 T / wt1 T ∧ (n % wt0 T % wt1 T / wt2 T < m % wt0 T % wt1 T / wt2 T ∨ (n % wt0 T % wt1 T / wt2 T = m % wt0 T % wt1 T / wt2 T ∧ (n % wt0 T % wt1 T % wt2 T / wt3 T < m % wt0 T % wt1 T % wt2 T / wt3 T ∨ (n % wt0 T % wt1 T % wt2 T / wt3 T = m % wt0 T % wt1 T % wt2 T / wt3 T ∧ n % wt0 T % wt1 T % wt2 T % wt3 T < m % wt0 T % wt1 T % wt2 T % wt3 T)))))))
  rcases div_lx (show 1 ≤ wt0 T by omega) h with q | ⟨e0, q0⟩
  · exact Or.inl q
  · refine Or.inr ⟨e0, ?_⟩
    rcases div_lx (show 1 ≤ wt1 T by omega) q0 with q | ⟨e1, q1⟩
    · exact Or.inl q
    · refine Or.inr ⟨e1, ?_⟩
      rcases div_lx (show 1 ≤ wt2 T by omega) q1 with q | ⟨e2, q2⟩
      · exact Or.inl q
      · refine Or.inr ⟨e2, ?_⟩
        rcases div_lx (show 1 ≤ wt3 T by omega) q2 with q | ⟨e3, q3⟩
        · exact Or.inl q
        · exact Or.inr ⟨e3, q3⟩
theorem BF_5 {T : aH} (hB : TB T) {a b : Int → Int} (ha : BF T a) (hb : BF T b) (h : E5 a b) : a = b := by
  have h5 := hB.2.1
  funext s
  by_cases c : 0 ≤ s ∧ s < 5
  · obtain ⟨e0, e1, e2, e3, e4⟩ := h
    rcases (show s = 0 ∨ s = 1 ∨ s = 2 ∨ s = 3 ∨ s = 4 by omega) with e | e | e | e | e <;> rw [e] <;> assumption
  · rw [ha.2 s (by omega), hb.2 s (by omega)]
theorem lx_nuf {T : aH} (hB : TB T) {a b : Int → Int} (ha : BF T a) (hb : BF T b) (h : LX a b) : nuf T a < nuf T b := by
  rcases (show nuf T a < nuf T b ∨ nuf T a = nuf T b ∨ nuf T b < nuf T a by omega) with q | q | q
  · exact q
  · have ea := crf_nuf hB ha
    have eb := crf_nuf hB hb
    rw [q] at ea
    refine (LX_irr h ⟨?_, ?_, ?_, ?_, ?_⟩).elim <;> rw [← ea, ← eb]
  · exact (LX_asym h (nuf_lx hB hb ha q)).elim
/-- so many of each sort, z in all -/
def cmp (T : aH) (z : Int) (g : Int → Int) : Prop := (∀ s, 0 ≤ s → s < 5 → 0 ≤ g s) ∧ (∀ s, ¬ (0 ≤ s ∧ s < T 0 1) → g s = 0) ∧ szf g = z
theorem cmp_5 {T : aH} (hB : TB T) {z : Int} {a b : Int → Int} (ha : cmp T z a) (hb : cmp T z b) (h : E5 a b) : a = b := by
  have h5 := hB.2.1
  funext s
  by_cases c : 0 ≤ s ∧ s < 5
  · obtain ⟨e0, e1, e2, e3, e4⟩ := h
    rcases (show s = 0 ∨ s = 1 ∨ s = 2 ∨ s = 3 ∨ s = 4 by omega) with e | e | e | e | e <;> rw [e] <;> assumption
  · rw [ha.2.1 s (by omega), hb.2.1 s (by omega)]
theorem BF.cmp {T : aH} {g : Int → Int} (h : BF T g) : cmp T (szf g) g := ⟨fun s s0 s1 => (h.1 s s0 s1).1, h.2, rfl⟩
theorem cmp_PA {T N : aH} {z a : Int} {g : Int → Int} (hB : TB T) (hc : cmp T z g) (h : cvf (ctn T N a) g = true) : PA T N g a := by
  have h5 := hB.2.1
  rw [cvf_iff] at h
  refine ⟨fun s s0 s1 => ⟨hc.1 s s0 (by omega), ?_⟩, hc.2.1⟩
  have := h s s0 (by omega)
  unfold ctn at this
  rw [if_pos ⟨s0, s1⟩] at this
  exact this
theorem plA_BF {T N : aH} (hB : TB T) (hN : NB T N) {z : Int} {g : Int → Int} (hc : cmp T z g) (h : plA T N g ≤ T 0 2) : BF T g := by
  have q := plA_at h
  rw [Bool.and_eq_true, Bool.and_eq_true] at q
  exact (cmp_PA hB hc q.1.2).BF hN hB (plA_0 T N g) h
/-- the first of a size, by words: none of those behind it, then found by its number -/
theorem pnJ_of {T N : aH} (hB : TB T) (hN : NB T N) {z : Int} (z0 : 1 ≤ z) {g : Int → Int} (hc : cmp T z g) (hp : plA T N g ≤ T 0 2) (hl : ∀ h, cmp T z h → LX g h → ¬ plA T N h ≤ T 0 2) :
    pnJ T N z < crw T - 1 ∧ crf T (crw T - 1 - pnJ T N z) = g := by
  have hg := plA_BF hB hN hc hp
  have hgn : ∀ s, crf T (nuf T g) s = g s := crf_nuf hB hg
  have hfe : crf T (nuf T g) = g := funext hgn
  have hb := nuf_bd hB hg
  have n1 : nuf T g ≠ 0 := fun e => by
    rw [e] at hgn
    have := hc.2.2
    unfold szf at this
    have c0 := hgn 0; have c1 := hgn 1; have c2 := hgn 2; have c3 := hgn 3; have c4 := hgn 4
    rw [crf_0] at c0 c1 c2 c3 c4
    omega
  have ej : pnJ T N z = crw T - 1 - nuf T g := by
    unfold pnJ
    refine ff_uniq (by omega) (by omega) (fun j j0 j1 => ?_) (fun _ => ?_)
    · cases w : pnB T N z j with
      | false => rfl
      | true =>
        unfold pnB at w
        rw [Bool.and_eq_true, decide_eq_true_iff, decide_eq_true_iff] at w
        obtain ⟨hf, hn⟩ := crf_BF hB (n := crw T - 1 - j) (by omega) (by omega)
        have hcm : cmp T z (crf T (crw T - 1 - j)) := by have := hf.cmp; rw [w.1] at this; exact this
        exact absurd w.2 (hl _ hcm (nuf_lx hB hg hf (by omega)))
    · unfold pnB
      rw [show crw T - 1 - (crw T - 1 - nuf T g) = nuf T g by omega, hfe, decide_eq_true hc.2.2, decide_eq_true hp]; rfl
  rw [ej]
  exact ⟨by omega, by rw [show crw T - 1 - (crw T - 1 - nuf T g) = nuf T g by omega]; exact hfe⟩
theorem pnJ_no {T N : aH} (hB : TB T) {z : Int} (hl : ∀ h, cmp T z h → ¬ plA T N h ≤ T 0 2) : ¬ pnJ T N z < crw T - 1 := by
  intro q
  have p0 := ff_0 (pnB T N z) (n := crw T - 1)
  have w := ff_at (P := pnB T N z) (n := crw T - 1) q
  have q' : ff (pnB T N z) (crw T - 1) < crw T - 1 := q
  unfold pnB at w
  rw [Bool.and_eq_true, decide_eq_true_iff, decide_eq_true_iff] at w
  obtain ⟨hf, -⟩ := crf_BF hB (n := crw T - 1 - ff (pnB T N z) (crw T - 1)) (by omega) (by omega)
  have hcm : cmp T z (crf T (crw T - 1 - ff (pnB T N z) (crw T - 1))) := by
    have h1 := hf.cmp
    have e1 : szf (crf T (crw T - 1 - ff (pnB T N z) (crw T - 1))) = z := w.1
    rw [e1] at h1; exact h1
  exact hl _ hcm w.2
