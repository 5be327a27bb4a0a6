/-! the texts told: what the pieces begin with -/
theorem AG.rf (U : aH) : AG U U := ⟨fun _ _ _ => rfl, fun _ _ _ => rfl, fun _ _ _ _ _ _ => rfl, fun _ _ _ _ _ _ => ⟨rfl, rfl⟩, fun _ _ _ => ⟨rfl, rfl, rfl, rfl, rfl, rfl⟩, fun _ _ _ => rfl, fun _ _ _ _ _ _ => rfl, fun _ _ _ _ _ _ => rfl⟩
theorem TPc.fp {bt : Int → Int} {m : Int} {σ τ : aS} (h : TPc bt m σ) (hF : Fp wca σ τ) : TPc bt m τ := by
  obtain ⟨h1, h2, h3⟩ := h
  refine ⟨?_, h2, fun j j0 j1 => ?_⟩
  · rw [hF.2.2 2 4 (by unfold wca; omega)]; exact h1
  · rw [hF.2.2 3 j (by unfold wca; omega)]; exact h3 j j0 j1
/-- the object, ahead of a text -/
def OBJ (σ : aS) : Prop := (∃ T S, CSt T S σ) ∧ ∃ bt, TPc bt 0 σ
theorem Gd.o {t : Nat} {vs : List Int} {σ : aS} {r : aR} (h : Gd t vs σ r) (hT : ∃ bt, TPc bt 0 σ) : ∃ τ, r = some (t, vs, τ) ∧ Fp wca σ τ ∧ OBJ τ := by
  obtain ⟨τ, e, hF, hC⟩ := h
  obtain ⟨bt, hT⟩ := hT
  exact ⟨τ, e, hF, hC, bt, hT.fp hF⟩
section TOLD
variable {T : aH} {S : aSS} {σ : aS} {bt : Int → Int} {L : Int} {l : List ((Int × Int) × Int)} {s : List Int}
theorem text_gen {m : Int} (h : CSt T S σ) (hT : TPc bt m σ) (hm : L ≤ m) (hs : Sfx bt L 0 s) (res : ∀ U, TZ U → Sfx bt L 0 s → ∃ P, txX bt L U = (0, P, ovr l U)) (h23 : ∀ U, TZ U → ∀ t, 0 ≤ t → t < 4 → ovr l U 23 t = 0) :
    ∃ U, TZ U ∧ ∃ τ, c11_text 1 L σ = some (0, [ovr l U 22 0], τ) ∧ Fp wlo σ τ ∧ CSt (ovr l U) (nwN (ovr l U) (ovr l U), S.2.1, 0, 0, S.2.2.2.2) τ ∧ SG (ovr l U) 0 (nwN (ovr l U) (ovr l U), S.2.1, 0, 0, S.2.2.2.2) ∧ ∃ bt, TPc bt 0 τ := by
  obtain ⟨U, hU, hq⟩ := c11_text_ok h hT (L := L) (by have := hs.2.1; omega) hm
  obtain ⟨P, hP⟩ := res U hU hs
  refine ⟨U, hU, ?_⟩
  rw [hP] at hq
  rcases hq with ⟨z, -⟩ | ⟨-, hI, τ, e, hF, hC, hT2, -⟩
  · exact absurd rfl z
  · have hc := hC (ovr l U) (AG.rf _)
    refine ⟨τ, e, hF, hc, ?_, bt, hT2⟩
    have hB : TB (ovr l U) := by obtain ⟨pl, q, -⟩ := hc; exact q.2.2.2.2.2
    refine ⟨nwN_EN (Int.le_refl _) hB (fun t t0 t1 => by rw [h23 U hU t t0 t1]; omega), ⟨by show (0 : Int) ≤ 0; omega, by show (0 : Int) ≤ 30; omega⟩, fun i i0 i1 => ?_, Or.inl rfl, fun q => ?_⟩
    · change i < 0 at i1; omega
    · change (0 : Int) = 1 at q; omega
theorem zl23 {t : Int} (t0 : 0 ≤ t) (t1 : t < 4) : zlB 23 t = true := by
  rcases (show t = 0 ∨ t = 1 ∨ t = 2 ∨ t = 3 by omega) with q | q | q | q <;> rw [q] <;> rfl
theorem nw0 (T U : aH) (u : Int) {p : Int} (p0 : 0 ≤ p) (p5 : p < 5) : nwN T U 0 (5 * u + p) = alv T u p := by unfold nwN; exact PN0_0 _ _ p0 p5
theorem nw1 (T U : aH) (j : Int) : nwN T U 1 j = 0 ∧ nwN T U 3 j = 0 ∧ nwN T U 2 j = U 23 j ∧ nwN T U 4 0 = -1 := by
  refine ⟨?_, ?_, ?_, ?_⟩
  · rw [nwN_x (by omega), if_neg (by omega), if_neg (by omega)]
  · rw [nwN_x (by omega), if_neg (by omega), if_neg (by omega)]
  · rw [nwN_x (by omega), if_pos rfl]
  · rw [nwN_x (by omega), if_neg (by omega), if_pos rfl, if_pos rfl]
theorem alv_a {T : aH} {u p : Int} (h : p = T 0 2) : alv T u p = T 2 (4 * u) := if_pos h
theorem alv_n {T : aH} {u p : Int} (h : p ≠ T 0 2) : alv T u p = 0 := if_neg h
end TOLD
theorem a1_told {U : aH} {n o v w k : Int} (n0 : 1 ≤ n) (n1 : n ≤ 6) (o0 : 0 ≤ o) (o1 : o ≤ 99) (v0 : 0 ≤ v) (v1 : v ≤ 99) (w0 : 0 ≤ w) (w1 : w ≤ 99) (k0 : 0 ≤ k) (k1 : k ≤ 99) (hU : TZ U) : A1 (ovr (ts1 n o v w k) U) n o v w k :=
  ⟨⟨rfl, rfl, rfl⟩, ⟨rfl, rfl, rfl, rfl⟩, ⟨rfl, hU.z (a := 4) (i := 0) rfl⟩, ⟨rfl, hU.z (a := 6) (i := 0) rfl⟩, ⟨rfl, rfl, rfl⟩, ⟨k0, k1⟩, ⟨v0, n0, n1⟩⟩
theorem z1_told {U : aH} {n o v w k : Int} (hU : TZ U) : ∀ t, 0 ≤ t → t < 4 → ovr (ts1 n o v w k) U 23 t = 0 := fun t t0 t1 => (show ovr (ts1 n o v w k) U 23 t = U 23 t from rfl).trans (hU.z (zl23 t0 t1))
theorem m1_told {U : aH} {n o v w k : Int} (hU : TZ U) : M1 (nwN (ovr (ts1 n o v w k) U) (ovr (ts1 n o v w k) U)) 0 n 0 0 :=
  ⟨(nw0 _ _ 0 (p := 0) (by omega) (by omega)).trans (alv_n (show (0 : Int) ≠ 1 by omega)), (nw0 _ _ 0 (p := 1) (by omega) (by omega)).trans (alv_a rfl), (nw1 _ _ 0).1, (nw1 _ _ 0).2.2.1.trans (hU.z (a := 23) (i := 0) rfl), (nw1 _ _ 0).2.2.2⟩
theorem x1_told {T : aH} {S : aSS} {σ : aS} {bt : Int → Int} {L mT : Int} {n o v w k : Int} (n0 : 1 ≤ n) (n1 : n ≤ 6) (o0 : 0 ≤ o) (o1 : o ≤ 99) (v0 : 0 ≤ v) (v1 : v ≤ 99) (w0 : 0 ≤ w) (w1 : w ≤ 99) (k0 : 0 ≤ k) (k1 : k ≤ 99) (h : CSt T S σ) (hT : TPc bt mT σ) (hm : L ≤ mT) (hs : Sfx bt L 0 (tx1 n o v w k)) :
    ∃ τ T N H im IM, c11_text 1 L σ = some (0, [3], τ) ∧ Fp wlo σ τ ∧ CSt T (N, H, 0, im, IM) τ ∧ SG T 0 (N, H, 0, im, IM) ∧ (∃ bt, TPc bt 0 τ) ∧ A1 T n o v w k ∧ M1 N 0 n 0 0 ∧ N 3 1 = 0 := by
  obtain ⟨U, hU, τ, e, hF, hC, hG, hT2⟩ := text_gen (l := ts1 n o v w k) h hT hm hs (fun U hU hs => tr1 n0 n1 o0 o1 v0 v1 w0 w1 k0 k1 hs hU) (fun U hU => z1_told hU)
  exact ⟨τ, _, _, _, _, _, e, hF, hC, hG, hT2, a1_told n0 n1 o0 o1 v0 v1 w0 w1 k0 k1 hU, m1_told hU, (nw1 _ _ 1).2.1⟩
theorem a2_told {U : aH} {l : Int} (l0 : 1 ≤ l) (l1 : l ≤ 20) (hU : TZ U) : A2 (ovr (ts2 l) U) l :=
  ⟨⟨hU.z (a := 0) (i := 0) rfl, rfl, rfl, hU.z (a := 0) (i := 5) rfl⟩, ⟨rfl, rfl, rfl, rfl, rfl, rfl⟩, ⟨hU.z (a := 4) (i := 0) rfl, rfl, rfl, hU.z (a := 4) (i := 6) rfl⟩, ⟨rfl, rfl, rfl, rfl⟩, ⟨rfl, rfl, rfl, rfl⟩, ⟨l0, l1⟩⟩
theorem z2_told {U : aH} {l : Int} (hU : TZ U) : ∀ t, 0 ≤ t → t < 4 → ovr (ts2 l) U 23 t = 0 := fun t t0 t1 => (show ovr (ts2 l) U 23 t = U 23 t from rfl).trans (hU.z (zl23 t0 t1))
theorem m2_told {U : aH} {l : Int} (hU : TZ U) : M2 (nwN (ovr (ts2 l) U) (ovr (ts2 l) U)) 8 :=
  ⟨⟨(nw0 _ _ 0 (p := 0) (by omega) (by omega)).trans (alv_n (show (0 : Int) ≠ 2 by omega)), (nw0 _ _ 0 (p := 1) (by omega) (by omega)).trans (alv_n (show (1 : Int) ≠ 2 by omega)), (nw0 _ _ 0 (p := 2) (by omega) (by omega)).trans (alv_a rfl)⟩, ⟨(nw0 _ _ 1 (p := 0) (by omega) (by omega)).trans (alv_n (show (0 : Int) ≠ 2 by omega)), (nw0 _ _ 1 (p := 1) (by omega) (by omega)).trans (alv_n (show (1 : Int) ≠ 2 by omega)), (nw0 _ _ 1 (p := 2) (by omega) (by omega)).trans (alv_a rfl)⟩, (nw1 _ _ 0).1, (nw1 _ _ 1).1, (nw1 _ _ 0).2.2.1.trans (hU.z (a := 23) (i := 0) rfl), (nw1 _ _ 1).2.2.1.trans (hU.z (a := 23) (i := 1) rfl), (nw1 _ _ 0).2.2.2, (nw1 _ _ 0).2.1⟩
theorem x2_told {T : aH} {S : aSS} {σ : aS} {bt : Int → Int} {L mT : Int} {l : Int} (l0 : 1 ≤ l) (l1 : l ≤ 20) (h : CSt T S σ) (hT : TPc bt mT σ) (hm : L ≤ mT) (hs : Sfx bt L 0 (tx2 l)) :
    ∃ τ T N H im IM, c11_text 1 L σ = some (0, [6], τ) ∧ Fp wlo σ τ ∧ CSt T (N, H, 0, im, IM) τ ∧ SG T 0 (N, H, 0, im, IM) ∧ (∃ bt, TPc bt 0 τ) ∧ A2 T l ∧ M2 N 8 ∧ N 3 1 = 0 := by
  obtain ⟨U, hU, τ, e, hF, hC, hG, hT2⟩ := text_gen (l := ts2 l) h hT hm hs (fun U hU hs => tr2 (by omega) l1 hs hU) (fun U hU => z2_told hU)
  exact ⟨τ, _, _, _, _, _, e, hF, hC, hG, hT2, a2_told l0 l1 hU, m2_told hU, (nw1 _ _ 1).2.1⟩
theorem a3_told {U : aH} {c n : Int} (c0 : 0 ≤ c) (c1 : c ≤ 999) (n0 : 1 ≤ n) (n1 : n ≤ 6) (hU : TZ U) : A3 (ovr (ts3 c n) U) n c :=
  ⟨⟨rfl, rfl, rfl, rfl⟩, ⟨rfl, rfl, rfl⟩, ⟨rfl, hU.z (a := 4) (i := 0) rfl⟩, ⟨rfl, hU.z (a := 5) (i := 1) rfl, hU.z (a := 6) (i := 0) rfl⟩, ⟨rfl, rfl, rfl, rfl, rfl⟩, ⟨n0, n1, c0, c1⟩⟩
theorem z3_told {U : aH} {c n : Int} (hU : TZ U) : ∀ t, 0 ≤ t → t < 4 → ovr (ts3 c n) U 23 t = 0 := fun t t0 t1 => (show ovr (ts3 c n) U 23 t = U 23 t from rfl).trans (hU.z (zl23 t0 t1))
theorem m3_told {U : aH} {c n : Int} (hU : TZ U) : M3 (nwN (ovr (ts3 c n) U) (ovr (ts3 c n) U)) n 0 :=
  ⟨⟨(nw0 _ _ 0 (p := 0) (by omega) (by omega)).trans (alv_n (show (0 : Int) ≠ 2 by omega)), (nw0 _ _ 0 (p := 1) (by omega) (by omega)).trans (alv_n (show (1 : Int) ≠ 2 by omega)), (nw0 _ _ 0 (p := 2) (by omega) (by omega)).trans ((alv_a rfl).trans (show n = n - 0 by omega))⟩, (nw1 _ _ 0).1, (nw1 _ _ 1).1, (nw1 _ _ 0).2.2.2⟩
theorem x3_told {T : aH} {S : aSS} {σ : aS} {bt : Int → Int} {L mT : Int} {c n : Int} (c0 : 0 ≤ c) (c1 : c ≤ 999) (n0 : 1 ≤ n) (n1 : n ≤ 6) (h : CSt T S σ) (hT : TPc bt mT σ) (hm : L ≤ mT) (hs : Sfx bt L 0 (tx3 c n)) :
    ∃ τ T N H im IM, c11_text 1 L σ = some (0, [4], τ) ∧ Fp wlo σ τ ∧ CSt T (N, H, 0, im, IM) τ ∧ SG T 0 (N, H, 0, im, IM) ∧ (∃ bt, TPc bt 0 τ) ∧ A3 T n c ∧ M3 N n 0 ∧ N 3 1 = 0 := by
  obtain ⟨U, hU, τ, e, hF, hC, hG, hT2⟩ := text_gen (l := ts3 c n) h hT hm hs (fun U hU hs => tr3 c0 c1 n0 n1 hs hU) (fun U hU => z3_told hU)
  exact ⟨τ, _, _, _, _, _, e, hF, hC, hG, hT2, a3_told c0 c1 n0 n1 hU, m3_told hU, (nw1 _ _ 1).2.1⟩
theorem a4_told {U : aH} {c n w : Int} (c0 : 0 ≤ c) (c1 : c ≤ 999) (n0 : 1 ≤ n) (n1 : n ≤ 6) (w0 : 0 ≤ w) (w1 : w ≤ 99) (hU : TZ U) : A4 (ovr (ts4 c n w) U) n c w :=
  ⟨⟨rfl, rfl, rfl, rfl⟩, ⟨rfl, rfl, rfl⟩, ⟨rfl, hU.z (a := 4) (i := 0) rfl⟩, ⟨rfl, rfl⟩, ⟨rfl, rfl, rfl⟩, ⟨n0, n1, c0, c1, w0, w1⟩⟩
theorem z4_told {U : aH} {c n w : Int} (hU : TZ U) : ∀ t, 0 ≤ t → t < 4 → ovr (ts4 c n w) U 23 t = 0 := fun t t0 t1 => (show ovr (ts4 c n w) U 23 t = U 23 t from rfl).trans (hU.z (zl23 t0 t1))
theorem m4_told {U : aH} {c n w : Int} (hU : TZ U) : M4 (nwN (ovr (ts4 c n w) U) (ovr (ts4 c n w) U)) n 0 :=
  ⟨⟨(nw0 _ _ 0 (p := 0) (by omega) (by omega)).trans (alv_n (show (0 : Int) ≠ 1 by omega)), (nw0 _ _ 0 (p := 1) (by omega) (by omega)).trans ((alv_a rfl).trans (show n = n - 0 by omega))⟩, (nw1 _ _ 0).1, (nw1 _ _ 0).2.2.2⟩
theorem x4_told {T : aH} {S : aSS} {σ : aS} {bt : Int → Int} {L mT : Int} {c n w : Int} (c0 : 0 ≤ c) (c1 : c ≤ 999) (n0 : 1 ≤ n) (n1 : n ≤ 6) (w0 : 0 ≤ w) (w1 : w ≤ 99) (h : CSt T S σ) (hT : TPc bt mT σ) (hm : L ≤ mT) (hs : Sfx bt L 0 (tx4 c n w)) :
    ∃ τ T N H im IM, c11_text 1 L σ = some (0, [3], τ) ∧ Fp wlo σ τ ∧ CSt T (N, H, 0, im, IM) τ ∧ SG T 0 (N, H, 0, im, IM) ∧ (∃ bt, TPc bt 0 τ) ∧ A4 T n c w ∧ M4 N n 0 ∧ N 3 1 = 0 := by
  obtain ⟨U, hU, τ, e, hF, hC, hG, hT2⟩ := text_gen (l := ts4 c n w) h hT hm hs (fun U hU hs => tr4 c0 c1 n0 n1 w0 w1 hs hU) (fun U hU => z4_told hU)
  exact ⟨τ, _, _, _, _, _, e, hF, hC, hG, hT2, a4_told c0 c1 n0 n1 w0 w1 hU, m4_told hU, (nw1 _ _ 1).2.1⟩
theorem a5_told {U : aH} {n m l : Int} (n0 : 1 ≤ n) (n1 : n ≤ 6) (m0 : 1 ≤ m) (m1 : m ≤ 6) (l0 : 1 ≤ l) (l1 : l ≤ 20) (hU : TZ U) : A5 (ovr (ts5 n m l) U) n m l :=
  ⟨⟨hU.z (a := 0) (i := 0) rfl, rfl, rfl⟩, ⟨rfl, rfl, rfl, rfl, rfl, rfl⟩, ⟨hU.z (a := 4) (i := 0) rfl, rfl, rfl, hU.z (a := 4) (i := 6) rfl⟩, ⟨rfl, rfl, rfl, rfl, rfl, rfl⟩, ⟨n0, n1, m0, m1, l0, l1⟩⟩
theorem z5_told {U : aH} {n m l : Int} (hU : TZ U) : ∀ t, 0 ≤ t → t < 4 → ovr (ts5 n m l) U 23 t = 0 := fun t t0 t1 => (show ovr (ts5 n m l) U 23 t = U 23 t from rfl).trans (hU.z (zl23 t0 t1))
theorem m5_told {U : aH} {n m l : Int} (hU : TZ U) : M5 (nwN (ovr (ts5 n m l) U) (ovr (ts5 n m l) U)) n m 0 0 :=
  ⟨⟨(nw0 _ _ 0 (p := 0) (by omega) (by omega)).trans (alv_n (show (0 : Int) ≠ 2 by omega)), (nw0 _ _ 0 (p := 1) (by omega) (by omega)).trans (alv_n (show (1 : Int) ≠ 2 by omega)), (nw0 _ _ 0 (p := 2) (by omega) (by omega)).trans ((alv_a rfl).trans (show n = n - 0 by omega))⟩, ⟨(nw0 _ _ 1 (p := 0) (by omega) (by omega)).trans (alv_n (show (0 : Int) ≠ 2 by omega)), (nw0 _ _ 1 (p := 1) (by omega) (by omega)).trans (alv_n (show (1 : Int) ≠ 2 by omega)), (nw0 _ _ 1 (p := 2) (by omega) (by omega)).trans ((alv_a rfl).trans (show m = m - 0 by omega))⟩, (nw1 _ _ 0).1, (nw1 _ _ 1).1, (nw1 _ _ 0).2.2.2⟩
theorem x5_told {T : aH} {S : aSS} {σ : aS} {bt : Int → Int} {L mT : Int} {n m l : Int} (n0 : 1 ≤ n) (n1 : n ≤ 6) (m0 : 1 ≤ m) (m1 : m ≤ 6) (l0 : 1 ≤ l) (l1 : l ≤ 20) (h : CSt T S σ) (hT : TPc bt mT σ) (hm : L ≤ mT) (hs : Sfx bt L 0 (tx5 n m l)) :
    ∃ τ T N H im IM, c11_text 1 L σ = some (0, [6], τ) ∧ Fp wlo σ τ ∧ CSt T (N, H, 0, im, IM) τ ∧ SG T 0 (N, H, 0, im, IM) ∧ (∃ bt, TPc bt 0 τ) ∧ A5 T n m l ∧ M5 N n m 0 0 ∧ N 3 1 = 0 := by
  obtain ⟨U, hU, τ, e, hF, hC, hG, hT2⟩ := text_gen (l := ts5 n m l) h hT hm hs (fun U hU hs => tr5 n0 n1 m0 m1 (by omega) l1 hs hU) (fun U hU => z5_told hU)
  exact ⟨τ, _, _, _, _, _, e, hF, hC, hG, hT2, a5_told n0 n1 m0 m1 l0 l1 hU, m5_told hU, (nw1 _ _ 1).2.1⟩
theorem a7_told {U : aH}  (hU : TZ U) : A7 (ovr (ts7) U) :=
  ⟨⟨rfl, rfl, rfl⟩, ⟨rfl, rfl, rfl, rfl, rfl⟩⟩
theorem z7_told {U : aH} (hU : TZ U) : ∀ t, 0 ≤ t → t < 4 → ovr (ts7) U 23 t = 0 := fun t t0 t1 => (show ovr (ts7) U 23 t = U 23 t from rfl).trans (hU.z (zl23 t0 t1))
theorem x7_told {T : aH} {S : aSS} {σ : aS} {bt : Int → Int} {L mT : Int}  (h : CSt T S σ) (hT : TPc bt mT σ) (hm : L ≤ mT) (hs : Sfx bt L 0 (tx7)) :
    ∃ τ T N H im IM, c11_text 1 L σ = some (0, [2], τ) ∧ Fp wlo σ τ ∧ CSt T (N, H, 0, im, IM) τ ∧ SG T 0 (N, H, 0, im, IM) ∧ (∃ bt, TPc bt 0 τ) ∧ A7 T := by
  obtain ⟨U, hU, τ, e, hF, hC, hG, hT2⟩ := text_gen (l := ts7) h hT hm hs (fun U hU hs => tr7  hs hU) (fun U hU => z7_told hU)
  exact ⟨τ, _, _, _, _, _, e, hF, hC, hG, hT2, a7_told  hU⟩
theorem x6_told {T : aH} {S : aSS} {σ : aS} {bt : Int → Int} {L mT : Int} (h : CSt T S σ) (hT : TPc bt mT σ) (hm : L ≤ mT) (hs : Sfx bt L 0 tx6) :
    ∃ τ p, c11_text 1 L σ = some (0, [-1], τ) ∧ Fp wlo σ τ ∧ CSt T S τ ∧ (∃ bt, TPc bt 0 τ) ∧ FCc 3 p τ := by
  obtain ⟨U, hU, hq⟩ := c11_text_ok h hT (L := L) (by have := hs.2.1; omega) hm
  have e3 := tr6 hs hU
  rcases hq with ⟨-, τ, e, hF, hC, hT2, hP⟩ | ⟨z, -⟩
  · rw [e3] at hP
    exact ⟨τ, _, e, hF, hC, ⟨bt, hT2⟩, hP⟩
  · rw [e3] at z; exact absurd z (by omega)
