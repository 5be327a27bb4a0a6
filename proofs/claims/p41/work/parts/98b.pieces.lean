/-! the law's pieces, text by text -/
def SK (σ τ : aS) : Prop := τ.1 = σ.1 ∧ τ.2.2 = σ.2.2
def SGR (r : aR) (σ : aS) (t : Nat) (vs : List Int) (Q : aS → Prop) : Prop := ∃ υ, r = some (t, vs, υ) ∧ SK σ υ ∧ Q υ
def TXR (L : Int) (σ : aS) (P : Int → aS → Prop) : Prop := ∃ τ v, c11_text 1 L σ = some (0, [v], τ) ∧ SK σ τ ∧ P v τ
theorem SK.fp {P : Int → Int → Prop} {σ τ : aS} (h : Fp P σ τ) : SK σ τ := ⟨h.1, h.2.1⟩
theorem Gd.sg {t : Nat} {vs : List Int} {σ : aS} {r : aR} (h : Gd t vs σ r) (hT : ∃ bt, TPc bt 0 σ) : SGR r σ t vs OBJ := by
  obtain ⟨υ, e, hF, hO⟩ := h.o hT
  exact ⟨υ, e, SK.fp hF, hO⟩
section PCS
variable {T : aH} {S : aSS} {σ : aS} {bt : Int → Int} {L mT : Int} {n o v w k l c m : Int}
theorem pq1 (h : CSt T S σ) (hT : TPc bt mT σ) (hm : L ≤ mT) (hs : Sfx bt L 0 (tx1 n o v w k)) (n0 : 1 ≤ n) (n1 : n ≤ 6) (o0 : 0 ≤ o) (o1 : o ≤ 99) (v0 : 0 ≤ v) (v1 : v ≤ 99) (w1 : w ≤ 99) (k0 : 0 ≤ k) (k1 : k ≤ 99) (hg : 0 < w - k - o - v) :
    TXR L σ (fun x τ => SGR (law_p188 x 0 1 n o v (w - o - v - k) k w τ) τ 637 [1, 0, 1, n] OBJ) := by
  obtain ⟨τ, T, N, H, im, IM, e, hF, hC, hG, hb, hA, hM, -⟩ := x1_told n0 n1 o0 o1 v0 v1 (by omega) w1 k0 k1 h hT hm hs
  exact ⟨τ, _, e, SK.fp hF, (seg188 hA hM hC hG hg o0 w1).sg hb⟩
theorem pq2 (h : CSt T S σ) (hT : TPc bt mT σ) (hm : L ≤ mT) (hs : Sfx bt L 0 (tx2 l)) (l0 : 1 ≤ l) (l1 : l ≤ 20) :
    TXR L σ (fun x τ => SGR (law_p692 x 0 1 n l τ) τ 741 [7, 1, 0, 1, n, l] (fun υ => ∀ m, 0 ≤ m → m < 40 → SGR (law_p751 m 7 1 0 1 n l υ) υ 792 [0, 1, n, l] OBJ)) := by
  obtain ⟨τ, T, N, H, im, IM, e, hF, hC, hG, ⟨bt, hb⟩, hA, hM, h3⟩ := x2_told l0 l1 h hT hm hs
  refine ⟨τ, _, e, SK.fp hF, ?_⟩
  obtain ⟨υ, e2, hF2, hC2⟩ := seg692 (n := n) hA hM hC hG
  refine ⟨υ, e2, SK.fp hF2, fun m m0 m1 => ?_⟩
  exact (seg751 m0 m1 hA hM h3 hC2 hG).sg ⟨bt, hb.fp hF2⟩
theorem pq3 (h : CSt T S σ) (hT : TPc bt mT σ) (hm : L ≤ mT) (hs : Sfx bt L 0 (tx3 c n)) (c0 : 0 ≤ c) (c1 : c ≤ 999) (n0 : 1 ≤ n) (n1 : n ≤ 6) :
    TXR L σ (fun x τ => SGR (law_p843 x 0 1 n l c τ) τ 947 [0, 1, n, l, c] OBJ) := by
  obtain ⟨τ, T, N, H, im, IM, e, hF, hC, hG, hb, hA, hM, -⟩ := x3_told c0 c1 n0 n1 h hT hm hs
  exact ⟨τ, _, e, SK.fp hF, (seg843 (S := (N, H, 0, im, IM)) hA hM hC hG).sg hb⟩
theorem pq4 (h : CSt T S σ) (hT : TPc bt mT σ) (hm : L ≤ mT) (hs : Sfx bt L 0 (tx4 c n w)) (c0 : 0 ≤ c) (c1 : c ≤ 999) (n0 : 1 ≤ n) (n1 : n ≤ 6) (w0 : 0 ≤ w) (w1 : w ≤ 99) :
    TXR L σ (fun x τ => SGR (law_p1007 x 0 1 n l c w τ) τ 1107 [1, 0, 1, n, l] OBJ) := by
  obtain ⟨τ, T, N, H, im, IM, e, hF, hC, hG, hb, hA, hM, -⟩ := x4_told c0 c1 n0 n1 w0 w1 h hT hm hs
  exact ⟨τ, _, e, SK.fp hF, (seg1007 (S := (N, H, 0, im, IM)) hA hM hC hG).sg hb⟩
theorem pq5 (h : CSt T S σ) (hT : TPc bt mT σ) (hm : L ≤ mT) (hs : Sfx bt L 0 (tx5 n m l)) (n0 : 1 ≤ n) (n1 : n ≤ 6) (m0 : 1 ≤ m) (m1 : m ≤ 6) (l0 : 1 ≤ l) (l1 : l ≤ 20) :
    TXR L σ (fun x τ => SGR (law_p1178 x 1 n l m τ) τ 1336 [1] OBJ) := by
  obtain ⟨τ, T, N, H, im, IM, e, hF, hC, hG, hb, hA, hM, -⟩ := x5_told n0 n1 m0 m1 l0 l1 h hT hm hs
  exact ⟨τ, _, e, SK.fp hF, (seg1178 (S := (N, H, 0, im, IM)) hA hM hC hG).sg hb⟩
theorem pq6 (h : CSt T S σ) (hT : TPc bt mT σ) (hm : L ≤ mT) (hs : Sfx bt L 0 tx6) : TXR L σ (fun x τ => SGR (law_p1341 x 1 τ) τ 1355 [1] OBJ) := by
  obtain ⟨τ, p, e, hF, hC, hb, hP⟩ := x6_told h hT hm hs
  exact ⟨τ, _, e, SK.fp hF, (seg1341 hC hP).sg hb⟩
theorem pq7 (h : CSt T S σ) (hT : TPc bt mT σ) (hm : L ≤ mT) (hs : Sfx bt L 0 tx7) : TXR L σ (fun x τ => SGR (law_p1360 x 1 τ) τ 0 [1] OBJ) := by
  obtain ⟨τ, T, N, H, im, IM, e, hF, hC, hG, hb, hA⟩ := x7_told h hT hm hs
  exact ⟨τ, _, e, SK.fp hF, (seg1360 hA hC).sg hb⟩
theorem p68_ok (o0 : 0 ≤ o) (o1 : o ≤ 49) (v0 : 0 ≤ v) (v1 : v ≤ 19) (k0 : 0 ≤ k) (k1 : k ≤ 29) {g : Int} (g0 : 1 ≤ g) (g1 : g ≤ 40) :
    ∃ o' w, law_p68 k 0 1 n o v g σ = some (118, [0, 1, n, o', v, w - o' - v - k, k, w], σ) ∧ (0 ≤ o' ∧ o' ≤ 99) ∧ (0 ≤ w ∧ w ≤ 99) ∧ 0 < w - k - o' - v := by
  have e1 : jmin 99 (o + v + k + g) σ = some (0, [if o + v + k + g < 99 then o + v + k + g else 99], σ) := by
    unfold jmin
    split <;> rfl
  unfold law_p68
  rw [wq (x := o + v) (by omega) (by omega), wq (x := o + v + k) (by omega) (by omega), wq (x := o + v + k + g) (by omega) (by omega), e1, acall1_some]
  generalize hw : (if o + v + k + g < 99 then o + v + k + g else 99) = w
  have b : (99 ≤ o + v + k + g ∧ w = 99) ∨ (o + v + k + g < 99 ∧ w = o + v + k + g) := by
    rw [← hw]; split <;> omega
  rw [wq (x := w - o) (by omega) (by omega), wq (x := w - o - v) (by omega) (by omega), wq (x := w - o - v - k) (by omega) (by omega), wq (x := w - v) (by omega) (by omega), wq (x := w - v - k) (by omega) (by omega)]
  by_cases q : w - o - v - k < 1
  · rw [if_pos q]
    exact ⟨0, w, by rw [Int.sub_zero], by omega, by omega, by omega⟩
  · rw [if_neg q]
    exact ⟨o, w, rfl, by omega, by omega, by omega⟩
end PCS
