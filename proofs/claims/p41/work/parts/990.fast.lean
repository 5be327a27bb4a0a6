/-! methods' rows looked at in another way: bytes compared one by one -/
def fbE : List UInt8 → List UInt8 → Bool
  | [], [] => true
  | a :: l, b :: l' => Nat.beq a.toNat b.toNat && fbE l l'
  | _, _ => false
theorem fbE_eq : ∀ {l l' : List UInt8}, fbE l l' = true → l = l' := by
  intro l
  induction l with
  | nil => intro l' h; cases l' with
    | nil => rfl
    | cons b l' => cases h
  | cons a l ih =>
    intro l' h
    cases l' with
    | nil => cases h
    | cons b l' =>
      unfold fbE at h
      simp only [Bool.and_eq_true] at h
      rw [UInt8.toNat_inj.mp (Nat.eq_of_beq_eq_true h.1), ih h.2]
def fbC : Cond → Cond → Bool
  | .code y b n r, .code y' b' n' r' => decide (y = y') && fbE b.data.toList b'.data.toList && decide (n = n') && decide (r = r')
  | _, _ => false
theorem fbC_eq {w w' : Cond} (h : fbC w w' = true) : w = w' := by
  unfold fbC at h
  split at h
  · rename_i y b n r y' b' n' r'
    simp only [Bool.and_eq_true, decide_eq_true_eq] at h
    obtain ⟨⟨⟨h1, h2⟩, h3⟩, h4⟩ := h
    obtain ⟨⟨l⟩⟩ := b
    obtain ⟨⟨l'⟩⟩ := b'
    have h2 : l = l' := fbE_eq h2
    rw [h1, h2, h3, h4]
  · cases h
def fbM (w : Cond) : List Cond → Bool
  | [] => false
  | c :: W => fbC w c || fbM w W
theorem fbM_in {w : Cond} : ∀ {W : List Cond}, fbM w W = true → w ∈ W := by
  intro W
  induction W with
  | nil => intro h; cases h
  | cons c W ih =>
    intro h
    unfold fbM at h
    rcases Bool.or_eq_true _ _ ▸ h with h | h
    · rw [fbC_eq h]; exact List.mem_cons_self
    · exact List.mem_cons_of_mem _ (ih h)
def fCok (M M' : aM) (i k : Nat) (ts : List Nat) (W : List Cond) : Bool :=
  fbM (Cond.code (aMy M') (aMb M') (aMn M') (aMr M')) W && decide (Cond.initialized (aMy M').cls ∈ W) && decide ((aMy M').cls ≠ "java/lang/invoke/MethodHandle" ∧ (aMy M').cls ≠ "java/lang/invoke/VarHandle") &&
  Nat.ble (aMf M' + 1) (aMf M) && Nat.ble (8 + (aMn M' + 11) + aMo M') (aMo M) && aRk (aMr M') k && decide (ts = (aMp M').reverse) && plainFor (aMy M') && ts.all (fun t => !(Nat.beq t 6))
theorem fCok_ok {M M' : aM} {i k : Nat} {ts : List Nat} {W : List Cond} (h : fCok M M' i k ts W = true) : aCok M M' i k ts W = true := by
  unfold fCok at h
  unfold aCok
  simp only [Bool.and_eq_true] at h ⊢
  obtain ⟨⟨⟨⟨⟨⟨⟨⟨h1, h2⟩, h3⟩, h4⟩, h5⟩, h6⟩, h7⟩, h8⟩, h9⟩ := h
  exact ⟨⟨⟨⟨⟨⟨⟨⟨decide_eq_true (fbM_in h1), h2⟩, h3⟩, h4⟩, h5⟩, h6⟩, h7⟩, h8⟩, h9⟩
def fEok (ms : List aM) (M : aM) (e : aE) : Bool := match e.2.1 with
  | .invokespecial i => match e.2.2.2.1 with
    | f :: 0 :: ts => decide (decode (aMb M) e.1 = .ok (.invokespecial i, e.2.2.1)) && aIl (.invokespecial i) e.2.2.1 && match ms[f]? with
      | some M' => fCok M M' i 0 ts (aMw M) && aLink (aMy M).cls i (aMy M') (aMw M) && decide (Cond.instanceMethod (aMy M') ∈ aMw M) && decide ((aMy M').name = "<init>") && aArity (aMy M') (ts.length - 1) && Nat.ble 1 ts.length && ts.getLast?.any (fun t => Nat.ble 2 t)
      | none => false
    | _ => aEok ms M e
  | .invokevirtual i => match e.2.2.2.1 with
    | f :: k :: ts => decide (decode (aMb M) e.1 = .ok (.invokevirtual i, e.2.2.1)) && aIl (.invokevirtual i) e.2.2.1 && match ms[f]? with
      | some M' => fCok M M' i k ts (aMw M) && aLink (aMy M).cls i (aMy M') (aMw M) && decide (Cond.instanceMethod (aMy M') ∈ aMw M) && decide (Cond.selects (aMy M').cls (aMy M') (aMy M') ∈ aMw M) && aArity (aMy M') (ts.length - 1) &&
        (decide (ts.getLast? = some (10 + (ts.getLastD 0 - 10)) ∧ aC1 (ts.getLastD 0 - 10) = (aMy M').cls ∧ ts.getLastD 0 - 10 < 12) || decide (ts.getLast? = some 5 ∧ (aMy M').cls = "java/lang/String"))
      | none => false
    | _ => aEok ms M e
  | .invokestatic i => match e.2.2.2.1 with
    | f :: k :: ts => decide (decode (aMb M) e.1 = .ok (.invokestatic i, e.2.2.1)) && aIl (.invokestatic i) e.2.2.1 && match ms[f]? with
      | some M' => fCok M M' i k ts (aMw M) && aLink (aMy M).cls i (aMy M') (aMw M) && decide (Cond.static (aMy M') ∈ aMw M) && aArity (aMy M') ts.length
      | none => true
    | _ => aEok ms M e
  | _ => aEok ms M e
theorem fEok_ok {ms : List aM} {M : aM} {e : aE} (h : fEok ms M e = true) : aEok ms M e = true := by
  obtain ⟨pc, ins, len, aux, cst, cut⟩ := e
  cases ins
  case invokespecial i =>
    match aux, h with
    | [], h => exact h
    | [_], h => exact h
    | f :: 0 :: ts, h =>
      have h : (decide (decode (aMb M) pc = .ok (.invokespecial i, len)) && aIl (.invokespecial i) len && match ms[f]? with
        | some M' => fCok M M' i 0 ts (aMw M) && aLink (aMy M).cls i (aMy M') (aMw M) && decide (Cond.instanceMethod (aMy M') ∈ aMw M) && decide ((aMy M').name = "<init>") && aArity (aMy M') (ts.length - 1) && Nat.ble 1 ts.length && ts.getLast?.any (fun t => Nat.ble 2 t)
        | none => false) = true := h
      show (decide (decode (aMb M) pc = .ok (.invokespecial i, len)) && aIl (.invokespecial i) len && match ms[f]? with
        | some M' => aCok M M' i 0 ts (aMw M) && aLink (aMy M).cls i (aMy M') (aMw M) && decide (Cond.instanceMethod (aMy M') ∈ aMw M) && decide ((aMy M').name = "<init>") && aArity (aMy M') (ts.length - 1) && Nat.ble 1 ts.length && ts.getLast?.any (fun t => Nat.ble 2 t)
        | none => false) = true
      cases hM : ms[f]? with
      | none => rw [hM] at h; simp at h
      | some M' =>
        rw [hM] at h
        dsimp only at h ⊢
        simp only [Bool.and_eq_true] at h ⊢
        obtain ⟨h0, ⟨⟨⟨⟨⟨h1, h2⟩, h3⟩, h4⟩, h5⟩, h6⟩, h7⟩ := h
        exact ⟨h0, ⟨⟨⟨⟨⟨fCok_ok h1, h2⟩, h3⟩, h4⟩, h5⟩, h6⟩, h7⟩
    | _ :: (_ + 1) :: _, h => exact h
  case invokevirtual i =>
    match aux, h with
    | [], h => exact h
    | [_], h => exact h
    | f :: k :: ts, h =>
      unfold fEok at h
      unfold aEok
      dsimp only at h ⊢
      cases hM : ms[f]? with
      | none => rw [hM] at h; simp at h
      | some M' =>
        rw [hM] at h
        dsimp only at h ⊢
        simp only [Bool.and_eq_true] at h ⊢
        obtain ⟨h0, ⟨⟨⟨⟨h1, h2⟩, h3⟩, h4⟩, h5⟩, h6⟩ := h
        exact ⟨h0, ⟨⟨⟨⟨fCok_ok h1, h2⟩, h3⟩, h4⟩, h5⟩, h6⟩
  case invokestatic i =>
    match aux, h with
    | [], h => exact h
    | [_], h => exact h
    | f :: k :: ts, h =>
      have h : (decide (decode (aMb M) pc = .ok (.invokestatic i, len)) && aIl (.invokestatic i) len && match ms[f]? with
        | some M' => fCok M M' i k ts (aMw M) && aLink (aMy M).cls i (aMy M') (aMw M) && decide (Cond.static (aMy M') ∈ aMw M) && aArity (aMy M') ts.length
        | none => true) = true := h
      rw [Bool.and_eq_true] at h
      unfold aEok
      dsimp only
      rw [Bool.and_eq_true]
      refine ⟨h.1, ?_⟩
      have h := h.2
      split
      · rename_i he
        cases he
      · rename_i f' k' ts' he
        cases he
        cases hM : ms[f]? with
        | none => rfl
        | some M' =>
          rw [hM] at h
          dsimp only at h ⊢
          simp only [Bool.and_eq_true] at h ⊢
          obtain ⟨⟨⟨h1, h2⟩, h3⟩, h4⟩ := h
          exact ⟨⟨⟨fCok_ok h1, h2⟩, h3⟩, h4⟩
      · rfl
  all_goals exact h
def fMok (ms : List aM) (M : aM) : Bool := (aMc M).all (fEok ms M) && aSeq (aMc M) && plainFor (aMy M) && decide ((aMw M).all (fun w => goodWord w) = true)
theorem fMok_ok {ms : List aM} {M : aM} (h : fMok ms M = true) : aMok ms M = true := by
  unfold fMok at h
  unfold aMok
  simp only [Bool.and_eq_true, List.all_eq_true] at h ⊢
  exact ⟨⟨⟨fun e he => fEok_ok (h.1.1.1 e he), h.1.1.2⟩, h.1.2⟩, h.2⟩
theorem all_chunk {α : Type} (p : α → Bool) (n : Nat) : ∀ (k : Nat) (l : List α), l.length ≤ n * k → (∀ i, i < k → ((l.drop (i * n)).take n).all p = true) → l.all p = true := by
  intro k
  induction k with
  | zero =>
    intro l hl _
    cases l with
    | nil => rfl
    | cons a l => simp at hl
  | succ k ih =>
    intro l hl h
    have h0 := h 0 (Nat.succ_pos k)
    have h1 := ih (l.drop n) (by rw [List.length_drop, Nat.mul_succ] at *; omega) (fun i hi => by
      have := h (i + 1) (Nat.succ_lt_succ hi)
      rw [List.drop_drop]
      rw [Nat.succ_mul, Nat.add_comm] at this
      exact this)
    rw [← List.take_append_drop n l, List.all_append, h1, Bool.and_true]
    simpa using h0
