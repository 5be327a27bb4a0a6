def tcode : List aE := [(0, .aload_n 0, 1, [], 0, some ([(0, 20)], [])), (1, .getfield 54, 3, [10, 8, 0], 0, none), (4, .aload_n 0, 1, [], 0, none), (5, .getfield 50, 3, [10, 6, 0], 0, none), (8, .if_icmp .ge 7, 3, [], 0, none), (11, .iconst 1, 1, [], 0, none), (12, .goto 4, 3, [], 0, none), (15, .iconst 0, 1, [], 0, none), (16, .istore_n 1, 1, [], 0, none), (17, .iload_n 1, 1, [], 0, none), (18, .ireturn, 1, [0], 0, none)]
theorem ttest (F : Nat → List Int → aS → aR) (X : aX) (this : Int) (σ : aS) : aseg F X 2 tcode 0 [this] σ = if aget σ this 8 < aget σ this 6 then some (0, [1], σ) else some (0, [0], σ) := rfl
theorem ttest2 (F : Nat → List Int → aS → aR) (X : aX) (this : Int) (σ : aS) : aseg F X 2 tcode 0 [this] σ = if aget σ this 8 < aget σ this 6 then some (0, [1], σ) else some (0, [0], σ) := by
  simp only [aseg, tcode, afrom, Nat.beq]
  rfl
