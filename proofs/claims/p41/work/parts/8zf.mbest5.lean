/-! the class's half of whole's part of this name -/
def bstN (T N : aH) : aH := PN T N (bsN (svA T N) (npT T).toNat)
def bsB (T N : aH) : Bool := decide (npT T ≤ 3000) && !same T N (bstN T N)
def sBest (T : aH) (S : aH × (Int → aH) × Int × Int × aH) : aH × (Int → aH) × Int × Int × aH := if bsB T S.1 = true then psS S (bstN T S.1) else S
