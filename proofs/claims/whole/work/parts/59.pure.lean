/-- the memory behind the two constructors -/
def F_ini : MM := (mup (mup (mup (mup (mup (mup (mup (mup (mup (mup (fun _ _ => 0) 8 0 1) 8 1 1) 8 2 3) 8 3 5) 10 2 4) 13 3 (-1)) 164 4 1) 164 5 1) 164 7 3) 164 8 5)
theorem law_true {L : Nat} (hL : L ≤ 2048) (xs : Nat → Int32) : s_L_law_b23 L xs 600 F_ini (fun _ => 0) 0 = some 1 := sorry
