theorem law_one (L : Nat) (xs : Nat → Int32) (hL : L ≤ 6) : ∃ q : Int × Mem, mL_law L xs M0 = some q ∧ q.1 = 1 := sorry
