def W_X9_bringSizes (b j : Int) : Prop := (152 ≤ b ∧ b ≤ 153)
theorem s_X9_bringSizes {n : Nat} {M : Mem} (iM : I n M) : wp (mX9_bringSizes 126 M) (fun q => I n q.2 ∧ Keep n W_X9_bringSizes M q.2 ∧ (NP q.2) ∧ True) := sorry
def W_X5_write (b j : Int) : Prop := (67 ≤ b ∧ b ≤ 70) ∨ (b = 66 ∧ j = 5)
theorem s_X5_write {n : Nat} {l1 l2 l3 l4 : Int} {M : Mem} (r_l1 : 0 ≤ l1 ∧ l1 ≤ 11) (r_l2 : (-2147483648) ≤ l2 ∧ l2 ≤ 2147483647) (r_l3 : (-2147483648) ≤ l3 ∧ l3 ≤ 2147483647) (r_l4 : (-2147483648) ≤ l4 ∧ l4 ≤ 2147483647) (y0 : mG M 66 5 ≤ 401) (iM : I n M) : wp (mX5_write 66 l1 l2 l3 l4 M) (fun q => I n q.2 ∧ Keep n W_X5_write M q.2 ∧ (mG q.2 66 5 = mG M 66 5 + 1) ∧ True) := sorry
def W_X9_copy (b j : Int) : Prop := (127 ≤ b ∧ b ≤ 151)
theorem s_X9_copy {n : Nat} {l1 l2 : Int} {M : Mem} (r_l1 : 0 ≤ l1 ∧ l1 ≤ 3) (r_l2 : 0 ≤ l2 ∧ l2 ≤ 3) (iM : I n M) : wp (mX9_copy 126 l1 l2 M) (fun q => I n q.2 ∧ Keep n W_X9_copy M q.2 ∧ True) := sorry
