/-! ===== at first all is as it must be ===== -/
def badL (f : Nat) : List Int := match f with | 1 => [0, 1, 2, 3, 4, 5] | 2 => [0, 1, 2] | 8 => [0] | 10 => [0, 2, 3, 4, 8, 9, 10, 15, 16, 17] | 20 => [0, 1, 2, 3, 4] | 21 => [0, 1, 2] | 23 => [0, 1, 2, 3, 5, 6, 7, 8, 9, 11] | 24 => [0, 1, 2, 3, 4, 5, 6, 7, 8] | 27 => [2, 3, 4] | 31 => [0, 1, 2, 3] | 34 => [5, 6] | 35 => [0, 1, 2, 3, 4] | 42 => [1, 2, 3, 4, 5, 6, 7, 8, 9, 10, 11, 12, 13, 14, 15, 16, 17, 18, 19, 20, 21, 22, 23, 24, 25, 26, 27, 28, 39, 41, 42, 43, 44, 45, 47, 51, 55, 56, 58, 59, 60, 61, 62] | 49 => [0, 1, 2] | _ => []
theorem ok0_1 (a j : Int) : okf 1 a j 0 ∨ j ∈ badL 1 := by
  show (match j with | 0 => (0 : Int) = a + 1 | 1 => (0 : Int) = a + 2 | 2 => (0 : Int) = a + 3 | 3 => (0 : Int) = a + 4 | 4 => (0 : Int) = a + 5 | 5 => (0 : Int) = a + 6 | 6 => 0 ≤ (0 : Int) ∧ (0 : Int) ≤ 4 | 7 => 0 ≤ (0 : Int) ∧ (0 : Int) ≤ 36 | _ => True) ∨ j ∈ badL 1
  split <;> first | exact Or.inl trivial | exact Or.inl (Or.inl rfl) | exact Or.inr (by decide) | exact Or.inl (by decide)
theorem ok0_2 (a j : Int) : okf 2 a j 0 ∨ j ∈ badL 2 := by
  by_cases e : 0 ≤ j ∧ j < 3
  · right
    have : ∀ m : Nat, m < 3 → (m : Int) ∈ badL 2 := by decide
    have z := this j.toNat (by omega)
    rw [show ((j.toNat : Nat) : Int) = j by omega] at z; exact z
  · left
    exact fun z1 z2 => absurd ⟨z1, z2⟩ e
theorem ok0_3 (a j : Int) : okf 3 a j 0 ∨ j ∈ badL 3 := Or.inl (show 0 ≤ (0 : Int) ∧ (0 : Int) ≤ 2 from by decide)
theorem ok0_4 (a j : Int) : okf 4 a j 0 ∨ j ∈ badL 4 := Or.inl (show (-1) ≤ (0 : Int) ∧ (0 : Int) ≤ 2 from by decide)
theorem ok0_5 (a j : Int) : okf 5 a j 0 ∨ j ∈ badL 5 := by
  left
  show 0 ≤ j → j < 4 → 0 ≤ (0 : Int) ∧ (0 : Int) ≤ 9 * j
  intro z1 z2
  omega
theorem ok0_6 (a j : Int) : okf 6 a j 0 ∨ j ∈ badL 6 := Or.inl (show 0 ≤ (0 : Int) ∧ (0 : Int) ≤ 3 from by decide)
theorem ok0_7 (a j : Int) : okf 7 a j 0 ∨ j ∈ badL 7 := Or.inl (show 0 ≤ (0 : Int) ∧ (0 : Int) ≤ 3 from by decide)
theorem ok0_8 (a j : Int) : okf 8 a j 0 ∨ j ∈ badL 8 := by
  show (match j with | 0 => (0 : Int) = a + 1 | 1 => 0 ≤ (0 : Int) ∧ (0 : Int) ≤ 64 | 2 => 0 ≤ (0 : Int) ∧ (0 : Int) ≤ 12 | _ => True) ∨ j ∈ badL 8
  split <;> first | exact Or.inl trivial | exact Or.inl (Or.inl rfl) | exact Or.inr (by decide) | exact Or.inl (by decide)
theorem ok0_9 (a j : Int) : okf 9 a j 0 ∨ j ∈ badL 9 := Or.inl trivial
theorem ok0_10 (a j : Int) : okf 10 a j 0 ∨ j ∈ badL 10 := by
  show (match j with | 0 => (0 : Int) = a + 1 | 2 => (0 : Int) = a + 8 | 3 => (0 : Int) = a + 9 | 4 => (0 : Int) = a + 10 | 5 => 0 ≤ (0 : Int) ∧ (0 : Int) ≤ 400 | 6 => 0 ≤ (0 : Int) ∧ (0 : Int) ≤ 5 | 7 => (-1) ≤ (0 : Int) ∧ (0 : Int) ≤ 400 | 8 => (0 : Int) = a + 11 | 9 => (0 : Int) = a + 12 | 10 => (0 : Int) = a + 13 | 11 => 0 ≤ (0 : Int) ∧ (0 : Int) ≤ 8 | 13 => 0 ≤ (0 : Int) ∧ (0 : Int) ≤ 999 | 14 => (-1) ≤ (0 : Int) ∧ (0 : Int) ≤ 999 | 15 => (0 : Int) = a + 14 | 16 => (0 : Int) = a + 15 | 17 => (0 : Int) = a + 16 | 18 => 0 ≤ (0 : Int) ∧ (0 : Int) ≤ 40 | _ => True) ∨ j ∈ badL 10
  split <;> first | exact Or.inl trivial | exact Or.inl (Or.inl rfl) | exact Or.inr (by decide) | exact Or.inl (by decide)
theorem ok0_11 (a j : Int) : okf 11 a j 0 ∨ j ∈ badL 11 := Or.inl trivial
theorem ok0_12 (a j : Int) : okf 12 a j 0 ∨ j ∈ badL 12 := Or.inl (show 0 ≤ (0 : Int) ∧ (0 : Int) ≤ 1 from by decide)
theorem ok0_13 (a j : Int) : okf 13 a j 0 ∨ j ∈ badL 13 := Or.inl (show 0 ≤ (0 : Int) ∧ (0 : Int) ≤ 255 from by decide)
theorem ok0_14 (a j : Int) : okf 14 a j 0 ∨ j ∈ badL 14 := Or.inl trivial
theorem ok0_15 (a j : Int) : okf 15 a j 0 ∨ j ∈ badL 15 := Or.inl (show 0 ≤ (0 : Int) ∧ (0 : Int) ≤ 999 from by decide)
theorem ok0_16 (a j : Int) : okf 16 a j 0 ∨ j ∈ badL 16 := Or.inl (show (-1) ≤ (0 : Int) ∧ (0 : Int) ≤ 999 from by decide)
theorem ok0_17 (a j : Int) : okf 17 a j 0 ∨ j ∈ badL 17 := Or.inl (show 0 ≤ (0 : Int) ∧ (0 : Int) ≤ 35 from by decide)
theorem ok0_18 (a j : Int) : okf 18 a j 0 ∨ j ∈ badL 18 := Or.inl (show 0 ≤ (0 : Int) ∧ (0 : Int) ≤ 1 from by decide)
theorem ok0_19 (a j : Int) : okf 19 a j 0 ∨ j ∈ badL 19 := Or.inl (show 0 ≤ (0 : Int) ∧ (0 : Int) ≤ 999 from by decide)
theorem ok0_20 (a j : Int) : okf 20 a j 0 ∨ j ∈ badL 20 := by
  show (match j with | 0 => (0 : Int) = 2 | 1 => (0 : Int) = 3 | 2 => (0 : Int) = 65 | 3 => (0 : Int) = 73 | 4 => (0 : Int) = 74 | _ => True) ∨ j ∈ badL 20
  split <;> first | exact Or.inl trivial | exact Or.inl (Or.inl rfl) | exact Or.inr (by decide) | exact Or.inl (by decide)
theorem ok0_21 (a j : Int) : okf 21 a j 0 ∨ j ∈ badL 21 := by
  by_cases e : 0 ≤ j ∧ j < 3
  · right
    have : ∀ m : Nat, m < 3 → (m : Int) ∈ badL 21 := by decide
    have z := this j.toNat (by omega)
    rw [show ((j.toNat : Nat) : Int) = j by omega] at z; exact z
  · left
    exact fun z1 z2 => absurd ⟨z1, z2⟩ e
theorem ok0_22 (a j : Int) : okf 22 a j 0 ∨ j ∈ badL 22 := Or.inl (show 0 ≤ (0 : Int) ∧ (0 : Int) ≤ 1 from by decide)
theorem ok0_23 (a j : Int) : okf 23 a j 0 ∨ j ∈ badL 23 := by
  show (match j with | 0 => (0 : Int) = 3 | 1 => (0 : Int) = 20 | 2 => (0 : Int) = 24 | 3 => (0 : Int) = 31 | 4 => (-2147483648) ≤ (0 : Int) ∧ (0 : Int) ≤ 2147483647 | 5 => (0 : Int) = 32 | 6 => (0 : Int) = 34 | 7 => (0 : Int) = 36 | 8 => (0 : Int) = 38 | 9 => (0 : Int) = 45 | 10 => (-2147483648) ≤ (0 : Int) ∧ (0 : Int) ≤ 2147483647 | 11 => (0 : Int) = 46 | _ => True) ∨ j ∈ badL 23
  split <;> first | exact Or.inl trivial | exact Or.inl (Or.inl rfl) | exact Or.inr (by decide) | exact Or.inl (by decide)
theorem ok0_24 (a j : Int) : okf 24 a j 0 ∨ j ∈ badL 24 := by
  by_cases e : 0 ≤ j ∧ j < 9
  · right
    have : ∀ m : Nat, m < 9 → (m : Int) ∈ badL 24 := by decide
    have z := this j.toNat (by omega)
    rw [show ((j.toNat : Nat) : Int) = j by omega] at z; exact z
  · left
    exact fun z1 z2 => absurd ⟨z1, z2⟩ e
theorem ok0_25 (a j : Int) : okf 25 a j 0 ∨ j ∈ badL 25 := Or.inl (show (-1) ≤ (0 : Int) ∧ (0 : Int) ≤ 3 from by decide)
theorem ok0_26 (a j : Int) : okf 26 a j 0 ∨ j ∈ badL 26 := Or.inl (show (-2147483648) ≤ (0 : Int) ∧ (0 : Int) ≤ 2147483647 from by decide)
theorem ok0_27 (a j : Int) : okf 27 a j 0 ∨ j ∈ badL 27 := by
  show (match j with | 0 => (0 : Int) = 0 ∨ isShape ((0 : Int)) | 2 => (0 : Int) = 21 | 3 => (0 : Int) = 22 | 4 => (0 : Int) = 23 | 5 => (-2147483648) ≤ (0 : Int) ∧ (0 : Int) ≤ 2147483647 | _ => True) ∨ j ∈ badL 27
  split <;> first | exact Or.inl trivial | exact Or.inl (Or.inl rfl) | exact Or.inr (by decide) | exact Or.inl (by decide)
theorem ok0_28 (a j : Int) : okf 28 a j 0 ∨ j ∈ badL 28 := Or.inl trivial
theorem ok0_29 (a j : Int) : okf 29 a j 0 ∨ j ∈ badL 29 := Or.inl (show (-2147483648) ≤ (0 : Int) ∧ (0 : Int) ≤ 2147483647 from by decide)
theorem ok0_30 (a j : Int) : okf 30 a j 0 ∨ j ∈ badL 30 := Or.inl trivial
theorem ok0_31 (a j : Int) : okf 31 a j 0 ∨ j ∈ badL 31 := by
  show (match j with | 0 => (0 : Int) = 25 | 1 => (0 : Int) = 26 | 2 => (0 : Int) = 27 | 3 => (0 : Int) = 29 | 4 => 0 ≤ (0 : Int) ∧ (0 : Int) ≤ 216 | 5 => 0 ≤ (0 : Int) ∧ (0 : Int) ≤ 12 | 6 => 0 ≤ (0 : Int) ∧ (0 : Int) ≤ 1 | 7 => 0 ≤ (0 : Int) ∧ (0 : Int) ≤ 1 | _ => True) ∨ j ∈ badL 31
  split <;> first | exact Or.inl trivial | exact Or.inl (Or.inl rfl) | exact Or.inr (by decide) | exact Or.inl (by decide)
theorem ok0_32 (a j : Int) : okf 32 a j 0 ∨ j ∈ badL 32 := Or.inl (show 0 ≤ (0 : Int) ∧ (0 : Int) ≤ 6 from by decide)
theorem ok0_33 (a j : Int) : okf 33 a j 0 ∨ j ∈ badL 33 := Or.inl (show (-2147483648) ≤ (0 : Int) ∧ (0 : Int) ≤ 2147483647 from by decide)
theorem ok0_34 (a j : Int) : okf 34 a j 0 ∨ j ∈ badL 34 := by
  show (match j with | 0 => (0 : Int) = 0 ∨ (0 : Int) = 3 | 1 => (0 : Int) = 0 ∨ (0 : Int) = 13 | 2 => 0 ≤ (0 : Int) ∧ (0 : Int) ≤ 400 | 3 => (0 : Int) = 0 ∨ (0 : Int) = 4 | 4 => 0 ≤ (0 : Int) ∧ (0 : Int) ≤ 1 | 5 => (0 : Int) = 66 | 6 => (0 : Int) = 72 | 7 => 0 ≤ (0 : Int) ∧ (0 : Int) ≤ 402 | 8 => 0 ≤ (0 : Int) ∧ (0 : Int) ≤ 3 | 9 => 0 ≤ (0 : Int) ∧ (0 : Int) ≤ 400 | 10 => 0 ≤ (0 : Int) ∧ (0 : Int) ≤ 400 | 11 => (-2147483648) ≤ (0 : Int) ∧ (0 : Int) ≤ 2147483647 | _ => True) ∨ j ∈ badL 34
  split <;> first | exact Or.inl trivial | exact Or.inl (Or.inl rfl) | exact Or.inr (by decide) | exact Or.inl (by decide)
theorem ok0_35 (a j : Int) : okf 35 a j 0 ∨ j ∈ badL 35 := by
  show (match j with | 0 => (0 : Int) = 67 | 1 => (0 : Int) = 68 | 2 => (0 : Int) = 69 | 3 => (0 : Int) = 70 | 4 => (0 : Int) = 71 | 5 => 0 ≤ (0 : Int) ∧ (0 : Int) ≤ 402 | _ => True) ∨ j ∈ badL 35
  split <;> first | exact Or.inl trivial | exact Or.inl (Or.inl rfl) | exact Or.inr (by decide) | exact Or.inl (by decide)
theorem ok0_36 (a j : Int) : okf 36 a j 0 ∨ j ∈ badL 36 := Or.inl (show 0 ≤ (0 : Int) ∧ (0 : Int) ≤ 11 from by decide)
theorem ok0_37 (a j : Int) : okf 37 a j 0 ∨ j ∈ badL 37 := Or.inl (show (-2147483648) ≤ (0 : Int) ∧ (0 : Int) ≤ 2147483647 from by decide)
theorem ok0_38 (a j : Int) : okf 38 a j 0 ∨ j ∈ badL 38 := Or.inl (show (-2147483648) ≤ (0 : Int) ∧ (0 : Int) ≤ 2147483647 from by decide)
theorem ok0_39 (a j : Int) : okf 39 a j 0 ∨ j ∈ badL 39 := Or.inl (show (-2147483648) ≤ (0 : Int) ∧ (0 : Int) ≤ 2147483647 from by decide)
theorem ok0_40 (a j : Int) : okf 40 a j 0 ∨ j ∈ badL 40 := Or.inl (show (-2147483648) ≤ (0 : Int) ∧ (0 : Int) ≤ 2147483647 from by decide)
theorem ok0_41 (a j : Int) : okf 41 a j 0 ∨ j ∈ badL 41 := Or.inl (show (-2147483648) ≤ (0 : Int) ∧ (0 : Int) ≤ 2147483647 from by decide)
theorem ok0_42 (a j : Int) : okf 42 a j 0 ∨ j ∈ badL 42 := by
  show (match j with | 0 => 0 ≤ (0 : Int) ∧ (0 : Int) ≤ 0 | 1 => (0 : Int) = 127 | 2 => (0 : Int) = 128 | 3 => (0 : Int) = 129 | 4 => (0 : Int) = 130 | 5 => (0 : Int) = 131 | 6 => (0 : Int) = 132 | 7 => (0 : Int) = 133 | 8 => (0 : Int) = 134 | 9 => (0 : Int) = 135 | 10 => (0 : Int) = 136 | 11 => (0 : Int) = 137 | 12 => (0 : Int) = 138 | 13 => (0 : Int) = 139 | 14 => (0 : Int) = 140 | 15 => (0 : Int) = 141 | 16 => (0 : Int) = 142 | 17 => (0 : Int) = 143 | 18 => (0 : Int) = 144 | 19 => (0 : Int) = 145 | 20 => (0 : Int) = 146 | 21 => (0 : Int) = 147 | 22 => (0 : Int) = 148 | 23 => (0 : Int) = 149 | 24 => (0 : Int) = 150 | 25 => (0 : Int) = 151 | 26 => (0 : Int) = 152 | 27 => (0 : Int) = 153 | 28 => (0 : Int) = 154 | 29 => 0 ≤ (0 : Int) ∧ (0 : Int) ≤ 400 | 30 => 0 ≤ (0 : Int) ∧ (0 : Int) ≤ 400 | 31 => 0 ≤ (0 : Int) ∧ (0 : Int) ≤ 400 | 32 => 0 ≤ (0 : Int) ∧ (0 : Int) ≤ 3 | 33 => (-2147483648) ≤ (0 : Int) ∧ (0 : Int) ≤ 2147483647 | 35 => (-1) ≤ (0 : Int) ∧ (0 : Int) ≤ 400 | 36 => 0 ≤ (0 : Int) ∧ (0 : Int) ≤ 5 | 37 => 0 ≤ (0 : Int) ∧ (0 : Int) ≤ 400 | 38 => 0 ≤ (0 : Int) ∧ (0 : Int) ≤ 420 | 39 => (0 : Int) = 155 | 40 => 0 ≤ (0 : Int) ∧ (0 : Int) ≤ 402 | 41 => (0 : Int) = 156 | 42 => (0 : Int) = 157 | 43 => (0 : Int) = 158 | 44 => (0 : Int) = 159 | 45 => (0 : Int) = 160 | 46 => 0 ≤ (0 : Int) ∧ (0 : Int) ≤ 41 | 47 => (0 : Int) = 161 | 48 => (-2147483648) ≤ (0 : Int) ∧ (0 : Int) ≤ 2147483647 | 49 => (-2147483648) ≤ (0 : Int) ∧ (0 : Int) ≤ 2147483647 | 50 => (-2147483648) ≤ (0 : Int) ∧ (0 : Int) ≤ 2147483647 | 51 => (0 : Int) = 162 | 52 => (-2147483648) ≤ (0 : Int) ∧ (0 : Int) ≤ 2147483647 | 53 => (-2147483648) ≤ (0 : Int) ∧ (0 : Int) ≤ 2147483647 | 54 => (-2147483648) ≤ (0 : Int) ∧ (0 : Int) ≤ 2147483647 | 55 => (0 : Int) = 163 | 56 => (0 : Int) = 164 | 57 => (-2147483648) ≤ (0 : Int) ∧ (0 : Int) ≤ 2147483647 | 58 => (0 : Int) = 165 | 59 => (0 : Int) = 166 | 60 => (0 : Int) = 167 | 61 => (0 : Int) = 168 | 62 => (0 : Int) = 169 | _ => True) ∨ j ∈ badL 42
  split <;> first | exact Or.inl trivial | exact Or.inl (Or.inl rfl) | exact Or.inr (by decide) | exact Or.inl (by decide)
theorem ok0_43 (a j : Int) : okf 43 a j 0 ∨ j ∈ badL 43 := Or.inl (show (-128) ≤ (0 : Int) ∧ (0 : Int) ≤ 127 from by decide)
theorem ok0_44 (a j : Int) : okf 44 a j 0 ∨ j ∈ badL 44 := Or.inl (show 0 ≤ (0 : Int) ∧ (0 : Int) ≤ 400 from by decide)
theorem ok0_45 (a j : Int) : okf 45 a j 0 ∨ j ∈ badL 45 := Or.inl (show 0 ≤ (0 : Int) ∧ (0 : Int) ≤ 5 from by decide)
theorem ok0_46 (a j : Int) : okf 46 a j 0 ∨ j ∈ badL 46 := Or.inl (show (-1) ≤ (0 : Int) ∧ (0 : Int) ≤ 400 from by decide)
theorem ok0_47 (a j : Int) : okf 47 a j 0 ∨ j ∈ badL 47 := Or.inl (show 0 ≤ (0 : Int) ∧ (0 : Int) ≤ 999 from by decide)
theorem ok0_48 (a j : Int) : okf 48 a j 0 ∨ j ∈ badL 48 := Or.inl (show (-1) ≤ (0 : Int) ∧ (0 : Int) ≤ 999 from by decide)
theorem ok0_49 (a j : Int) : okf 49 a j 0 ∨ j ∈ badL 49 := by
  by_cases e : 0 ≤ j ∧ j < 3
  · right
    have : ∀ m : Nat, m < 3 → (m : Int) ∈ badL 49 := by decide
    have z := this j.toNat (by omega)
    rw [show ((j.toNat : Nat) : Int) = j by omega] at z; exact z
  · left
    exact ⟨by decide, by decide, fun z1 z2 => absurd ⟨z1, z2⟩ e⟩
theorem ok0_50 (a j : Int) : okf 50 a j 0 ∨ j ∈ badL 50 := Or.inl (show 0 ≤ (0 : Int) ∧ (0 : Int) ≤ 4 from by decide)
theorem ok0_51 (a j : Int) : okf 51 a j 0 ∨ j ∈ badL 51 := Or.inl (show 0 ≤ (0 : Int) ∧ (0 : Int) ≤ 2 from by decide)
theorem ok0_52 (a j : Int) : okf 52 a j 0 ∨ j ∈ badL 52 := Or.inl (show (-1) ≤ (0 : Int) ∧ (0 : Int) ≤ 2 from by decide)
theorem ok0_53 (a j : Int) : okf 53 a j 0 ∨ j ∈ badL 53 := Or.inl (show 0 ≤ (0 : Int) ∧ (0 : Int) ≤ 1 from by decide)
theorem ok0_54 (a j : Int) : okf 54 a j 0 ∨ j ∈ badL 54 := Or.inl (show 0 ≤ (0 : Int) ∧ (0 : Int) ≤ 8 from by decide)
theorem ok0_55 (a j : Int) : okf 55 a j 0 ∨ j ∈ badL 55 := Or.inl (show 0 ≤ (0 : Int) ∧ (0 : Int) ≤ 999 from by decide)
theorem ok0_56 (a j : Int) : okf 56 a j 0 ∨ j ∈ badL 56 := Or.inl (show (-1) ≤ (0 : Int) ∧ (0 : Int) ≤ 999 from by decide)
theorem ok0_57 (a j : Int) : okf 57 a j 0 ∨ j ∈ badL 57 := Or.inl (show 0 ≤ (0 : Int) ∧ (0 : Int) ≤ 40 from by decide)
theorem ok0_58 (a j : Int) : okf 58 a j 0 ∨ j ∈ badL 58 := Or.inl (show 0 ≤ (0 : Int) ∧ (0 : Int) ≤ 12 from by decide)
theorem ok0_59 (a j : Int) : okf 59 a j 0 ∨ j ∈ badL 59 := Or.inl (show (-1) ≤ (0 : Int) ∧ (0 : Int) ≤ 3 from by decide)
theorem ok0_60 (a j : Int) : okf 60 a j 0 ∨ j ∈ badL 60 := Or.inl (show (-1) ≤ (0 : Int) ∧ (0 : Int) ≤ 3 from by decide)
theorem ok0_61 (a j : Int) : okf 61 a j 0 ∨ j ∈ badL 61 := Or.inl (show (-2147483648) ≤ (0 : Int) ∧ (0 : Int) ≤ 2147483647 from by decide)
theorem ok0_62 (a j : Int) : okf 62 a j 0 ∨ j ∈ badL 62 := Or.inl (show 0 ≤ (0 : Int) ∧ (0 : Int) ≤ 40 from by decide)
theorem ok0_63 (a j : Int) : okf 63 a j 0 ∨ j ∈ badL 63 := Or.inl (show 0 ≤ (0 : Int) ∧ (0 : Int) ≤ 35 from by decide)
theorem ok0_64 (a j : Int) : okf 64 a j 0 ∨ j ∈ badL 64 := Or.inl (show 0 ≤ (0 : Int) ∧ (0 : Int) ≤ 1 from by decide)
theorem ok0_65 (a j : Int) : okf 65 a j 0 ∨ j ∈ badL 65 := Or.inl (show 0 ≤ (0 : Int) ∧ (0 : Int) ≤ 999 from by decide)
theorem ok0_66 (a j : Int) : okf 66 a j 0 ∨ j ∈ badL 66 := Or.inl (show 0 ≤ (0 : Int) ∧ (0 : Int) ≤ 1 from by decide)
theorem ok0_67 (a j : Int) : okf 67 a j 0 ∨ j ∈ badL 67 := Or.inl (show 0 ≤ (0 : Int) ∧ (0 : Int) ≤ 1 from by decide)
theorem ok0_68 (a j : Int) : okf 68 a j 0 ∨ j ∈ badL 68 := Or.inl (show (-9) ≤ (0 : Int) ∧ (0 : Int) ≤ 9 from by decide)
theorem ok0_69 (a j : Int) : okf 69 a j 0 ∨ j ∈ badL 69 := by
  left
  show 0 ≤ j → j < 5 → 0 ≤ (0 : Int) ∧ (0 : Int) ≤ 9 * j
  intro z1 z2
  omega
theorem ok0_70 (a j : Int) : okf 70 a j 0 ∨ j ∈ badL 70 := Or.inl (show 0 ≤ (0 : Int) ∧ (0 : Int) ≤ 1 from by decide)
theorem ok0_71 (a j : Int) : okf 71 a j 0 ∨ j ∈ badL 71 := Or.inl (show (-2147483648) ≤ (0 : Int) ∧ (0 : Int) ≤ 2147483647 from by decide)
theorem ok0_72 (a j : Int) : okf 72 a j 0 ∨ j ∈ badL 72 := Or.inl (show (-1) ≤ (0 : Int) ∧ (0 : Int) ≤ 12 from by decide)
theorem ok0_73 (a j : Int) : okf 73 a j 0 ∨ j ∈ badL 73 := Or.inl (show (-1) ≤ (0 : Int) ∧ (0 : Int) ≤ 3 from by decide)
theorem ok0_74 (a j : Int) : okf 74 a j 0 ∨ j ∈ badL 74 := Or.inl (show (-1) ≤ (0 : Int) ∧ (0 : Int) ≤ 3 from by decide)
theorem ok0_75 (a j : Int) : okf 75 a j 0 ∨ j ∈ badL 75 := Or.inl (show (-2147483648) ≤ (0 : Int) ∧ (0 : Int) ≤ 2147483647 from by decide)
theorem ok0_76 (a j : Int) : okf 76 a j 0 ∨ j ∈ badL 76 := Or.inl (show 0 ≤ (0 : Int) ∧ (0 : Int) ≤ 1 from by decide)
theorem ok0_77 (a j : Int) : okf 77 a j 0 ∨ j ∈ badL 77 := Or.inl (show 0 ≤ (0 : Int) ∧ (0 : Int) ≤ 1 from by decide)
theorem ok0_78 (a j : Int) : okf 78 a j 0 ∨ j ∈ badL 78 := Or.inl (show 0 ≤ (0 : Int) ∧ (0 : Int) ≤ 5 from by decide)
theorem ok0_79 (a j : Int) : okf 79 a j 0 ∨ j ∈ badL 79 := Or.inl (show 0 ≤ (0 : Int) ∧ (0 : Int) ≤ 1 from by decide)
theorem ok0_80 (a j : Int) : okf 80 a j 0 ∨ j ∈ badL 80 := Or.inl (show (-2147483648) ≤ (0 : Int) ∧ (0 : Int) ≤ 2147483647 from by decide)
theorem ok0_81 (a j : Int) : okf 81 a j 0 ∨ j ∈ badL 81 := Or.inl (show 0 ≤ (0 : Int) ∧ (0 : Int) ≤ 4095 from by decide)
theorem ok0_82 (a j : Int) : okf 82 a j 0 ∨ j ∈ badL 82 := Or.inl (show 0 ≤ (0 : Int) ∧ (0 : Int) ≤ 1 from by decide)
theorem ok0_83 (a j : Int) : okf 83 a j 0 ∨ j ∈ badL 83 := Or.inl (show 0 ≤ (0 : Int) ∧ (0 : Int) ≤ 1 from by decide)
theorem ok0_84 (a j : Int) : okf 84 a j 0 ∨ j ∈ badL 84 := Or.inl (show 0 ≤ (0 : Int) ∧ (0 : Int) ≤ 65535 from by decide)
theorem ok0_85 (a j : Int) : okf 85 a j 0 ∨ j ∈ badL 85 := Or.inl (show 0 ≤ (0 : Int) ∧ (0 : Int) ≤ 1 from by decide)
theorem ok0 : ∀ (f : Nat) (a j : Int), okf f a j 0 ∨ j ∈ badL f
  | 1, a, j => ok0_1 a j
  | 2, a, j => ok0_2 a j
  | 3, a, j => ok0_3 a j
  | 4, a, j => ok0_4 a j
  | 5, a, j => ok0_5 a j
  | 6, a, j => ok0_6 a j
  | 7, a, j => ok0_7 a j
  | 8, a, j => ok0_8 a j
  | 9, a, j => ok0_9 a j
  | 10, a, j => ok0_10 a j
  | 11, a, j => ok0_11 a j
  | 12, a, j => ok0_12 a j
  | 13, a, j => ok0_13 a j
  | 14, a, j => ok0_14 a j
  | 15, a, j => ok0_15 a j
  | 16, a, j => ok0_16 a j
  | 17, a, j => ok0_17 a j
  | 18, a, j => ok0_18 a j
  | 19, a, j => ok0_19 a j
  | 20, a, j => ok0_20 a j
  | 21, a, j => ok0_21 a j
  | 22, a, j => ok0_22 a j
  | 23, a, j => ok0_23 a j
  | 24, a, j => ok0_24 a j
  | 25, a, j => ok0_25 a j
  | 26, a, j => ok0_26 a j
  | 27, a, j => ok0_27 a j
  | 28, a, j => ok0_28 a j
  | 29, a, j => ok0_29 a j
  | 30, a, j => ok0_30 a j
  | 31, a, j => ok0_31 a j
  | 32, a, j => ok0_32 a j
  | 33, a, j => ok0_33 a j
  | 34, a, j => ok0_34 a j
  | 35, a, j => ok0_35 a j
  | 36, a, j => ok0_36 a j
  | 37, a, j => ok0_37 a j
  | 38, a, j => ok0_38 a j
  | 39, a, j => ok0_39 a j
  | 40, a, j => ok0_40 a j
  | 41, a, j => ok0_41 a j
  | 42, a, j => ok0_42 a j
  | 43, a, j => ok0_43 a j
  | 44, a, j => ok0_44 a j
  | 45, a, j => ok0_45 a j
  | 46, a, j => ok0_46 a j
  | 47, a, j => ok0_47 a j
  | 48, a, j => ok0_48 a j
  | 49, a, j => ok0_49 a j
  | 50, a, j => ok0_50 a j
  | 51, a, j => ok0_51 a j
  | 52, a, j => ok0_52 a j
  | 53, a, j => ok0_53 a j
  | 54, a, j => ok0_54 a j
  | 55, a, j => ok0_55 a j
  | 56, a, j => ok0_56 a j
  | 57, a, j => ok0_57 a j
  | 58, a, j => ok0_58 a j
  | 59, a, j => ok0_59 a j
  | 60, a, j => ok0_60 a j
  | 61, a, j => ok0_61 a j
  | 62, a, j => ok0_62 a j
  | 63, a, j => ok0_63 a j
  | 64, a, j => ok0_64 a j
  | 65, a, j => ok0_65 a j
  | 66, a, j => ok0_66 a j
  | 67, a, j => ok0_67 a j
  | 68, a, j => ok0_68 a j
  | 69, a, j => ok0_69 a j
  | 70, a, j => ok0_70 a j
  | 71, a, j => ok0_71 a j
  | 72, a, j => ok0_72 a j
  | 73, a, j => ok0_73 a j
  | 74, a, j => ok0_74 a j
  | 75, a, j => ok0_75 a j
  | 76, a, j => ok0_76 a j
  | 77, a, j => ok0_77 a j
  | 78, a, j => ok0_78 a j
  | 79, a, j => ok0_79 a j
  | 80, a, j => ok0_80 a j
  | 81, a, j => ok0_81 a j
  | 82, a, j => ok0_82 a j
  | 83, a, j => ok0_83 a j
  | 84, a, j => ok0_84 a j
  | 85, a, j => ok0_85 a j
  | 0, a, j => Or.inl trivial
  | f + 86, a, j => Or.inl trivial
def AllOK : List ((Int × Int) × Int) → Prop
  | [] => True
  | e :: t => okf (fam e.1.1) e.1.1 e.1.2 e.2 ∧ AllOK t
theorem AllOK.m : ∀ {l : List ((Int × Int) × Int)}, AllOK l → ∀ e, e ∈ l → okf (fam e.1.1) e.1.1 e.1.2 e.2
  | [], _, e, he => by cases he
  | x :: t, h, e, he => by
    rcases List.mem_cons.mp he with he | he
    · rw [he]; exact h.1
    · exact AllOK.m h.2 e he
set_option maxRecDepth 100000 in
theorem allLF : AllOK LF := ⟨(fun _ _ => by decide), (fun _ _ => by decide), (fun _ _ => by decide), rfl, rfl, rfl, rfl, rfl, rfl, rfl, rfl, rfl, rfl, (show (-1) ≤ ((-1) : Int) ∧ ((-1) : Int) ≤ 400 from by decide), rfl, rfl, rfl, (show (-1) ≤ ((-1) : Int) ∧ ((-1) : Int) ≤ 999 from by decide), rfl, rfl, rfl, rfl, rfl, rfl, rfl, rfl, rfl, rfl, rfl, rfl, rfl, rfl, rfl, rfl, rfl, rfl, rfl, rfl, rfl, rfl, (fun _ _ => by decide), (fun _ _ => by decide), (fun _ _ => by decide), rfl, rfl, rfl, rfl, rfl, rfl, rfl, rfl, (show (-2147483648) ≤ ((-1) : Int) ∧ ((-1) : Int) ≤ 2147483647 from by decide), rfl, rfl, (fun _ _ => by decide), rfl, (fun _ _ => by decide), rfl, (fun _ _ => by decide), rfl, (fun _ _ => by decide), rfl, (fun _ _ => by decide), rfl, (fun _ _ => by decide), rfl, (fun _ _ => by decide), rfl, (fun _ _ => by decide), rfl, (fun _ _ => by decide), rfl, rfl, rfl, rfl, rfl, rfl, rfl, rfl, rfl, rfl, rfl, rfl, (fun _ _ => by decide), (fun _ _ => by decide), (fun _ _ => by decide), rfl, rfl, rfl, rfl, rfl, rfl, rfl, rfl, rfl, rfl, (show (-1) ≤ ((-1) : Int) ∧ ((-1) : Int) ≤ 400 from by decide), rfl, rfl, rfl, (show (-1) ≤ ((-1) : Int) ∧ ((-1) : Int) ≤ 999 from by decide), rfl, rfl, rfl, (fun _ _ => by decide), (fun _ _ => by decide), (fun _ _ => by decide), (fun _ _ => by decide), rfl, rfl, rfl, rfl, rfl, rfl, rfl, rfl, rfl, rfl, (show (-1) ≤ ((-1) : Int) ∧ ((-1) : Int) ≤ 400 from by decide), rfl, rfl, rfl, (show (-1) ≤ ((-1) : Int) ∧ ((-1) : Int) ≤ 999 from by decide), rfl, rfl, rfl, (fun _ _ => by decide), (fun _ _ => by decide), (fun _ _ => by decide), (fun _ _ => by decide), rfl, rfl, rfl, rfl, rfl, rfl, rfl, rfl, rfl, rfl, (show (-1) ≤ ((-1) : Int) ∧ ((-1) : Int) ≤ 400 from by decide), rfl, rfl, rfl, (show (-1) ≤ ((-1) : Int) ∧ ((-1) : Int) ≤ 999 from by decide), rfl, rfl, rfl, (fun _ _ => by decide), rfl, rfl, rfl, rfl, rfl, rfl, rfl, rfl, rfl, rfl, rfl, rfl, rfl, rfl, rfl, rfl, rfl, rfl, rfl, rfl, rfl, rfl, rfl, rfl, rfl, rfl, rfl, rfl, rfl, rfl, rfl, rfl, rfl, rfl, rfl, rfl, rfl, rfl, rfl, rfl, rfl, rfl, rfl, (show (-1) ≤ ((-1) : Int) ∧ ((-1) : Int) ≤ 400 from by decide), (show (-1) ≤ ((-1) : Int) ∧ ((-1) : Int) ≤ 999 from by decide), (show 0 ≤ (2 : Int) ∧ (2 : Int) ≤ 3 ∧ (0 ≤ 0 → 0 < 3 → 1 ≤ (2 : Int)) from ⟨by decide, by decide, fun _ _ => by decide⟩), (show 0 ≤ (2 : Int) ∧ (2 : Int) ≤ 3 ∧ (0 ≤ 1 → 1 < 3 → 1 ≤ (2 : Int)) from ⟨by decide, by decide, fun _ _ => by decide⟩), (show 0 ≤ (2 : Int) ∧ (2 : Int) ≤ 3 ∧ (0 ≤ 2 → 2 < 3 → 1 ≤ (2 : Int)) from ⟨by decide, by decide, fun _ _ => by decide⟩), trivial⟩
theorem badLF : ∀ a : Nat, a < 170 → ∀ j ∈ badL (fam a), (fdL 197 a j).isSome = true := by decide +kernel
theorem famZ {a : Int} (h : ¬ (0 ≤ a ∧ a < 170)) : fam a = 0 := by
  by_cases e : a < 0
  · unfold fam
    rw [show a.toNat = 0 by omega]; rfl
  · exact fam_out (by omega)
theorem lkL_z {a j : Int} (h : LF.all (fun e => decide (¬ e.1.1 = a)) = true) : lkL 197 a j = 0 :=
  lkL_out (fun e he z => by
    have := List.all_eq_true.mp h e (List.mem_of_mem_take he)
    exact (of_decide_eq_true this) z.1)
theorem init_ok {M : Mem} (r : RepL 197 169 M) : I 169 M ∧ WF M := by
  obtain ⟨h1, h2, h3, h4⟩ := r
  have z : ∀ a j : Int, LF.all (fun e => decide (¬ e.1.1 = a)) = true → mG M a j = 0 := fun a j h => (h3 a j).trans (lkL_z h)
  have t0 : ∀ a j : Int, LF.all (fun e => decide (¬ e.1.1 = a)) = true → TX 169 M (mG M a j) := fun a j h => Or.inl (z a j h)
  refine ⟨⟨h2, fun a j => ?_, ⟨fun t j ht hj hj2 => ?_, fun t ht => ?_, ?_⟩, Nat.le_of_eq h1.symm, Nat.le_refl _, fun k k0 k1 hk => ?_⟩, fun t t0 t1 => ⟨⟨fun _ => 0, rfl, fun k hk => ?_⟩, fun hk => ?_⟩, fun i i0 i1 s s0 s1 => ?_⟩
  · rw [h3]
    unfold lkL
    cases hf : fdL 197 a j with
    | some e =>
      have hm := List.mem_of_find?_eq_some hf
      have hp := List.find?_some hf
      have hp : e.1.1 = a ∧ e.1.2 = j := by simpa using hp
      have := allLF.m e (List.mem_of_mem_take hm)
      rw [hp.1, hp.2] at this
      exact this
    | none =>
      rcases ok0 (fam a) a j with h | h
      · exact h
      · exfalso
        by_cases e : 0 ≤ a ∧ a < 170
        · have b := badLF a.toNat (by omega) j (by rw [show ((a.toNat : Nat) : Int) = a by omega]; exact h)
          rw [show ((a.toNat : Nat) : Int) = a by omega, hf] at b
          cases b
        · rw [famZ e] at h
          cases h
  · rcases ht with rfl | rfl | rfl | rfl <;> exact t0 _ _ (by decide +kernel)
  · have : ∀ t ∈ [(3 : Int), 75, 92, 109], lkL 197 t 12 = 0 := by decide +kernel
    exact Or.inl ((h3 _ _).trans (this t (by rcases ht with rfl | rfl | rfl | rfl <;> decide)))
  · exact Or.inl ((h3 _ _).trans (by decide +kernel))
  · rw [z 169 k (by decide +kernel)] at hk
    exact absurd hk (by decide)
  · rw [z 141 t (by decide +kernel)] at hk
    omega
  · rw [z 141 t (by decide +kernel)] at hk
    omega
  · rw [z 138 i (by decide +kernel)] at s1
    omega
