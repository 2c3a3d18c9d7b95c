/-! ===== the memory of the law: where each object and row stands, and what it may hold ===== -/
def isShape (s : Int) : Prop := s = 4 ∨ s = 38 ∨ s = 76 ∨ s = 93 ∨ s = 110
def isTold (s : Int) : Prop := s = 3 ∨ s = 75 ∨ s = 92 ∨ s = 109
def isWS (s : Int) : Prop := s = 27 ∨ s = 29 ∨ s = 32 ∨ s = 34 ∨ s = 36 ∨ s = 47 ∨ s = 49 ∨ s = 51 ∨ s = 53 ∨ s = 55 ∨ s = 57 ∨ s = 59 ∨ s = 61 ∨ s = 63
def layL : List (Nat × Nat) := [(8, 0), (4, 0), (6, 0), (3, 0), (10, 3), (10, 4), (10, 4), (10, 4), (10, 4), (10, 4), (13, 4), (11, 4), (10, 400), (14, 8), (10, 8), (10, 8), (10, 40), (11, 40), (10, 40), (0, 0), (13, 36), (10, 4), (13, 36), (1, 0), (10, 3), (10, 2592), (7, 0), (13, 64), (7, 0), (13, 64), (16, 9), (7, 0), (13, 64), (7, 0), (13, 64), (7, 0), (13, 64), (3, 0), (10, 3), (10, 4), (10, 4), (10, 4), (10, 4), (10, 4), (10, 3), (10, 12), (7, 0), (13, 64), (7, 0), (13, 64), (7, 0), (13, 64), (7, 0), (13, 64), (7, 0), (13, 64), (7, 0), (13, 64), (7, 0), (13, 64), (7, 0), (13, 64), (7, 0), (13, 64), (2, 0), (5, 0), (10, 40), (10, 40), (10, 40), (10, 40), (10, 40), (10, 402), (15, 3), (11, 3), (6, 0), (3, 0), (10, 3), (10, 4), (10, 4), (10, 4), (10, 4), (10, 4), (13, 4), (11, 4), (10, 400), (14, 8), (10, 8), (10, 8), (10, 40), (11, 40), (10, 40), (6, 0), (3, 0), (10, 3), (10, 4), (10, 4), (10, 4), (10, 4), (10, 4), (13, 4), (11, 4), (10, 400), (14, 8), (10, 8), (10, 8), (10, 40), (11, 40), (10, 40), (6, 0), (3, 0), (10, 3), (10, 4), (10, 4), (10, 4), (10, 4), (10, 4), (13, 4), (11, 4), (10, 400), (14, 8), (10, 8), (10, 8), (10, 40), (11, 40), (10, 40), (9, 0), (12, 1600), (10, 4), (10, 4), (10, 4), (10, 4), (10, 4), (10, 12), (10, 4), (10, 16), (10, 16), (11, 144), (10, 4), (10, 32), (10, 32), (10, 36), (10, 1440), (10, 1440), (10, 1440), (10, 1440), (10, 4), (10, 160), (10, 160), (10, 160), (11, 576), (11, 16), (10, 3), (10, 5), (11, 36), (10, 420), (10, 41), (10, 41), (10, 41), (10, 41), (11, 3321), (11, 9), (10, 3), (11, 256), (10, 12), (10, 16), (11, 65536), (11, 65536), (10, 12), (11, 3)]
def famL : List Nat := [0, 20, 23, 10, 1, 2, 3, 4, 5, 6, 7, 11, 12, 13, 14, 15, 16, 17, 18, 19, 27, 28, 29, 30, 31, 32, 33, 8, 9, 8, 9, 24, 8, 9, 8, 9, 8, 9, 1, 2, 3, 4, 5, 6, 7, 25, 26, 8, 9, 8, 9, 8, 9, 8, 9, 8, 9, 8, 9, 8, 9, 8, 9, 8, 9, 34, 35, 36, 37, 38, 39, 40, 41, 21, 22, 10, 1, 2, 3, 4, 5, 6, 7, 11, 12, 13, 14, 15, 16, 17, 18, 19, 10, 1, 2, 3, 4, 5, 6, 7, 11, 12, 13, 14, 15, 16, 17, 18, 19, 10, 1, 2, 3, 4, 5, 6, 7, 11, 12, 13, 14, 15, 16, 17, 18, 19, 42, 43, 44, 45, 46, 47, 48, 49, 50, 51, 52, 53, 54, 55, 56, 57, 58, 59, 60, 61, 62, 63, 64, 65, 66, 67, 68, 69, 70, 71, 72, 73, 74, 75, 76, 77, 78, 79, 80, 81, 82, 83, 84, 85]
def fam (a : Int) : Nat := famL.getD a.toNat 0
def okf (f : Nat) (a j x : Int) : Prop := match f with
  | 1 => (match j with | 0 => x = a + 1 | 1 => x = a + 2 | 2 => x = a + 3 | 3 => x = a + 4 | 4 => x = a + 5 | 5 => x = a + 6 | 6 => 0 ≤ x ∧ x ≤ 4 | 7 => 0 ≤ x ∧ x ≤ 36 | _ => True)
  | 2 => 0 ≤ j → j < 3 → 1 ≤ x ∧ x ≤ 3
  | 3 => 0 ≤ x ∧ x ≤ 2
  | 4 => (-1) ≤ x ∧ x ≤ 2
  | 5 => 0 ≤ j → j < 4 → 0 ≤ x ∧ x ≤ 9 * j
  | 6 => 0 ≤ x ∧ x ≤ 3
  | 7 => 0 ≤ x ∧ x ≤ 3
  | 8 => (match j with | 0 => x = a + 1 | 1 => 0 ≤ x ∧ x ≤ 64 | 2 => 0 ≤ x ∧ x ≤ 12 | _ => True)
  | 9 => True
  | 10 => (match j with | 0 => x = a + 1 | 2 => x = a + 8 | 3 => x = a + 9 | 4 => x = a + 10 | 5 => 0 ≤ x ∧ x ≤ 400 | 6 => 0 ≤ x ∧ x ≤ 5 | 7 => (-1) ≤ x ∧ x ≤ 400 | 8 => x = a + 11 | 9 => x = a + 12 | 10 => x = a + 13 | 11 => 0 ≤ x ∧ x ≤ 8 | 13 => 0 ≤ x ∧ x ≤ 999 | 14 => (-1) ≤ x ∧ x ≤ 999 | 15 => x = a + 14 | 16 => x = a + 15 | 17 => x = a + 16 | 18 => 0 ≤ x ∧ x ≤ 40 | _ => True)
  | 11 => True
  | 12 => 0 ≤ x ∧ x ≤ 1
  | 13 => 0 ≤ x ∧ x ≤ 255
  | 14 => True
  | 15 => 0 ≤ x ∧ x ≤ 999
  | 16 => (-1) ≤ x ∧ x ≤ 999
  | 17 => 0 ≤ x ∧ x ≤ 35
  | 18 => 0 ≤ x ∧ x ≤ 1
  | 19 => 0 ≤ x ∧ x ≤ 999
  | 20 => (match j with | 0 => x = 2 | 1 => x = 3 | 2 => x = 65 | 3 => x = 73 | 4 => x = 74 | _ => True)
  | 21 => 0 ≤ j → j < 3 → x = 75 + 17 * j
  | 22 => 0 ≤ x ∧ x ≤ 1
  | 23 => (match j with | 0 => x = 3 | 1 => x = 20 | 2 => x = 24 | 3 => x = 31 | 4 => (-2147483648) ≤ x ∧ x ≤ 2147483647 | 5 => x = 32 | 6 => x = 34 | 7 => x = 36 | 8 => x = 38 | 9 => x = 45 | 10 => (-2147483648) ≤ x ∧ x ≤ 2147483647 | 11 => x = 46 | _ => True)
  | 24 => 0 ≤ j → j < 9 → x = 47 + 2 * j
  | 25 => (-1) ≤ x ∧ x ≤ 3
  | 26 => (-2147483648) ≤ x ∧ x ≤ 2147483647
  | 27 => (match j with | 0 => x = 0 ∨ isShape (x) | 2 => x = 21 | 3 => x = 22 | 4 => x = 23 | 5 => (-2147483648) ≤ x ∧ x ≤ 2147483647 | _ => True)
  | 28 => True
  | 29 => (-2147483648) ≤ x ∧ x ≤ 2147483647
  | 30 => True
  | 31 => (match j with | 0 => x = 25 | 1 => x = 26 | 2 => x = 27 | 3 => x = 29 | 4 => 0 ≤ x ∧ x ≤ 216 | 5 => 0 ≤ x ∧ x ≤ 12 | 6 => 0 ≤ x ∧ x ≤ 1 | 7 => 0 ≤ x ∧ x ≤ 1 | _ => True)
  | 32 => 0 ≤ x ∧ x ≤ 6
  | 33 => (-2147483648) ≤ x ∧ x ≤ 2147483647
  | 34 => (match j with | 0 => x = 0 ∨ x = 3 | 1 => x = 0 ∨ x = 13 | 2 => 0 ≤ x ∧ x ≤ 400 | 3 => x = 0 ∨ x = 4 | 4 => 0 ≤ x ∧ x ≤ 1 | 5 => x = 66 | 6 => x = 72 | 7 => 0 ≤ x ∧ x ≤ 402 | 8 => 0 ≤ x ∧ x ≤ 3 | 9 => 0 ≤ x ∧ x ≤ 400 | 10 => 0 ≤ x ∧ x ≤ 400 | 11 => (-2147483648) ≤ x ∧ x ≤ 2147483647 | _ => True)
  | 35 => (match j with | 0 => x = 67 | 1 => x = 68 | 2 => x = 69 | 3 => x = 70 | 4 => x = 71 | 5 => 0 ≤ x ∧ x ≤ 402 | _ => True)
  | 36 => 0 ≤ x ∧ x ≤ 11
  | 37 => (-2147483648) ≤ x ∧ x ≤ 2147483647
  | 38 => (-2147483648) ≤ x ∧ x ≤ 2147483647
  | 39 => (-2147483648) ≤ x ∧ x ≤ 2147483647
  | 40 => (-2147483648) ≤ x ∧ x ≤ 2147483647
  | 41 => (-2147483648) ≤ x ∧ x ≤ 2147483647
  | 42 => (match j with | 0 => 0 ≤ x ∧ x ≤ 0 | 1 => x = 127 | 2 => x = 128 | 3 => x = 129 | 4 => x = 130 | 5 => x = 131 | 6 => x = 132 | 7 => x = 133 | 8 => x = 134 | 9 => x = 135 | 10 => x = 136 | 11 => x = 137 | 12 => x = 138 | 13 => x = 139 | 14 => x = 140 | 15 => x = 141 | 16 => x = 142 | 17 => x = 143 | 18 => x = 144 | 19 => x = 145 | 20 => x = 146 | 21 => x = 147 | 22 => x = 148 | 23 => x = 149 | 24 => x = 150 | 25 => x = 151 | 26 => x = 152 | 27 => x = 153 | 28 => x = 154 | 29 => 0 ≤ x ∧ x ≤ 400 | 30 => 0 ≤ x ∧ x ≤ 400 | 31 => 0 ≤ x ∧ x ≤ 400 | 32 => 0 ≤ x ∧ x ≤ 3 | 33 => (-2147483648) ≤ x ∧ x ≤ 2147483647 | 35 => (-1) ≤ x ∧ x ≤ 400 | 36 => 0 ≤ x ∧ x ≤ 5 | 37 => 0 ≤ x ∧ x ≤ 400 | 38 => 0 ≤ x ∧ x ≤ 420 | 39 => x = 155 | 40 => 0 ≤ x ∧ x ≤ 402 | 41 => x = 156 | 42 => x = 157 | 43 => x = 158 | 44 => x = 159 | 45 => x = 160 | 46 => 0 ≤ x ∧ x ≤ 41 | 47 => x = 161 | 48 => (-2147483648) ≤ x ∧ x ≤ 2147483647 | 49 => (-2147483648) ≤ x ∧ x ≤ 2147483647 | 50 => (-2147483648) ≤ x ∧ x ≤ 2147483647 | 51 => x = 162 | 52 => (-2147483648) ≤ x ∧ x ≤ 2147483647 | 53 => (-2147483648) ≤ x ∧ x ≤ 2147483647 | 54 => (-2147483648) ≤ x ∧ x ≤ 2147483647 | 55 => x = 163 | 56 => x = 164 | 57 => (-2147483648) ≤ x ∧ x ≤ 2147483647 | 58 => x = 165 | 59 => x = 166 | 60 => x = 167 | 61 => x = 168 | 62 => x = 169 | _ => True)
  | 43 => (-128) ≤ x ∧ x ≤ 127
  | 44 => 0 ≤ x ∧ x ≤ 400
  | 45 => 0 ≤ x ∧ x ≤ 5
  | 46 => (-1) ≤ x ∧ x ≤ 400
  | 47 => 0 ≤ x ∧ x ≤ 999
  | 48 => (-1) ≤ x ∧ x ≤ 999
  | 49 => 0 ≤ x ∧ x ≤ 3 ∧ (0 ≤ j → j < 3 → 1 ≤ x)
  | 50 => 0 ≤ x ∧ x ≤ 4
  | 51 => 0 ≤ x ∧ x ≤ 2
  | 52 => (-1) ≤ x ∧ x ≤ 2
  | 53 => 0 ≤ x ∧ x ≤ 1
  | 54 => 0 ≤ x ∧ x ≤ 8
  | 55 => 0 ≤ x ∧ x ≤ 999
  | 56 => (-1) ≤ x ∧ x ≤ 999
  | 57 => 0 ≤ x ∧ x ≤ 40
  | 58 => 0 ≤ x ∧ x ≤ 12
  | 59 => (-1) ≤ x ∧ x ≤ 3
  | 60 => (-1) ≤ x ∧ x ≤ 3
  | 61 => (-2147483648) ≤ x ∧ x ≤ 2147483647
  | 62 => 0 ≤ x ∧ x ≤ 40
  | 63 => 0 ≤ x ∧ x ≤ 35
  | 64 => 0 ≤ x ∧ x ≤ 1
  | 65 => 0 ≤ x ∧ x ≤ 999
  | 66 => 0 ≤ x ∧ x ≤ 1
  | 67 => 0 ≤ x ∧ x ≤ 1
  | 68 => (-9) ≤ x ∧ x ≤ 9
  | 69 => 0 ≤ j → j < 5 → 0 ≤ x ∧ x ≤ 9 * j
  | 70 => 0 ≤ x ∧ x ≤ 1
  | 71 => (-2147483648) ≤ x ∧ x ≤ 2147483647
  | 72 => (-1) ≤ x ∧ x ≤ 12
  | 73 => (-1) ≤ x ∧ x ≤ 3
  | 74 => (-1) ≤ x ∧ x ≤ 3
  | 75 => (-2147483648) ≤ x ∧ x ≤ 2147483647
  | 76 => 0 ≤ x ∧ x ≤ 1
  | 77 => 0 ≤ x ∧ x ≤ 1
  | 78 => 0 ≤ x ∧ x ≤ 5
  | 79 => 0 ≤ x ∧ x ≤ 1
  | 80 => (-2147483648) ≤ x ∧ x ≤ 2147483647
  | 81 => 0 ≤ x ∧ x ≤ 4095
  | 82 => 0 ≤ x ∧ x ≤ 1
  | 83 => 0 ≤ x ∧ x ≤ 1
  | 84 => 0 ≤ x ∧ x ≤ 65535
  | 85 => 0 ≤ x ∧ x ≤ 1
  | _ => True
/-- a text that has been told: n parts -/
def TextN (M : Mem) (t : Int) (n : Nat) : Prop := 1 ≤ n ∧ n ≤ 40 ∧ mK M t = (5, 0) ∧ mG M t 0 = t + 1 ∧ mG M t 1 = t + 2 ∧ mG M t 2 = t + 3 ∧ mG M t 3 = t + 4 ∧ mG M t 4 = t + 5 ∧ mG M t 5 = (n : Int) ∧ mK M (t + 1) = (10, n) ∧ mK M (t + 2) = (10, n) ∧ mK M (t + 3) = (10, n) ∧ mK M (t + 4) = (10, n) ∧ mK M (t + 5) = (10, n) ∧ ∀ j : Int, 0 ≤ mG M (t + 5) j ∧ mG M (t + 5) j ≤ 40
def TX (n : Nat) (M : Mem) (t : Int) : Prop := t = 0 ∨ (169 < t ∧ t + 5 ≤ (n : Int) ∧ ∃ m : Nat, TextN M t m)
def TXI (n : Nat) (M : Mem) : Prop := (∀ t j : Int, isTold t → 0 ≤ j → j < 8 → TX n M (mG M (t + 11) j)) ∧ (∀ t : Int, isTold t → TX n M (mG M t 12)) ∧ TX n M (mG M 20 1)
def KB (M : Mem) : Prop := ∀ a : Nat, a < 169 → mK M ((a : Int) + 1) = layL.getD a (99, 0)
def KI (M : Mem) : Prop := ∀ k : Int, 0 ≤ k → k < 3 → mG M 169 k = 1 → ∀ j : Int, 0 ≤ j → j < 3 → 1 ≤ mG M 133 (3 * (k + 1) + j)
def I (n : Nat) (M : Mem) : Prop := KB M ∧ (∀ a j : Int, okf (fam a) a j (mG M a j)) ∧ TXI n M ∧ n ≤ mN M ∧ 169 ≤ n ∧ KI M
/-- what stood there stays, outside of W -/
def Keep (n : Nat) (W : Int → Int → Prop) (M M' : Mem) : Prop := (∀ b : Int, b ≤ (n : Int) → mK M' b = mK M b) ∧ mN M ≤ mN M' ∧ ∀ b j : Int, b ≤ (n : Int) → ¬ W b j → mG M' b j = mG M b j
theorem Keep.rf {n : Nat} {W : Int → Int → Prop} {M : Mem} : Keep n W M M := ⟨fun _ _ => rfl, Nat.le_refl _, fun _ _ _ _ => rfl⟩
theorem Keep.tr {n : Nat} {W W2 : Int → Int → Prop} {M M1 M2 : Mem} (h1 : Keep n W M M1) (h2 : Keep n W2 M1 M2) (hs : ∀ b j, W2 b j → W b j) : Keep n W M M2 :=
  ⟨fun b hb => (h2.1 b hb).trans (h1.1 b hb), Nat.le_trans h1.2.1 h2.2.1, fun b j hb hw => (h2.2.2 b j hb (fun z => hw (hs b j z))).trans (h1.2.2 b j hb hw)⟩
theorem Keep.sub {n : Nat} {W W2 : Int → Int → Prop} {M M1 : Mem} (h : Keep n W2 M M1) (hs : ∀ b j, W2 b j → W b j) : Keep n W M M1 :=
  ⟨h.1, h.2.1, fun b j hb hw => h.2.2 b j hb (fun z => hw (hs b j z))⟩
theorem Keep.st {n : Nat} {W : Int → Int → Prop} {M M1 M2 : Mem} {a i x : Int} (h1 : Keep n W M M1) (hM : M2 = mS M1 a i x) (hw : W a i ∨ (n : Int) < a) : Keep n W M M2 := by
  subst hM
  refine ⟨h1.1, h1.2.1, fun b j hb hn => ?_⟩
  show (if b = a ∧ j = i then x else M1.2.1 b j) = _
  rw [if_neg (fun z => by obtain ⟨z1, z2⟩ := z; subst z1; subst z2; rcases hw with hw | hw; exact hn hw; omega)]
  exact h1.2.2 b j hb hn
theorem Keep.nw {n : Nat} {W : Int → Int → Prop} {M M1 M2 : Mem} {kd : Nat × Nat} (h1 : Keep n W M M1) (hn : n ≤ mN M1) (hM : M2 = mNew M1 kd) : Keep n W M M2 := by
  subst hM
  refine ⟨fun b hb => ?_, Nat.le_succ_of_le h1.2.1, fun b j hb hw => ?_⟩
  · show (if b = (M1.2.2 : Int) + 1 then kd else M1.1 b) = _
    have : n ≤ M1.2.2 := hn
    rw [if_neg (by omega)]; exact h1.1 b hb
  · show (if b = (M1.2.2 : Int) + 1 then 0 else M1.2.1 b j) = _
    have : n ≤ M1.2.2 := hn
    rw [if_neg (by omega)]; exact h1.2.2 b j hb hw
theorem st_ne {M M' : Mem} {a i x b j : Int} (hM : M' = mS M a i x) (h : ¬ (b = a ∧ j = i)) : mG M' b j = mG M b j := by
  subst hM; exact if_neg h
theorem st_eq {M M' : Mem} {a i x : Int} (hM : M' = mS M a i x) : mG M' a i = x := by
  subst hM; exact if_pos ⟨rfl, rfl⟩
theorem st_k {M M' : Mem} {a i x : Int} (hM : M' = mS M a i x) (b : Int) : mK M' b = mK M b := by subst hM; rfl
theorem st_n {M M' : Mem} {a i x : Int} (hM : M' = mS M a i x) : mN M' = mN M := by subst hM; rfl
theorem kB {n : Nat} {M : Mem} (h : I n M) (a : Nat) {b : Int} (ha : a < 169) (hb : (a : Int) + 1 = b) : mK M b = layL.getD a (99, 0) := by subst hb; exact h.1 a ha
theorem rdf {n : Nat} {M : Mem} (h : I n M) {f : Nat} {a j : Int} (hf : fam a = f) : okf f a j (mG M a j) := by subst hf; exact h.2.1 a j
theorem fam_out {a : Int} (h : 169 < a) : fam a = 0 := by
  unfold fam
  rw [List.getD_eq_getElem?_getD, List.getElem?_eq_none (by show 170 ≤ a.toNat; omega)]; rfl
theorem TextN.of {M M' : Mem} {t : Int} {m : Nat} (h : TextN M t m) (hk : ∀ b : Int, t ≤ b → b ≤ t + 5 → mK M' b = mK M b) (hg : ∀ b j : Int, t ≤ b → b ≤ t + 5 → mG M' b j = mG M b j) : TextN M' t m := by
  obtain ⟨h1, h2, h3, h4, h5, h6, h7, h8, h9, k1, k2, k3, k4, k5, k6⟩ := h
  exact ⟨h1, h2, by rw [hk _ (by omega) (by omega)]; exact h3, by rw [hg _ _ (by omega) (by omega)]; exact h4, by rw [hg _ _ (by omega) (by omega)]; exact h5, by rw [hg _ _ (by omega) (by omega)]; exact h6, by rw [hg _ _ (by omega) (by omega)]; exact h7, by rw [hg _ _ (by omega) (by omega)]; exact h8, by rw [hg _ _ (by omega) (by omega)]; exact h9,
    by rw [hk _ (by omega) (by omega)]; exact k1, by rw [hk _ (by omega) (by omega)]; exact k2, by rw [hk _ (by omega) (by omega)]; exact k3, by rw [hk _ (by omega) (by omega)]; exact k4, by rw [hk _ (by omega) (by omega)]; exact k5, fun j => by rw [hg _ _ (by omega) (by omega)]; exact k6 j⟩
theorem TX.of {n n' : Nat} {M M' : Mem} {t : Int} (h : TX n M t) (hn : n ≤ n') (hk : ∀ b : Int, 169 < b → b ≤ (n : Int) → mK M' b = mK M b) (hg : ∀ b j : Int, 169 < b → b ≤ (n : Int) → mG M' b j = mG M b j) : TX n' M' t := by
  rcases h with h | ⟨h1, h2, m, h3⟩
  · exact Or.inl h
  · exact Or.inr ⟨h1, by omega, m, h3.of (fun b b1 b2 => hk b (by omega) (by omega)) (fun b j b1 b2 => hg b j (by omega) (by omega))⟩
def slot (a i : Int) : Prop := (∃ t : Int, isTold t ∧ ((a = t + 11 ∧ 0 ≤ i ∧ i < 8) ∨ (a = t ∧ i = 12))) ∨ (a = 20 ∧ i = 1)
/-- a place is written -/
theorem I.st {n : Nat} {M M' : Mem} {a i x : Int} (h : I n M) (hM : M' = mS M a i x) (hx : okf (fam a) a i x) (ha : a ≤ 169 ∨ (n : Int) < a) (hs : slot a i → TX n M x) (hK : (a = 169 ∨ a = 133) → KI M') : I n M' := by
  obtain ⟨h1, h2, ⟨h3, h4, h5⟩, h6, h7, h8⟩ := h
  have g : ∀ b j : Int, mG M' b j = if b = a ∧ j = i then x else mG M b j := fun b j => by subst hM; rfl
  have k : ∀ b : Int, mK M' b = mK M b := fun b => st_k hM b
  have tx : ∀ t : Int, TX n M t → TX n M' t := fun t ht => ht.of (Nat.le_refl _) (fun b _ _ => k b) (fun b j hb1 hb2 => by rw [g, if_neg (fun z => by omega)])
  refine ⟨fun b hb => by rw [k]; exact h1 b hb, fun b j => ?_, ⟨fun t j ht hj hj2 => ?_, fun t ht => ?_, ?_⟩, by rw [st_n hM]; exact h6, h7, ?_⟩
  · rw [g]; split
    · rename_i z; rw [z.1, z.2]; exact hx
    · exact h2 b j
  · rw [g]; split
    · rename_i z; exact tx _ (hs (Or.inl ⟨t, ht, Or.inl ⟨z.1.symm, by omega, by omega⟩⟩))
    · exact tx _ (h3 t j ht hj hj2)
  · rw [g]; split
    · rename_i z; exact tx _ (hs (Or.inl ⟨t, ht, Or.inr ⟨z.1.symm, z.2.symm⟩⟩))
    · exact tx _ (h4 t ht)
  · rw [g]; split
    · rename_i z; exact tx _ (hs (Or.inr ⟨z.1.symm, z.2.symm⟩))
    · exact tx _ h5
  · by_cases e : a = 169 ∨ a = 133
    · exact hK e
    · intro k hk0 hk3 hk1 j hj0 hj3
      rw [g, if_neg (fun z => e (Or.inl z.1.symm))] at hk1
      rw [g, if_neg (fun z => e (Or.inr z.1.symm))]
      exact h8 k hk0 hk3 hk1 j hj0 hj3
theorem I.nw {n : Nat} {M M' : Mem} {kd : Nat × Nat} (h : I n M) (hM : M' = mNew M kd) : I n M' := by
  obtain ⟨h1, h2, ⟨h3, h4, h5⟩, h6, h7, h8⟩ := h
  subst hM
  have g : ∀ b j : Int, b ≤ (mN M : Int) → mG (mNew M kd) b j = mG M b j := fun b j hb => by
    show (if b = (M.2.2 : Int) + 1 then 0 else M.2.1 b j) = _
    rw [if_neg (by change b ≤ (M.2.2 : Int) at hb; omega)]
  have k : ∀ b : Int, b ≤ (mN M : Int) → mK (mNew M kd) b = mK M b := fun b hb => by
    show (if b = (M.2.2 : Int) + 1 then kd else M.1 b) = _
    rw [if_neg (by change b ≤ (M.2.2 : Int) at hb; omega)]
  have tx : ∀ t : Int, TX n M t → TX n (mNew M kd) t := fun t ht => ht.of (Nat.le_refl _) (fun b _ hb => k b (by omega)) (fun b j _ hb => g b j (by omega))
  refine ⟨fun b hb => by rw [k _ (by omega)]; exact h1 b hb, fun b j => ?_, ⟨fun t j ht hj hj2 => ?_, fun t ht => ?_, ?_⟩, Nat.le_succ_of_le h6, h7, ?_⟩
  · by_cases e : b ≤ 169
    · rw [g _ _ (by omega)]; exact h2 b j
    · rw [fam_out (by omega)]; trivial
  · have : t ≤ 109 := by unfold isTold at ht; omega
    rw [g _ _ (by omega)]; exact tx _ (h3 t j ht hj hj2)
  · have : t ≤ 109 := by unfold isTold at ht; omega
    rw [g _ _ (by omega)]; exact tx _ (h4 t ht)
  · rw [g _ _ (by omega)]; exact tx _ h5
  · intro k hk0 hk3 hk1 j hj0 hj3
    rw [g _ _ (by omega)] at hk1
    rw [g _ _ (by omega)]
    exact h8 k hk0 hk3 hk1 j hj0 hj3
theorem I.up {n n' : Nat} {M : Mem} (h : I n M) (h1 : n ≤ n') (h2 : n' ≤ mN M) : I n' M := by
  obtain ⟨a, b, ⟨c1, c2, c3⟩, d, e, f⟩ := h
  have tx : ∀ t : Int, TX n M t → TX n' M t := fun t ht => ht.of h1 (fun _ _ _ => rfl) (fun _ _ _ _ => rfl)
  exact ⟨a, b, ⟨fun t j x y z => tx _ (c1 t j x y z), fun t x => tx _ (c2 t x), tx _ c3⟩, h2, Nat.le_trans e h1, f⟩
theorem f_Shape {s : Int} (h : isShape s) : fam (s) = 1 := by
  rcases h with rfl | rfl | rfl | rfl | rfl <;> rfl
theorem k_Shape {n : Nat} {M : Mem} {s : Int} (hI : I n M) (h : isShape s) : mK M (s) = (3, 0) := by
  rcases h with rfl | rfl | rfl | rfl | rfl
  · exact kB hI 3 (by decide) rfl
  · exact kB hI 37 (by decide) rfl
  · exact kB hI 75 (by decide) rfl
  · exact kB hI 92 (by decide) rfl
  · exact kB hI 109 (by decide) rfl
theorem f_Ssizes {s : Int} (h : isShape s) : fam (s + 1) = 2 := by
  rcases h with rfl | rfl | rfl | rfl | rfl <;> rfl
theorem k_Ssizes {n : Nat} {M : Mem} {s : Int} (hI : I n M) (h : isShape s) : mK M (s + 1) = (10, 3) := by
  rcases h with rfl | rfl | rfl | rfl | rfl
  · exact kB hI 4 (by decide) rfl
  · exact kB hI 38 (by decide) rfl
  · exact kB hI 76 (by decide) rfl
  · exact kB hI 93 (by decide) rfl
  · exact kB hI 110 (by decide) rfl
theorem f_Sfirst {s : Int} (h : isShape s) : fam (s + 2) = 3 := by
  rcases h with rfl | rfl | rfl | rfl | rfl <;> rfl
theorem k_Sfirst {n : Nat} {M : Mem} {s : Int} (hI : I n M) (h : isShape s) : mK M (s + 2) = (10, 4) := by
  rcases h with rfl | rfl | rfl | rfl | rfl
  · exact kB hI 5 (by decide) rfl
  · exact kB hI 39 (by decide) rfl
  · exact kB hI 77 (by decide) rfl
  · exact kB hI 94 (by decide) rfl
  · exact kB hI 111 (by decide) rfl
theorem f_Ssecond {s : Int} (h : isShape s) : fam (s + 3) = 4 := by
  rcases h with rfl | rfl | rfl | rfl | rfl <;> rfl
theorem k_Ssecond {n : Nat} {M : Mem} {s : Int} (hI : I n M) (h : isShape s) : mK M (s + 3) = (10, 4) := by
  rcases h with rfl | rfl | rfl | rfl | rfl
  · exact kB hI 6 (by decide) rfl
  · exact kB hI 40 (by decide) rfl
  · exact kB hI 78 (by decide) rfl
  · exact kB hI 95 (by decide) rfl
  · exact kB hI 112 (by decide) rfl
theorem f_Sstart {s : Int} (h : isShape s) : fam (s + 4) = 5 := by
  rcases h with rfl | rfl | rfl | rfl | rfl <;> rfl
theorem k_Sstart {n : Nat} {M : Mem} {s : Int} (hI : I n M) (h : isShape s) : mK M (s + 4) = (10, 4) := by
  rcases h with rfl | rfl | rfl | rfl | rfl
  · exact kB hI 7 (by decide) rfl
  · exact kB hI 41 (by decide) rfl
  · exact kB hI 79 (by decide) rfl
  · exact kB hI 96 (by decide) rfl
  · exact kB hI 113 (by decide) rfl
theorem f_Sheight {s : Int} (h : isShape s) : fam (s + 5) = 6 := by
  rcases h with rfl | rfl | rfl | rfl | rfl <;> rfl
theorem k_Sheight {n : Nat} {M : Mem} {s : Int} (hI : I n M) (h : isShape s) : mK M (s + 5) = (10, 4) := by
  rcases h with rfl | rfl | rfl | rfl | rfl
  · exact kB hI 8 (by decide) rfl
  · exact kB hI 42 (by decide) rfl
  · exact kB hI 80 (by decide) rfl
  · exact kB hI 97 (by decide) rfl
  · exact kB hI 114 (by decide) rfl
theorem f_Swidth {s : Int} (h : isShape s) : fam (s + 6) = 7 := by
  rcases h with rfl | rfl | rfl | rfl | rfl <;> rfl
theorem k_Swidth {n : Nat} {M : Mem} {s : Int} (hI : I n M) (h : isShape s) : mK M (s + 6) = (10, 4) := by
  rcases h with rfl | rfl | rfl | rfl | rfl
  · exact kB hI 9 (by decide) rfl
  · exact kB hI 43 (by decide) rfl
  · exact kB hI 81 (by decide) rfl
  · exact kB hI 98 (by decide) rfl
  · exact kB hI 115 (by decide) rfl
theorem f_WS {s : Int} (h : isWS s) : fam (s) = 8 := by
  rcases h with rfl | rfl | rfl | rfl | rfl | rfl | rfl | rfl | rfl | rfl | rfl | rfl | rfl | rfl <;> rfl
theorem k_WS {n : Nat} {M : Mem} {s : Int} (hI : I n M) (h : isWS s) : mK M (s) = (7, 0) := by
  rcases h with rfl | rfl | rfl | rfl | rfl | rfl | rfl | rfl | rfl | rfl | rfl | rfl | rfl | rfl
  · exact kB hI 26 (by decide) rfl
  · exact kB hI 28 (by decide) rfl
  · exact kB hI 31 (by decide) rfl
  · exact kB hI 33 (by decide) rfl
  · exact kB hI 35 (by decide) rfl
  · exact kB hI 46 (by decide) rfl
  · exact kB hI 48 (by decide) rfl
  · exact kB hI 50 (by decide) rfl
  · exact kB hI 52 (by decide) rfl
  · exact kB hI 54 (by decide) rfl
  · exact kB hI 56 (by decide) rfl
  · exact kB hI 58 (by decide) rfl
  · exact kB hI 60 (by decide) rfl
  · exact kB hI 62 (by decide) rfl
theorem f_Wwords {s : Int} (h : isWS s) : fam (s + 1) = 9 := by
  rcases h with rfl | rfl | rfl | rfl | rfl | rfl | rfl | rfl | rfl | rfl | rfl | rfl | rfl | rfl <;> rfl
theorem k_Wwords {n : Nat} {M : Mem} {s : Int} (hI : I n M) (h : isWS s) : mK M (s + 1) = (13, 64) := by
  rcases h with rfl | rfl | rfl | rfl | rfl | rfl | rfl | rfl | rfl | rfl | rfl | rfl | rfl | rfl
  · exact kB hI 27 (by decide) rfl
  · exact kB hI 29 (by decide) rfl
  · exact kB hI 32 (by decide) rfl
  · exact kB hI 34 (by decide) rfl
  · exact kB hI 36 (by decide) rfl
  · exact kB hI 47 (by decide) rfl
  · exact kB hI 49 (by decide) rfl
  · exact kB hI 51 (by decide) rfl
  · exact kB hI 53 (by decide) rfl
  · exact kB hI 55 (by decide) rfl
  · exact kB hI 57 (by decide) rfl
  · exact kB hI 59 (by decide) rfl
  · exact kB hI 61 (by decide) rfl
  · exact kB hI 63 (by decide) rfl
theorem f_Told {s : Int} (h : isTold s) : fam (s) = 10 := by
  rcases h with rfl | rfl | rfl | rfl <;> rfl
theorem k_Told {n : Nat} {M : Mem} {s : Int} (hI : I n M) (h : isTold s) : mK M (s) = (6, 0) := by
  rcases h with rfl | rfl | rfl | rfl
  · exact kB hI 2 (by decide) rfl
  · exact kB hI 74 (by decide) rfl
  · exact kB hI 91 (by decide) rfl
  · exact kB hI 108 (by decide) rfl
theorem f_Tkept {s : Int} (h : isTold s) : fam (s + 8) = 11 := by
  rcases h with rfl | rfl | rfl | rfl <;> rfl
theorem k_Tkept {n : Nat} {M : Mem} {s : Int} (hI : I n M) (h : isTold s) : mK M (s + 8) = (13, 4) := by
  rcases h with rfl | rfl | rfl | rfl
  · exact kB hI 10 (by decide) rfl
  · exact kB hI 82 (by decide) rfl
  · exact kB hI 99 (by decide) rfl
  · exact kB hI 116 (by decide) rfl
theorem f_TisKept {s : Int} (h : isTold s) : fam (s + 9) = 12 := by
  rcases h with rfl | rfl | rfl | rfl <;> rfl
theorem k_TisKept {n : Nat} {M : Mem} {s : Int} (hI : I n M) (h : isTold s) : mK M (s + 9) = (11, 4) := by
  rcases h with rfl | rfl | rfl | rfl
  · exact kB hI 11 (by decide) rfl
  · exact kB hI 83 (by decide) rfl
  · exact kB hI 100 (by decide) rfl
  · exact kB hI 117 (by decide) rfl
theorem f_Ttape {s : Int} (h : isTold s) : fam (s + 10) = 13 := by
  rcases h with rfl | rfl | rfl | rfl <;> rfl
theorem k_Ttape {n : Nat} {M : Mem} {s : Int} (hI : I n M) (h : isTold s) : mK M (s + 10) = (10, 400) := by
  rcases h with rfl | rfl | rfl | rfl
  · exact kB hI 12 (by decide) rfl
  · exact kB hI 84 (by decide) rfl
  · exact kB hI 101 (by decide) rfl
  · exact kB hI 118 (by decide) rfl
theorem f_Ttexts {s : Int} (h : isTold s) : fam (s + 11) = 14 := by
  rcases h with rfl | rfl | rfl | rfl <;> rfl
theorem k_Ttexts {n : Nat} {M : Mem} {s : Int} (hI : I n M) (h : isTold s) : mK M (s + 11) = (14, 8) := by
  rcases h with rfl | rfl | rfl | rfl
  · exact kB hI 13 (by decide) rfl
  · exact kB hI 85 (by decide) rfl
  · exact kB hI 102 (by decide) rfl
  · exact kB hI 119 (by decide) rfl
theorem f_TtoldOn {s : Int} (h : isTold s) : fam (s + 12) = 15 := by
  rcases h with rfl | rfl | rfl | rfl <;> rfl
theorem k_TtoldOn {n : Nat} {M : Mem} {s : Int} (hI : I n M) (h : isTold s) : mK M (s + 12) = (10, 8) := by
  rcases h with rfl | rfl | rfl | rfl
  · exact kB hI 14 (by decide) rfl
  · exact kB hI 86 (by decide) rfl
  · exact kB hI 103 (by decide) rfl
  · exact kB hI 120 (by decide) rfl
theorem f_TstruckOn {s : Int} (h : isTold s) : fam (s + 13) = 16 := by
  rcases h with rfl | rfl | rfl | rfl <;> rfl
theorem k_TstruckOn {n : Nat} {M : Mem} {s : Int} (hI : I n M) (h : isTold s) : mK M (s + 13) = (10, 8) := by
  rcases h with rfl | rfl | rfl | rfl
  · exact kB hI 15 (by decide) rfl
  · exact kB hI 87 (by decide) rfl
  · exact kB hI 104 (by decide) rfl
  · exact kB hI 121 (by decide) rfl
theorem f_TknownFact {s : Int} (h : isTold s) : fam (s + 14) = 17 := by
  rcases h with rfl | rfl | rfl | rfl <;> rfl
theorem k_TknownFact {n : Nat} {M : Mem} {s : Int} (hI : I n M) (h : isTold s) : mK M (s + 14) = (10, 40) := by
  rcases h with rfl | rfl | rfl | rfl
  · exact kB hI 16 (by decide) rfl
  · exact kB hI 88 (by decide) rfl
  · exact kB hI 105 (by decide) rfl
  · exact kB hI 122 (by decide) rfl
theorem f_TknownSo {s : Int} (h : isTold s) : fam (s + 15) = 18 := by
  rcases h with rfl | rfl | rfl | rfl <;> rfl
theorem k_TknownSo {n : Nat} {M : Mem} {s : Int} (hI : I n M) (h : isTold s) : mK M (s + 15) = (11, 40) := by
  rcases h with rfl | rfl | rfl | rfl
  · exact kB hI 17 (by decide) rfl
  · exact kB hI 89 (by decide) rfl
  · exact kB hI 106 (by decide) rfl
  · exact kB hI 123 (by decide) rfl
theorem f_TknownOn {s : Int} (h : isTold s) : fam (s + 16) = 19 := by
  rcases h with rfl | rfl | rfl | rfl <;> rfl
theorem k_TknownOn {n : Nat} {M : Mem} {s : Int} (hI : I n M) (h : isTold s) : mK M (s + 16) = (10, 40) := by
  rcases h with rfl | rfl | rfl | rfl
  · exact kB hI 18 (by decide) rfl
  · exact kB hI 90 (by decide) rfl
  · exact kB hI 107 (by decide) rfl
  · exact kB hI 124 (by decide) rfl
theorem rd_Shape_0 {n : Nat} {M : Mem} {a : Int} (hI : I n M) (hf : fam a = 1) : mG M a 0 = a + 1 := rdf hI (j := 0) hf
theorem rd_Shape_1 {n : Nat} {M : Mem} {a : Int} (hI : I n M) (hf : fam a = 1) : mG M a 1 = a + 2 := rdf hI (j := 1) hf
theorem rd_Shape_2 {n : Nat} {M : Mem} {a : Int} (hI : I n M) (hf : fam a = 1) : mG M a 2 = a + 3 := rdf hI (j := 2) hf
theorem rd_Shape_3 {n : Nat} {M : Mem} {a : Int} (hI : I n M) (hf : fam a = 1) : mG M a 3 = a + 4 := rdf hI (j := 3) hf
theorem rd_Shape_4 {n : Nat} {M : Mem} {a : Int} (hI : I n M) (hf : fam a = 1) : mG M a 4 = a + 5 := rdf hI (j := 4) hf
theorem rd_Shape_5 {n : Nat} {M : Mem} {a : Int} (hI : I n M) (hf : fam a = 1) : mG M a 5 = a + 6 := rdf hI (j := 5) hf
theorem rd_Shape_6 {n : Nat} {M : Mem} {a : Int} (hI : I n M) (hf : fam a = 1) : 0 ≤ mG M a 6 ∧ mG M a 6 ≤ 4 := rdf hI (j := 6) hf
theorem wr_Shape_6 {n : Nat} {M M' : Mem} {a x : Int} (hI : I n M) (hf : fam a = 1) (hx : 0 ≤ x ∧ x ≤ 4) (hM : M' = mS M a 6 x) : I n M' := by
  refine hI.st hM (by rw [hf]; exact hx) (Or.inl ?_) (fun z => by
    exfalso
    rcases z with ⟨t, ht, ⟨e, _⟩ | ⟨e, e2⟩⟩ | ⟨e, e2⟩
    · rw [e, f_Ttexts ht] at hf; exact absurd hf (by decide)
    · rw [e, f_Told ht] at hf; exact absurd hf (by decide)
    · rw [e] at hf; exact absurd hf (by decide)) (fun z => by rcases z with z | z <;> (subst z; exact absurd hf (by decide)))
  refine Decidable.byContradiction fun z => ?_
  rw [fam_out (by omega)] at hf
  exact absurd hf (by decide)
theorem rd_Shape_7 {n : Nat} {M : Mem} {a : Int} (hI : I n M) (hf : fam a = 1) : 0 ≤ mG M a 7 ∧ mG M a 7 ≤ 36 := rdf hI (j := 7) hf
theorem wr_Shape_7 {n : Nat} {M M' : Mem} {a x : Int} (hI : I n M) (hf : fam a = 1) (hx : 0 ≤ x ∧ x ≤ 36) (hM : M' = mS M a 7 x) : I n M' := by
  refine hI.st hM (by rw [hf]; exact hx) (Or.inl ?_) (fun z => by
    exfalso
    rcases z with ⟨t, ht, ⟨e, _⟩ | ⟨e, e2⟩⟩ | ⟨e, e2⟩
    · rw [e, f_Ttexts ht] at hf; exact absurd hf (by decide)
    · rw [e, f_Told ht] at hf; exact absurd hf (by decide)
    · rw [e] at hf; exact absurd hf (by decide)) (fun z => by rcases z with z | z <;> (subst z; exact absurd hf (by decide)))
  refine Decidable.byContradiction fun z => ?_
  rw [fam_out (by omega)] at hf
  exact absurd hf (by decide)
theorem rd_Ssizes {n : Nat} {M : Mem} {a i : Int} (hI : I n M) (hf : fam a = 2) (h0 : 0 ≤ i) (h1 : i < 3) : 1 ≤ mG M a i ∧ mG M a i ≤ 3 := rdf hI (j := i) hf h0 h1
theorem wr_Ssizes {n : Nat} {M M' : Mem} {a i x : Int} (hI : I n M) (hf : fam a = 2) (hx : 1 ≤ x ∧ x ≤ 3) (hM : M' = mS M a i x) : I n M' := by
  refine hI.st hM (by rw [hf]; exact fun _ _ => hx) (Or.inl ?_) (fun z => by
    exfalso
    rcases z with ⟨t, ht, ⟨e, _⟩ | ⟨e, e2⟩⟩ | ⟨e, e2⟩
    · rw [e, f_Ttexts ht] at hf; exact absurd hf (by decide)
    · rw [e, f_Told ht] at hf; exact absurd hf (by decide)
    · rw [e] at hf; exact absurd hf (by decide)) (fun z => by rcases z with z | z <;> (subst z; exact absurd hf (by decide)))
  refine Decidable.byContradiction fun z => ?_
  rw [fam_out (by omega)] at hf
  exact absurd hf (by decide)
theorem rd_Sfirst {n : Nat} {M : Mem} {a i : Int} (hI : I n M) (hf : fam a = 3) : 0 ≤ mG M a i ∧ mG M a i ≤ 2 := rdf hI (j := i) hf
theorem wr_Sfirst {n : Nat} {M M' : Mem} {a i x : Int} (hI : I n M) (hf : fam a = 3) (hx : 0 ≤ x ∧ x ≤ 2) (hM : M' = mS M a i x) : I n M' := by
  refine hI.st hM (by rw [hf]; exact hx) (Or.inl ?_) (fun z => by
    exfalso
    rcases z with ⟨t, ht, ⟨e, _⟩ | ⟨e, e2⟩⟩ | ⟨e, e2⟩
    · rw [e, f_Ttexts ht] at hf; exact absurd hf (by decide)
    · rw [e, f_Told ht] at hf; exact absurd hf (by decide)
    · rw [e] at hf; exact absurd hf (by decide)) (fun z => by rcases z with z | z <;> (subst z; exact absurd hf (by decide)))
  refine Decidable.byContradiction fun z => ?_
  rw [fam_out (by omega)] at hf
  exact absurd hf (by decide)
theorem rd_Ssecond {n : Nat} {M : Mem} {a i : Int} (hI : I n M) (hf : fam a = 4) : (-1) ≤ mG M a i ∧ mG M a i ≤ 2 := rdf hI (j := i) hf
theorem wr_Ssecond {n : Nat} {M M' : Mem} {a i x : Int} (hI : I n M) (hf : fam a = 4) (hx : (-1) ≤ x ∧ x ≤ 2) (hM : M' = mS M a i x) : I n M' := by
  refine hI.st hM (by rw [hf]; exact hx) (Or.inl ?_) (fun z => by
    exfalso
    rcases z with ⟨t, ht, ⟨e, _⟩ | ⟨e, e2⟩⟩ | ⟨e, e2⟩
    · rw [e, f_Ttexts ht] at hf; exact absurd hf (by decide)
    · rw [e, f_Told ht] at hf; exact absurd hf (by decide)
    · rw [e] at hf; exact absurd hf (by decide)) (fun z => by rcases z with z | z <;> (subst z; exact absurd hf (by decide)))
  refine Decidable.byContradiction fun z => ?_
  rw [fam_out (by omega)] at hf
  exact absurd hf (by decide)
theorem rd_Sstart {n : Nat} {M : Mem} {a i : Int} (hI : I n M) (hf : fam a = 5) (h0 : 0 ≤ i) (h1 : i < 4) : 0 ≤ mG M a i ∧ mG M a i ≤ 9 * i := rdf hI (j := i) hf h0 h1
theorem wr_Sstart {n : Nat} {M M' : Mem} {a i x : Int} (hI : I n M) (hf : fam a = 5) (hx : 0 ≤ x ∧ x ≤ 9 * i) (hM : M' = mS M a i x) : I n M' := by
  refine hI.st hM (by rw [hf]; exact fun _ _ => hx) (Or.inl ?_) (fun z => by
    exfalso
    rcases z with ⟨t, ht, ⟨e, _⟩ | ⟨e, e2⟩⟩ | ⟨e, e2⟩
    · rw [e, f_Ttexts ht] at hf; exact absurd hf (by decide)
    · rw [e, f_Told ht] at hf; exact absurd hf (by decide)
    · rw [e] at hf; exact absurd hf (by decide)) (fun z => by rcases z with z | z <;> (subst z; exact absurd hf (by decide)))
  refine Decidable.byContradiction fun z => ?_
  rw [fam_out (by omega)] at hf
  exact absurd hf (by decide)
theorem rd_Sheight {n : Nat} {M : Mem} {a i : Int} (hI : I n M) (hf : fam a = 6) : 0 ≤ mG M a i ∧ mG M a i ≤ 3 := rdf hI (j := i) hf
theorem wr_Sheight {n : Nat} {M M' : Mem} {a i x : Int} (hI : I n M) (hf : fam a = 6) (hx : 0 ≤ x ∧ x ≤ 3) (hM : M' = mS M a i x) : I n M' := by
  refine hI.st hM (by rw [hf]; exact hx) (Or.inl ?_) (fun z => by
    exfalso
    rcases z with ⟨t, ht, ⟨e, _⟩ | ⟨e, e2⟩⟩ | ⟨e, e2⟩
    · rw [e, f_Ttexts ht] at hf; exact absurd hf (by decide)
    · rw [e, f_Told ht] at hf; exact absurd hf (by decide)
    · rw [e] at hf; exact absurd hf (by decide)) (fun z => by rcases z with z | z <;> (subst z; exact absurd hf (by decide)))
  refine Decidable.byContradiction fun z => ?_
  rw [fam_out (by omega)] at hf
  exact absurd hf (by decide)
theorem rd_Swidth {n : Nat} {M : Mem} {a i : Int} (hI : I n M) (hf : fam a = 7) : 0 ≤ mG M a i ∧ mG M a i ≤ 3 := rdf hI (j := i) hf
theorem wr_Swidth {n : Nat} {M M' : Mem} {a i x : Int} (hI : I n M) (hf : fam a = 7) (hx : 0 ≤ x ∧ x ≤ 3) (hM : M' = mS M a i x) : I n M' := by
  refine hI.st hM (by rw [hf]; exact hx) (Or.inl ?_) (fun z => by
    exfalso
    rcases z with ⟨t, ht, ⟨e, _⟩ | ⟨e, e2⟩⟩ | ⟨e, e2⟩
    · rw [e, f_Ttexts ht] at hf; exact absurd hf (by decide)
    · rw [e, f_Told ht] at hf; exact absurd hf (by decide)
    · rw [e] at hf; exact absurd hf (by decide)) (fun z => by rcases z with z | z <;> (subst z; exact absurd hf (by decide)))
  refine Decidable.byContradiction fun z => ?_
  rw [fam_out (by omega)] at hf
  exact absurd hf (by decide)
theorem rd_WS_0 {n : Nat} {M : Mem} {a : Int} (hI : I n M) (hf : fam a = 8) : mG M a 0 = a + 1 := rdf hI (j := 0) hf
theorem rd_WS_1 {n : Nat} {M : Mem} {a : Int} (hI : I n M) (hf : fam a = 8) : 0 ≤ mG M a 1 ∧ mG M a 1 ≤ 64 := rdf hI (j := 1) hf
theorem wr_WS_1 {n : Nat} {M M' : Mem} {a x : Int} (hI : I n M) (hf : fam a = 8) (hx : 0 ≤ x ∧ x ≤ 64) (hM : M' = mS M a 1 x) : I n M' := by
  refine hI.st hM (by rw [hf]; exact hx) (Or.inl ?_) (fun z => by
    exfalso
    rcases z with ⟨t, ht, ⟨e, _⟩ | ⟨e, e2⟩⟩ | ⟨e, e2⟩
    · rw [e, f_Ttexts ht] at hf; exact absurd hf (by decide)
    · rw [e, f_Told ht] at hf; exact absurd hf (by decide)
    · rw [e] at hf; exact absurd hf (by decide)) (fun z => by rcases z with z | z <;> (subst z; exact absurd hf (by decide)))
  refine Decidable.byContradiction fun z => ?_
  rw [fam_out (by omega)] at hf
  exact absurd hf (by decide)
theorem rd_WS_2 {n : Nat} {M : Mem} {a : Int} (hI : I n M) (hf : fam a = 8) : 0 ≤ mG M a 2 ∧ mG M a 2 ≤ 12 := rdf hI (j := 2) hf
theorem wr_WS_2 {n : Nat} {M M' : Mem} {a x : Int} (hI : I n M) (hf : fam a = 8) (hx : 0 ≤ x ∧ x ≤ 12) (hM : M' = mS M a 2 x) : I n M' := by
  refine hI.st hM (by rw [hf]; exact hx) (Or.inl ?_) (fun z => by
    exfalso
    rcases z with ⟨t, ht, ⟨e, _⟩ | ⟨e, e2⟩⟩ | ⟨e, e2⟩
    · rw [e, f_Ttexts ht] at hf; exact absurd hf (by decide)
    · rw [e, f_Told ht] at hf; exact absurd hf (by decide)
    · rw [e] at hf; exact absurd hf (by decide)) (fun z => by rcases z with z | z <;> (subst z; exact absurd hf (by decide)))
  refine Decidable.byContradiction fun z => ?_
  rw [fam_out (by omega)] at hf
  exact absurd hf (by decide)
theorem wr_Wwords {n : Nat} {M M' : Mem} {a i x : Int} (hI : I n M) (hf : fam a = 9) (hM : M' = mS M a i x) : I n M' := by
  refine hI.st hM (by rw [hf]; exact trivial) (Or.inl ?_) (fun z => by
    exfalso
    rcases z with ⟨t, ht, ⟨e, _⟩ | ⟨e, e2⟩⟩ | ⟨e, e2⟩
    · rw [e, f_Ttexts ht] at hf; exact absurd hf (by decide)
    · rw [e, f_Told ht] at hf; exact absurd hf (by decide)
    · rw [e] at hf; exact absurd hf (by decide)) (fun z => by rcases z with z | z <;> (subst z; exact absurd hf (by decide)))
  refine Decidable.byContradiction fun z => ?_
  rw [fam_out (by omega)] at hf
  exact absurd hf (by decide)
theorem rd_Told_0 {n : Nat} {M : Mem} {a : Int} (hI : I n M) (hf : fam a = 10) : mG M a 0 = a + 1 := rdf hI (j := 0) hf
theorem wr_Told_1 {n : Nat} {M M' : Mem} {a x : Int} (hI : I n M) (hf : fam a = 10) (hM : M' = mS M a 1 x) : I n M' := by
  refine hI.st hM (by rw [hf]; exact trivial) (Or.inl ?_) (fun z => by
    exfalso
    rcases z with ⟨t, ht, ⟨e, _⟩ | ⟨e, e2⟩⟩ | ⟨e, e2⟩
    · rw [e, f_Ttexts ht] at hf; exact absurd hf (by decide)
    · exact absurd e2 (by decide)
    · rw [e] at hf; exact absurd hf (by decide)) (fun z => by rcases z with z | z <;> (subst z; exact absurd hf (by decide)))
  refine Decidable.byContradiction fun z => ?_
  rw [fam_out (by omega)] at hf
  exact absurd hf (by decide)
theorem rd_Told_2 {n : Nat} {M : Mem} {a : Int} (hI : I n M) (hf : fam a = 10) : mG M a 2 = a + 8 := rdf hI (j := 2) hf
theorem rd_Told_3 {n : Nat} {M : Mem} {a : Int} (hI : I n M) (hf : fam a = 10) : mG M a 3 = a + 9 := rdf hI (j := 3) hf
theorem rd_Told_4 {n : Nat} {M : Mem} {a : Int} (hI : I n M) (hf : fam a = 10) : mG M a 4 = a + 10 := rdf hI (j := 4) hf
theorem rd_Told_5 {n : Nat} {M : Mem} {a : Int} (hI : I n M) (hf : fam a = 10) : 0 ≤ mG M a 5 ∧ mG M a 5 ≤ 400 := rdf hI (j := 5) hf
theorem wr_Told_5 {n : Nat} {M M' : Mem} {a x : Int} (hI : I n M) (hf : fam a = 10) (hx : 0 ≤ x ∧ x ≤ 400) (hM : M' = mS M a 5 x) : I n M' := by
  refine hI.st hM (by rw [hf]; exact hx) (Or.inl ?_) (fun z => by
    exfalso
    rcases z with ⟨t, ht, ⟨e, _⟩ | ⟨e, e2⟩⟩ | ⟨e, e2⟩
    · rw [e, f_Ttexts ht] at hf; exact absurd hf (by decide)
    · exact absurd e2 (by decide)
    · rw [e] at hf; exact absurd hf (by decide)) (fun z => by rcases z with z | z <;> (subst z; exact absurd hf (by decide)))
  refine Decidable.byContradiction fun z => ?_
  rw [fam_out (by omega)] at hf
  exact absurd hf (by decide)
theorem rd_Told_6 {n : Nat} {M : Mem} {a : Int} (hI : I n M) (hf : fam a = 10) : 0 ≤ mG M a 6 ∧ mG M a 6 ≤ 5 := rdf hI (j := 6) hf
theorem wr_Told_6 {n : Nat} {M M' : Mem} {a x : Int} (hI : I n M) (hf : fam a = 10) (hx : 0 ≤ x ∧ x ≤ 5) (hM : M' = mS M a 6 x) : I n M' := by
  refine hI.st hM (by rw [hf]; exact hx) (Or.inl ?_) (fun z => by
    exfalso
    rcases z with ⟨t, ht, ⟨e, _⟩ | ⟨e, e2⟩⟩ | ⟨e, e2⟩
    · rw [e, f_Ttexts ht] at hf; exact absurd hf (by decide)
    · exact absurd e2 (by decide)
    · rw [e] at hf; exact absurd hf (by decide)) (fun z => by rcases z with z | z <;> (subst z; exact absurd hf (by decide)))
  refine Decidable.byContradiction fun z => ?_
  rw [fam_out (by omega)] at hf
  exact absurd hf (by decide)
theorem rd_Told_7 {n : Nat} {M : Mem} {a : Int} (hI : I n M) (hf : fam a = 10) : (-1) ≤ mG M a 7 ∧ mG M a 7 ≤ 400 := rdf hI (j := 7) hf
theorem wr_Told_7 {n : Nat} {M M' : Mem} {a x : Int} (hI : I n M) (hf : fam a = 10) (hx : (-1) ≤ x ∧ x ≤ 400) (hM : M' = mS M a 7 x) : I n M' := by
  refine hI.st hM (by rw [hf]; exact hx) (Or.inl ?_) (fun z => by
    exfalso
    rcases z with ⟨t, ht, ⟨e, _⟩ | ⟨e, e2⟩⟩ | ⟨e, e2⟩
    · rw [e, f_Ttexts ht] at hf; exact absurd hf (by decide)
    · exact absurd e2 (by decide)
    · rw [e] at hf; exact absurd hf (by decide)) (fun z => by rcases z with z | z <;> (subst z; exact absurd hf (by decide)))
  refine Decidable.byContradiction fun z => ?_
  rw [fam_out (by omega)] at hf
  exact absurd hf (by decide)
theorem rd_Told_8 {n : Nat} {M : Mem} {a : Int} (hI : I n M) (hf : fam a = 10) : mG M a 8 = a + 11 := rdf hI (j := 8) hf
theorem rd_Told_9 {n : Nat} {M : Mem} {a : Int} (hI : I n M) (hf : fam a = 10) : mG M a 9 = a + 12 := rdf hI (j := 9) hf
theorem rd_Told_10 {n : Nat} {M : Mem} {a : Int} (hI : I n M) (hf : fam a = 10) : mG M a 10 = a + 13 := rdf hI (j := 10) hf
theorem rd_Told_11 {n : Nat} {M : Mem} {a : Int} (hI : I n M) (hf : fam a = 10) : 0 ≤ mG M a 11 ∧ mG M a 11 ≤ 8 := rdf hI (j := 11) hf
theorem wr_Told_11 {n : Nat} {M M' : Mem} {a x : Int} (hI : I n M) (hf : fam a = 10) (hx : 0 ≤ x ∧ x ≤ 8) (hM : M' = mS M a 11 x) : I n M' := by
  refine hI.st hM (by rw [hf]; exact hx) (Or.inl ?_) (fun z => by
    exfalso
    rcases z with ⟨t, ht, ⟨e, _⟩ | ⟨e, e2⟩⟩ | ⟨e, e2⟩
    · rw [e, f_Ttexts ht] at hf; exact absurd hf (by decide)
    · exact absurd e2 (by decide)
    · rw [e] at hf; exact absurd hf (by decide)) (fun z => by rcases z with z | z <;> (subst z; exact absurd hf (by decide)))
  refine Decidable.byContradiction fun z => ?_
  rw [fam_out (by omega)] at hf
  exact absurd hf (by decide)
theorem wr_Told_12 {n : Nat} {M M' : Mem} {a x : Int} (hI : I n M) (hf : fam a = 10) (ht : TX n M x) (hM : M' = mS M a 12 x) : I n M' := by
  refine hI.st hM (by rw [hf]; exact trivial) (Or.inl ?_) (fun _ => ht) (fun z => by rcases z with z | z <;> (subst z; exact absurd hf (by decide)))
  refine Decidable.byContradiction fun z => ?_
  rw [fam_out (by omega)] at hf
  exact absurd hf (by decide)
theorem rd_Told_13 {n : Nat} {M : Mem} {a : Int} (hI : I n M) (hf : fam a = 10) : 0 ≤ mG M a 13 ∧ mG M a 13 ≤ 999 := rdf hI (j := 13) hf
theorem wr_Told_13 {n : Nat} {M M' : Mem} {a x : Int} (hI : I n M) (hf : fam a = 10) (hx : 0 ≤ x ∧ x ≤ 999) (hM : M' = mS M a 13 x) : I n M' := by
  refine hI.st hM (by rw [hf]; exact hx) (Or.inl ?_) (fun z => by
    exfalso
    rcases z with ⟨t, ht, ⟨e, _⟩ | ⟨e, e2⟩⟩ | ⟨e, e2⟩
    · rw [e, f_Ttexts ht] at hf; exact absurd hf (by decide)
    · exact absurd e2 (by decide)
    · rw [e] at hf; exact absurd hf (by decide)) (fun z => by rcases z with z | z <;> (subst z; exact absurd hf (by decide)))
  refine Decidable.byContradiction fun z => ?_
  rw [fam_out (by omega)] at hf
  exact absurd hf (by decide)
theorem rd_Told_14 {n : Nat} {M : Mem} {a : Int} (hI : I n M) (hf : fam a = 10) : (-1) ≤ mG M a 14 ∧ mG M a 14 ≤ 999 := rdf hI (j := 14) hf
theorem wr_Told_14 {n : Nat} {M M' : Mem} {a x : Int} (hI : I n M) (hf : fam a = 10) (hx : (-1) ≤ x ∧ x ≤ 999) (hM : M' = mS M a 14 x) : I n M' := by
  refine hI.st hM (by rw [hf]; exact hx) (Or.inl ?_) (fun z => by
    exfalso
    rcases z with ⟨t, ht, ⟨e, _⟩ | ⟨e, e2⟩⟩ | ⟨e, e2⟩
    · rw [e, f_Ttexts ht] at hf; exact absurd hf (by decide)
    · exact absurd e2 (by decide)
    · rw [e] at hf; exact absurd hf (by decide)) (fun z => by rcases z with z | z <;> (subst z; exact absurd hf (by decide)))
  refine Decidable.byContradiction fun z => ?_
  rw [fam_out (by omega)] at hf
  exact absurd hf (by decide)
theorem rd_Told_15 {n : Nat} {M : Mem} {a : Int} (hI : I n M) (hf : fam a = 10) : mG M a 15 = a + 14 := rdf hI (j := 15) hf
theorem rd_Told_16 {n : Nat} {M : Mem} {a : Int} (hI : I n M) (hf : fam a = 10) : mG M a 16 = a + 15 := rdf hI (j := 16) hf
theorem rd_Told_17 {n : Nat} {M : Mem} {a : Int} (hI : I n M) (hf : fam a = 10) : mG M a 17 = a + 16 := rdf hI (j := 17) hf
theorem rd_Told_18 {n : Nat} {M : Mem} {a : Int} (hI : I n M) (hf : fam a = 10) : 0 ≤ mG M a 18 ∧ mG M a 18 ≤ 40 := rdf hI (j := 18) hf
theorem wr_Told_18 {n : Nat} {M M' : Mem} {a x : Int} (hI : I n M) (hf : fam a = 10) (hx : 0 ≤ x ∧ x ≤ 40) (hM : M' = mS M a 18 x) : I n M' := by
  refine hI.st hM (by rw [hf]; exact hx) (Or.inl ?_) (fun z => by
    exfalso
    rcases z with ⟨t, ht, ⟨e, _⟩ | ⟨e, e2⟩⟩ | ⟨e, e2⟩
    · rw [e, f_Ttexts ht] at hf; exact absurd hf (by decide)
    · exact absurd e2 (by decide)
    · rw [e] at hf; exact absurd hf (by decide)) (fun z => by rcases z with z | z <;> (subst z; exact absurd hf (by decide)))
  refine Decidable.byContradiction fun z => ?_
  rw [fam_out (by omega)] at hf
  exact absurd hf (by decide)
theorem wr_Tkept {n : Nat} {M M' : Mem} {a i x : Int} (hI : I n M) (hf : fam a = 11) (hM : M' = mS M a i x) : I n M' := by
  refine hI.st hM (by rw [hf]; exact trivial) (Or.inl ?_) (fun z => by
    exfalso
    rcases z with ⟨t, ht, ⟨e, _⟩ | ⟨e, e2⟩⟩ | ⟨e, e2⟩
    · rw [e, f_Ttexts ht] at hf; exact absurd hf (by decide)
    · rw [e, f_Told ht] at hf; exact absurd hf (by decide)
    · rw [e] at hf; exact absurd hf (by decide)) (fun z => by rcases z with z | z <;> (subst z; exact absurd hf (by decide)))
  refine Decidable.byContradiction fun z => ?_
  rw [fam_out (by omega)] at hf
  exact absurd hf (by decide)
theorem rd_TisKept {n : Nat} {M : Mem} {a i : Int} (hI : I n M) (hf : fam a = 12) : 0 ≤ mG M a i ∧ mG M a i ≤ 1 := rdf hI (j := i) hf
theorem wr_TisKept {n : Nat} {M M' : Mem} {a i x : Int} (hI : I n M) (hf : fam a = 12) (hx : 0 ≤ x ∧ x ≤ 1) (hM : M' = mS M a i x) : I n M' := by
  refine hI.st hM (by rw [hf]; exact hx) (Or.inl ?_) (fun z => by
    exfalso
    rcases z with ⟨t, ht, ⟨e, _⟩ | ⟨e, e2⟩⟩ | ⟨e, e2⟩
    · rw [e, f_Ttexts ht] at hf; exact absurd hf (by decide)
    · rw [e, f_Told ht] at hf; exact absurd hf (by decide)
    · rw [e] at hf; exact absurd hf (by decide)) (fun z => by rcases z with z | z <;> (subst z; exact absurd hf (by decide)))
  refine Decidable.byContradiction fun z => ?_
  rw [fam_out (by omega)] at hf
  exact absurd hf (by decide)
theorem rd_Ttape {n : Nat} {M : Mem} {a i : Int} (hI : I n M) (hf : fam a = 13) : 0 ≤ mG M a i ∧ mG M a i ≤ 255 := rdf hI (j := i) hf
theorem wr_Ttape {n : Nat} {M M' : Mem} {a i x : Int} (hI : I n M) (hf : fam a = 13) (hx : 0 ≤ x ∧ x ≤ 255) (hM : M' = mS M a i x) : I n M' := by
  refine hI.st hM (by rw [hf]; exact hx) (Or.inl ?_) (fun z => by
    exfalso
    rcases z with ⟨t, ht, ⟨e, _⟩ | ⟨e, e2⟩⟩ | ⟨e, e2⟩
    · rw [e, f_Ttexts ht] at hf; exact absurd hf (by decide)
    · rw [e, f_Told ht] at hf; exact absurd hf (by decide)
    · rw [e] at hf; exact absurd hf (by decide)) (fun z => by rcases z with z | z <;> (subst z; exact absurd hf (by decide)))
  refine Decidable.byContradiction fun z => ?_
  rw [fam_out (by omega)] at hf
  exact absurd hf (by decide)
theorem wr_Ttexts {n : Nat} {M M' : Mem} {a i x : Int} (hI : I n M) (hf : fam a = 14) (ht : TX n M x) (hM : M' = mS M a i x) : I n M' := by
  refine hI.st hM (by rw [hf]; exact trivial) (Or.inl ?_) (fun _ => ht) (fun z => by rcases z with z | z <;> (subst z; exact absurd hf (by decide)))
  refine Decidable.byContradiction fun z => ?_
  rw [fam_out (by omega)] at hf
  exact absurd hf (by decide)
theorem rd_TtoldOn {n : Nat} {M : Mem} {a i : Int} (hI : I n M) (hf : fam a = 15) : 0 ≤ mG M a i ∧ mG M a i ≤ 999 := rdf hI (j := i) hf
theorem wr_TtoldOn {n : Nat} {M M' : Mem} {a i x : Int} (hI : I n M) (hf : fam a = 15) (hx : 0 ≤ x ∧ x ≤ 999) (hM : M' = mS M a i x) : I n M' := by
  refine hI.st hM (by rw [hf]; exact hx) (Or.inl ?_) (fun z => by
    exfalso
    rcases z with ⟨t, ht, ⟨e, _⟩ | ⟨e, e2⟩⟩ | ⟨e, e2⟩
    · rw [e, f_Ttexts ht] at hf; exact absurd hf (by decide)
    · rw [e, f_Told ht] at hf; exact absurd hf (by decide)
    · rw [e] at hf; exact absurd hf (by decide)) (fun z => by rcases z with z | z <;> (subst z; exact absurd hf (by decide)))
  refine Decidable.byContradiction fun z => ?_
  rw [fam_out (by omega)] at hf
  exact absurd hf (by decide)
theorem rd_TstruckOn {n : Nat} {M : Mem} {a i : Int} (hI : I n M) (hf : fam a = 16) : (-1) ≤ mG M a i ∧ mG M a i ≤ 999 := rdf hI (j := i) hf
theorem wr_TstruckOn {n : Nat} {M M' : Mem} {a i x : Int} (hI : I n M) (hf : fam a = 16) (hx : (-1) ≤ x ∧ x ≤ 999) (hM : M' = mS M a i x) : I n M' := by
  refine hI.st hM (by rw [hf]; exact hx) (Or.inl ?_) (fun z => by
    exfalso
    rcases z with ⟨t, ht, ⟨e, _⟩ | ⟨e, e2⟩⟩ | ⟨e, e2⟩
    · rw [e, f_Ttexts ht] at hf; exact absurd hf (by decide)
    · rw [e, f_Told ht] at hf; exact absurd hf (by decide)
    · rw [e] at hf; exact absurd hf (by decide)) (fun z => by rcases z with z | z <;> (subst z; exact absurd hf (by decide)))
  refine Decidable.byContradiction fun z => ?_
  rw [fam_out (by omega)] at hf
  exact absurd hf (by decide)
theorem rd_TknownFact {n : Nat} {M : Mem} {a i : Int} (hI : I n M) (hf : fam a = 17) : 0 ≤ mG M a i ∧ mG M a i ≤ 35 := rdf hI (j := i) hf
theorem wr_TknownFact {n : Nat} {M M' : Mem} {a i x : Int} (hI : I n M) (hf : fam a = 17) (hx : 0 ≤ x ∧ x ≤ 35) (hM : M' = mS M a i x) : I n M' := by
  refine hI.st hM (by rw [hf]; exact hx) (Or.inl ?_) (fun z => by
    exfalso
    rcases z with ⟨t, ht, ⟨e, _⟩ | ⟨e, e2⟩⟩ | ⟨e, e2⟩
    · rw [e, f_Ttexts ht] at hf; exact absurd hf (by decide)
    · rw [e, f_Told ht] at hf; exact absurd hf (by decide)
    · rw [e] at hf; exact absurd hf (by decide)) (fun z => by rcases z with z | z <;> (subst z; exact absurd hf (by decide)))
  refine Decidable.byContradiction fun z => ?_
  rw [fam_out (by omega)] at hf
  exact absurd hf (by decide)
theorem rd_TknownSo {n : Nat} {M : Mem} {a i : Int} (hI : I n M) (hf : fam a = 18) : 0 ≤ mG M a i ∧ mG M a i ≤ 1 := rdf hI (j := i) hf
theorem wr_TknownSo {n : Nat} {M M' : Mem} {a i x : Int} (hI : I n M) (hf : fam a = 18) (hx : 0 ≤ x ∧ x ≤ 1) (hM : M' = mS M a i x) : I n M' := by
  refine hI.st hM (by rw [hf]; exact hx) (Or.inl ?_) (fun z => by
    exfalso
    rcases z with ⟨t, ht, ⟨e, _⟩ | ⟨e, e2⟩⟩ | ⟨e, e2⟩
    · rw [e, f_Ttexts ht] at hf; exact absurd hf (by decide)
    · rw [e, f_Told ht] at hf; exact absurd hf (by decide)
    · rw [e] at hf; exact absurd hf (by decide)) (fun z => by rcases z with z | z <;> (subst z; exact absurd hf (by decide)))
  refine Decidable.byContradiction fun z => ?_
  rw [fam_out (by omega)] at hf
  exact absurd hf (by decide)
theorem rd_TknownOn {n : Nat} {M : Mem} {a i : Int} (hI : I n M) (hf : fam a = 19) : 0 ≤ mG M a i ∧ mG M a i ≤ 999 := rdf hI (j := i) hf
theorem wr_TknownOn {n : Nat} {M M' : Mem} {a i x : Int} (hI : I n M) (hf : fam a = 19) (hx : 0 ≤ x ∧ x ≤ 999) (hM : M' = mS M a i x) : I n M' := by
  refine hI.st hM (by rw [hf]; exact hx) (Or.inl ?_) (fun z => by
    exfalso
    rcases z with ⟨t, ht, ⟨e, _⟩ | ⟨e, e2⟩⟩ | ⟨e, e2⟩
    · rw [e, f_Ttexts ht] at hf; exact absurd hf (by decide)
    · rw [e, f_Told ht] at hf; exact absurd hf (by decide)
    · rw [e] at hf; exact absurd hf (by decide)) (fun z => by rcases z with z | z <;> (subst z; exact absurd hf (by decide)))
  refine Decidable.byContradiction fun z => ?_
  rw [fam_out (by omega)] at hf
  exact absurd hf (by decide)
theorem rd_VS_0 {n : Nat} {M : Mem} {a : Int} (hI : I n M) (hf : fam a = 20) : mG M a 0 = 2 := rdf hI (j := 0) hf
theorem rd_VS_1 {n : Nat} {M : Mem} {a : Int} (hI : I n M) (hf : fam a = 20) : mG M a 1 = 3 := rdf hI (j := 1) hf
theorem rd_VS_2 {n : Nat} {M : Mem} {a : Int} (hI : I n M) (hf : fam a = 20) : mG M a 2 = 65 := rdf hI (j := 2) hf
theorem rd_VS_3 {n : Nat} {M : Mem} {a : Int} (hI : I n M) (hf : fam a = 20) : mG M a 3 = 73 := rdf hI (j := 3) hf
theorem rd_VS_4 {n : Nat} {M : Mem} {a : Int} (hI : I n M) (hf : fam a = 20) : mG M a 4 = 74 := rdf hI (j := 4) hf
theorem rd_Vimages {n : Nat} {M : Mem} {a i : Int} (hI : I n M) (hf : fam a = 21) (h0 : 0 ≤ i) (h1 : i < 3) : mG M a i = 75 + 17 * i := rdf hI (j := i) hf h0 h1
theorem wr_Vimages {n : Nat} {M M' : Mem} {a i x : Int} (hI : I n M) (hf : fam a = 21) (hx : x = 75 + 17 * i) (hM : M' = mS M a i x) : I n M' := by
  refine hI.st hM (by rw [hf]; exact fun _ _ => hx) (Or.inl ?_) (fun z => by
    exfalso
    rcases z with ⟨t, ht, ⟨e, _⟩ | ⟨e, e2⟩⟩ | ⟨e, e2⟩
    · rw [e, f_Ttexts ht] at hf; exact absurd hf (by decide)
    · rw [e, f_Told ht] at hf; exact absurd hf (by decide)
    · rw [e] at hf; exact absurd hf (by decide)) (fun z => by rcases z with z | z <;> (subst z; exact absurd hf (by decide)))
  refine Decidable.byContradiction fun z => ?_
  rw [fam_out (by omega)] at hf
  exact absurd hf (by decide)
theorem rd_Vimaged {n : Nat} {M : Mem} {a i : Int} (hI : I n M) (hf : fam a = 22) : 0 ≤ mG M a i ∧ mG M a i ≤ 1 := rdf hI (j := i) hf
theorem wr_Vimaged {n : Nat} {M M' : Mem} {a i x : Int} (hI : I n M) (hf : fam a = 22) (hx : 0 ≤ x ∧ x ≤ 1) (hM : M' = mS M a i x) : I n M' := by
  refine hI.st hM (by rw [hf]; exact hx) (Or.inl ?_) (fun z => by
    exfalso
    rcases z with ⟨t, ht, ⟨e, _⟩ | ⟨e, e2⟩⟩ | ⟨e, e2⟩
    · rw [e, f_Ttexts ht] at hf; exact absurd hf (by decide)
    · rw [e, f_Told ht] at hf; exact absurd hf (by decide)
    · rw [e] at hf; exact absurd hf (by decide)) (fun z => by rcases z with z | z <;> (subst z; exact absurd hf (by decide)))
  refine Decidable.byContradiction fun z => ?_
  rw [fam_out (by omega)] at hf
  exact absurd hf (by decide)
theorem rd_Solver_0 {n : Nat} {M : Mem} {a : Int} (hI : I n M) (hf : fam a = 23) : mG M a 0 = 3 := rdf hI (j := 0) hf
theorem rd_Solver_1 {n : Nat} {M : Mem} {a : Int} (hI : I n M) (hf : fam a = 23) : mG M a 1 = 20 := rdf hI (j := 1) hf
theorem rd_Solver_2 {n : Nat} {M : Mem} {a : Int} (hI : I n M) (hf : fam a = 23) : mG M a 2 = 24 := rdf hI (j := 2) hf
theorem rd_Solver_3 {n : Nat} {M : Mem} {a : Int} (hI : I n M) (hf : fam a = 23) : mG M a 3 = 31 := rdf hI (j := 3) hf
theorem rd_Solver_4 {n : Nat} {M : Mem} {a : Int} (hI : I n M) (hf : fam a = 23) : (-2147483648) ≤ mG M a 4 ∧ mG M a 4 ≤ 2147483647 := rdf hI (j := 4) hf
theorem wr_Solver_4 {n : Nat} {M M' : Mem} {a x : Int} (hI : I n M) (hf : fam a = 23) (hx : (-2147483648) ≤ x ∧ x ≤ 2147483647) (hM : M' = mS M a 4 x) : I n M' := by
  refine hI.st hM (by rw [hf]; exact hx) (Or.inl ?_) (fun z => by
    exfalso
    rcases z with ⟨t, ht, ⟨e, _⟩ | ⟨e, e2⟩⟩ | ⟨e, e2⟩
    · rw [e, f_Ttexts ht] at hf; exact absurd hf (by decide)
    · rw [e, f_Told ht] at hf; exact absurd hf (by decide)
    · rw [e] at hf; exact absurd hf (by decide)) (fun z => by rcases z with z | z <;> (subst z; exact absurd hf (by decide)))
  refine Decidable.byContradiction fun z => ?_
  rw [fam_out (by omega)] at hf
  exact absurd hf (by decide)
theorem rd_Solver_5 {n : Nat} {M : Mem} {a : Int} (hI : I n M) (hf : fam a = 23) : mG M a 5 = 32 := rdf hI (j := 5) hf
theorem rd_Solver_6 {n : Nat} {M : Mem} {a : Int} (hI : I n M) (hf : fam a = 23) : mG M a 6 = 34 := rdf hI (j := 6) hf
theorem rd_Solver_7 {n : Nat} {M : Mem} {a : Int} (hI : I n M) (hf : fam a = 23) : mG M a 7 = 36 := rdf hI (j := 7) hf
theorem rd_Solver_8 {n : Nat} {M : Mem} {a : Int} (hI : I n M) (hf : fam a = 23) : mG M a 8 = 38 := rdf hI (j := 8) hf
theorem rd_Solver_9 {n : Nat} {M : Mem} {a : Int} (hI : I n M) (hf : fam a = 23) : mG M a 9 = 45 := rdf hI (j := 9) hf
theorem rd_Solver_10 {n : Nat} {M : Mem} {a : Int} (hI : I n M) (hf : fam a = 23) : (-2147483648) ≤ mG M a 10 ∧ mG M a 10 ≤ 2147483647 := rdf hI (j := 10) hf
theorem wr_Solver_10 {n : Nat} {M M' : Mem} {a x : Int} (hI : I n M) (hf : fam a = 23) (hx : (-2147483648) ≤ x ∧ x ≤ 2147483647) (hM : M' = mS M a 10 x) : I n M' := by
  refine hI.st hM (by rw [hf]; exact hx) (Or.inl ?_) (fun z => by
    exfalso
    rcases z with ⟨t, ht, ⟨e, _⟩ | ⟨e, e2⟩⟩ | ⟨e, e2⟩
    · rw [e, f_Ttexts ht] at hf; exact absurd hf (by decide)
    · rw [e, f_Told ht] at hf; exact absurd hf (by decide)
    · rw [e] at hf; exact absurd hf (by decide)) (fun z => by rcases z with z | z <;> (subst z; exact absurd hf (by decide)))
  refine Decidable.byContradiction fun z => ?_
  rw [fam_out (by omega)] at hf
  exact absurd hf (by decide)
theorem rd_Solver_11 {n : Nat} {M : Mem} {a : Int} (hI : I n M) (hf : fam a = 23) : mG M a 11 = 46 := rdf hI (j := 11) hf
theorem rd_Vtruths {n : Nat} {M : Mem} {a i : Int} (hI : I n M) (hf : fam a = 24) (h0 : 0 ≤ i) (h1 : i < 9) : mG M a i = 47 + 2 * i := rdf hI (j := i) hf h0 h1
theorem wr_Vtruths {n : Nat} {M M' : Mem} {a i x : Int} (hI : I n M) (hf : fam a = 24) (hx : x = 47 + 2 * i) (hM : M' = mS M a i x) : I n M' := by
  refine hI.st hM (by rw [hf]; exact fun _ _ => hx) (Or.inl ?_) (fun z => by
    exfalso
    rcases z with ⟨t, ht, ⟨e, _⟩ | ⟨e, e2⟩⟩ | ⟨e, e2⟩
    · rw [e, f_Ttexts ht] at hf; exact absurd hf (by decide)
    · rw [e, f_Told ht] at hf; exact absurd hf (by decide)
    · rw [e] at hf; exact absurd hf (by decide)) (fun z => by rcases z with z | z <;> (subst z; exact absurd hf (by decide)))
  refine Decidable.byContradiction fun z => ?_
  rw [fam_out (by omega)] at hf
  exact absurd hf (by decide)
theorem rd_Vleast {n : Nat} {M : Mem} {a i : Int} (hI : I n M) (hf : fam a = 25) : (-1) ≤ mG M a i ∧ mG M a i ≤ 3 := rdf hI (j := i) hf
theorem wr_Vleast {n : Nat} {M M' : Mem} {a i x : Int} (hI : I n M) (hf : fam a = 25) (hx : (-1) ≤ x ∧ x ≤ 3) (hM : M' = mS M a i x) : I n M' := by
  refine hI.st hM (by rw [hf]; exact hx) (Or.inl ?_) (fun z => by
    exfalso
    rcases z with ⟨t, ht, ⟨e, _⟩ | ⟨e, e2⟩⟩ | ⟨e, e2⟩
    · rw [e, f_Ttexts ht] at hf; exact absurd hf (by decide)
    · rw [e, f_Told ht] at hf; exact absurd hf (by decide)
    · rw [e] at hf; exact absurd hf (by decide)) (fun z => by rcases z with z | z <;> (subst z; exact absurd hf (by decide)))
  refine Decidable.byContradiction fun z => ?_
  rw [fam_out (by omega)] at hf
  exact absurd hf (by decide)
theorem rd_Vasked {n : Nat} {M : Mem} {a i : Int} (hI : I n M) (hf : fam a = 26) : (-2147483648) ≤ mG M a i ∧ mG M a i ≤ 2147483647 := rdf hI (j := i) hf
theorem wr_Vasked {n : Nat} {M M' : Mem} {a i x : Int} (hI : I n M) (hf : fam a = 26) (hx : (-2147483648) ≤ x ∧ x ≤ 2147483647) (hM : M' = mS M a i x) : I n M' := by
  refine hI.st hM (by rw [hf]; exact hx) (Or.inl ?_) (fun z => by
    exfalso
    rcases z with ⟨t, ht, ⟨e, _⟩ | ⟨e, e2⟩⟩ | ⟨e, e2⟩
    · rw [e, f_Ttexts ht] at hf; exact absurd hf (by decide)
    · rw [e, f_Told ht] at hf; exact absurd hf (by decide)
    · rw [e] at hf; exact absurd hf (by decide)) (fun z => by rcases z with z | z <;> (subst z; exact absurd hf (by decide)))
  refine Decidable.byContradiction fun z => ?_
  rw [fam_out (by omega)] at hf
  exact absurd hf (by decide)
theorem rd_Judge_0 {n : Nat} {M : Mem} {a : Int} (hI : I n M) (hf : fam a = 27) : mG M a 0 = 0 ∨ isShape (mG M a 0) := rdf hI (j := 0) hf
theorem wr_Judge_0 {n : Nat} {M M' : Mem} {a x : Int} (hI : I n M) (hf : fam a = 27) (hx : x = 0 ∨ isShape (x)) (hM : M' = mS M a 0 x) : I n M' := by
  refine hI.st hM (by rw [hf]; exact hx) (Or.inl ?_) (fun z => by
    exfalso
    rcases z with ⟨t, ht, ⟨e, _⟩ | ⟨e, e2⟩⟩ | ⟨e, e2⟩
    · rw [e, f_Ttexts ht] at hf; exact absurd hf (by decide)
    · rw [e, f_Told ht] at hf; exact absurd hf (by decide)
    · exact absurd e2 (by decide)) (fun z => by rcases z with z | z <;> (subst z; exact absurd hf (by decide)))
  refine Decidable.byContradiction fun z => ?_
  rw [fam_out (by omega)] at hf
  exact absurd hf (by decide)
theorem wr_Judge_1 {n : Nat} {M M' : Mem} {a x : Int} (hI : I n M) (hf : fam a = 27) (ht : TX n M x) (hM : M' = mS M a 1 x) : I n M' := by
  refine hI.st hM (by rw [hf]; exact trivial) (Or.inl ?_) (fun _ => ht) (fun z => by rcases z with z | z <;> (subst z; exact absurd hf (by decide)))
  refine Decidable.byContradiction fun z => ?_
  rw [fam_out (by omega)] at hf
  exact absurd hf (by decide)
theorem rd_Judge_2 {n : Nat} {M : Mem} {a : Int} (hI : I n M) (hf : fam a = 27) : mG M a 2 = 21 := rdf hI (j := 2) hf
theorem rd_Judge_3 {n : Nat} {M : Mem} {a : Int} (hI : I n M) (hf : fam a = 27) : mG M a 3 = 22 := rdf hI (j := 3) hf
theorem rd_Judge_4 {n : Nat} {M : Mem} {a : Int} (hI : I n M) (hf : fam a = 27) : mG M a 4 = 23 := rdf hI (j := 4) hf
theorem rd_Judge_5 {n : Nat} {M : Mem} {a : Int} (hI : I n M) (hf : fam a = 27) : (-2147483648) ≤ mG M a 5 ∧ mG M a 5 ≤ 2147483647 := rdf hI (j := 5) hf
theorem wr_Judge_5 {n : Nat} {M M' : Mem} {a x : Int} (hI : I n M) (hf : fam a = 27) (hx : (-2147483648) ≤ x ∧ x ≤ 2147483647) (hM : M' = mS M a 5 x) : I n M' := by
  refine hI.st hM (by rw [hf]; exact hx) (Or.inl ?_) (fun z => by
    exfalso
    rcases z with ⟨t, ht, ⟨e, _⟩ | ⟨e, e2⟩⟩ | ⟨e, e2⟩
    · rw [e, f_Ttexts ht] at hf; exact absurd hf (by decide)
    · rw [e, f_Told ht] at hf; exact absurd hf (by decide)
    · exact absurd e2 (by decide)) (fun z => by rcases z with z | z <;> (subst z; exact absurd hf (by decide)))
  refine Decidable.byContradiction fun z => ?_
  rw [fam_out (by omega)] at hf
  exact absurd hf (by decide)
theorem wr_Jfacts {n : Nat} {M M' : Mem} {a i x : Int} (hI : I n M) (hf : fam a = 28) (hM : M' = mS M a i x) : I n M' := by
  refine hI.st hM (by rw [hf]; exact trivial) (Or.inl ?_) (fun z => by
    exfalso
    rcases z with ⟨t, ht, ⟨e, _⟩ | ⟨e, e2⟩⟩ | ⟨e, e2⟩
    · rw [e, f_Ttexts ht] at hf; exact absurd hf (by decide)
    · rw [e, f_Told ht] at hf; exact absurd hf (by decide)
    · rw [e] at hf; exact absurd hf (by decide)) (fun z => by rcases z with z | z <;> (subst z; exact absurd hf (by decide)))
  refine Decidable.byContradiction fun z => ?_
  rw [fam_out (by omega)] at hf
  exact absurd hf (by decide)
theorem rd_Jchosen {n : Nat} {M : Mem} {a i : Int} (hI : I n M) (hf : fam a = 29) : (-2147483648) ≤ mG M a i ∧ mG M a i ≤ 2147483647 := rdf hI (j := i) hf
theorem wr_Jchosen {n : Nat} {M M' : Mem} {a i x : Int} (hI : I n M) (hf : fam a = 29) (hx : (-2147483648) ≤ x ∧ x ≤ 2147483647) (hM : M' = mS M a i x) : I n M' := by
  refine hI.st hM (by rw [hf]; exact hx) (Or.inl ?_) (fun z => by
    exfalso
    rcases z with ⟨t, ht, ⟨e, _⟩ | ⟨e, e2⟩⟩ | ⟨e, e2⟩
    · rw [e, f_Ttexts ht] at hf; exact absurd hf (by decide)
    · rw [e, f_Told ht] at hf; exact absurd hf (by decide)
    · rw [e] at hf; exact absurd hf (by decide)) (fun z => by rcases z with z | z <;> (subst z; exact absurd hf (by decide)))
  refine Decidable.byContradiction fun z => ?_
  rw [fam_out (by omega)] at hf
  exact absurd hf (by decide)
theorem wr_Jpaths {n : Nat} {M M' : Mem} {a i x : Int} (hI : I n M) (hf : fam a = 30) (hM : M' = mS M a i x) : I n M' := by
  refine hI.st hM (by rw [hf]; exact trivial) (Or.inl ?_) (fun z => by
    exfalso
    rcases z with ⟨t, ht, ⟨e, _⟩ | ⟨e, e2⟩⟩ | ⟨e, e2⟩
    · rw [e, f_Ttexts ht] at hf; exact absurd hf (by decide)
    · rw [e, f_Told ht] at hf; exact absurd hf (by decide)
    · rw [e] at hf; exact absurd hf (by decide)) (fun z => by rcases z with z | z <;> (subst z; exact absurd hf (by decide)))
  refine Decidable.byContradiction fun z => ?_
  rw [fam_out (by omega)] at hf
  exact absurd hf (by decide)
theorem rd_Others_0 {n : Nat} {M : Mem} {a : Int} (hI : I n M) (hf : fam a = 31) : mG M a 0 = 25 := rdf hI (j := 0) hf
theorem rd_Others_1 {n : Nat} {M : Mem} {a : Int} (hI : I n M) (hf : fam a = 31) : mG M a 1 = 26 := rdf hI (j := 1) hf
theorem rd_Others_2 {n : Nat} {M : Mem} {a : Int} (hI : I n M) (hf : fam a = 31) : mG M a 2 = 27 := rdf hI (j := 2) hf
theorem rd_Others_3 {n : Nat} {M : Mem} {a : Int} (hI : I n M) (hf : fam a = 31) : mG M a 3 = 29 := rdf hI (j := 3) hf
theorem rd_Others_4 {n : Nat} {M : Mem} {a : Int} (hI : I n M) (hf : fam a = 31) : 0 ≤ mG M a 4 ∧ mG M a 4 ≤ 216 := rdf hI (j := 4) hf
theorem wr_Others_4 {n : Nat} {M M' : Mem} {a x : Int} (hI : I n M) (hf : fam a = 31) (hx : 0 ≤ x ∧ x ≤ 216) (hM : M' = mS M a 4 x) : I n M' := by
  refine hI.st hM (by rw [hf]; exact hx) (Or.inl ?_) (fun z => by
    exfalso
    rcases z with ⟨t, ht, ⟨e, _⟩ | ⟨e, e2⟩⟩ | ⟨e, e2⟩
    · rw [e, f_Ttexts ht] at hf; exact absurd hf (by decide)
    · rw [e, f_Told ht] at hf; exact absurd hf (by decide)
    · rw [e] at hf; exact absurd hf (by decide)) (fun z => by rcases z with z | z <;> (subst z; exact absurd hf (by decide)))
  refine Decidable.byContradiction fun z => ?_
  rw [fam_out (by omega)] at hf
  exact absurd hf (by decide)
theorem rd_Others_5 {n : Nat} {M : Mem} {a : Int} (hI : I n M) (hf : fam a = 31) : 0 ≤ mG M a 5 ∧ mG M a 5 ≤ 12 := rdf hI (j := 5) hf
theorem wr_Others_5 {n : Nat} {M M' : Mem} {a x : Int} (hI : I n M) (hf : fam a = 31) (hx : 0 ≤ x ∧ x ≤ 12) (hM : M' = mS M a 5 x) : I n M' := by
  refine hI.st hM (by rw [hf]; exact hx) (Or.inl ?_) (fun z => by
    exfalso
    rcases z with ⟨t, ht, ⟨e, _⟩ | ⟨e, e2⟩⟩ | ⟨e, e2⟩
    · rw [e, f_Ttexts ht] at hf; exact absurd hf (by decide)
    · rw [e, f_Told ht] at hf; exact absurd hf (by decide)
    · rw [e] at hf; exact absurd hf (by decide)) (fun z => by rcases z with z | z <;> (subst z; exact absurd hf (by decide)))
  refine Decidable.byContradiction fun z => ?_
  rw [fam_out (by omega)] at hf
  exact absurd hf (by decide)
theorem rd_Others_6 {n : Nat} {M : Mem} {a : Int} (hI : I n M) (hf : fam a = 31) : 0 ≤ mG M a 6 ∧ mG M a 6 ≤ 1 := rdf hI (j := 6) hf
theorem wr_Others_6 {n : Nat} {M M' : Mem} {a x : Int} (hI : I n M) (hf : fam a = 31) (hx : 0 ≤ x ∧ x ≤ 1) (hM : M' = mS M a 6 x) : I n M' := by
  refine hI.st hM (by rw [hf]; exact hx) (Or.inl ?_) (fun z => by
    exfalso
    rcases z with ⟨t, ht, ⟨e, _⟩ | ⟨e, e2⟩⟩ | ⟨e, e2⟩
    · rw [e, f_Ttexts ht] at hf; exact absurd hf (by decide)
    · rw [e, f_Told ht] at hf; exact absurd hf (by decide)
    · rw [e] at hf; exact absurd hf (by decide)) (fun z => by rcases z with z | z <;> (subst z; exact absurd hf (by decide)))
  refine Decidable.byContradiction fun z => ?_
  rw [fam_out (by omega)] at hf
  exact absurd hf (by decide)
theorem rd_Others_7 {n : Nat} {M : Mem} {a : Int} (hI : I n M) (hf : fam a = 31) : 0 ≤ mG M a 7 ∧ mG M a 7 ≤ 1 := rdf hI (j := 7) hf
theorem wr_Others_7 {n : Nat} {M M' : Mem} {a x : Int} (hI : I n M) (hf : fam a = 31) (hx : 0 ≤ x ∧ x ≤ 1) (hM : M' = mS M a 7 x) : I n M' := by
  refine hI.st hM (by rw [hf]; exact hx) (Or.inl ?_) (fun z => by
    exfalso
    rcases z with ⟨t, ht, ⟨e, _⟩ | ⟨e, e2⟩⟩ | ⟨e, e2⟩
    · rw [e, f_Ttexts ht] at hf; exact absurd hf (by decide)
    · rw [e, f_Told ht] at hf; exact absurd hf (by decide)
    · rw [e] at hf; exact absurd hf (by decide)) (fun z => by rcases z with z | z <;> (subst z; exact absurd hf (by decide)))
  refine Decidable.byContradiction fun z => ?_
  rw [fam_out (by omega)] at hf
  exact absurd hf (by decide)
theorem rd_Oorder {n : Nat} {M : Mem} {a i : Int} (hI : I n M) (hf : fam a = 32) : 0 ≤ mG M a i ∧ mG M a i ≤ 6 := rdf hI (j := i) hf
theorem wr_Oorder {n : Nat} {M M' : Mem} {a i x : Int} (hI : I n M) (hf : fam a = 32) (hx : 0 ≤ x ∧ x ≤ 6) (hM : M' = mS M a i x) : I n M' := by
  refine hI.st hM (by rw [hf]; exact hx) (Or.inl ?_) (fun z => by
    exfalso
    rcases z with ⟨t, ht, ⟨e, _⟩ | ⟨e, e2⟩⟩ | ⟨e, e2⟩
    · rw [e, f_Ttexts ht] at hf; exact absurd hf (by decide)
    · rw [e, f_Told ht] at hf; exact absurd hf (by decide)
    · rw [e] at hf; exact absurd hf (by decide)) (fun z => by rcases z with z | z <;> (subst z; exact absurd hf (by decide)))
  refine Decidable.byContradiction fun z => ?_
  rw [fam_out (by omega)] at hf
  exact absurd hf (by decide)
theorem rd_Omoved {n : Nat} {M : Mem} {a i : Int} (hI : I n M) (hf : fam a = 33) : (-2147483648) ≤ mG M a i ∧ mG M a i ≤ 2147483647 := rdf hI (j := i) hf
theorem wr_Omoved {n : Nat} {M M' : Mem} {a i x : Int} (hI : I n M) (hf : fam a = 33) (hx : (-2147483648) ≤ x ∧ x ≤ 2147483647) (hM : M' = mS M a i x) : I n M' := by
  refine hI.st hM (by rw [hf]; exact hx) (Or.inl ?_) (fun z => by
    exfalso
    rcases z with ⟨t, ht, ⟨e, _⟩ | ⟨e, e2⟩⟩ | ⟨e, e2⟩
    · rw [e, f_Ttexts ht] at hf; exact absurd hf (by decide)
    · rw [e, f_Told ht] at hf; exact absurd hf (by decide)
    · rw [e] at hf; exact absurd hf (by decide)) (fun z => by rcases z with z | z <;> (subst z; exact absurd hf (by decide)))
  refine Decidable.byContradiction fun z => ?_
  rw [fam_out (by omega)] at hf
  exact absurd hf (by decide)
theorem rd_Reader_0 {n : Nat} {M : Mem} {a : Int} (hI : I n M) (hf : fam a = 34) : mG M a 0 = 0 ∨ mG M a 0 = 3 := rdf hI (j := 0) hf
theorem wr_Reader_0 {n : Nat} {M M' : Mem} {a x : Int} (hI : I n M) (hf : fam a = 34) (hx : x = 0 ∨ x = 3) (hM : M' = mS M a 0 x) : I n M' := by
  refine hI.st hM (by rw [hf]; exact hx) (Or.inl ?_) (fun z => by
    exfalso
    rcases z with ⟨t, ht, ⟨e, _⟩ | ⟨e, e2⟩⟩ | ⟨e, e2⟩
    · rw [e, f_Ttexts ht] at hf; exact absurd hf (by decide)
    · rw [e, f_Told ht] at hf; exact absurd hf (by decide)
    · rw [e] at hf; exact absurd hf (by decide)) (fun z => by rcases z with z | z <;> (subst z; exact absurd hf (by decide)))
  refine Decidable.byContradiction fun z => ?_
  rw [fam_out (by omega)] at hf
  exact absurd hf (by decide)
theorem rd_Reader_1 {n : Nat} {M : Mem} {a : Int} (hI : I n M) (hf : fam a = 34) : mG M a 1 = 0 ∨ mG M a 1 = 13 := rdf hI (j := 1) hf
theorem wr_Reader_1 {n : Nat} {M M' : Mem} {a x : Int} (hI : I n M) (hf : fam a = 34) (hx : x = 0 ∨ x = 13) (hM : M' = mS M a 1 x) : I n M' := by
  refine hI.st hM (by rw [hf]; exact hx) (Or.inl ?_) (fun z => by
    exfalso
    rcases z with ⟨t, ht, ⟨e, _⟩ | ⟨e, e2⟩⟩ | ⟨e, e2⟩
    · rw [e, f_Ttexts ht] at hf; exact absurd hf (by decide)
    · rw [e, f_Told ht] at hf; exact absurd hf (by decide)
    · rw [e] at hf; exact absurd hf (by decide)) (fun z => by rcases z with z | z <;> (subst z; exact absurd hf (by decide)))
  refine Decidable.byContradiction fun z => ?_
  rw [fam_out (by omega)] at hf
  exact absurd hf (by decide)
theorem rd_Reader_2 {n : Nat} {M : Mem} {a : Int} (hI : I n M) (hf : fam a = 34) : 0 ≤ mG M a 2 ∧ mG M a 2 ≤ 400 := rdf hI (j := 2) hf
theorem wr_Reader_2 {n : Nat} {M M' : Mem} {a x : Int} (hI : I n M) (hf : fam a = 34) (hx : 0 ≤ x ∧ x ≤ 400) (hM : M' = mS M a 2 x) : I n M' := by
  refine hI.st hM (by rw [hf]; exact hx) (Or.inl ?_) (fun z => by
    exfalso
    rcases z with ⟨t, ht, ⟨e, _⟩ | ⟨e, e2⟩⟩ | ⟨e, e2⟩
    · rw [e, f_Ttexts ht] at hf; exact absurd hf (by decide)
    · rw [e, f_Told ht] at hf; exact absurd hf (by decide)
    · rw [e] at hf; exact absurd hf (by decide)) (fun z => by rcases z with z | z <;> (subst z; exact absurd hf (by decide)))
  refine Decidable.byContradiction fun z => ?_
  rw [fam_out (by omega)] at hf
  exact absurd hf (by decide)
theorem rd_Reader_3 {n : Nat} {M : Mem} {a : Int} (hI : I n M) (hf : fam a = 34) : mG M a 3 = 0 ∨ mG M a 3 = 4 := rdf hI (j := 3) hf
theorem wr_Reader_3 {n : Nat} {M M' : Mem} {a x : Int} (hI : I n M) (hf : fam a = 34) (hx : x = 0 ∨ x = 4) (hM : M' = mS M a 3 x) : I n M' := by
  refine hI.st hM (by rw [hf]; exact hx) (Or.inl ?_) (fun z => by
    exfalso
    rcases z with ⟨t, ht, ⟨e, _⟩ | ⟨e, e2⟩⟩ | ⟨e, e2⟩
    · rw [e, f_Ttexts ht] at hf; exact absurd hf (by decide)
    · rw [e, f_Told ht] at hf; exact absurd hf (by decide)
    · rw [e] at hf; exact absurd hf (by decide)) (fun z => by rcases z with z | z <;> (subst z; exact absurd hf (by decide)))
  refine Decidable.byContradiction fun z => ?_
  rw [fam_out (by omega)] at hf
  exact absurd hf (by decide)
theorem rd_Reader_4 {n : Nat} {M : Mem} {a : Int} (hI : I n M) (hf : fam a = 34) : 0 ≤ mG M a 4 ∧ mG M a 4 ≤ 1 := rdf hI (j := 4) hf
theorem wr_Reader_4 {n : Nat} {M M' : Mem} {a x : Int} (hI : I n M) (hf : fam a = 34) (hx : 0 ≤ x ∧ x ≤ 1) (hM : M' = mS M a 4 x) : I n M' := by
  refine hI.st hM (by rw [hf]; exact hx) (Or.inl ?_) (fun z => by
    exfalso
    rcases z with ⟨t, ht, ⟨e, _⟩ | ⟨e, e2⟩⟩ | ⟨e, e2⟩
    · rw [e, f_Ttexts ht] at hf; exact absurd hf (by decide)
    · rw [e, f_Told ht] at hf; exact absurd hf (by decide)
    · rw [e] at hf; exact absurd hf (by decide)) (fun z => by rcases z with z | z <;> (subst z; exact absurd hf (by decide)))
  refine Decidable.byContradiction fun z => ?_
  rw [fam_out (by omega)] at hf
  exact absurd hf (by decide)
theorem rd_Reader_5 {n : Nat} {M : Mem} {a : Int} (hI : I n M) (hf : fam a = 34) : mG M a 5 = 66 := rdf hI (j := 5) hf
theorem rd_Reader_6 {n : Nat} {M : Mem} {a : Int} (hI : I n M) (hf : fam a = 34) : mG M a 6 = 72 := rdf hI (j := 6) hf
theorem rd_Reader_7 {n : Nat} {M : Mem} {a : Int} (hI : I n M) (hf : fam a = 34) : 0 ≤ mG M a 7 ∧ mG M a 7 ≤ 402 := rdf hI (j := 7) hf
theorem wr_Reader_7 {n : Nat} {M M' : Mem} {a x : Int} (hI : I n M) (hf : fam a = 34) (hx : 0 ≤ x ∧ x ≤ 402) (hM : M' = mS M a 7 x) : I n M' := by
  refine hI.st hM (by rw [hf]; exact hx) (Or.inl ?_) (fun z => by
    exfalso
    rcases z with ⟨t, ht, ⟨e, _⟩ | ⟨e, e2⟩⟩ | ⟨e, e2⟩
    · rw [e, f_Ttexts ht] at hf; exact absurd hf (by decide)
    · rw [e, f_Told ht] at hf; exact absurd hf (by decide)
    · rw [e] at hf; exact absurd hf (by decide)) (fun z => by rcases z with z | z <;> (subst z; exact absurd hf (by decide)))
  refine Decidable.byContradiction fun z => ?_
  rw [fam_out (by omega)] at hf
  exact absurd hf (by decide)
theorem rd_Reader_8 {n : Nat} {M : Mem} {a : Int} (hI : I n M) (hf : fam a = 34) : 0 ≤ mG M a 8 ∧ mG M a 8 ≤ 3 := rdf hI (j := 8) hf
theorem wr_Reader_8 {n : Nat} {M M' : Mem} {a x : Int} (hI : I n M) (hf : fam a = 34) (hx : 0 ≤ x ∧ x ≤ 3) (hM : M' = mS M a 8 x) : I n M' := by
  refine hI.st hM (by rw [hf]; exact hx) (Or.inl ?_) (fun z => by
    exfalso
    rcases z with ⟨t, ht, ⟨e, _⟩ | ⟨e, e2⟩⟩ | ⟨e, e2⟩
    · rw [e, f_Ttexts ht] at hf; exact absurd hf (by decide)
    · rw [e, f_Told ht] at hf; exact absurd hf (by decide)
    · rw [e] at hf; exact absurd hf (by decide)) (fun z => by rcases z with z | z <;> (subst z; exact absurd hf (by decide)))
  refine Decidable.byContradiction fun z => ?_
  rw [fam_out (by omega)] at hf
  exact absurd hf (by decide)
theorem rd_Reader_9 {n : Nat} {M : Mem} {a : Int} (hI : I n M) (hf : fam a = 34) : 0 ≤ mG M a 9 ∧ mG M a 9 ≤ 400 := rdf hI (j := 9) hf
theorem wr_Reader_9 {n : Nat} {M M' : Mem} {a x : Int} (hI : I n M) (hf : fam a = 34) (hx : 0 ≤ x ∧ x ≤ 400) (hM : M' = mS M a 9 x) : I n M' := by
  refine hI.st hM (by rw [hf]; exact hx) (Or.inl ?_) (fun z => by
    exfalso
    rcases z with ⟨t, ht, ⟨e, _⟩ | ⟨e, e2⟩⟩ | ⟨e, e2⟩
    · rw [e, f_Ttexts ht] at hf; exact absurd hf (by decide)
    · rw [e, f_Told ht] at hf; exact absurd hf (by decide)
    · rw [e] at hf; exact absurd hf (by decide)) (fun z => by rcases z with z | z <;> (subst z; exact absurd hf (by decide)))
  refine Decidable.byContradiction fun z => ?_
  rw [fam_out (by omega)] at hf
  exact absurd hf (by decide)
theorem rd_Reader_10 {n : Nat} {M : Mem} {a : Int} (hI : I n M) (hf : fam a = 34) : 0 ≤ mG M a 10 ∧ mG M a 10 ≤ 400 := rdf hI (j := 10) hf
theorem wr_Reader_10 {n : Nat} {M M' : Mem} {a x : Int} (hI : I n M) (hf : fam a = 34) (hx : 0 ≤ x ∧ x ≤ 400) (hM : M' = mS M a 10 x) : I n M' := by
  refine hI.st hM (by rw [hf]; exact hx) (Or.inl ?_) (fun z => by
    exfalso
    rcases z with ⟨t, ht, ⟨e, _⟩ | ⟨e, e2⟩⟩ | ⟨e, e2⟩
    · rw [e, f_Ttexts ht] at hf; exact absurd hf (by decide)
    · rw [e, f_Told ht] at hf; exact absurd hf (by decide)
    · rw [e] at hf; exact absurd hf (by decide)) (fun z => by rcases z with z | z <;> (subst z; exact absurd hf (by decide)))
  refine Decidable.byContradiction fun z => ?_
  rw [fam_out (by omega)] at hf
  exact absurd hf (by decide)
theorem rd_Reader_11 {n : Nat} {M : Mem} {a : Int} (hI : I n M) (hf : fam a = 34) : (-2147483648) ≤ mG M a 11 ∧ mG M a 11 ≤ 2147483647 := rdf hI (j := 11) hf
theorem wr_Reader_11 {n : Nat} {M M' : Mem} {a x : Int} (hI : I n M) (hf : fam a = 34) (hx : (-2147483648) ≤ x ∧ x ≤ 2147483647) (hM : M' = mS M a 11 x) : I n M' := by
  refine hI.st hM (by rw [hf]; exact hx) (Or.inl ?_) (fun z => by
    exfalso
    rcases z with ⟨t, ht, ⟨e, _⟩ | ⟨e, e2⟩⟩ | ⟨e, e2⟩
    · rw [e, f_Ttexts ht] at hf; exact absurd hf (by decide)
    · rw [e, f_Told ht] at hf; exact absurd hf (by decide)
    · rw [e] at hf; exact absurd hf (by decide)) (fun z => by rcases z with z | z <;> (subst z; exact absurd hf (by decide)))
  refine Decidable.byContradiction fun z => ?_
  rw [fam_out (by omega)] at hf
  exact absurd hf (by decide)
theorem rd_Draft_0 {n : Nat} {M : Mem} {a : Int} (hI : I n M) (hf : fam a = 35) : mG M a 0 = 67 := rdf hI (j := 0) hf
theorem rd_Draft_1 {n : Nat} {M : Mem} {a : Int} (hI : I n M) (hf : fam a = 35) : mG M a 1 = 68 := rdf hI (j := 1) hf
theorem rd_Draft_2 {n : Nat} {M : Mem} {a : Int} (hI : I n M) (hf : fam a = 35) : mG M a 2 = 69 := rdf hI (j := 2) hf
theorem rd_Draft_3 {n : Nat} {M : Mem} {a : Int} (hI : I n M) (hf : fam a = 35) : mG M a 3 = 70 := rdf hI (j := 3) hf
theorem rd_Draft_4 {n : Nat} {M : Mem} {a : Int} (hI : I n M) (hf : fam a = 35) : mG M a 4 = 71 := rdf hI (j := 4) hf
theorem rd_Draft_5 {n : Nat} {M : Mem} {a : Int} (hI : I n M) (hf : fam a = 35) : 0 ≤ mG M a 5 ∧ mG M a 5 ≤ 402 := rdf hI (j := 5) hf
theorem wr_Draft_5 {n : Nat} {M M' : Mem} {a x : Int} (hI : I n M) (hf : fam a = 35) (hx : 0 ≤ x ∧ x ≤ 402) (hM : M' = mS M a 5 x) : I n M' := by
  refine hI.st hM (by rw [hf]; exact hx) (Or.inl ?_) (fun z => by
    exfalso
    rcases z with ⟨t, ht, ⟨e, _⟩ | ⟨e, e2⟩⟩ | ⟨e, e2⟩
    · rw [e, f_Ttexts ht] at hf; exact absurd hf (by decide)
    · rw [e, f_Told ht] at hf; exact absurd hf (by decide)
    · rw [e] at hf; exact absurd hf (by decide)) (fun z => by rcases z with z | z <;> (subst z; exact absurd hf (by decide)))
  refine Decidable.byContradiction fun z => ?_
  rw [fam_out (by omega)] at hf
  exact absurd hf (by decide)
theorem rd_Dword {n : Nat} {M : Mem} {a i : Int} (hI : I n M) (hf : fam a = 36) : 0 ≤ mG M a i ∧ mG M a i ≤ 11 := rdf hI (j := i) hf
theorem wr_Dword {n : Nat} {M M' : Mem} {a i x : Int} (hI : I n M) (hf : fam a = 36) (hx : 0 ≤ x ∧ x ≤ 11) (hM : M' = mS M a i x) : I n M' := by
  refine hI.st hM (by rw [hf]; exact hx) (Or.inl ?_) (fun z => by
    exfalso
    rcases z with ⟨t, ht, ⟨e, _⟩ | ⟨e, e2⟩⟩ | ⟨e, e2⟩
    · rw [e, f_Ttexts ht] at hf; exact absurd hf (by decide)
    · rw [e, f_Told ht] at hf; exact absurd hf (by decide)
    · rw [e] at hf; exact absurd hf (by decide)) (fun z => by rcases z with z | z <;> (subst z; exact absurd hf (by decide)))
  refine Decidable.byContradiction fun z => ?_
  rw [fam_out (by omega)] at hf
  exact absurd hf (by decide)
theorem rd_Dof {n : Nat} {M : Mem} {a i : Int} (hI : I n M) (hf : fam a = 37) : (-2147483648) ≤ mG M a i ∧ mG M a i ≤ 2147483647 := rdf hI (j := i) hf
theorem wr_Dof {n : Nat} {M M' : Mem} {a i x : Int} (hI : I n M) (hf : fam a = 37) (hx : (-2147483648) ≤ x ∧ x ≤ 2147483647) (hM : M' = mS M a i x) : I n M' := by
  refine hI.st hM (by rw [hf]; exact hx) (Or.inl ?_) (fun z => by
    exfalso
    rcases z with ⟨t, ht, ⟨e, _⟩ | ⟨e, e2⟩⟩ | ⟨e, e2⟩
    · rw [e, f_Ttexts ht] at hf; exact absurd hf (by decide)
    · rw [e, f_Told ht] at hf; exact absurd hf (by decide)
    · rw [e] at hf; exact absurd hf (by decide)) (fun z => by rcases z with z | z <;> (subst z; exact absurd hf (by decide)))
  refine Decidable.byContradiction fun z => ?_
  rw [fam_out (by omega)] at hf
  exact absurd hf (by decide)
theorem rd_Dfirst {n : Nat} {M : Mem} {a i : Int} (hI : I n M) (hf : fam a = 38) : (-2147483648) ≤ mG M a i ∧ mG M a i ≤ 2147483647 := rdf hI (j := i) hf
theorem wr_Dfirst {n : Nat} {M M' : Mem} {a i x : Int} (hI : I n M) (hf : fam a = 38) (hx : (-2147483648) ≤ x ∧ x ≤ 2147483647) (hM : M' = mS M a i x) : I n M' := by
  refine hI.st hM (by rw [hf]; exact hx) (Or.inl ?_) (fun z => by
    exfalso
    rcases z with ⟨t, ht, ⟨e, _⟩ | ⟨e, e2⟩⟩ | ⟨e, e2⟩
    · rw [e, f_Ttexts ht] at hf; exact absurd hf (by decide)
    · rw [e, f_Told ht] at hf; exact absurd hf (by decide)
    · rw [e] at hf; exact absurd hf (by decide)) (fun z => by rcases z with z | z <;> (subst z; exact absurd hf (by decide)))
  refine Decidable.byContradiction fun z => ?_
  rw [fam_out (by omega)] at hf
  exact absurd hf (by decide)
theorem rd_Dsecond {n : Nat} {M : Mem} {a i : Int} (hI : I n M) (hf : fam a = 39) : (-2147483648) ≤ mG M a i ∧ mG M a i ≤ 2147483647 := rdf hI (j := i) hf
theorem wr_Dsecond {n : Nat} {M M' : Mem} {a i x : Int} (hI : I n M) (hf : fam a = 39) (hx : (-2147483648) ≤ x ∧ x ≤ 2147483647) (hM : M' = mS M a i x) : I n M' := by
  refine hI.st hM (by rw [hf]; exact hx) (Or.inl ?_) (fun z => by
    exfalso
    rcases z with ⟨t, ht, ⟨e, _⟩ | ⟨e, e2⟩⟩ | ⟨e, e2⟩
    · rw [e, f_Ttexts ht] at hf; exact absurd hf (by decide)
    · rw [e, f_Told ht] at hf; exact absurd hf (by decide)
    · rw [e] at hf; exact absurd hf (by decide)) (fun z => by rcases z with z | z <;> (subst z; exact absurd hf (by decide)))
  refine Decidable.byContradiction fun z => ?_
  rw [fam_out (by omega)] at hf
  exact absurd hf (by decide)
theorem rd_Dbehind {n : Nat} {M : Mem} {a i : Int} (hI : I n M) (hf : fam a = 40) : (-2147483648) ≤ mG M a i ∧ mG M a i ≤ 2147483647 := rdf hI (j := i) hf
theorem wr_Dbehind {n : Nat} {M M' : Mem} {a i x : Int} (hI : I n M) (hf : fam a = 40) (hx : (-2147483648) ≤ x ∧ x ≤ 2147483647) (hM : M' = mS M a i x) : I n M' := by
  refine hI.st hM (by rw [hf]; exact hx) (Or.inl ?_) (fun z => by
    exfalso
    rcases z with ⟨t, ht, ⟨e, _⟩ | ⟨e, e2⟩⟩ | ⟨e, e2⟩
    · rw [e, f_Ttexts ht] at hf; exact absurd hf (by decide)
    · rw [e, f_Told ht] at hf; exact absurd hf (by decide)
    · rw [e] at hf; exact absurd hf (by decide)) (fun z => by rcases z with z | z <;> (subst z; exact absurd hf (by decide)))
  refine Decidable.byContradiction fun z => ?_
  rw [fam_out (by omega)] at hf
  exact absurd hf (by decide)
theorem rd_Rscopes {n : Nat} {M : Mem} {a i : Int} (hI : I n M) (hf : fam a = 41) : (-2147483648) ≤ mG M a i ∧ mG M a i ≤ 2147483647 := rdf hI (j := i) hf
theorem wr_Rscopes {n : Nat} {M M' : Mem} {a i x : Int} (hI : I n M) (hf : fam a = 41) (hx : (-2147483648) ≤ x ∧ x ≤ 2147483647) (hM : M' = mS M a i x) : I n M' := by
  refine hI.st hM (by rw [hf]; exact hx) (Or.inl ?_) (fun z => by
    exfalso
    rcases z with ⟨t, ht, ⟨e, _⟩ | ⟨e, e2⟩⟩ | ⟨e, e2⟩
    · rw [e, f_Ttexts ht] at hf; exact absurd hf (by decide)
    · rw [e, f_Told ht] at hf; exact absurd hf (by decide)
    · rw [e] at hf; exact absurd hf (by decide)) (fun z => by rcases z with z | z <;> (subst z; exact absurd hf (by decide)))
  refine Decidable.byContradiction fun z => ?_
  rw [fam_out (by omega)] at hf
  exact absurd hf (by decide)
theorem rd_Model_0 {n : Nat} {M : Mem} {a : Int} (hI : I n M) (hf : fam a = 42) : 0 ≤ mG M a 0 ∧ mG M a 0 ≤ 0 := rdf hI (j := 0) hf
theorem wr_Model_0 {n : Nat} {M M' : Mem} {a x : Int} (hI : I n M) (hf : fam a = 42) (hx : 0 ≤ x ∧ x ≤ 0) (hM : M' = mS M a 0 x) : I n M' := by
  refine hI.st hM (by rw [hf]; exact hx) (Or.inl ?_) (fun z => by
    exfalso
    rcases z with ⟨t, ht, ⟨e, _⟩ | ⟨e, e2⟩⟩ | ⟨e, e2⟩
    · rw [e, f_Ttexts ht] at hf; exact absurd hf (by decide)
    · rw [e, f_Told ht] at hf; exact absurd hf (by decide)
    · rw [e] at hf; exact absurd hf (by decide)) (fun z => by rcases z with z | z <;> (subst z; exact absurd hf (by decide)))
  refine Decidable.byContradiction fun z => ?_
  rw [fam_out (by omega)] at hf
  exact absurd hf (by decide)
theorem rd_Model_1 {n : Nat} {M : Mem} {a : Int} (hI : I n M) (hf : fam a = 42) : mG M a 1 = 127 := rdf hI (j := 1) hf
theorem rd_Model_2 {n : Nat} {M : Mem} {a : Int} (hI : I n M) (hf : fam a = 42) : mG M a 2 = 128 := rdf hI (j := 2) hf
theorem rd_Model_3 {n : Nat} {M : Mem} {a : Int} (hI : I n M) (hf : fam a = 42) : mG M a 3 = 129 := rdf hI (j := 3) hf
theorem rd_Model_4 {n : Nat} {M : Mem} {a : Int} (hI : I n M) (hf : fam a = 42) : mG M a 4 = 130 := rdf hI (j := 4) hf
theorem rd_Model_5 {n : Nat} {M : Mem} {a : Int} (hI : I n M) (hf : fam a = 42) : mG M a 5 = 131 := rdf hI (j := 5) hf
theorem rd_Model_6 {n : Nat} {M : Mem} {a : Int} (hI : I n M) (hf : fam a = 42) : mG M a 6 = 132 := rdf hI (j := 6) hf
theorem rd_Model_7 {n : Nat} {M : Mem} {a : Int} (hI : I n M) (hf : fam a = 42) : mG M a 7 = 133 := rdf hI (j := 7) hf
theorem rd_Model_8 {n : Nat} {M : Mem} {a : Int} (hI : I n M) (hf : fam a = 42) : mG M a 8 = 134 := rdf hI (j := 8) hf
theorem rd_Model_9 {n : Nat} {M : Mem} {a : Int} (hI : I n M) (hf : fam a = 42) : mG M a 9 = 135 := rdf hI (j := 9) hf
theorem rd_Model_10 {n : Nat} {M : Mem} {a : Int} (hI : I n M) (hf : fam a = 42) : mG M a 10 = 136 := rdf hI (j := 10) hf
theorem rd_Model_11 {n : Nat} {M : Mem} {a : Int} (hI : I n M) (hf : fam a = 42) : mG M a 11 = 137 := rdf hI (j := 11) hf
theorem rd_Model_12 {n : Nat} {M : Mem} {a : Int} (hI : I n M) (hf : fam a = 42) : mG M a 12 = 138 := rdf hI (j := 12) hf
theorem rd_Model_13 {n : Nat} {M : Mem} {a : Int} (hI : I n M) (hf : fam a = 42) : mG M a 13 = 139 := rdf hI (j := 13) hf
theorem rd_Model_14 {n : Nat} {M : Mem} {a : Int} (hI : I n M) (hf : fam a = 42) : mG M a 14 = 140 := rdf hI (j := 14) hf
theorem rd_Model_15 {n : Nat} {M : Mem} {a : Int} (hI : I n M) (hf : fam a = 42) : mG M a 15 = 141 := rdf hI (j := 15) hf
theorem rd_Model_16 {n : Nat} {M : Mem} {a : Int} (hI : I n M) (hf : fam a = 42) : mG M a 16 = 142 := rdf hI (j := 16) hf
theorem rd_Model_17 {n : Nat} {M : Mem} {a : Int} (hI : I n M) (hf : fam a = 42) : mG M a 17 = 143 := rdf hI (j := 17) hf
theorem rd_Model_18 {n : Nat} {M : Mem} {a : Int} (hI : I n M) (hf : fam a = 42) : mG M a 18 = 144 := rdf hI (j := 18) hf
theorem rd_Model_19 {n : Nat} {M : Mem} {a : Int} (hI : I n M) (hf : fam a = 42) : mG M a 19 = 145 := rdf hI (j := 19) hf
theorem rd_Model_20 {n : Nat} {M : Mem} {a : Int} (hI : I n M) (hf : fam a = 42) : mG M a 20 = 146 := rdf hI (j := 20) hf
theorem rd_Model_21 {n : Nat} {M : Mem} {a : Int} (hI : I n M) (hf : fam a = 42) : mG M a 21 = 147 := rdf hI (j := 21) hf
theorem rd_Model_22 {n : Nat} {M : Mem} {a : Int} (hI : I n M) (hf : fam a = 42) : mG M a 22 = 148 := rdf hI (j := 22) hf
theorem rd_Model_23 {n : Nat} {M : Mem} {a : Int} (hI : I n M) (hf : fam a = 42) : mG M a 23 = 149 := rdf hI (j := 23) hf
theorem rd_Model_24 {n : Nat} {M : Mem} {a : Int} (hI : I n M) (hf : fam a = 42) : mG M a 24 = 150 := rdf hI (j := 24) hf
theorem rd_Model_25 {n : Nat} {M : Mem} {a : Int} (hI : I n M) (hf : fam a = 42) : mG M a 25 = 151 := rdf hI (j := 25) hf
theorem rd_Model_26 {n : Nat} {M : Mem} {a : Int} (hI : I n M) (hf : fam a = 42) : mG M a 26 = 152 := rdf hI (j := 26) hf
theorem rd_Model_27 {n : Nat} {M : Mem} {a : Int} (hI : I n M) (hf : fam a = 42) : mG M a 27 = 153 := rdf hI (j := 27) hf
theorem rd_Model_28 {n : Nat} {M : Mem} {a : Int} (hI : I n M) (hf : fam a = 42) : mG M a 28 = 154 := rdf hI (j := 28) hf
theorem rd_Model_39 {n : Nat} {M : Mem} {a : Int} (hI : I n M) (hf : fam a = 42) : mG M a 39 = 155 := rdf hI (j := 39) hf
theorem rd_Model_41 {n : Nat} {M : Mem} {a : Int} (hI : I n M) (hf : fam a = 42) : mG M a 41 = 156 := rdf hI (j := 41) hf
theorem rd_Model_42 {n : Nat} {M : Mem} {a : Int} (hI : I n M) (hf : fam a = 42) : mG M a 42 = 157 := rdf hI (j := 42) hf
theorem rd_Model_43 {n : Nat} {M : Mem} {a : Int} (hI : I n M) (hf : fam a = 42) : mG M a 43 = 158 := rdf hI (j := 43) hf
theorem rd_Model_44 {n : Nat} {M : Mem} {a : Int} (hI : I n M) (hf : fam a = 42) : mG M a 44 = 159 := rdf hI (j := 44) hf
theorem rd_Model_45 {n : Nat} {M : Mem} {a : Int} (hI : I n M) (hf : fam a = 42) : mG M a 45 = 160 := rdf hI (j := 45) hf
theorem rd_Model_47 {n : Nat} {M : Mem} {a : Int} (hI : I n M) (hf : fam a = 42) : mG M a 47 = 161 := rdf hI (j := 47) hf
theorem rd_Model_51 {n : Nat} {M : Mem} {a : Int} (hI : I n M) (hf : fam a = 42) : mG M a 51 = 162 := rdf hI (j := 51) hf
theorem rd_Model_55 {n : Nat} {M : Mem} {a : Int} (hI : I n M) (hf : fam a = 42) : mG M a 55 = 163 := rdf hI (j := 55) hf
theorem rd_Model_56 {n : Nat} {M : Mem} {a : Int} (hI : I n M) (hf : fam a = 42) : mG M a 56 = 164 := rdf hI (j := 56) hf
theorem rd_Model_58 {n : Nat} {M : Mem} {a : Int} (hI : I n M) (hf : fam a = 42) : mG M a 58 = 165 := rdf hI (j := 58) hf
theorem rd_Model_59 {n : Nat} {M : Mem} {a : Int} (hI : I n M) (hf : fam a = 42) : mG M a 59 = 166 := rdf hI (j := 59) hf
theorem rd_Model_60 {n : Nat} {M : Mem} {a : Int} (hI : I n M) (hf : fam a = 42) : mG M a 60 = 167 := rdf hI (j := 60) hf
theorem rd_Model_61 {n : Nat} {M : Mem} {a : Int} (hI : I n M) (hf : fam a = 42) : mG M a 61 = 168 := rdf hI (j := 61) hf
theorem rd_Model_62 {n : Nat} {M : Mem} {a : Int} (hI : I n M) (hf : fam a = 42) : mG M a 62 = 169 := rdf hI (j := 62) hf
theorem rd_Model_29 {n : Nat} {M : Mem} {a : Int} (hI : I n M) (hf : fam a = 42) : 0 ≤ mG M a 29 ∧ mG M a 29 ≤ 400 := rdf hI (j := 29) hf
theorem wr_Model_29 {n : Nat} {M M' : Mem} {a x : Int} (hI : I n M) (hf : fam a = 42) (hx : 0 ≤ x ∧ x ≤ 400) (hM : M' = mS M a 29 x) : I n M' := by
  refine hI.st hM (by rw [hf]; exact hx) (Or.inl ?_) (fun z => by
    exfalso
    rcases z with ⟨t, ht, ⟨e, _⟩ | ⟨e, e2⟩⟩ | ⟨e, e2⟩
    · rw [e, f_Ttexts ht] at hf; exact absurd hf (by decide)
    · rw [e, f_Told ht] at hf; exact absurd hf (by decide)
    · rw [e] at hf; exact absurd hf (by decide)) (fun z => by rcases z with z | z <;> (subst z; exact absurd hf (by decide)))
  refine Decidable.byContradiction fun z => ?_
  rw [fam_out (by omega)] at hf
  exact absurd hf (by decide)
theorem rd_Model_30 {n : Nat} {M : Mem} {a : Int} (hI : I n M) (hf : fam a = 42) : 0 ≤ mG M a 30 ∧ mG M a 30 ≤ 400 := rdf hI (j := 30) hf
theorem wr_Model_30 {n : Nat} {M M' : Mem} {a x : Int} (hI : I n M) (hf : fam a = 42) (hx : 0 ≤ x ∧ x ≤ 400) (hM : M' = mS M a 30 x) : I n M' := by
  refine hI.st hM (by rw [hf]; exact hx) (Or.inl ?_) (fun z => by
    exfalso
    rcases z with ⟨t, ht, ⟨e, _⟩ | ⟨e, e2⟩⟩ | ⟨e, e2⟩
    · rw [e, f_Ttexts ht] at hf; exact absurd hf (by decide)
    · rw [e, f_Told ht] at hf; exact absurd hf (by decide)
    · rw [e] at hf; exact absurd hf (by decide)) (fun z => by rcases z with z | z <;> (subst z; exact absurd hf (by decide)))
  refine Decidable.byContradiction fun z => ?_
  rw [fam_out (by omega)] at hf
  exact absurd hf (by decide)
theorem rd_Model_31 {n : Nat} {M : Mem} {a : Int} (hI : I n M) (hf : fam a = 42) : 0 ≤ mG M a 31 ∧ mG M a 31 ≤ 400 := rdf hI (j := 31) hf
theorem wr_Model_31 {n : Nat} {M M' : Mem} {a x : Int} (hI : I n M) (hf : fam a = 42) (hx : 0 ≤ x ∧ x ≤ 400) (hM : M' = mS M a 31 x) : I n M' := by
  refine hI.st hM (by rw [hf]; exact hx) (Or.inl ?_) (fun z => by
    exfalso
    rcases z with ⟨t, ht, ⟨e, _⟩ | ⟨e, e2⟩⟩ | ⟨e, e2⟩
    · rw [e, f_Ttexts ht] at hf; exact absurd hf (by decide)
    · rw [e, f_Told ht] at hf; exact absurd hf (by decide)
    · rw [e] at hf; exact absurd hf (by decide)) (fun z => by rcases z with z | z <;> (subst z; exact absurd hf (by decide)))
  refine Decidable.byContradiction fun z => ?_
  rw [fam_out (by omega)] at hf
  exact absurd hf (by decide)
theorem rd_Model_32 {n : Nat} {M : Mem} {a : Int} (hI : I n M) (hf : fam a = 42) : 0 ≤ mG M a 32 ∧ mG M a 32 ≤ 3 := rdf hI (j := 32) hf
theorem wr_Model_32 {n : Nat} {M M' : Mem} {a x : Int} (hI : I n M) (hf : fam a = 42) (hx : 0 ≤ x ∧ x ≤ 3) (hM : M' = mS M a 32 x) : I n M' := by
  refine hI.st hM (by rw [hf]; exact hx) (Or.inl ?_) (fun z => by
    exfalso
    rcases z with ⟨t, ht, ⟨e, _⟩ | ⟨e, e2⟩⟩ | ⟨e, e2⟩
    · rw [e, f_Ttexts ht] at hf; exact absurd hf (by decide)
    · rw [e, f_Told ht] at hf; exact absurd hf (by decide)
    · rw [e] at hf; exact absurd hf (by decide)) (fun z => by rcases z with z | z <;> (subst z; exact absurd hf (by decide)))
  refine Decidable.byContradiction fun z => ?_
  rw [fam_out (by omega)] at hf
  exact absurd hf (by decide)
theorem rd_Model_33 {n : Nat} {M : Mem} {a : Int} (hI : I n M) (hf : fam a = 42) : (-2147483648) ≤ mG M a 33 ∧ mG M a 33 ≤ 2147483647 := rdf hI (j := 33) hf
theorem wr_Model_33 {n : Nat} {M M' : Mem} {a x : Int} (hI : I n M) (hf : fam a = 42) (hx : (-2147483648) ≤ x ∧ x ≤ 2147483647) (hM : M' = mS M a 33 x) : I n M' := by
  refine hI.st hM (by rw [hf]; exact hx) (Or.inl ?_) (fun z => by
    exfalso
    rcases z with ⟨t, ht, ⟨e, _⟩ | ⟨e, e2⟩⟩ | ⟨e, e2⟩
    · rw [e, f_Ttexts ht] at hf; exact absurd hf (by decide)
    · rw [e, f_Told ht] at hf; exact absurd hf (by decide)
    · rw [e] at hf; exact absurd hf (by decide)) (fun z => by rcases z with z | z <;> (subst z; exact absurd hf (by decide)))
  refine Decidable.byContradiction fun z => ?_
  rw [fam_out (by omega)] at hf
  exact absurd hf (by decide)
theorem wr_Model_34 {n : Nat} {M M' : Mem} {a x : Int} (hI : I n M) (hf : fam a = 42) (hM : M' = mS M a 34 x) : I n M' := by
  refine hI.st hM (by rw [hf]; exact trivial) (Or.inl ?_) (fun z => by
    exfalso
    rcases z with ⟨t, ht, ⟨e, _⟩ | ⟨e, e2⟩⟩ | ⟨e, e2⟩
    · rw [e, f_Ttexts ht] at hf; exact absurd hf (by decide)
    · rw [e, f_Told ht] at hf; exact absurd hf (by decide)
    · rw [e] at hf; exact absurd hf (by decide)) (fun z => by rcases z with z | z <;> (subst z; exact absurd hf (by decide)))
  refine Decidable.byContradiction fun z => ?_
  rw [fam_out (by omega)] at hf
  exact absurd hf (by decide)
theorem rd_Model_35 {n : Nat} {M : Mem} {a : Int} (hI : I n M) (hf : fam a = 42) : (-1) ≤ mG M a 35 ∧ mG M a 35 ≤ 400 := rdf hI (j := 35) hf
theorem wr_Model_35 {n : Nat} {M M' : Mem} {a x : Int} (hI : I n M) (hf : fam a = 42) (hx : (-1) ≤ x ∧ x ≤ 400) (hM : M' = mS M a 35 x) : I n M' := by
  refine hI.st hM (by rw [hf]; exact hx) (Or.inl ?_) (fun z => by
    exfalso
    rcases z with ⟨t, ht, ⟨e, _⟩ | ⟨e, e2⟩⟩ | ⟨e, e2⟩
    · rw [e, f_Ttexts ht] at hf; exact absurd hf (by decide)
    · rw [e, f_Told ht] at hf; exact absurd hf (by decide)
    · rw [e] at hf; exact absurd hf (by decide)) (fun z => by rcases z with z | z <;> (subst z; exact absurd hf (by decide)))
  refine Decidable.byContradiction fun z => ?_
  rw [fam_out (by omega)] at hf
  exact absurd hf (by decide)
theorem rd_Model_36 {n : Nat} {M : Mem} {a : Int} (hI : I n M) (hf : fam a = 42) : 0 ≤ mG M a 36 ∧ mG M a 36 ≤ 5 := rdf hI (j := 36) hf
theorem wr_Model_36 {n : Nat} {M M' : Mem} {a x : Int} (hI : I n M) (hf : fam a = 42) (hx : 0 ≤ x ∧ x ≤ 5) (hM : M' = mS M a 36 x) : I n M' := by
  refine hI.st hM (by rw [hf]; exact hx) (Or.inl ?_) (fun z => by
    exfalso
    rcases z with ⟨t, ht, ⟨e, _⟩ | ⟨e, e2⟩⟩ | ⟨e, e2⟩
    · rw [e, f_Ttexts ht] at hf; exact absurd hf (by decide)
    · rw [e, f_Told ht] at hf; exact absurd hf (by decide)
    · rw [e] at hf; exact absurd hf (by decide)) (fun z => by rcases z with z | z <;> (subst z; exact absurd hf (by decide)))
  refine Decidable.byContradiction fun z => ?_
  rw [fam_out (by omega)] at hf
  exact absurd hf (by decide)
theorem rd_Model_37 {n : Nat} {M : Mem} {a : Int} (hI : I n M) (hf : fam a = 42) : 0 ≤ mG M a 37 ∧ mG M a 37 ≤ 400 := rdf hI (j := 37) hf
theorem wr_Model_37 {n : Nat} {M M' : Mem} {a x : Int} (hI : I n M) (hf : fam a = 42) (hx : 0 ≤ x ∧ x ≤ 400) (hM : M' = mS M a 37 x) : I n M' := by
  refine hI.st hM (by rw [hf]; exact hx) (Or.inl ?_) (fun z => by
    exfalso
    rcases z with ⟨t, ht, ⟨e, _⟩ | ⟨e, e2⟩⟩ | ⟨e, e2⟩
    · rw [e, f_Ttexts ht] at hf; exact absurd hf (by decide)
    · rw [e, f_Told ht] at hf; exact absurd hf (by decide)
    · rw [e] at hf; exact absurd hf (by decide)) (fun z => by rcases z with z | z <;> (subst z; exact absurd hf (by decide)))
  refine Decidable.byContradiction fun z => ?_
  rw [fam_out (by omega)] at hf
  exact absurd hf (by decide)
theorem rd_Model_38 {n : Nat} {M : Mem} {a : Int} (hI : I n M) (hf : fam a = 42) : 0 ≤ mG M a 38 ∧ mG M a 38 ≤ 420 := rdf hI (j := 38) hf
theorem wr_Model_38 {n : Nat} {M M' : Mem} {a x : Int} (hI : I n M) (hf : fam a = 42) (hx : 0 ≤ x ∧ x ≤ 420) (hM : M' = mS M a 38 x) : I n M' := by
  refine hI.st hM (by rw [hf]; exact hx) (Or.inl ?_) (fun z => by
    exfalso
    rcases z with ⟨t, ht, ⟨e, _⟩ | ⟨e, e2⟩⟩ | ⟨e, e2⟩
    · rw [e, f_Ttexts ht] at hf; exact absurd hf (by decide)
    · rw [e, f_Told ht] at hf; exact absurd hf (by decide)
    · rw [e] at hf; exact absurd hf (by decide)) (fun z => by rcases z with z | z <;> (subst z; exact absurd hf (by decide)))
  refine Decidable.byContradiction fun z => ?_
  rw [fam_out (by omega)] at hf
  exact absurd hf (by decide)
theorem rd_Model_40 {n : Nat} {M : Mem} {a : Int} (hI : I n M) (hf : fam a = 42) : 0 ≤ mG M a 40 ∧ mG M a 40 ≤ 402 := rdf hI (j := 40) hf
theorem wr_Model_40 {n : Nat} {M M' : Mem} {a x : Int} (hI : I n M) (hf : fam a = 42) (hx : 0 ≤ x ∧ x ≤ 402) (hM : M' = mS M a 40 x) : I n M' := by
  refine hI.st hM (by rw [hf]; exact hx) (Or.inl ?_) (fun z => by
    exfalso
    rcases z with ⟨t, ht, ⟨e, _⟩ | ⟨e, e2⟩⟩ | ⟨e, e2⟩
    · rw [e, f_Ttexts ht] at hf; exact absurd hf (by decide)
    · rw [e, f_Told ht] at hf; exact absurd hf (by decide)
    · rw [e] at hf; exact absurd hf (by decide)) (fun z => by rcases z with z | z <;> (subst z; exact absurd hf (by decide)))
  refine Decidable.byContradiction fun z => ?_
  rw [fam_out (by omega)] at hf
  exact absurd hf (by decide)
theorem rd_Model_46 {n : Nat} {M : Mem} {a : Int} (hI : I n M) (hf : fam a = 42) : 0 ≤ mG M a 46 ∧ mG M a 46 ≤ 41 := rdf hI (j := 46) hf
theorem wr_Model_46 {n : Nat} {M M' : Mem} {a x : Int} (hI : I n M) (hf : fam a = 42) (hx : 0 ≤ x ∧ x ≤ 41) (hM : M' = mS M a 46 x) : I n M' := by
  refine hI.st hM (by rw [hf]; exact hx) (Or.inl ?_) (fun z => by
    exfalso
    rcases z with ⟨t, ht, ⟨e, _⟩ | ⟨e, e2⟩⟩ | ⟨e, e2⟩
    · rw [e, f_Ttexts ht] at hf; exact absurd hf (by decide)
    · rw [e, f_Told ht] at hf; exact absurd hf (by decide)
    · rw [e] at hf; exact absurd hf (by decide)) (fun z => by rcases z with z | z <;> (subst z; exact absurd hf (by decide)))
  refine Decidable.byContradiction fun z => ?_
  rw [fam_out (by omega)] at hf
  exact absurd hf (by decide)
theorem rd_Model_48 {n : Nat} {M : Mem} {a : Int} (hI : I n M) (hf : fam a = 42) : (-2147483648) ≤ mG M a 48 ∧ mG M a 48 ≤ 2147483647 := rdf hI (j := 48) hf
theorem wr_Model_48 {n : Nat} {M M' : Mem} {a x : Int} (hI : I n M) (hf : fam a = 42) (hx : (-2147483648) ≤ x ∧ x ≤ 2147483647) (hM : M' = mS M a 48 x) : I n M' := by
  refine hI.st hM (by rw [hf]; exact hx) (Or.inl ?_) (fun z => by
    exfalso
    rcases z with ⟨t, ht, ⟨e, _⟩ | ⟨e, e2⟩⟩ | ⟨e, e2⟩
    · rw [e, f_Ttexts ht] at hf; exact absurd hf (by decide)
    · rw [e, f_Told ht] at hf; exact absurd hf (by decide)
    · rw [e] at hf; exact absurd hf (by decide)) (fun z => by rcases z with z | z <;> (subst z; exact absurd hf (by decide)))
  refine Decidable.byContradiction fun z => ?_
  rw [fam_out (by omega)] at hf
  exact absurd hf (by decide)
theorem rd_Model_49 {n : Nat} {M : Mem} {a : Int} (hI : I n M) (hf : fam a = 42) : (-2147483648) ≤ mG M a 49 ∧ mG M a 49 ≤ 2147483647 := rdf hI (j := 49) hf
theorem wr_Model_49 {n : Nat} {M M' : Mem} {a x : Int} (hI : I n M) (hf : fam a = 42) (hx : (-2147483648) ≤ x ∧ x ≤ 2147483647) (hM : M' = mS M a 49 x) : I n M' := by
  refine hI.st hM (by rw [hf]; exact hx) (Or.inl ?_) (fun z => by
    exfalso
    rcases z with ⟨t, ht, ⟨e, _⟩ | ⟨e, e2⟩⟩ | ⟨e, e2⟩
    · rw [e, f_Ttexts ht] at hf; exact absurd hf (by decide)
    · rw [e, f_Told ht] at hf; exact absurd hf (by decide)
    · rw [e] at hf; exact absurd hf (by decide)) (fun z => by rcases z with z | z <;> (subst z; exact absurd hf (by decide)))
  refine Decidable.byContradiction fun z => ?_
  rw [fam_out (by omega)] at hf
  exact absurd hf (by decide)
theorem rd_Model_50 {n : Nat} {M : Mem} {a : Int} (hI : I n M) (hf : fam a = 42) : (-2147483648) ≤ mG M a 50 ∧ mG M a 50 ≤ 2147483647 := rdf hI (j := 50) hf
theorem wr_Model_50 {n : Nat} {M M' : Mem} {a x : Int} (hI : I n M) (hf : fam a = 42) (hx : (-2147483648) ≤ x ∧ x ≤ 2147483647) (hM : M' = mS M a 50 x) : I n M' := by
  refine hI.st hM (by rw [hf]; exact hx) (Or.inl ?_) (fun z => by
    exfalso
    rcases z with ⟨t, ht, ⟨e, _⟩ | ⟨e, e2⟩⟩ | ⟨e, e2⟩
    · rw [e, f_Ttexts ht] at hf; exact absurd hf (by decide)
    · rw [e, f_Told ht] at hf; exact absurd hf (by decide)
    · rw [e] at hf; exact absurd hf (by decide)) (fun z => by rcases z with z | z <;> (subst z; exact absurd hf (by decide)))
  refine Decidable.byContradiction fun z => ?_
  rw [fam_out (by omega)] at hf
  exact absurd hf (by decide)
theorem rd_Model_52 {n : Nat} {M : Mem} {a : Int} (hI : I n M) (hf : fam a = 42) : (-2147483648) ≤ mG M a 52 ∧ mG M a 52 ≤ 2147483647 := rdf hI (j := 52) hf
theorem wr_Model_52 {n : Nat} {M M' : Mem} {a x : Int} (hI : I n M) (hf : fam a = 42) (hx : (-2147483648) ≤ x ∧ x ≤ 2147483647) (hM : M' = mS M a 52 x) : I n M' := by
  refine hI.st hM (by rw [hf]; exact hx) (Or.inl ?_) (fun z => by
    exfalso
    rcases z with ⟨t, ht, ⟨e, _⟩ | ⟨e, e2⟩⟩ | ⟨e, e2⟩
    · rw [e, f_Ttexts ht] at hf; exact absurd hf (by decide)
    · rw [e, f_Told ht] at hf; exact absurd hf (by decide)
    · rw [e] at hf; exact absurd hf (by decide)) (fun z => by rcases z with z | z <;> (subst z; exact absurd hf (by decide)))
  refine Decidable.byContradiction fun z => ?_
  rw [fam_out (by omega)] at hf
  exact absurd hf (by decide)
theorem rd_Model_53 {n : Nat} {M : Mem} {a : Int} (hI : I n M) (hf : fam a = 42) : (-2147483648) ≤ mG M a 53 ∧ mG M a 53 ≤ 2147483647 := rdf hI (j := 53) hf
theorem wr_Model_53 {n : Nat} {M M' : Mem} {a x : Int} (hI : I n M) (hf : fam a = 42) (hx : (-2147483648) ≤ x ∧ x ≤ 2147483647) (hM : M' = mS M a 53 x) : I n M' := by
  refine hI.st hM (by rw [hf]; exact hx) (Or.inl ?_) (fun z => by
    exfalso
    rcases z with ⟨t, ht, ⟨e, _⟩ | ⟨e, e2⟩⟩ | ⟨e, e2⟩
    · rw [e, f_Ttexts ht] at hf; exact absurd hf (by decide)
    · rw [e, f_Told ht] at hf; exact absurd hf (by decide)
    · rw [e] at hf; exact absurd hf (by decide)) (fun z => by rcases z with z | z <;> (subst z; exact absurd hf (by decide)))
  refine Decidable.byContradiction fun z => ?_
  rw [fam_out (by omega)] at hf
  exact absurd hf (by decide)
theorem rd_Model_54 {n : Nat} {M : Mem} {a : Int} (hI : I n M) (hf : fam a = 42) : (-2147483648) ≤ mG M a 54 ∧ mG M a 54 ≤ 2147483647 := rdf hI (j := 54) hf
theorem wr_Model_54 {n : Nat} {M M' : Mem} {a x : Int} (hI : I n M) (hf : fam a = 42) (hx : (-2147483648) ≤ x ∧ x ≤ 2147483647) (hM : M' = mS M a 54 x) : I n M' := by
  refine hI.st hM (by rw [hf]; exact hx) (Or.inl ?_) (fun z => by
    exfalso
    rcases z with ⟨t, ht, ⟨e, _⟩ | ⟨e, e2⟩⟩ | ⟨e, e2⟩
    · rw [e, f_Ttexts ht] at hf; exact absurd hf (by decide)
    · rw [e, f_Told ht] at hf; exact absurd hf (by decide)
    · rw [e] at hf; exact absurd hf (by decide)) (fun z => by rcases z with z | z <;> (subst z; exact absurd hf (by decide)))
  refine Decidable.byContradiction fun z => ?_
  rw [fam_out (by omega)] at hf
  exact absurd hf (by decide)
theorem rd_Model_57 {n : Nat} {M : Mem} {a : Int} (hI : I n M) (hf : fam a = 42) : (-2147483648) ≤ mG M a 57 ∧ mG M a 57 ≤ 2147483647 := rdf hI (j := 57) hf
theorem wr_Model_57 {n : Nat} {M M' : Mem} {a x : Int} (hI : I n M) (hf : fam a = 42) (hx : (-2147483648) ≤ x ∧ x ≤ 2147483647) (hM : M' = mS M a 57 x) : I n M' := by
  refine hI.st hM (by rw [hf]; exact hx) (Or.inl ?_) (fun z => by
    exfalso
    rcases z with ⟨t, ht, ⟨e, _⟩ | ⟨e, e2⟩⟩ | ⟨e, e2⟩
    · rw [e, f_Ttexts ht] at hf; exact absurd hf (by decide)
    · rw [e, f_Told ht] at hf; exact absurd hf (by decide)
    · rw [e] at hf; exact absurd hf (by decide)) (fun z => by rcases z with z | z <;> (subst z; exact absurd hf (by decide)))
  refine Decidable.byContradiction fun z => ?_
  rw [fam_out (by omega)] at hf
  exact absurd hf (by decide)
theorem rd_Mtape {n : Nat} {M : Mem} {a i : Int} (hI : I n M) (hf : fam a = 43) : (-128) ≤ mG M a i ∧ mG M a i ≤ 127 := rdf hI (j := i) hf
theorem wr_Mtape {n : Nat} {M M' : Mem} {a i x : Int} (hI : I n M) (hf : fam a = 43) (hx : (-128) ≤ x ∧ x ≤ 127) (hM : M' = mS M a i x) : I n M' := by
  refine hI.st hM (by rw [hf]; exact hx) (Or.inl ?_) (fun z => by
    exfalso
    rcases z with ⟨t, ht, ⟨e, _⟩ | ⟨e, e2⟩⟩ | ⟨e, e2⟩
    · rw [e, f_Ttexts ht] at hf; exact absurd hf (by decide)
    · rw [e, f_Told ht] at hf; exact absurd hf (by decide)
    · rw [e] at hf; exact absurd hf (by decide)) (fun z => by rcases z with z | z <;> (subst z; exact absurd hf (by decide)))
  refine Decidable.byContradiction fun z => ?_
  rw [fam_out (by omega)] at hf
  exact absurd hf (by decide)
theorem rd_Msize {n : Nat} {M : Mem} {a i : Int} (hI : I n M) (hf : fam a = 44) : 0 ≤ mG M a i ∧ mG M a i ≤ 400 := rdf hI (j := i) hf
theorem wr_Msize {n : Nat} {M M' : Mem} {a i x : Int} (hI : I n M) (hf : fam a = 44) (hx : 0 ≤ x ∧ x ≤ 400) (hM : M' = mS M a i x) : I n M' := by
  refine hI.st hM (by rw [hf]; exact hx) (Or.inl ?_) (fun z => by
    exfalso
    rcases z with ⟨t, ht, ⟨e, _⟩ | ⟨e, e2⟩⟩ | ⟨e, e2⟩
    · rw [e, f_Ttexts ht] at hf; exact absurd hf (by decide)
    · rw [e, f_Told ht] at hf; exact absurd hf (by decide)
    · rw [e] at hf; exact absurd hf (by decide)) (fun z => by rcases z with z | z <;> (subst z; exact absurd hf (by decide)))
  refine Decidable.byContradiction fun z => ?_
  rw [fam_out (by omega)] at hf
  exact absurd hf (by decide)
theorem rd_Mfault {n : Nat} {M : Mem} {a i : Int} (hI : I n M) (hf : fam a = 45) : 0 ≤ mG M a i ∧ mG M a i ≤ 5 := rdf hI (j := i) hf
theorem wr_Mfault {n : Nat} {M M' : Mem} {a i x : Int} (hI : I n M) (hf : fam a = 45) (hx : 0 ≤ x ∧ x ≤ 5) (hM : M' = mS M a i x) : I n M' := by
  refine hI.st hM (by rw [hf]; exact hx) (Or.inl ?_) (fun z => by
    exfalso
    rcases z with ⟨t, ht, ⟨e, _⟩ | ⟨e, e2⟩⟩ | ⟨e, e2⟩
    · rw [e, f_Ttexts ht] at hf; exact absurd hf (by decide)
    · rw [e, f_Told ht] at hf; exact absurd hf (by decide)
    · rw [e] at hf; exact absurd hf (by decide)) (fun z => by rcases z with z | z <;> (subst z; exact absurd hf (by decide)))
  refine Decidable.byContradiction fun z => ?_
  rw [fam_out (by omega)] at hf
  exact absurd hf (by decide)
theorem rd_MfaultPlace {n : Nat} {M : Mem} {a i : Int} (hI : I n M) (hf : fam a = 46) : (-1) ≤ mG M a i ∧ mG M a i ≤ 400 := rdf hI (j := i) hf
theorem wr_MfaultPlace {n : Nat} {M M' : Mem} {a i x : Int} (hI : I n M) (hf : fam a = 46) (hx : (-1) ≤ x ∧ x ≤ 400) (hM : M' = mS M a i x) : I n M' := by
  refine hI.st hM (by rw [hf]; exact hx) (Or.inl ?_) (fun z => by
    exfalso
    rcases z with ⟨t, ht, ⟨e, _⟩ | ⟨e, e2⟩⟩ | ⟨e, e2⟩
    · rw [e, f_Ttexts ht] at hf; exact absurd hf (by decide)
    · rw [e, f_Told ht] at hf; exact absurd hf (by decide)
    · rw [e] at hf; exact absurd hf (by decide)) (fun z => by rcases z with z | z <;> (subst z; exact absurd hf (by decide)))
  refine Decidable.byContradiction fun z => ?_
  rw [fam_out (by omega)] at hf
  exact absurd hf (by decide)
theorem rd_Mdays {n : Nat} {M : Mem} {a i : Int} (hI : I n M) (hf : fam a = 47) : 0 ≤ mG M a i ∧ mG M a i ≤ 999 := rdf hI (j := i) hf
theorem wr_Mdays {n : Nat} {M M' : Mem} {a i x : Int} (hI : I n M) (hf : fam a = 47) (hx : 0 ≤ x ∧ x ≤ 999) (hM : M' = mS M a i x) : I n M' := by
  refine hI.st hM (by rw [hf]; exact hx) (Or.inl ?_) (fun z => by
    exfalso
    rcases z with ⟨t, ht, ⟨e, _⟩ | ⟨e, e2⟩⟩ | ⟨e, e2⟩
    · rw [e, f_Ttexts ht] at hf; exact absurd hf (by decide)
    · rw [e, f_Told ht] at hf; exact absurd hf (by decide)
    · rw [e] at hf; exact absurd hf (by decide)) (fun z => by rcases z with z | z <;> (subst z; exact absurd hf (by decide)))
  refine Decidable.byContradiction fun z => ?_
  rw [fam_out (by omega)] at hf
  exact absurd hf (by decide)
theorem rd_Mviewed {n : Nat} {M : Mem} {a i : Int} (hI : I n M) (hf : fam a = 48) : (-1) ≤ mG M a i ∧ mG M a i ≤ 999 := rdf hI (j := i) hf
theorem wr_Mviewed {n : Nat} {M M' : Mem} {a i x : Int} (hI : I n M) (hf : fam a = 48) (hx : (-1) ≤ x ∧ x ≤ 999) (hM : M' = mS M a i x) : I n M' := by
  refine hI.st hM (by rw [hf]; exact hx) (Or.inl ?_) (fun z => by
    exfalso
    rcases z with ⟨t, ht, ⟨e, _⟩ | ⟨e, e2⟩⟩ | ⟨e, e2⟩
    · rw [e, f_Ttexts ht] at hf; exact absurd hf (by decide)
    · rw [e, f_Told ht] at hf; exact absurd hf (by decide)
    · rw [e] at hf; exact absurd hf (by decide)) (fun z => by rcases z with z | z <;> (subst z; exact absurd hf (by decide)))
  refine Decidable.byContradiction fun z => ?_
  rw [fam_out (by omega)] at hf
  exact absurd hf (by decide)
theorem rd_Msizes {n : Nat} {M : Mem} {a i : Int} (hI : I n M) (hf : fam a = 49) : 0 ≤ mG M a i ∧ mG M a i ≤ 3 ∧ (0 ≤ i → i < 3 → 1 ≤ mG M a i) := rdf hI (j := i) hf
theorem wr_Msizes {n : Nat} {M M' : Mem} {a i x : Int} (hI : I n M) (hf : fam a = 49) (hx : 0 ≤ x ∧ x ≤ 3 ∧ (0 ≤ i → i < 3 → 1 ≤ x)) (hK : KI M') (hM : M' = mS M a i x) : I n M' := by
  refine hI.st hM (by rw [hf]; exact hx) (Or.inl ?_) (fun z => by
    exfalso
    rcases z with ⟨t, ht, ⟨e, _⟩ | ⟨e, e2⟩⟩ | ⟨e, e2⟩
    · rw [e, f_Ttexts ht] at hf; exact absurd hf (by decide)
    · rw [e, f_Told ht] at hf; exact absurd hf (by decide)
    · rw [e] at hf; exact absurd hf (by decide)) (fun _ => hK)
  refine Decidable.byContradiction fun z => ?_
  rw [fam_out (by omega)] at hf
  exact absurd hf (by decide)
theorem rd_Mrelations {n : Nat} {M : Mem} {a i : Int} (hI : I n M) (hf : fam a = 50) : 0 ≤ mG M a i ∧ mG M a i ≤ 4 := rdf hI (j := i) hf
theorem wr_Mrelations {n : Nat} {M M' : Mem} {a i x : Int} (hI : I n M) (hf : fam a = 50) (hx : 0 ≤ x ∧ x ≤ 4) (hM : M' = mS M a i x) : I n M' := by
  refine hI.st hM (by rw [hf]; exact hx) (Or.inl ?_) (fun z => by
    exfalso
    rcases z with ⟨t, ht, ⟨e, _⟩ | ⟨e, e2⟩⟩ | ⟨e, e2⟩
    · rw [e, f_Ttexts ht] at hf; exact absurd hf (by decide)
    · rw [e, f_Told ht] at hf; exact absurd hf (by decide)
    · rw [e] at hf; exact absurd hf (by decide)) (fun z => by rcases z with z | z <;> (subst z; exact absurd hf (by decide)))
  refine Decidable.byContradiction fun z => ?_
  rw [fam_out (by omega)] at hf
  exact absurd hf (by decide)
theorem rd_MfirstKind {n : Nat} {M : Mem} {a i : Int} (hI : I n M) (hf : fam a = 51) : 0 ≤ mG M a i ∧ mG M a i ≤ 2 := rdf hI (j := i) hf
theorem wr_MfirstKind {n : Nat} {M M' : Mem} {a i x : Int} (hI : I n M) (hf : fam a = 51) (hx : 0 ≤ x ∧ x ≤ 2) (hM : M' = mS M a i x) : I n M' := by
  refine hI.st hM (by rw [hf]; exact hx) (Or.inl ?_) (fun z => by
    exfalso
    rcases z with ⟨t, ht, ⟨e, _⟩ | ⟨e, e2⟩⟩ | ⟨e, e2⟩
    · rw [e, f_Ttexts ht] at hf; exact absurd hf (by decide)
    · rw [e, f_Told ht] at hf; exact absurd hf (by decide)
    · rw [e] at hf; exact absurd hf (by decide)) (fun z => by rcases z with z | z <;> (subst z; exact absurd hf (by decide)))
  refine Decidable.byContradiction fun z => ?_
  rw [fam_out (by omega)] at hf
  exact absurd hf (by decide)
theorem rd_MsecondKind {n : Nat} {M : Mem} {a i : Int} (hI : I n M) (hf : fam a = 52) : (-1) ≤ mG M a i ∧ mG M a i ≤ 2 := rdf hI (j := i) hf
theorem wr_MsecondKind {n : Nat} {M M' : Mem} {a i x : Int} (hI : I n M) (hf : fam a = 52) (hx : (-1) ≤ x ∧ x ≤ 2) (hM : M' = mS M a i x) : I n M' := by
  refine hI.st hM (by rw [hf]; exact hx) (Or.inl ?_) (fun z => by
    exfalso
    rcases z with ⟨t, ht, ⟨e, _⟩ | ⟨e, e2⟩⟩ | ⟨e, e2⟩
    · rw [e, f_Ttexts ht] at hf; exact absurd hf (by decide)
    · rw [e, f_Told ht] at hf; exact absurd hf (by decide)
    · rw [e] at hf; exact absurd hf (by decide)) (fun z => by rcases z with z | z <;> (subst z; exact absurd hf (by decide)))
  refine Decidable.byContradiction fun z => ?_
  rw [fam_out (by omega)] at hf
  exact absurd hf (by decide)
theorem rd_Mworld {n : Nat} {M : Mem} {a i : Int} (hI : I n M) (hf : fam a = 53) : 0 ≤ mG M a i ∧ mG M a i ≤ 1 := rdf hI (j := i) hf
theorem wr_Mworld {n : Nat} {M M' : Mem} {a i x : Int} (hI : I n M) (hf : fam a = 53) (hx : 0 ≤ x ∧ x ≤ 1) (hM : M' = mS M a i x) : I n M' := by
  refine hI.st hM (by rw [hf]; exact hx) (Or.inl ?_) (fun z => by
    exfalso
    rcases z with ⟨t, ht, ⟨e, _⟩ | ⟨e, e2⟩⟩ | ⟨e, e2⟩
    · rw [e, f_Ttexts ht] at hf; exact absurd hf (by decide)
    · rw [e, f_Told ht] at hf; exact absurd hf (by decide)
    · rw [e] at hf; exact absurd hf (by decide)) (fun z => by rcases z with z | z <;> (subst z; exact absurd hf (by decide)))
  refine Decidable.byContradiction fun z => ?_
  rw [fam_out (by omega)] at hf
  exact absurd hf (by decide)
theorem rd_Mstories {n : Nat} {M : Mem} {a i : Int} (hI : I n M) (hf : fam a = 54) : 0 ≤ mG M a i ∧ mG M a i ≤ 8 := rdf hI (j := i) hf
theorem wr_Mstories {n : Nat} {M M' : Mem} {a i x : Int} (hI : I n M) (hf : fam a = 54) (hx : 0 ≤ x ∧ x ≤ 8) (hM : M' = mS M a i x) : I n M' := by
  refine hI.st hM (by rw [hf]; exact hx) (Or.inl ?_) (fun z => by
    exfalso
    rcases z with ⟨t, ht, ⟨e, _⟩ | ⟨e, e2⟩⟩ | ⟨e, e2⟩
    · rw [e, f_Ttexts ht] at hf; exact absurd hf (by decide)
    · rw [e, f_Told ht] at hf; exact absurd hf (by decide)
    · rw [e] at hf; exact absurd hf (by decide)) (fun z => by rcases z with z | z <;> (subst z; exact absurd hf (by decide)))
  refine Decidable.byContradiction fun z => ?_
  rw [fam_out (by omega)] at hf
  exact absurd hf (by decide)
theorem rd_MstoryDay {n : Nat} {M : Mem} {a i : Int} (hI : I n M) (hf : fam a = 55) : 0 ≤ mG M a i ∧ mG M a i ≤ 999 := rdf hI (j := i) hf
theorem wr_MstoryDay {n : Nat} {M M' : Mem} {a i x : Int} (hI : I n M) (hf : fam a = 55) (hx : 0 ≤ x ∧ x ≤ 999) (hM : M' = mS M a i x) : I n M' := by
  refine hI.st hM (by rw [hf]; exact hx) (Or.inl ?_) (fun z => by
    exfalso
    rcases z with ⟨t, ht, ⟨e, _⟩ | ⟨e, e2⟩⟩ | ⟨e, e2⟩
    · rw [e, f_Ttexts ht] at hf; exact absurd hf (by decide)
    · rw [e, f_Told ht] at hf; exact absurd hf (by decide)
    · rw [e] at hf; exact absurd hf (by decide)) (fun z => by rcases z with z | z <;> (subst z; exact absurd hf (by decide)))
  refine Decidable.byContradiction fun z => ?_
  rw [fam_out (by omega)] at hf
  exact absurd hf (by decide)
theorem rd_MstruckDay {n : Nat} {M : Mem} {a i : Int} (hI : I n M) (hf : fam a = 56) : (-1) ≤ mG M a i ∧ mG M a i ≤ 999 := rdf hI (j := i) hf
theorem wr_MstruckDay {n : Nat} {M M' : Mem} {a i x : Int} (hI : I n M) (hf : fam a = 56) (hx : (-1) ≤ x ∧ x ≤ 999) (hM : M' = mS M a i x) : I n M' := by
  refine hI.st hM (by rw [hf]; exact hx) (Or.inl ?_) (fun z => by
    exfalso
    rcases z with ⟨t, ht, ⟨e, _⟩ | ⟨e, e2⟩⟩ | ⟨e, e2⟩
    · rw [e, f_Ttexts ht] at hf; exact absurd hf (by decide)
    · rw [e, f_Told ht] at hf; exact absurd hf (by decide)
    · rw [e] at hf; exact absurd hf (by decide)) (fun z => by rcases z with z | z <;> (subst z; exact absurd hf (by decide)))
  refine Decidable.byContradiction fun z => ?_
  rw [fam_out (by omega)] at hf
  exact absurd hf (by decide)
theorem rd_Mparts {n : Nat} {M : Mem} {a i : Int} (hI : I n M) (hf : fam a = 57) : 0 ≤ mG M a i ∧ mG M a i ≤ 40 := rdf hI (j := i) hf
theorem wr_Mparts {n : Nat} {M M' : Mem} {a i x : Int} (hI : I n M) (hf : fam a = 57) (hx : 0 ≤ x ∧ x ≤ 40) (hM : M' = mS M a i x) : I n M' := by
  refine hI.st hM (by rw [hf]; exact hx) (Or.inl ?_) (fun z => by
    exfalso
    rcases z with ⟨t, ht, ⟨e, _⟩ | ⟨e, e2⟩⟩ | ⟨e, e2⟩
    · rw [e, f_Ttexts ht] at hf; exact absurd hf (by decide)
    · rw [e, f_Told ht] at hf; exact absurd hf (by decide)
    · rw [e] at hf; exact absurd hf (by decide)) (fun z => by rcases z with z | z <;> (subst z; exact absurd hf (by decide)))
  refine Decidable.byContradiction fun z => ?_
  rw [fam_out (by omega)] at hf
  exact absurd hf (by decide)
theorem rd_Mact {n : Nat} {M : Mem} {a i : Int} (hI : I n M) (hf : fam a = 58) : 0 ≤ mG M a i ∧ mG M a i ≤ 12 := rdf hI (j := i) hf
theorem wr_Mact {n : Nat} {M M' : Mem} {a i x : Int} (hI : I n M) (hf : fam a = 58) (hx : 0 ≤ x ∧ x ≤ 12) (hM : M' = mS M a i x) : I n M' := by
  refine hI.st hM (by rw [hf]; exact hx) (Or.inl ?_) (fun z => by
    exfalso
    rcases z with ⟨t, ht, ⟨e, _⟩ | ⟨e, e2⟩⟩ | ⟨e, e2⟩
    · rw [e, f_Ttexts ht] at hf; exact absurd hf (by decide)
    · rw [e, f_Told ht] at hf; exact absurd hf (by decide)
    · rw [e] at hf; exact absurd hf (by decide)) (fun z => by rcases z with z | z <;> (subst z; exact absurd hf (by decide)))
  refine Decidable.byContradiction fun z => ?_
  rw [fam_out (by omega)] at hf
  exact absurd hf (by decide)
theorem rd_Mone {n : Nat} {M : Mem} {a i : Int} (hI : I n M) (hf : fam a = 59) : (-1) ≤ mG M a i ∧ mG M a i ≤ 3 := rdf hI (j := i) hf
theorem wr_Mone {n : Nat} {M M' : Mem} {a i x : Int} (hI : I n M) (hf : fam a = 59) (hx : (-1) ≤ x ∧ x ≤ 3) (hM : M' = mS M a i x) : I n M' := by
  refine hI.st hM (by rw [hf]; exact hx) (Or.inl ?_) (fun z => by
    exfalso
    rcases z with ⟨t, ht, ⟨e, _⟩ | ⟨e, e2⟩⟩ | ⟨e, e2⟩
    · rw [e, f_Ttexts ht] at hf; exact absurd hf (by decide)
    · rw [e, f_Told ht] at hf; exact absurd hf (by decide)
    · rw [e] at hf; exact absurd hf (by decide)) (fun z => by rcases z with z | z <;> (subst z; exact absurd hf (by decide)))
  refine Decidable.byContradiction fun z => ?_
  rw [fam_out (by omega)] at hf
  exact absurd hf (by decide)
theorem rd_Mtwo {n : Nat} {M : Mem} {a i : Int} (hI : I n M) (hf : fam a = 60) : (-1) ≤ mG M a i ∧ mG M a i ≤ 3 := rdf hI (j := i) hf
theorem wr_Mtwo {n : Nat} {M M' : Mem} {a i x : Int} (hI : I n M) (hf : fam a = 60) (hx : (-1) ≤ x ∧ x ≤ 3) (hM : M' = mS M a i x) : I n M' := by
  refine hI.st hM (by rw [hf]; exact hx) (Or.inl ?_) (fun z => by
    exfalso
    rcases z with ⟨t, ht, ⟨e, _⟩ | ⟨e, e2⟩⟩ | ⟨e, e2⟩
    · rw [e, f_Ttexts ht] at hf; exact absurd hf (by decide)
    · rw [e, f_Told ht] at hf; exact absurd hf (by decide)
    · rw [e] at hf; exact absurd hf (by decide)) (fun z => by rcases z with z | z <;> (subst z; exact absurd hf (by decide)))
  refine Decidable.byContradiction fun z => ?_
  rw [fam_out (by omega)] at hf
  exact absurd hf (by decide)
theorem rd_Mthree {n : Nat} {M : Mem} {a i : Int} (hI : I n M) (hf : fam a = 61) : (-2147483648) ≤ mG M a i ∧ mG M a i ≤ 2147483647 := rdf hI (j := i) hf
theorem wr_Mthree {n : Nat} {M M' : Mem} {a i x : Int} (hI : I n M) (hf : fam a = 61) (hx : (-2147483648) ≤ x ∧ x ≤ 2147483647) (hM : M' = mS M a i x) : I n M' := by
  refine hI.st hM (by rw [hf]; exact hx) (Or.inl ?_) (fun z => by
    exfalso
    rcases z with ⟨t, ht, ⟨e, _⟩ | ⟨e, e2⟩⟩ | ⟨e, e2⟩
    · rw [e, f_Ttexts ht] at hf; exact absurd hf (by decide)
    · rw [e, f_Told ht] at hf; exact absurd hf (by decide)
    · rw [e] at hf; exact absurd hf (by decide)) (fun z => by rcases z with z | z <;> (subst z; exact absurd hf (by decide)))
  refine Decidable.byContradiction fun z => ?_
  rw [fam_out (by omega)] at hf
  exact absurd hf (by decide)
theorem rd_Mknowns {n : Nat} {M : Mem} {a i : Int} (hI : I n M) (hf : fam a = 62) : 0 ≤ mG M a i ∧ mG M a i ≤ 40 := rdf hI (j := i) hf
theorem wr_Mknowns {n : Nat} {M M' : Mem} {a i x : Int} (hI : I n M) (hf : fam a = 62) (hx : 0 ≤ x ∧ x ≤ 40) (hM : M' = mS M a i x) : I n M' := by
  refine hI.st hM (by rw [hf]; exact hx) (Or.inl ?_) (fun z => by
    exfalso
    rcases z with ⟨t, ht, ⟨e, _⟩ | ⟨e, e2⟩⟩ | ⟨e, e2⟩
    · rw [e, f_Ttexts ht] at hf; exact absurd hf (by decide)
    · rw [e, f_Told ht] at hf; exact absurd hf (by decide)
    · rw [e] at hf; exact absurd hf (by decide)) (fun z => by rcases z with z | z <;> (subst z; exact absurd hf (by decide)))
  refine Decidable.byContradiction fun z => ?_
  rw [fam_out (by omega)] at hf
  exact absurd hf (by decide)
theorem rd_MknownOf {n : Nat} {M : Mem} {a i : Int} (hI : I n M) (hf : fam a = 63) : 0 ≤ mG M a i ∧ mG M a i ≤ 35 := rdf hI (j := i) hf
theorem wr_MknownOf {n : Nat} {M M' : Mem} {a i x : Int} (hI : I n M) (hf : fam a = 63) (hx : 0 ≤ x ∧ x ≤ 35) (hM : M' = mS M a i x) : I n M' := by
  refine hI.st hM (by rw [hf]; exact hx) (Or.inl ?_) (fun z => by
    exfalso
    rcases z with ⟨t, ht, ⟨e, _⟩ | ⟨e, e2⟩⟩ | ⟨e, e2⟩
    · rw [e, f_Ttexts ht] at hf; exact absurd hf (by decide)
    · rw [e, f_Told ht] at hf; exact absurd hf (by decide)
    · rw [e] at hf; exact absurd hf (by decide)) (fun z => by rcases z with z | z <;> (subst z; exact absurd hf (by decide)))
  refine Decidable.byContradiction fun z => ?_
  rw [fam_out (by omega)] at hf
  exact absurd hf (by decide)
theorem rd_MknownIs {n : Nat} {M : Mem} {a i : Int} (hI : I n M) (hf : fam a = 64) : 0 ≤ mG M a i ∧ mG M a i ≤ 1 := rdf hI (j := i) hf
theorem wr_MknownIs {n : Nat} {M M' : Mem} {a i x : Int} (hI : I n M) (hf : fam a = 64) (hx : 0 ≤ x ∧ x ≤ 1) (hM : M' = mS M a i x) : I n M' := by
  refine hI.st hM (by rw [hf]; exact hx) (Or.inl ?_) (fun z => by
    exfalso
    rcases z with ⟨t, ht, ⟨e, _⟩ | ⟨e, e2⟩⟩ | ⟨e, e2⟩
    · rw [e, f_Ttexts ht] at hf; exact absurd hf (by decide)
    · rw [e, f_Told ht] at hf; exact absurd hf (by decide)
    · rw [e] at hf; exact absurd hf (by decide)) (fun z => by rcases z with z | z <;> (subst z; exact absurd hf (by decide)))
  refine Decidable.byContradiction fun z => ?_
  rw [fam_out (by omega)] at hf
  exact absurd hf (by decide)
theorem rd_MknownDay {n : Nat} {M : Mem} {a i : Int} (hI : I n M) (hf : fam a = 65) : 0 ≤ mG M a i ∧ mG M a i ≤ 999 := rdf hI (j := i) hf
theorem wr_MknownDay {n : Nat} {M M' : Mem} {a i x : Int} (hI : I n M) (hf : fam a = 65) (hx : 0 ≤ x ∧ x ≤ 999) (hM : M' = mS M a i x) : I n M' := by
  refine hI.st hM (by rw [hf]; exact hx) (Or.inl ?_) (fun z => by
    exfalso
    rcases z with ⟨t, ht, ⟨e, _⟩ | ⟨e, e2⟩⟩ | ⟨e, e2⟩
    · rw [e, f_Ttexts ht] at hf; exact absurd hf (by decide)
    · rw [e, f_Told ht] at hf; exact absurd hf (by decide)
    · rw [e] at hf; exact absurd hf (by decide)) (fun z => by rcases z with z | z <;> (subst z; exact absurd hf (by decide)))
  refine Decidable.byContradiction fun z => ?_
  rw [fam_out (by omega)] at hf
  exact absurd hf (by decide)
theorem rd_Mheld {n : Nat} {M : Mem} {a i : Int} (hI : I n M) (hf : fam a = 66) : 0 ≤ mG M a i ∧ mG M a i ≤ 1 := rdf hI (j := i) hf
theorem wr_Mheld {n : Nat} {M M' : Mem} {a i x : Int} (hI : I n M) (hf : fam a = 66) (hx : 0 ≤ x ∧ x ≤ 1) (hM : M' = mS M a i x) : I n M' := by
  refine hI.st hM (by rw [hf]; exact hx) (Or.inl ?_) (fun z => by
    exfalso
    rcases z with ⟨t, ht, ⟨e, _⟩ | ⟨e, e2⟩⟩ | ⟨e, e2⟩
    · rw [e, f_Ttexts ht] at hf; exact absurd hf (by decide)
    · rw [e, f_Told ht] at hf; exact absurd hf (by decide)
    · rw [e] at hf; exact absurd hf (by decide)) (fun z => by rcases z with z | z <;> (subst z; exact absurd hf (by decide)))
  refine Decidable.byContradiction fun z => ?_
  rw [fam_out (by omega)] at hf
  exact absurd hf (by decide)
theorem rd_MholdsPlace {n : Nat} {M : Mem} {a i : Int} (hI : I n M) (hf : fam a = 67) : 0 ≤ mG M a i ∧ mG M a i ≤ 1 := rdf hI (j := i) hf
theorem wr_MholdsPlace {n : Nat} {M M' : Mem} {a i x : Int} (hI : I n M) (hf : fam a = 67) (hx : 0 ≤ x ∧ x ≤ 1) (hM : M' = mS M a i x) : I n M' := by
  refine hI.st hM (by rw [hf]; exact hx) (Or.inl ?_) (fun z => by
    exfalso
    rcases z with ⟨t, ht, ⟨e, _⟩ | ⟨e, e2⟩⟩ | ⟨e, e2⟩
    · rw [e, f_Ttexts ht] at hf; exact absurd hf (by decide)
    · rw [e, f_Told ht] at hf; exact absurd hf (by decide)
    · rw [e] at hf; exact absurd hf (by decide)) (fun z => by rcases z with z | z <;> (subst z; exact absurd hf (by decide)))
  refine Decidable.byContradiction fun z => ?_
  rw [fam_out (by omega)] at hf
  exact absurd hf (by decide)
theorem rd_Mnow {n : Nat} {M : Mem} {a i : Int} (hI : I n M) (hf : fam a = 68) : (-9) ≤ mG M a i ∧ mG M a i ≤ 9 := rdf hI (j := i) hf
theorem wr_Mnow {n : Nat} {M M' : Mem} {a i x : Int} (hI : I n M) (hf : fam a = 68) (hx : (-9) ≤ x ∧ x ≤ 9) (hM : M' = mS M a i x) : I n M' := by
  refine hI.st hM (by rw [hf]; exact hx) (Or.inl ?_) (fun z => by
    exfalso
    rcases z with ⟨t, ht, ⟨e, _⟩ | ⟨e, e2⟩⟩ | ⟨e, e2⟩
    · rw [e, f_Ttexts ht] at hf; exact absurd hf (by decide)
    · rw [e, f_Told ht] at hf; exact absurd hf (by decide)
    · rw [e] at hf; exact absurd hf (by decide)) (fun z => by rcases z with z | z <;> (subst z; exact absurd hf (by decide)))
  refine Decidable.byContradiction fun z => ?_
  rw [fam_out (by omega)] at hf
  exact absurd hf (by decide)
theorem rd_Mstart {n : Nat} {M : Mem} {a i : Int} (hI : I n M) (hf : fam a = 69) (h0 : 0 ≤ i) (h1 : i < 5) : 0 ≤ mG M a i ∧ mG M a i ≤ 9 * i := rdf hI (j := i) hf h0 h1
theorem wr_Mstart {n : Nat} {M M' : Mem} {a i x : Int} (hI : I n M) (hf : fam a = 69) (hx : 0 ≤ x ∧ x ≤ 9 * i) (hM : M' = mS M a i x) : I n M' := by
  refine hI.st hM (by rw [hf]; exact fun _ _ => hx) (Or.inl ?_) (fun z => by
    exfalso
    rcases z with ⟨t, ht, ⟨e, _⟩ | ⟨e, e2⟩⟩ | ⟨e, e2⟩
    · rw [e, f_Ttexts ht] at hf; exact absurd hf (by decide)
    · rw [e, f_Told ht] at hf; exact absurd hf (by decide)
    · rw [e] at hf; exact absurd hf (by decide)) (fun z => by rcases z with z | z <;> (subst z; exact absurd hf (by decide)))
  refine Decidable.byContradiction fun z => ?_
  rw [fam_out (by omega)] at hf
  exact absurd hf (by decide)
theorem rd_Mis {n : Nat} {M : Mem} {a i : Int} (hI : I n M) (hf : fam a = 70) : 0 ≤ mG M a i ∧ mG M a i ≤ 1 := rdf hI (j := i) hf
theorem wr_Mis {n : Nat} {M M' : Mem} {a i x : Int} (hI : I n M) (hf : fam a = 70) (hx : 0 ≤ x ∧ x ≤ 1) (hM : M' = mS M a i x) : I n M' := by
  refine hI.st hM (by rw [hf]; exact hx) (Or.inl ?_) (fun z => by
    exfalso
    rcases z with ⟨t, ht, ⟨e, _⟩ | ⟨e, e2⟩⟩ | ⟨e, e2⟩
    · rw [e, f_Ttexts ht] at hf; exact absurd hf (by decide)
    · rw [e, f_Told ht] at hf; exact absurd hf (by decide)
    · rw [e] at hf; exact absurd hf (by decide)) (fun z => by rcases z with z | z <;> (subst z; exact absurd hf (by decide)))
  refine Decidable.byContradiction fun z => ?_
  rw [fam_out (by omega)] at hf
  exact absurd hf (by decide)
theorem rd_Maround {n : Nat} {M : Mem} {a i : Int} (hI : I n M) (hf : fam a = 71) : (-2147483648) ≤ mG M a i ∧ mG M a i ≤ 2147483647 := rdf hI (j := i) hf
theorem wr_Maround {n : Nat} {M M' : Mem} {a i x : Int} (hI : I n M) (hf : fam a = 71) (hx : (-2147483648) ≤ x ∧ x ≤ 2147483647) (hM : M' = mS M a i x) : I n M' := by
  refine hI.st hM (by rw [hf]; exact hx) (Or.inl ?_) (fun z => by
    exfalso
    rcases z with ⟨t, ht, ⟨e, _⟩ | ⟨e, e2⟩⟩ | ⟨e, e2⟩
    · rw [e, f_Ttexts ht] at hf; exact absurd hf (by decide)
    · rw [e, f_Told ht] at hf; exact absurd hf (by decide)
    · rw [e] at hf; exact absurd hf (by decide)) (fun z => by rcases z with z | z <;> (subst z; exact absurd hf (by decide)))
  refine Decidable.byContradiction fun z => ?_
  rw [fam_out (by omega)] at hf
  exact absurd hf (by decide)
theorem rd_MnewAct {n : Nat} {M : Mem} {a i : Int} (hI : I n M) (hf : fam a = 72) : (-1) ≤ mG M a i ∧ mG M a i ≤ 12 := rdf hI (j := i) hf
theorem wr_MnewAct {n : Nat} {M M' : Mem} {a i x : Int} (hI : I n M) (hf : fam a = 72) (hx : (-1) ≤ x ∧ x ≤ 12) (hM : M' = mS M a i x) : I n M' := by
  refine hI.st hM (by rw [hf]; exact hx) (Or.inl ?_) (fun z => by
    exfalso
    rcases z with ⟨t, ht, ⟨e, _⟩ | ⟨e, e2⟩⟩ | ⟨e, e2⟩
    · rw [e, f_Ttexts ht] at hf; exact absurd hf (by decide)
    · rw [e, f_Told ht] at hf; exact absurd hf (by decide)
    · rw [e] at hf; exact absurd hf (by decide)) (fun z => by rcases z with z | z <;> (subst z; exact absurd hf (by decide)))
  refine Decidable.byContradiction fun z => ?_
  rw [fam_out (by omega)] at hf
  exact absurd hf (by decide)
theorem rd_MnewOne {n : Nat} {M : Mem} {a i : Int} (hI : I n M) (hf : fam a = 73) : (-1) ≤ mG M a i ∧ mG M a i ≤ 3 := rdf hI (j := i) hf
theorem wr_MnewOne {n : Nat} {M M' : Mem} {a i x : Int} (hI : I n M) (hf : fam a = 73) (hx : (-1) ≤ x ∧ x ≤ 3) (hM : M' = mS M a i x) : I n M' := by
  refine hI.st hM (by rw [hf]; exact hx) (Or.inl ?_) (fun z => by
    exfalso
    rcases z with ⟨t, ht, ⟨e, _⟩ | ⟨e, e2⟩⟩ | ⟨e, e2⟩
    · rw [e, f_Ttexts ht] at hf; exact absurd hf (by decide)
    · rw [e, f_Told ht] at hf; exact absurd hf (by decide)
    · rw [e] at hf; exact absurd hf (by decide)) (fun z => by rcases z with z | z <;> (subst z; exact absurd hf (by decide)))
  refine Decidable.byContradiction fun z => ?_
  rw [fam_out (by omega)] at hf
  exact absurd hf (by decide)
theorem rd_MnewTwo {n : Nat} {M : Mem} {a i : Int} (hI : I n M) (hf : fam a = 74) : (-1) ≤ mG M a i ∧ mG M a i ≤ 3 := rdf hI (j := i) hf
theorem wr_MnewTwo {n : Nat} {M M' : Mem} {a i x : Int} (hI : I n M) (hf : fam a = 74) (hx : (-1) ≤ x ∧ x ≤ 3) (hM : M' = mS M a i x) : I n M' := by
  refine hI.st hM (by rw [hf]; exact hx) (Or.inl ?_) (fun z => by
    exfalso
    rcases z with ⟨t, ht, ⟨e, _⟩ | ⟨e, e2⟩⟩ | ⟨e, e2⟩
    · rw [e, f_Ttexts ht] at hf; exact absurd hf (by decide)
    · rw [e, f_Told ht] at hf; exact absurd hf (by decide)
    · rw [e] at hf; exact absurd hf (by decide)) (fun z => by rcases z with z | z <;> (subst z; exact absurd hf (by decide)))
  refine Decidable.byContradiction fun z => ?_
  rw [fam_out (by omega)] at hf
  exact absurd hf (by decide)
theorem rd_MnewThree {n : Nat} {M : Mem} {a i : Int} (hI : I n M) (hf : fam a = 75) : (-2147483648) ≤ mG M a i ∧ mG M a i ≤ 2147483647 := rdf hI (j := i) hf
theorem wr_MnewThree {n : Nat} {M M' : Mem} {a i x : Int} (hI : I n M) (hf : fam a = 75) (hx : (-2147483648) ≤ x ∧ x ≤ 2147483647) (hM : M' = mS M a i x) : I n M' := by
  refine hI.st hM (by rw [hf]; exact hx) (Or.inl ?_) (fun z => by
    exfalso
    rcases z with ⟨t, ht, ⟨e, _⟩ | ⟨e, e2⟩⟩ | ⟨e, e2⟩
    · rw [e, f_Ttexts ht] at hf; exact absurd hf (by decide)
    · rw [e, f_Told ht] at hf; exact absurd hf (by decide)
    · rw [e] at hf; exact absurd hf (by decide)) (fun z => by rcases z with z | z <;> (subst z; exact absurd hf (by decide)))
  refine Decidable.byContradiction fun z => ?_
  rw [fam_out (by omega)] at hf
  exact absurd hf (by decide)
theorem rd_Mready {n : Nat} {M : Mem} {a i : Int} (hI : I n M) (hf : fam a = 76) : 0 ≤ mG M a i ∧ mG M a i ≤ 1 := rdf hI (j := i) hf
theorem wr_Mready {n : Nat} {M M' : Mem} {a i x : Int} (hI : I n M) (hf : fam a = 76) (hx : 0 ≤ x ∧ x ≤ 1) (hM : M' = mS M a i x) : I n M' := by
  refine hI.st hM (by rw [hf]; exact hx) (Or.inl ?_) (fun z => by
    exfalso
    rcases z with ⟨t, ht, ⟨e, _⟩ | ⟨e, e2⟩⟩ | ⟨e, e2⟩
    · rw [e, f_Ttexts ht] at hf; exact absurd hf (by decide)
    · rw [e, f_Told ht] at hf; exact absurd hf (by decide)
    · rw [e] at hf; exact absurd hf (by decide)) (fun z => by rcases z with z | z <;> (subst z; exact absurd hf (by decide)))
  refine Decidable.byContradiction fun z => ?_
  rw [fam_out (by omega)] at hf
  exact absurd hf (by decide)
theorem rd_Mjoined {n : Nat} {M : Mem} {a i : Int} (hI : I n M) (hf : fam a = 77) : 0 ≤ mG M a i ∧ mG M a i ≤ 1 := rdf hI (j := i) hf
theorem wr_Mjoined {n : Nat} {M M' : Mem} {a i x : Int} (hI : I n M) (hf : fam a = 77) (hx : 0 ≤ x ∧ x ≤ 1) (hM : M' = mS M a i x) : I n M' := by
  refine hI.st hM (by rw [hf]; exact hx) (Or.inl ?_) (fun z => by
    exfalso
    rcases z with ⟨t, ht, ⟨e, _⟩ | ⟨e, e2⟩⟩ | ⟨e, e2⟩
    · rw [e, f_Ttexts ht] at hf; exact absurd hf (by decide)
    · rw [e, f_Told ht] at hf; exact absurd hf (by decide)
    · rw [e] at hf; exact absurd hf (by decide)) (fun z => by rcases z with z | z <;> (subst z; exact absurd hf (by decide)))
  refine Decidable.byContradiction fun z => ?_
  rw [fam_out (by omega)] at hf
  exact absurd hf (by decide)
theorem rd_MorderOf {n : Nat} {M : Mem} {a i : Int} (hI : I n M) (hf : fam a = 78) : 0 ≤ mG M a i ∧ mG M a i ≤ 5 := rdf hI (j := i) hf
theorem wr_MorderOf {n : Nat} {M M' : Mem} {a i x : Int} (hI : I n M) (hf : fam a = 78) (hx : 0 ≤ x ∧ x ≤ 5) (hM : M' = mS M a i x) : I n M' := by
  refine hI.st hM (by rw [hf]; exact hx) (Or.inl ?_) (fun z => by
    exfalso
    rcases z with ⟨t, ht, ⟨e, _⟩ | ⟨e, e2⟩⟩ | ⟨e, e2⟩
    · rw [e, f_Ttexts ht] at hf; exact absurd hf (by decide)
    · rw [e, f_Told ht] at hf; exact absurd hf (by decide)
    · rw [e] at hf; exact absurd hf (by decide)) (fun z => by rcases z with z | z <;> (subst z; exact absurd hf (by decide)))
  refine Decidable.byContradiction fun z => ?_
  rw [fam_out (by omega)] at hf
  exact absurd hf (by decide)
theorem rd_Mtogether {n : Nat} {M : Mem} {a i : Int} (hI : I n M) (hf : fam a = 79) : 0 ≤ mG M a i ∧ mG M a i ≤ 1 := rdf hI (j := i) hf
theorem wr_Mtogether {n : Nat} {M M' : Mem} {a i x : Int} (hI : I n M) (hf : fam a = 79) (hx : 0 ≤ x ∧ x ≤ 1) (hM : M' = mS M a i x) : I n M' := by
  refine hI.st hM (by rw [hf]; exact hx) (Or.inl ?_) (fun z => by
    exfalso
    rcases z with ⟨t, ht, ⟨e, _⟩ | ⟨e, e2⟩⟩ | ⟨e, e2⟩
    · rw [e, f_Ttexts ht] at hf; exact absurd hf (by decide)
    · rw [e, f_Told ht] at hf; exact absurd hf (by decide)
    · rw [e] at hf; exact absurd hf (by decide)) (fun z => by rcases z with z | z <;> (subst z; exact absurd hf (by decide)))
  refine Decidable.byContradiction fun z => ?_
  rw [fam_out (by omega)] at hf
  exact absurd hf (by decide)
theorem rd_Moften {n : Nat} {M : Mem} {a i : Int} (hI : I n M) (hf : fam a = 80) : (-2147483648) ≤ mG M a i ∧ mG M a i ≤ 2147483647 := rdf hI (j := i) hf
theorem wr_Moften {n : Nat} {M M' : Mem} {a i x : Int} (hI : I n M) (hf : fam a = 80) (hx : (-2147483648) ≤ x ∧ x ≤ 2147483647) (hM : M' = mS M a i x) : I n M' := by
  refine hI.st hM (by rw [hf]; exact hx) (Or.inl ?_) (fun z => by
    exfalso
    rcases z with ⟨t, ht, ⟨e, _⟩ | ⟨e, e2⟩⟩ | ⟨e, e2⟩
    · rw [e, f_Ttexts ht] at hf; exact absurd hf (by decide)
    · rw [e, f_Told ht] at hf; exact absurd hf (by decide)
    · rw [e] at hf; exact absurd hf (by decide)) (fun z => by rcases z with z | z <;> (subst z; exact absurd hf (by decide)))
  refine Decidable.byContradiction fun z => ?_
  rw [fam_out (by omega)] at hf
  exact absurd hf (by decide)
theorem rd_MfewWorlds {n : Nat} {M : Mem} {a i : Int} (hI : I n M) (hf : fam a = 81) : 0 ≤ mG M a i ∧ mG M a i ≤ 4095 := rdf hI (j := i) hf
theorem wr_MfewWorlds {n : Nat} {M M' : Mem} {a i x : Int} (hI : I n M) (hf : fam a = 81) (hx : 0 ≤ x ∧ x ≤ 4095) (hM : M' = mS M a i x) : I n M' := by
  refine hI.st hM (by rw [hf]; exact hx) (Or.inl ?_) (fun z => by
    exfalso
    rcases z with ⟨t, ht, ⟨e, _⟩ | ⟨e, e2⟩⟩ | ⟨e, e2⟩
    · rw [e, f_Ttexts ht] at hf; exact absurd hf (by decide)
    · rw [e, f_Told ht] at hf; exact absurd hf (by decide)
    · rw [e] at hf; exact absurd hf (by decide)) (fun z => by rcases z with z | z <;> (subst z; exact absurd hf (by decide)))
  refine Decidable.byContradiction fun z => ?_
  rw [fam_out (by omega)] at hf
  exact absurd hf (by decide)
theorem rd_Mdoes {n : Nat} {M : Mem} {a i : Int} (hI : I n M) (hf : fam a = 82) : 0 ≤ mG M a i ∧ mG M a i ≤ 1 := rdf hI (j := i) hf
theorem wr_Mdoes {n : Nat} {M M' : Mem} {a i x : Int} (hI : I n M) (hf : fam a = 82) (hx : 0 ≤ x ∧ x ≤ 1) (hM : M' = mS M a i x) : I n M' := by
  refine hI.st hM (by rw [hf]; exact hx) (Or.inl ?_) (fun z => by
    exfalso
    rcases z with ⟨t, ht, ⟨e, _⟩ | ⟨e, e2⟩⟩ | ⟨e, e2⟩
    · rw [e, f_Ttexts ht] at hf; exact absurd hf (by decide)
    · rw [e, f_Told ht] at hf; exact absurd hf (by decide)
    · rw [e] at hf; exact absurd hf (by decide)) (fun z => by rcases z with z | z <;> (subst z; exact absurd hf (by decide)))
  refine Decidable.byContradiction fun z => ?_
  rw [fam_out (by omega)] at hf
  exact absurd hf (by decide)
theorem rd_MdoesNow {n : Nat} {M : Mem} {a i : Int} (hI : I n M) (hf : fam a = 83) : 0 ≤ mG M a i ∧ mG M a i ≤ 1 := rdf hI (j := i) hf
theorem wr_MdoesNow {n : Nat} {M M' : Mem} {a i x : Int} (hI : I n M) (hf : fam a = 83) (hx : 0 ≤ x ∧ x ≤ 1) (hM : M' = mS M a i x) : I n M' := by
  refine hI.st hM (by rw [hf]; exact hx) (Or.inl ?_) (fun z => by
    exfalso
    rcases z with ⟨t, ht, ⟨e, _⟩ | ⟨e, e2⟩⟩ | ⟨e, e2⟩
    · rw [e, f_Ttexts ht] at hf; exact absurd hf (by decide)
    · rw [e, f_Told ht] at hf; exact absurd hf (by decide)
    · rw [e] at hf; exact absurd hf (by decide)) (fun z => by rcases z with z | z <;> (subst z; exact absurd hf (by decide)))
  refine Decidable.byContradiction fun z => ?_
  rw [fam_out (by omega)] at hf
  exact absurd hf (by decide)
theorem rd_Myes {n : Nat} {M : Mem} {a i : Int} (hI : I n M) (hf : fam a = 84) : 0 ≤ mG M a i ∧ mG M a i ≤ 65535 := rdf hI (j := i) hf
theorem wr_Myes {n : Nat} {M M' : Mem} {a i x : Int} (hI : I n M) (hf : fam a = 84) (hx : 0 ≤ x ∧ x ≤ 65535) (hM : M' = mS M a i x) : I n M' := by
  refine hI.st hM (by rw [hf]; exact hx) (Or.inl ?_) (fun z => by
    exfalso
    rcases z with ⟨t, ht, ⟨e, _⟩ | ⟨e, e2⟩⟩ | ⟨e, e2⟩
    · rw [e, f_Ttexts ht] at hf; exact absurd hf (by decide)
    · rw [e, f_Told ht] at hf; exact absurd hf (by decide)
    · rw [e] at hf; exact absurd hf (by decide)) (fun z => by rcases z with z | z <;> (subst z; exact absurd hf (by decide)))
  refine Decidable.byContradiction fun z => ?_
  rw [fam_out (by omega)] at hf
  exact absurd hf (by decide)
theorem rd_Mkept {n : Nat} {M : Mem} {a i : Int} (hI : I n M) (hf : fam a = 85) : 0 ≤ mG M a i ∧ mG M a i ≤ 1 := rdf hI (j := i) hf
theorem wr_Mkept {n : Nat} {M M' : Mem} {a i x : Int} (hI : I n M) (hf : fam a = 85) (hx : 0 ≤ x ∧ x ≤ 1) (hK : KI M') (hM : M' = mS M a i x) : I n M' := by
  refine hI.st hM (by rw [hf]; exact hx) (Or.inl ?_) (fun z => by
    exfalso
    rcases z with ⟨t, ht, ⟨e, _⟩ | ⟨e, e2⟩⟩ | ⟨e, e2⟩
    · rw [e, f_Ttexts ht] at hf; exact absurd hf (by decide)
    · rw [e, f_Told ht] at hf; exact absurd hf (by decide)
    · rw [e] at hf; exact absurd hf (by decide)) (fun _ => hK)
  refine Decidable.byContradiction fun z => ?_
  rw [fam_out (by omega)] at hf
  exact absurd hf (by decide)
