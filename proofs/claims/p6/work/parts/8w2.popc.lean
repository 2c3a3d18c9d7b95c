theorem pc8 {z : Nat} (t1 : z / 16 ≤ 4) (t2 : z % 16 ≤ 4) : pcC z ≤ 8 := by
  unfold pcC
  have c : z / 16 = 0 ∨ z / 16 = 1 ∨ z / 16 = 2 ∨ z / 16 = 3 ∨ z / 16 = 4 := by omega
  rcases c with c | c | c | c | c <;> omega
/-- how many of the first N are so -/
def ctn (f : Nat → Bool) : Nat → Nat
  | 0 => 0
  | n + 1 => ctn f n + (f n).toNat
theorem ctn_8 (f : Nat → Bool) (k : Nat) : ctn f (8 * k + 8) = ctn f (8 * k) + ((f (8 * k)).toNat + (f (8 * k + 1)).toNat + (f (8 * k + 2)).toNat + (f (8 * k + 3)).toNat + (f (8 * k + 4)).toNat + (f (8 * k + 5)).toNat + (f (8 * k + 6)).toNat + (f (8 * k + 7)).toNat) := by
  show ctn f (8 * k) + _ + _ + _ + _ + _ + _ + _ + _ = _
  omega
theorem by_bit (x k i : Nat) (h : i < 8) : (by8 x k).testBit i = x.testBit (8 * k + i) := by
  unfold by8
  rw [Nat.testBit_mod_two_pow, Nat.testBit_div_two_pow, decide_eq_true h, Nat.add_comm i]; rfl
theorem by_cn (x k : Nat) : pcC (pcB (pcA (by8 x k))) + ctn (fun b => x.testBit b) (8 * k) = ctn (fun b => x.testBit b) (8 * k + 8) := by
  rw [ctn_8, (pcA_b _ (by_lt x k)).2.2.2.2, by_bit x k 0 (by decide), by_bit x k 1 (by decide), by_bit x k 2 (by decide), by_bit x k 3 (by decide), by_bit x k 4 (by decide), by_bit x k 5 (by decide), by_bit x k 6 (by decide), by_bit x k 7 (by decide)]
  rw [Nat.add_zero]; omega
/-- the whole of it -/
theorem popc {x y1 y2 y3 : Nat} (h : x < 18446744073709551616) (h1 : y1 = x - ((x >>> 1) &&& 6148914691236517205)) (h2 : y2 = (y1 &&& 3689348814741910323) + ((y1 >>> 2) &&& 3689348814741910323)) (h3 : y3 = (y2 + (y2 >>> 4)) &&& 1085102592571150095) : (x >>> 1) &&& 6148914691236517205 ≤ x ∧ y2 < 18446744073709551616 ∧ y2 + (y2 >>> 4) < 18446744073709551616 ∧ (y3 + y3 / 256 + (y3 + y3 / 256) / 65536 + (y3 + y3 / 256 + (y3 + y3 / 256) / 65536) / 4294967296) % 128 = ctn (fun b => x.testBit b) 64 ∧ y3 + y3 / 256 + (y3 + y3 / 256) / 65536 + (y3 + y3 / 256 + (y3 + y3 / 256) / 65536) / 4294967296 < 18446744073709551616 := by
  obtain ⟨a1, a2⟩ := st_1 h
  have b : ∀ k, _ := fun k => pcA_b _ (by_lt x k)
  rw [a1] at h1
  have c2 := st_2 (g := fun k => pcA (by8 x k)) (fun k _ => (b k).2.1)
  rw [← h1, ← h2] at c2
  obtain ⟨c3, c4⟩ := st_3 (e := fun k => pcB (pcA (by8 x k))) (fun k _ => ⟨(b k).2.2.1, (b k).2.2.2.1⟩)
  rw [← c2] at c3 c4
  rw [← h3] at c3
  obtain ⟨c5, c6⟩ := st_4 (p := fun k => pcC (pcB (pcA (by8 x k)))) (fun k _ => by
    have t1 := (b k).2.2.1
    have t2 := (b k).2.2.2.1
    show pcC (pcB (pcA (by8 x k))) ≤ 8
    exact pc8 t1 t2)
  rw [← c3] at c5 c6
  refine ⟨a2, by omega, c4, ?_, c6⟩
  rw [c5]
  have d0 := by_cn x 0
  have d1 := by_cn x 1
  have d2 := by_cn x 2
  have d3 := by_cn x 3
  have d4 := by_cn x 4
  have d5 := by_cn x 5
  have d6 := by_cn x 6
  have d7 := by_cn x 7
  simp only [Nat.mul_zero, Nat.reduceMul, Nat.reduceAdd] at d0 d1 d2 d3 d4 d5 d6 d7
  have e0 : ctn (fun b => x.testBit b) 0 = 0 := rfl
  omega
theorem ctn_congr {f g : Nat → Bool} : ∀ n : Nat, (∀ k, k < n → f k = g k) → ctn f n = ctn g n := by
  intro n
  induction n with
  | zero => intro _; rfl
  | succ n ih =>
    intro h
    show ctn f n + (f n).toNat = ctn g n + (g n).toNat
    rw [ih (fun k hk => h k (by omega)), h n (by omega)]
theorem ctn_le (f : Nat → Bool) : ∀ n : Nat, ctn f n ≤ n := by
  intro n
  induction n with
  | zero => exact Nat.le_refl 0
  | succ n ih =>
    show ctn f n + (f n).toNat ≤ n + 1
    have := Bool.toNat_le (f n)
    omega
theorem q_bitCount (x : Int) (M : Mem) : pw (mJ13_bitCount_95d88 x M) (fun q => q.2 = M ∧ q.1 = ((ctn (fun b => lb x b) 64 : Nat) : Int)) := by
  unfold mJ13_bitCount_95d88
  refine p_some (fun b9 h9 => p_some (fun b23 h23 => p_some (fun b33 h33 => p_some (fun b47 h47 => p_some (fun b54 h54 => p_ret ⟨rfl, ?_⟩)))))
  show iand (l2i b54) 127 = _
  rw [U_l2i]
  have l1 : ∀ y, U (lus y 1) = U y >>> 1 := fun y => U_lus y 1 1 (by decide +kernel) (by decide +kernel)
  have l2 : ∀ y, U (lus y 2) = U y >>> 2 := fun y => U_lus y 2 2 (by decide +kernel) (by decide +kernel)
  have l4 : ∀ y, U (lus y 4) = U y >>> 4 := fun y => U_lus y 4 4 (by decide +kernel) (by decide +kernel)
  have l8 : ∀ y, U (lus y 8) = U y / 256 := fun y => (U_lus y 8 8 (by decide +kernel) (by decide +kernel)).trans (Nat.shiftRight_eq_div_pow _ 8)
  have l16 : ∀ y, U (lus y 16) = U y / 65536 := fun y => (U_lus y 16 16 (by decide +kernel) (by decide +kernel)).trans (Nat.shiftRight_eq_div_pow _ 16)
  have l32 : ∀ y, U (lus y 32) = U y / 4294967296 := fun y => (U_lus y 32 32 (by decide +kernel) (by decide +kernel)).trans (Nat.shiftRight_eq_div_pow _ 32)
  have m1 : U 6148914691236517205 = 6148914691236517205 := by decide +kernel
  have m2 : U 3689348814741910323 = 3689348814741910323 := by decide +kernel
  have m4 : U 1085102592571150095 = 1085102592571150095 := by decide +kernel
  obtain ⟨p1, p2, p3, p4, p5⟩ := popc (U_lt x) rfl rfl rfl
  have hx := U_lt x
  have u9 : U b9 = U x - ((U x >>> 1) &&& 6148914691236517205) := by
    rw [h9, U_sub, U_and, l1, m1]
    omega
  have u23 : U b23 = (U b9 &&& 3689348814741910323) + ((U b9 >>> 2) &&& 3689348814741910323) := by
    rw [h23, U_add, U_and, U_and, l2, m2, u9]
    exact Nat.mod_eq_of_lt p2
  rw [← u9, ← u23] at p3 p4 p5
  have u33 : U b33 = (U b23 + (U b23 >>> 4)) &&& 1085102592571150095 := by
    rw [h33, U_and, U_add, l4, m4, Nat.mod_eq_of_lt p3]
  rw [← u33] at p4 p5
  have u40 : U (wL (b33 + lus b33 8)) = U b33 + U b33 / 256 := by
    rw [U_add, l8]; omega
  have u47 : U b47 = U b33 + U b33 / 256 + (U b33 + U b33 / 256) / 65536 := by
    rw [h47, U_add, l16, u40]; omega
  have u54 : U b54 = U b47 + U b47 / 4294967296 := by
    rw [h54, U_add, l32, u47]; omega
  rw [u54, u47, p4]; rfl
