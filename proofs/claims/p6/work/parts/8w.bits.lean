/-! ===== how many bits are set ===== -/
/-- the bits of a long, as a number -/
def U (x : Int) : Nat := (Int64.ofInt x).toBitVec.toNat
theorem U_lt (x : Int) : U x < 18446744073709551616 := (Int64.ofInt x).toBitVec.isLt
theorem lb_U (x : Int) (b : Nat) : lb x b = (U x).testBit b := rfl
theorem U_and (x y : Int) : U (land x y) = U x &&& U y := by
  unfold U land
  rw [Int64.ofInt_toInt, Int64.toBitVec_and, BitVec.toNat_and]
theorem U_add (x y : Int) : U (wL (x + y)) = (U x + U y) % 18446744073709551616 := by
  unfold U
  rw [ofInt_wL, Int64.ofInt_add, Int64.toBitVec_add, BitVec.toNat_add]
theorem U_sub (x y : Int) : U (wL (x - y)) = (18446744073709551616 - U y + U x) % 18446744073709551616 := by
  unfold U
  rw [ofInt_wL, Int64.ofInt_sub, Int64.toBitVec_sub, BitVec.toNat_sub]
theorem U_lus (x : Int) (n : Nat) (v : UInt64) (hv : ((Int32.ofInt (n : Int)).toInt64.toUInt64 &&& Int64.toUInt64 63) = v) (hn : v.toNat % 64 = n) : U (lus x (n : Int)) = U x >>> n := by
  unfold U lus
  rw [Int64.ofInt_toInt, hv]
  show ((Int64.ofInt x).toUInt64 >>> v).toNat = _
  rw [UInt64.toNat_shiftRight, hn]; rfl
theorem U_l2i (x : Int) : iand (l2i x) 127 = ((U x % 128 : Nat) : Int) := by
  unfold iand l2i
  rw [Int32.ofInt_toInt]
  have e : ((Int64.ofInt x).toInt32 &&& Int32.ofInt 127).toBitVec.toNat = U x % 128 := by
    rw [Int32.toBitVec_and, BitVec.toNat_and, Int64.toBitVec_toInt32, BitVec.signExtend_eq_setWidth_of_le _ (by decide), BitVec.toNat_setWidth]
    show (U x % 2 ^ 32) &&& (2 ^ 7 - 1) = _
    rw [Nat.and_two_pow_sub_one_eq_mod]
    omega
  rw [toInt_small _ (by rw [e]; omega), e]
def S8 (f : Nat → Nat) : Nat := f 0 + 256 * f 1 + 65536 * f 2 + 16777216 * f 3 + 4294967296 * f 4 + 1099511627776 * f 5 + 281474976710656 * f 6 + 72057594037927936 * f 7
def by8 (x k : Nat) : Nat := x / 2 ^ (8 * k) % 2 ^ 8
theorem le8 {P : Nat → Prop} (h : P 0 ∧ P 1 ∧ P 2 ∧ P 3 ∧ P 4 ∧ P 5 ∧ P 6 ∧ P 7) : ∀ k, k < 8 → P k := by
  intro k hk
  obtain ⟨h0, h1, h2, h3, h4, h5, h6, h7⟩ := h
  have : k = 0 ∨ k = 1 ∨ k = 2 ∨ k = 3 ∨ k = 4 ∨ k = 5 ∨ k = 6 ∨ k = 7 := by omega
  rcases this with e | e | e | e | e | e | e | e <;> subst e <;> assumption
theorem S8_by {x : Nat} (h : x < 18446744073709551616) : S8 (by8 x) = x := by
  unfold S8 by8
  simp only [Nat.mul_zero, Nat.reduceMul, Nat.reducePow, Nat.div_one]
  omega
theorem by_S8 {f : Nat → Nat} (h : ∀ k, k < 8 → f k < 256) : ∀ k, k < 8 → by8 (S8 f) k = f k := by
  have h0 := h 0 (by decide)
  have h1 := h 1 (by decide)
  have h2 := h 2 (by decide)
  have h3 := h 3 (by decide)
  have h4 := h 4 (by decide)
  have h5 := h 5 (by decide)
  have h6 := h 6 (by decide)
  have h7 := h 7 (by decide)
  unfold S8 by8
  refine le8 ?_
  simp only [Nat.mul_zero, Nat.reduceMul, Nat.reducePow, Nat.div_one]
  refine ⟨by omega, by omega, by omega, by omega, by omega, by omega, by omega, by omega⟩
theorem by_and (x m k : Nat) : by8 (x &&& m) k = by8 x k &&& by8 m k := by
  unfold by8; rw [Nat.and_div_two_pow, Nat.and_mod_two_pow]
theorem by_lt (x k : Nat) : by8 x k < 256 := Nat.mod_lt _ (by decide)
theorem S8_congr {f g : Nat → Nat} (h : ∀ k, k < 8 → f k = g k) : S8 f = S8 g := by
  unfold S8
  rw [h 0 (by decide), h 1 (by decide), h 2 (by decide), h 3 (by decide), h 4 (by decide), h 5 (by decide), h 6 (by decide), h 7 (by decide)]
theorem by_shr {x m k n : Nat} (hm : m < 2 ^ (8 - n)) : by8 (x >>> n) k &&& m = (by8 x k >>> n) &&& m := by
  refine Nat.eq_of_testBit_eq (fun i => ?_)
  unfold by8
  rw [Nat.testBit_and, Nat.testBit_and, Nat.testBit_shiftRight, Nat.testBit_mod_two_pow, Nat.testBit_mod_two_pow, Nat.testBit_div_two_pow, Nat.testBit_div_two_pow, Nat.testBit_shiftRight]
  by_cases h : i < 8 - n
  · rw [decide_eq_true (show i < 8 by omega), decide_eq_true (show n + i < 8 by omega), show n + (i + 8 * k) = n + i + 8 * k by omega]
  · rw [Nat.testBit_lt_two_pow (Nat.lt_of_lt_of_le hm (Nat.pow_le_pow_right (by decide) (show 8 - n ≤ i by omega)))]
    simp
def pcA (b : Nat) : Nat := b - ((b >>> 1) &&& 85)
def pcB (d : Nat) : Nat := (d &&& 51) + ((d >>> 2) &&& 51)
def pcC (e : Nat) : Nat := (e + e / 16) % 16
theorem pcA_b : ∀ b : Nat, b < 256 → (b >>> 1) &&& 85 ≤ b ∧ pcA b < 256 ∧ pcB (pcA b) / 16 ≤ 4 ∧ pcB (pcA b) % 16 ≤ 4 ∧ pcC (pcB (pcA b)) = (b.testBit 0).toNat + (b.testBit 1).toNat + (b.testBit 2).toNat + (b.testBit 3).toNat + (b.testBit 4).toNat + (b.testBit 5).toNat + (b.testBit 6).toNat + (b.testBit 7).toNat := by decide +kernel
theorem by_m1 : ∀ k, k < 8 → by8 6148914691236517205 k = 85 := by decide +kernel
theorem by_m2 : ∀ k, k < 8 → by8 3689348814741910323 k = 51 := by decide +kernel
theorem by_m4 : ∀ k, k < 8 → by8 1085102592571150095 k = 15 := by decide +kernel
theorem st_1 {x : Nat} (h : x < 18446744073709551616) : x - ((x >>> 1) &&& 6148914691236517205) = S8 (fun k => pcA (by8 x k)) ∧ (x >>> 1) &&& 6148914691236517205 ≤ x := by
  have hc : (x >>> 1) &&& 6148914691236517205 < 18446744073709551616 := Nat.lt_of_le_of_lt Nat.and_le_right (by decide)
  have e1 := S8_by hc
  have e2 : S8 (by8 ((x >>> 1) &&& 6148914691236517205)) = S8 (fun k => (by8 x k >>> 1) &&& 85) := S8_congr (fun k hk => by rw [by_and, by_m1 k hk, by_shr (by decide)])
  have e3 := S8_by h
  rw [e2] at e1
  have b : ∀ k, (by8 x k >>> 1) &&& 85 ≤ by8 x k := fun k => (pcA_b _ (by_lt x k)).1
  have b0 := b 0
  have b1 := b 1
  have b2 := b 2
  have b3 := b 3
  have b4 := b 4
  have b5 := b 5
  have b6 := b 6
  have b7 := b 7
  unfold S8 at e1 e3 ⊢
  unfold pcA
  dsimp only at e1 ⊢
  generalize (by8 x 0 >>> 1) &&& 85 = c0 at b0 e1 ⊢
  generalize (by8 x 1 >>> 1) &&& 85 = c1 at b1 e1 ⊢
  generalize (by8 x 2 >>> 1) &&& 85 = c2 at b2 e1 ⊢
  generalize (by8 x 3 >>> 1) &&& 85 = c3 at b3 e1 ⊢
  generalize (by8 x 4 >>> 1) &&& 85 = c4 at b4 e1 ⊢
  generalize (by8 x 5 >>> 1) &&& 85 = c5 at b5 e1 ⊢
  generalize (by8 x 6 >>> 1) &&& 85 = c6 at b6 e1 ⊢
  generalize (by8 x 7 >>> 1) &&& 85 = c7 at b7 e1 ⊢
  generalize (x >>> 1) &&& 6148914691236517205 = c at e1 ⊢
  obtain ⟨d0, h0⟩ := Nat.exists_eq_add_of_le b0
  obtain ⟨d1, h1⟩ := Nat.exists_eq_add_of_le b1
  obtain ⟨d2, h2⟩ := Nat.exists_eq_add_of_le b2
  obtain ⟨d3, h3⟩ := Nat.exists_eq_add_of_le b3
  obtain ⟨d4, h4⟩ := Nat.exists_eq_add_of_le b4
  obtain ⟨d5, h5⟩ := Nat.exists_eq_add_of_le b5
  obtain ⟨d6, h6⟩ := Nat.exists_eq_add_of_le b6
  obtain ⟨d7, h7⟩ := Nat.exists_eq_add_of_le b7
  rw [h0, h1, h2, h3, h4, h5, h6, h7] at e3 ⊢
  simp only [Nat.add_sub_cancel_left]
  clear b b0 b1 b2 b3 b4 b5 b6 b7 h0 h1 h2 h3 h4 h5 h6 h7 e2 hc
  have e : x = c + (d0 + 256 * d1 + 65536 * d2 + 16777216 * d3 + 4294967296 * d4 + 1099511627776 * d5 + 281474976710656 * d6 + 72057594037927936 * d7) := by omega
  rw [e]
  exact ⟨Nat.add_sub_cancel_left _ _, Nat.le_add_right _ _⟩
theorem st_2 {g : Nat → Nat} (h : ∀ k, k < 8 → g k < 256) : (S8 g &&& 3689348814741910323) + ((S8 g >>> 2) &&& 3689348814741910323) = S8 (fun k => pcB (g k)) := by
  have e1 := S8_by (x := S8 g &&& 3689348814741910323) (Nat.lt_of_le_of_lt Nat.and_le_right (by decide))
  have e2 := S8_by (x := (S8 g >>> 2) &&& 3689348814741910323) (Nat.lt_of_le_of_lt Nat.and_le_right (by decide))
  have e3 : S8 (by8 (S8 g &&& 3689348814741910323)) = S8 (fun k => g k &&& 51) := S8_congr (fun k hk => by rw [by_and, by_m2 k hk, by_S8 h k hk])
  have e4 : S8 (by8 ((S8 g >>> 2) &&& 3689348814741910323)) = S8 (fun k => (g k >>> 2) &&& 51) := S8_congr (fun k hk => by rw [by_and, by_m2 k hk, by_shr (by decide), by_S8 h k hk])
  rw [← e1, ← e2, e3, e4]
  unfold S8 pcB
  dsimp only
  omega
theorem st_3 {e : Nat → Nat} (h : ∀ k, k < 8 → e k / 16 ≤ 4 ∧ e k % 16 ≤ 4) : (S8 e + (S8 e >>> 4)) &&& 1085102592571150095 = S8 (fun k => pcC (e k)) ∧ S8 e + (S8 e >>> 4) < 18446744073709551616 := by
  have e1 := S8_by (x := (S8 e + (S8 e >>> 4)) &&& 1085102592571150095) (Nat.lt_of_le_of_lt Nat.and_le_right (by decide))
  have hs : S8 e + (S8 e >>> 4) = S8 (fun k => if k = 7 then e 7 + e 7 / 16 else e k + e k / 16 + 16 * (e (k + 1) % 16)) := by
    rw [Nat.shiftRight_eq_div_pow]
    unfold S8
    simp only [Nat.reducePow, Nat.reduceEqDiff, if_false, if_true, Nat.reduceAdd]
    omega
  have g : ∀ k, k < 8 → (if k = 7 then e 7 + e 7 / 16 else e k + e k / 16 + 16 * (e (k + 1) % 16)) < 256 ∧ (if k = 7 then e 7 + e 7 / 16 else e k + e k / 16 + 16 * (e (k + 1) % 16)) % 16 = pcC (e k) := fun k hk => by
    unfold pcC
    have := h k hk
    split
    · rename_i e7; subst e7; omega
    · have := h (k + 1) (by omega); omega
  have e3 : S8 (by8 ((S8 e + (S8 e >>> 4)) &&& 1085102592571150095)) = S8 (fun k => pcC (e k)) := S8_congr (fun k hk => by
    rw [by_and, by_m4 k hk, hs, by_S8 (fun k hk => (g k hk).1) k hk]
    show _ &&& (2 ^ 4 - 1) = _
    rw [Nat.and_two_pow_sub_one_eq_mod]
    exact (g k hk).2)
  refine ⟨by rw [← e1, e3], ?_⟩
  rw [Nat.shiftRight_eq_div_pow]
  have b0 := h 0 (by decide)
  have b1 := h 1 (by decide)
  have b2 := h 2 (by decide)
  have b3 := h 3 (by decide)
  have b4 := h 4 (by decide)
  have b5 := h 5 (by decide)
  have b6 := h 6 (by decide)
  have b7 := h 7 (by decide)
  unfold S8
  simp only [Nat.reducePow]
  omega
theorem st_4 {p : Nat → Nat} (h : ∀ k, k < 8 → p k ≤ 8) : (S8 p + S8 p / 256 + (S8 p + S8 p / 256) / 65536 + (S8 p + S8 p / 256 + (S8 p + S8 p / 256) / 65536) / 4294967296) % 128 = p 0 + p 1 + p 2 + p 3 + p 4 + p 5 + p 6 + p 7 ∧ S8 p + S8 p / 256 + (S8 p + S8 p / 256) / 65536 + (S8 p + S8 p / 256 + (S8 p + S8 p / 256) / 65536) / 4294967296 < 18446744073709551616 := by
  have b0 := h 0 (by decide)
  have b1 := h 1 (by decide)
  have b2 := h 2 (by decide)
  have b3 := h 3 (by decide)
  have b4 := h 4 (by decide)
  have b5 := h 5 (by decide)
  have b6 := h 6 (by decide)
  have b7 := h 7 (by decide)
  have e1 : S8 p / 256 = p 1 + 256 * p 2 + 65536 * p 3 + 16777216 * p 4 + 4294967296 * p 5 + 1099511627776 * p 6 + 281474976710656 * p 7 := by unfold S8; omega
  have e2 : (S8 p + S8 p / 256) / 65536 = (p 2 + p 3) + 256 * (p 3 + p 4) + 65536 * (p 4 + p 5) + 16777216 * (p 5 + p 6) + 4294967296 * (p 6 + p 7) + 1099511627776 * p 7 := by rw [e1]; unfold S8; omega
  have e3 : (S8 p + S8 p / 256 + (S8 p + S8 p / 256) / 65536) / 4294967296 = (p 4 + p 5 + p 6 + p 7) + 256 * (p 5 + p 6 + p 7) + 65536 * (p 6 + p 7) + 16777216 * p 7 := by rw [e2, e1]; unfold S8; omega
  rw [e3, e2, e1]
  unfold S8
  omega
