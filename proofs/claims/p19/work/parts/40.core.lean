/-! ===== a function's run that ends well: wp ===== -/
def wp {α : Type} (x : Option α) (Q : α → Prop) : Prop := ∃ a, x = some a ∧ Q a
/-- an equation that arithmetic doesn't look at -/
def Is (x y : Int) : Prop := x = y
theorem Is.e {x y : Int} (h : Is x y) : x = y := h
theorem Is.tr {x y : Int} {P : Int → Prop} (h : Is x y) (r : P x) : P y := by rw [← h.e]; exact r
section WP
variable {α β : Type} {Q : β → Prop} {M : Mem}
theorem w_ret {a : β} (h : Q a) : wp (some a) Q := ⟨a, rfl, h⟩
theorem w_if {P : Prop} [Decidable P] {a b : Option β} (h1 : P → wp a Q) (h2 : ¬ P → wp b Q) : wp (if P then a else b) Q := by
  by_cases h : P
  · rw [if_pos h]; exact h1 h
  · rw [if_neg h]; exact h2 h
theorem w_mono {x : Option β} {P : β → Prop} (h : wp x P) (k : ∀ a, P a → Q a) : wp x Q := by
  obtain ⟨a, e, h⟩ := h
  exact ⟨a, e, k a h⟩
theorem w_and {x : Option β} {P : β → Prop} (h : wp x P) (k : ∀ a, x = some a → Q a) : wp x (fun a => P a ∧ Q a) := by
  obtain ⟨a, e, h⟩ := h
  exact ⟨a, e, h, k a e⟩
theorem w_so {x : Option β} (h : wp x Q) {a : β} (e : x = some a) : Q a := by
  obtain ⟨b, e2, h⟩ := h
  rw [e2] at e
  obtain rfl := Option.some.inj e
  exact h
theorem w_call {x : Option (Int × Mem)} {f : Int × Mem → Option β} {P : Int × Mem → Prop} (h : wp x P) (k : ∀ r M', P (r, M') → wp (f (r, M')) Q) : wp (x.bind f) Q := by
  obtain ⟨⟨r, M'⟩, e, h⟩ := h
  rw [e]; exact k r M' h
theorem w_some {x : α} {f : α → Option β} (k : ∀ v, v = x → wp (f v) Q) : wp ((some x).bind f) Q := k x rfl
theorem w_gF {c j : Nat} {ji a : Int} {f : Int → Option β} (e : ((j : Nat) : Int) = ji) (hk : (mK M a).1 = c) (k : ∀ v, Is (mG M a ji) v → wp (f v) Q) : wp ((gF c j M a).bind f) Q := by
  subst e; unfold gF; rw [if_pos hk]; exact k _ rfl
/-- a field that holds what is known -/
theorem w_gFc {c j : Nat} {ji a r : Int} {f : Int → Option β} (e : ((j : Nat) : Int) = ji) (hk : (mK M a).1 = c) (hc : mG M a ji = r) (k : wp (f r) Q) : wp ((gF c j M a).bind f) Q := by
  subst e; unfold gF; rw [if_pos hk, hc]; exact k
theorem w_gK {c : Nat} {a : Int} {f : Unit → Option β} (hk : (mK M a).1 = c) (k : wp (f ()) Q) : wp ((gK c M a).bind f) Q := by
  unfold gK; rw [if_pos hk]; exact k
theorem w_pF {c j : Nat} {ji a x : Int} {f : Mem → Option β} (e : ((j : Nat) : Int) = ji) (hk : (mK M a).1 = c) (k : ∀ M', M' = mS M a ji x → wp (f M') Q) : wp ((pF c j M a x).bind f) Q := by
  subst e; unfold pF; rw [if_pos hk]; exact k _ rfl
theorem w_pZ {c j : Nat} {ji a x : Int} {f : Mem → Option β} (e : ((j : Nat) : Int) = ji) (hk : (mK M a).1 = c) (hx : x = 0 ∨ x = 1) (k : ∀ M', M' = mS M a ji x → wp (f M') Q) : wp ((pZ c j M a x).bind f) Q := by
  subst e; unfold pZ; rw [if_pos ⟨hk, hx⟩]; exact k _ rfl
theorem w_aG {t n : Nat} {a i : Int} {f : Int → Option β} (hk : mK M a = (t, n)) (h0 : 0 ≤ i) (h1 : i < (n : Int)) (k : ∀ v, Is (mG M a i) v → wp (f v) Q) : wp ((aG t M a i).bind f) Q := by
  unfold aG; rw [if_pos ⟨by rw [hk], h0, by rw [hk]; exact h1⟩]; exact k _ rfl
theorem w_aS {t n : Nat} {a i x : Int} {f : Mem → Option β} (hk : mK M a = (t, n)) (h0 : 0 ≤ i) (h1 : i < (n : Int)) (k : ∀ M', M' = mS M a i x → wp (f M') Q) : wp ((aS t M a i x).bind f) Q := by
  unfold aS; rw [if_pos ⟨by rw [hk], h0, by rw [hk]; exact h1⟩]; exact k _ rfl
theorem w_aSZ {t n : Nat} {a i x : Int} {f : Mem → Option β} (hk : mK M a = (t, n)) (h0 : 0 ≤ i) (h1 : i < (n : Int)) (hx : x = 0 ∨ x = 1) (k : ∀ M', M' = mS M a i x → wp (f M') Q) : wp ((aSZ t M a i x).bind f) Q := by
  unfold aSZ; rw [if_pos ⟨by rw [hk], h0, by rw [hk]; exact h1, hx⟩]; exact k _ rfl
theorem w_aSB {t n : Nat} {a i x : Int} {f : Mem → Option β} (hk : mK M a = (t, n)) (h0 : 0 ≤ i) (h1 : i < (n : Int)) (hx : -128 ≤ x ∧ x < 128) (k : ∀ M', M' = mS M a i x → wp (f M') Q) : wp ((aSB t M a i x).bind f) Q := by
  unfold aSB; rw [if_pos ⟨by rw [hk], h0, by rw [hk]; exact h1, hx⟩]; exact k _ rfl
theorem w_aSR {t n : Nat} {a i x : Int} {f : Mem → Option β} (hk : mK M a = (t, n)) (h0 : 0 ≤ i) (h1 : i < (n : Int)) (hx : x = 0 ∨ (mK M x).1 = acl t) (k : ∀ M', M' = mS M a i x → wp (f M') Q) : wp ((aSR t M a i x).bind f) Q := by
  unfold aSR; rw [if_pos ⟨by rw [hk], h0, by rw [hk]; exact h1, hx⟩]; exact k _ rfl
theorem w_aL {t n : Nat} {a : Int} {f : Int → Option β} (hk : mK M a = (t, n)) (k : ∀ v, v = (n : Int) → wp (f v) Q) : wp ((aL t M a).bind f) Q := by
  unfold aL; rw [if_pos (by rw [hk])]; exact k _ (by rw [hk])
theorem w_zR {x : Int} {f : Int → Option β} (hx : x = 0 ∨ x = 1) (k : ∀ v, v = x → wp (f v) Q) : wp ((zR x).bind f) Q := by
  unfold zR; rw [if_pos hx]; exact k _ rfl
theorem w_dQ {x y : Int} {f : Int → Option β} (hy : ¬ y = 0) (k : ∀ v, v = idiv x y → wp (f v) Q) : wp ((dQ x y).bind f) Q := by
  unfold dQ; rw [if_neg hy]; exact k _ rfl
theorem w_dM {x y : Int} {f : Int → Option β} (hy : ¬ y = 0) (k : ∀ v, v = irem x y → wp (f v) Q) : wp ((dM x y).bind f) Q := by
  unfold dM; rw [if_neg hy]; exact k _ rfl
theorem w_tG {L : List Int} {i : Int} {f : Int → Option β} (h0 : 0 ≤ i) (h1 : i < (L.length : Int)) (k : ∀ v, v = L.getD i.toNat 0 → wp (f v) Q) : wp ((tG L i).bind f) Q := by
  unfold tG; rw [if_pos ⟨h0, h1⟩]; exact k _ rfl
theorem w_sLn {w : Int} {f : Int → Option β} (h : -113 ≤ w ∧ w ≤ -100) (k : ∀ v, v = ((sLen.getD (-100 - w).toNat 0 : Nat) : Int) → wp (f v) Q) : wp ((sLn w).bind f) Q := by
  unfold sLn; rw [if_pos h]; exact k _ rfl
theorem w_sAt {w i : Int} {f : Int → Option β} (h : -113 ≤ w ∧ w ≤ -100) (h0 : 0 ≤ i) (h1 : i < ((sLen.getD (-100 - w).toNat 0 : Nat) : Int)) (k : ∀ v, v = ((sByt.getD (-100 - w).toNat []).getD i.toNat 0).toInt → wp (f v) Q) : wp ((sAt w i).bind f) Q := by
  unfold sAt; rw [if_pos ⟨h, h0, h1⟩]; exact k _ rfl
theorem w_nA {t B : Nat} {n : Int} {f : Int × Mem → Option β} (h : 0 ≤ n ∧ n ≤ (B : Int)) (k : ∀ v M', v = (mN M : Int) + 1 → M' = mNew M (t, n.toNat) → wp (f (v, M')) Q) : wp ((nA t B M n).bind f) Q := by
  unfold nA; rw [if_pos h]; exact k _ _ rfl rfl
theorem w_nO {c : Nat} {f : Int × Mem → Option β} (k : ∀ v M', v = (mN M : Int) + 1 → M' = mNew M (c, 0) → wp (f (v, M')) Q) : wp ((some (nO c M)).bind f) Q := k _ _ rfl rfl
theorem w_aC {t n0 n1 : Nat} {a0 sp a dp n : Int} {f : Mem → Option β} (h0 : mK M a0 = (t, n0)) (h1 : mK M a = (t, n1)) (h : 0 ≤ sp ∧ 0 ≤ dp ∧ 0 ≤ n ∧ sp + n ≤ (n0 : Int) ∧ dp + n ≤ (n1 : Int)) (k : ∀ M', M' = mC M a0 sp a dp n → wp (f M') Q) : wp ((aC t M a0 sp a dp n).bind f) Q := by
  unfold aC; rw [if_pos ⟨by rw [h0], by rw [h1], h.1, h.2.1, h.2.2.1, by rw [h0]; exact h.2.2.2.1, by rw [h1]; exact h.2.2.2.2⟩]; exact k _ rfl
theorem w_aCZ {t n0 n1 : Nat} {a0 sp a dp n : Int} {f : Mem → Option β} (h0 : mK M a0 = (t, n0)) (h1 : mK M a = (t, n1)) (h : 0 ≤ sp ∧ 0 ≤ dp ∧ 0 ≤ n ∧ sp + n ≤ (n0 : Int) ∧ dp + n ≤ (n1 : Int)) (hz : ∀ j : Nat, j < n.toNat → (mG M a0 (sp + (j : Int)) = 0 ∨ mG M a0 (sp + (j : Int)) = 1)) (k : ∀ M', M' = mC M a0 sp a dp n → wp (f M') Q) : wp ((aCZ t M a0 sp a dp n).bind f) Q := by
  unfold aCZ; rw [if_pos ⟨⟨by rw [h0], by rw [h1], h.1, h.2.1, h.2.2.1, by rw [h0]; exact h.2.2.2.1, by rw [h1]; exact h.2.2.2.2⟩, hz⟩]; exact k _ rfl
end WP
/-! ===== numbers ===== -/
theorem wI_lo (x : Int) : -2147483648 ≤ wI x := (wI_in x).1
theorem wI_hi (x : Int) : wI x < 2147483648 := (wI_in x).2
theorem toInt_lo (x : Int32) : -2147483648 ≤ x.toInt := (i32_in x).1
theorem toInt_hi (x : Int32) : x.toInt < 2147483648 := (i32_in x).2
theorem iand_in (x y : Int) : -2147483648 ≤ iand x y ∧ iand x y < 2147483648 := i32_in _
theorem ior_in (x y : Int) : -2147483648 ≤ ior x y ∧ ior x y < 2147483648 := i32_in _
theorem ixor_in (x y : Int) : -2147483648 ≤ ixor x y ∧ ixor x y < 2147483648 := i32_in _
theorem ishl_in (x y : Int) : -2147483648 ≤ ishl x y ∧ ishl x y < 2147483648 := i32_in _
theorem ishr_in (x y : Int) : -2147483648 ≤ ishr x y ∧ ishr x y < 2147483648 := i32_in _
theorem iushr_in (x y : Int) : -2147483648 ≤ iushr x y ∧ iushr x y < 2147483648 := i32_in _
theorem land_in (x y : Int) : -9223372036854775808 ≤ land x y ∧ land x y < 9223372036854775808 := i64_in _
theorem lor_in (x y : Int) : -9223372036854775808 ≤ lor x y ∧ lor x y < 9223372036854775808 := i64_in _
theorem lxor_in (x y : Int) : -9223372036854775808 ≤ lxor x y ∧ lxor x y < 9223372036854775808 := i64_in _
theorem lshl_in (x y : Int) : -9223372036854775808 ≤ lshl x y ∧ lshl x y < 9223372036854775808 := i64_in _
theorem lshr_in (x y : Int) : -9223372036854775808 ≤ lshr x y ∧ lshr x y < 9223372036854775808 := i64_in _
theorem lus_in (x y : Int) : -9223372036854775808 ≤ lus x y ∧ lus x y < 9223372036854775808 := i64_in _
theorem l2i_in (x : Int) : -2147483648 ≤ l2i x ∧ l2i x < 2147483648 := i32_in _
/-- 32 bits: a number that isn't negative, as a natural one -/
theorem nonneg_bv {x : Int} (h0 : 0 ≤ x) (h1 : x < 2147483648) : (Int32.ofInt x).toBitVec.toNat = x.toNat := by
  have h2 : (Int32.ofInt x).toInt = x := toInt_I ⟨by omega, h1⟩
  have h3 : (Int32.ofInt x).toInt = (Int32.ofInt x).toBitVec.toInt := rfl
  rw [h3, BitVec.toInt_eq_toNat_cond] at h2
  have := (Int32.ofInt x).toBitVec.isLt
  split at h2 <;> omega
theorem toInt_small (x : Int32) (h : x.toBitVec.toNat < 2147483648) : x.toInt = (x.toBitVec.toNat : Int) := by
  show x.toBitVec.toInt = _
  rw [BitVec.toInt_eq_toNat_cond, if_pos (by omega)]
theorem iand_nat {x y : Int} (h0 : 0 ≤ x) (h1 : x < 2147483648) (hy0 : 0 ≤ y) (hy1 : y < 2147483648) : iand x y = ((x.toNat &&& y.toNat : Nat) : Int) := by
  unfold iand
  have e : (Int32.ofInt x &&& Int32.ofInt y).toBitVec.toNat = x.toNat &&& y.toNat := by
    rw [Int32.toBitVec_and, BitVec.toNat_and, nonneg_bv h0 h1, nonneg_bv hy0 hy1]
  have h2 : x.toNat &&& y.toNat ≤ x.toNat := Nat.and_le_left
  rw [toInt_small _ (by rw [e]; omega), e]
/-- the left one isn't negative: neither is the result, nor is it greater -/
theorem iand_l {x y : Int} (h0 : 0 ≤ x) (h1 : x < 2147483648) : 0 ≤ iand x y ∧ iand x y ≤ x := by
  unfold iand
  have e : (Int32.ofInt x &&& Int32.ofInt y).toBitVec.toNat = x.toNat &&& (Int32.ofInt y).toBitVec.toNat := by
    rw [Int32.toBitVec_and, BitVec.toNat_and, nonneg_bv h0 h1]
  have h2 : x.toNat &&& (Int32.ofInt y).toBitVec.toNat ≤ x.toNat := Nat.and_le_left
  rw [toInt_small _ (by rw [e]; omega), e]
  omega
theorem iand_r {x y : Int} (h0 : 0 ≤ y) (h1 : y < 2147483648) : 0 ≤ iand x y ∧ iand x y ≤ y := by
  unfold iand
  have e : (Int32.ofInt x &&& Int32.ofInt y).toBitVec.toNat = (Int32.ofInt x).toBitVec.toNat &&& y.toNat := by
    rw [Int32.toBitVec_and, BitVec.toNat_and, nonneg_bv h0 h1]
  have h2 : (Int32.ofInt x).toBitVec.toNat &&& y.toNat ≤ y.toNat := Nat.and_le_right
  rw [toInt_small _ (by rw [e]; omega), e]
  omega
theorem ior_b {x y : Int} {k : Nat} (hk : k ≤ 31) (h0 : 0 ≤ x) (h1 : x < 2 ^ k) (hy0 : 0 ≤ y) (hy1 : y < 2 ^ k) : 0 ≤ ior x y ∧ ior x y < 2 ^ k := by
  have hp : (2 : Int) ^ k = ((2 ^ k : Nat) : Int) := by simp
  have hq : (2 ^ k : Nat) ≤ 2 ^ 31 := Nat.pow_le_pow_right (by decide) hk
  rw [hp] at h1 hy1 ⊢
  unfold ior
  have e : (Int32.ofInt x ||| Int32.ofInt y).toBitVec.toNat = x.toNat ||| y.toNat := by
    rw [Int32.toBitVec_or, BitVec.toNat_or, nonneg_bv h0 (by omega), nonneg_bv hy0 (by omega)]
  have h2 : x.toNat ||| y.toNat < 2 ^ k := Nat.or_lt_two_pow (by omega) (by omega)
  rw [toInt_small _ (by rw [e]; omega), e]
  omega
theorem ixor_b {x y : Int} {k : Nat} (hk : k ≤ 31) (h0 : 0 ≤ x) (h1 : x < 2 ^ k) (hy0 : 0 ≤ y) (hy1 : y < 2 ^ k) : 0 ≤ ixor x y ∧ ixor x y < 2 ^ k := by
  have hp : (2 : Int) ^ k = ((2 ^ k : Nat) : Int) := by simp
  have hq : (2 ^ k : Nat) ≤ 2 ^ 31 := Nat.pow_le_pow_right (by decide) hk
  rw [hp] at h1 hy1 ⊢
  unfold ixor
  have e : (Int32.ofInt x ^^^ Int32.ofInt y).toBitVec.toNat = x.toNat ^^^ y.toNat := by
    rw [Int32.toBitVec_xor, BitVec.toNat_xor, nonneg_bv h0 (by omega), nonneg_bv hy0 (by omega)]
  have h2 : x.toNat ^^^ y.toNat < 2 ^ k := Nat.xor_lt_two_pow (by omega) (by omega)
  rw [toInt_small _ (by rw [e]; omega), e]
  omega
theorem mul_b {x y a b : Int} (h0 : 0 ≤ x) (h1 : x ≤ a) (k0 : 0 ≤ y) (k1 : y ≤ b) : 0 ≤ x * y ∧ x * y ≤ a * b :=
  ⟨Int.mul_nonneg h0 k0, Int.le_trans (Int.mul_le_mul_of_nonneg_right h1 k0) (Int.mul_le_mul_of_nonneg_left k1 (Int.le_trans h0 h1))⟩
theorem lcmp_0 (x y : Int) : lcmp x y = 0 ↔ x = y := by
  unfold lcmp
  split
  · constructor <;> intro h <;> omega
  · split <;> constructor <;> intro h <;> omega
theorem mul_s {x y a0 a1 b : Int} (h0 : a0 ≤ x) (h1 : x ≤ a1) (k0 : 0 ≤ y) (k1 : y ≤ b) (n0 : a0 ≤ 0) (n1 : 0 ≤ a1) : a0 * b ≤ x * y ∧ x * y ≤ a1 * b :=
  ⟨Int.le_trans (Int.mul_le_mul_of_nonpos_left n0 k1) (Int.mul_le_mul_of_nonneg_right h0 k0), Int.le_trans (Int.mul_le_mul_of_nonneg_right h1 k0) (Int.mul_le_mul_of_nonneg_left k1 n1)⟩
theorem mul_3 {x y : Int} (h : 0 ≤ x) (h1 : y ≤ 3) : x * y ≤ 3 * x := by
  rw [Int.mul_comm 3 x]
  exact Int.mul_le_mul_of_nonneg_left h1 h
theorem idiv_e {x y : Int} (h0 : 0 ≤ x) (h1 : x < 2147483648) (k0 : 0 < y) (k1 : y < 2147483648) : idiv x y = x / y := by
  unfold idiv
  rw [Int32.toInt_div, toInt_I ⟨by omega, h1⟩, toInt_I ⟨by omega, k1⟩]
  have h2 : x.tdiv y = x / y := Int.tdiv_eq_ediv_of_nonneg h0
  rw [h2]
  have h3 : 0 ≤ x / y := Int.ediv_nonneg h0 (by omega)
  have h4 : x / y ≤ x := Int.ediv_le_self y h0
  unfold Int.bmod
  simp only [Int.reducePow, Nat.reducePow, Int32.size, UInt32.size]
  split <;> omega
theorem irem_e {x y : Int} (h0 : 0 ≤ x) (h1 : x < 2147483648) (k0 : 0 < y) (k1 : y < 2147483648) : irem x y = x % y := by
  have hd := idiv_e h0 h1 k0 k1
  unfold idiv at hd
  unfold irem
  have h3 : 0 ≤ x / y := Int.ediv_nonneg h0 (by omega)
  have h4 : x / y ≤ x := Int.ediv_le_self y h0
  have h5 : x / y * y ≤ x := Int.ediv_mul_le x (by omega)
  have h6 : 0 ≤ x / y * y := Int.mul_nonneg h3 (by omega)
  have e1 : Int32.ofInt x / Int32.ofInt y = Int32.ofInt (x / y) := by rw [← hd, Int32.ofInt_toInt]
  rw [e1, ← Int32.ofInt_mul, ← Int32.ofInt_sub, toInt_I ⟨by omega, by omega⟩]
  have := Int.emod_def x y
  rw [Int.mul_comm] at this
  omega
theorem i2b_in (x : Int) : -128 ≤ i2b x ∧ i2b x < 128 := by
  unfold i2b
  rw [Int8.toInt_toInt32]
  have h1 := (Int32.ofInt x).toInt8.le_toInt
  have h2 := (Int32.ofInt x).toInt8.toInt_lt
  exact ⟨Int.le_trans (by decide) h1, Int.lt_of_lt_of_le h2 (by decide)⟩
theorem ishl1 : ∀ k : Nat, k ≤ 30 → ishl 1 (k : Int) = 2 ^ k := by decide +kernel
theorem ishl1_b {k : Int} {B : Nat} (h0 : 0 ≤ k) (h1 : k ≤ (B : Int)) (hB : B ≤ 30) : 1 ≤ ishl 1 k ∧ ishl 1 k ≤ 2 ^ B := by
  obtain ⟨m, rfl⟩ := Int.eq_ofNat_of_zero_le h0
  have h2 := ishl1 m (by omega)
  rw [h2]
  have h3 : (2 : Nat) ^ m ≤ 2 ^ B := Nat.pow_le_pow_right (by decide) (by omega)
  have h4 : 0 < (2 : Nat) ^ m := Nat.pow_pos (by decide)
  have e1 : (2 : Int) ^ m = ((2 ^ m : Nat) : Int) := by simp
  have e2 : (2 : Int) ^ B = ((2 ^ B : Nat) : Int) := by simp
  rw [e1, e2]
  omega
theorem ishr_e {x : Int} {k : Nat} (h0 : 0 ≤ x) (h1 : x < 2147483648) (hk : k < 32) : ishr x (k : Int) = x / 2 ^ k := by
  unfold ishr
  have e2 : ∀ k : Nat, k < 32 → (Int32.ofInt (k : Int) &&& 31) = Int32.ofNat k := by decide +kernel
  rw [e2 k hk]
  have e3 : ∀ k : Nat, k < 32 → ((Int32.ofNat k).toBitVec.smod 32).toNat = k := by decide +kernel
  have e : (Int32.ofInt x >>> Int32.ofNat k).toBitVec = (Int32.ofInt x).toBitVec.sshiftRight k := by
    rw [Int32.toBitVec_shiftRight]
    show BitVec.sshiftRight _ _ = _
    rw [e3 k hk]
  show (Int32.ofInt x >>> Int32.ofNat k).toBitVec.toInt = _
  rw [e, BitVec.toInt_sshiftRight]
  show (Int32.ofInt x).toInt >>> k = _
  rw [toInt_I ⟨by omega, h1⟩, Int.shiftRight_eq_div_pow]
  congr 1
theorem ishr_b {x k : Int} (h0 : 0 ≤ x) (h1 : x < 2147483648) (k0 : 0 ≤ k) (k1 : k < 32) : 0 ≤ ishr x k ∧ ishr x k ≤ x := by
  obtain ⟨m, rfl⟩ := Int.eq_ofNat_of_zero_le k0
  rw [ishr_e h0 h1 (by omega)]
  refine ⟨Int.ediv_nonneg h0 ?_, Int.ediv_le_self _ h0⟩
  have e : (2 : Int) ^ m = ((2 ^ m : Nat) : Int) := by simp
  rw [e]
  exact Int.natCast_nonneg _
